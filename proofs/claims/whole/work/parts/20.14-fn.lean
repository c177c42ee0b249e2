theorem kw1741 : Jvm.Cond.fieldLink "PlantKeeperModel" (658 : Nat) "PlantKeeperModel" "unit" "I" ∈ zk_BW := zk_inT 1741 (by decide +kernel) rfl
theorem kw1747 : Jvm.Cond.fieldLink "PlantKeeperModel" (655 : Nat) "PlantKeeperModel" "loops" "I" ∈ zk_BW := zk_inT 1747 (by decide +kernel) rfl
theorem kw2491 : Jvm.Cond.instanceMethod ({ cls := "PlantKeeperModel", name := "lookAtElement", desc := "(I)V" } : Jvm.MethodName) ∈ zk_BW := zk_inT 2491 (by decide +kernel) rfl
theorem kw2492 : Jvm.Cond.code ({ cls := "PlantKeeperModel", name := "lookAtElement", desc := "(I)V" } : Jvm.MethodName) prog_14_method_104_code (3 : Nat) (Option.none : Option FieldType) ∈ zk_BW := zk_inT 2492 (by decide +kernel) rfl
theorem kw2522 : Jvm.Cond.instanceMethod ({ cls := "PlantKeeperModel", name := "beginFunction", desc := "(I)V" } : Jvm.MethodName) ∈ zk_BW := zk_inT 2522 (by decide +kernel) rfl
theorem kw2523 : Jvm.Cond.code ({ cls := "PlantKeeperModel", name := "beginFunction", desc := "(I)V" } : Jvm.MethodName) prog_14_method_113_code (4 : Nat) (Option.none : Option FieldType) ∈ zk_BW := zk_inT 2523 (by decide +kernel) rfl
theorem kw2524 : Jvm.Cond.methodLink "PlantKeeperModel" (670 : Nat) ({ cls := "PlantKeeperModel", name := "emit", desc := "(IIII)I" } : Jvm.MethodName) ∈ zk_BW := zk_inT 2524 (by decide +kernel) rfl
theorem kw2526 : Jvm.Cond.instanceMethod ({ cls := "PlantKeeperModel", name := "emit", desc := "(IIII)I" } : Jvm.MethodName) ∈ zk_BW := zk_inT 2526 (by decide +kernel) rfl
theorem kw2527 : Jvm.Cond.code ({ cls := "PlantKeeperModel", name := "emit", desc := "(IIII)I" } : Jvm.MethodName) prog_14_method_109_code (5 : Nat) (Option.some FieldType.int) ∈ zk_BW := zk_inT 2527 (by decide +kernel) rfl
theorem kw2548 : Jvm.Cond.methodLink "PlantKeeperModel" (711 : Nat) ({ cls := "PlantKeeperModel", name := "isConstant", desc := "(I)Z" } : Jvm.MethodName) ∈ zk_BW := zk_inT 2548 (by decide +kernel) rfl
theorem kw2550 : Jvm.Cond.instanceMethod ({ cls := "PlantKeeperModel", name := "isConstant", desc := "(I)Z" } : Jvm.MethodName) ∈ zk_BW := zk_inT 2550 (by decide +kernel) rfl
theorem kw2551 : Jvm.Cond.code ({ cls := "PlantKeeperModel", name := "isConstant", desc := "(I)Z" } : Jvm.MethodName) prog_14_method_123_code (4 : Nat) (Option.some FieldType.boolean) ∈ zk_BW := zk_inT 2551 (by decide +kernel) rfl
theorem kw2552 : Jvm.Cond.methodLink "PlantKeeperModel" (714 : Nat) ({ cls := "PlantKeeperModel", name := "valueOf", desc := "(I)I" } : Jvm.MethodName) ∈ zk_BW := zk_inT 2552 (by decide +kernel) rfl
theorem kw2554 : Jvm.Cond.instanceMethod ({ cls := "PlantKeeperModel", name := "valueOf", desc := "(I)I" } : Jvm.MethodName) ∈ zk_BW := zk_inT 2554 (by decide +kernel) rfl
theorem kw2555 : Jvm.Cond.code ({ cls := "PlantKeeperModel", name := "valueOf", desc := "(I)I" } : Jvm.MethodName) prog_14_method_124_code (4 : Nat) (Option.some FieldType.int) ∈ zk_BW := zk_inT 2555 (by decide +kernel) rfl
theorem kw2556 : Jvm.Cond.methodLink "PlantKeeperModel" (717 : Nat) ({ cls := "PlantKeeperModel", name := "valueAlone", desc := "(I)I" } : Jvm.MethodName) ∈ zk_BW := zk_inT 2556 (by decide +kernel) rfl
theorem kw2558 : Jvm.Cond.instanceMethod ({ cls := "PlantKeeperModel", name := "valueAlone", desc := "(I)I" } : Jvm.MethodName) ∈ zk_BW := zk_inT 2558 (by decide +kernel) rfl
theorem kw2559 : Jvm.Cond.code ({ cls := "PlantKeeperModel", name := "valueAlone", desc := "(I)I" } : Jvm.MethodName) prog_14_method_125_code (6 : Nat) (Option.some FieldType.int) ∈ zk_BW := zk_inT 2559 (by decide +kernel) rfl
theorem kw2560 : Jvm.Cond.methodLink "PlantKeeperModel" (726 : Nat) ({ cls := "PlantKeeperModel", name := "oneCode", desc := "(I)I" } : Jvm.MethodName) ∈ zk_BW := zk_inT 2560 (by decide +kernel) rfl
theorem kw2562 : Jvm.Cond.instanceMethod ({ cls := "PlantKeeperModel", name := "oneCode", desc := "(I)I" } : Jvm.MethodName) ∈ zk_BW := zk_inT 2562 (by decide +kernel) rfl
theorem kw2563 : Jvm.Cond.code ({ cls := "PlantKeeperModel", name := "oneCode", desc := "(I)I" } : Jvm.MethodName) prog_14_method_128_code (2 : Nat) (Option.some FieldType.int) ∈ zk_BW := zk_inT 2563 (by decide +kernel) rfl
theorem kw2572 : Jvm.Cond.methodLink "PlantKeeperModel" (732 : Nat) ({ cls := "PlantKeeperModel", name := "standard", desc := "(IIII)I" } : Jvm.MethodName) ∈ zk_BW := zk_inT 2572 (by decide +kernel) rfl
theorem kw2574 : Jvm.Cond.instanceMethod ({ cls := "PlantKeeperModel", name := "standard", desc := "(IIII)I" } : Jvm.MethodName) ∈ zk_BW := zk_inT 2574 (by decide +kernel) rfl
theorem kw2575 : Jvm.Cond.code ({ cls := "PlantKeeperModel", name := "standard", desc := "(IIII)I" } : Jvm.MethodName) prog_14_method_126_code (6 : Nat) (Option.some FieldType.int) ∈ zk_BW := zk_inT 2575 (by decide +kernel) rfl
theorem kw2580 : Jvm.Cond.methodLink "PlantKeeperModel" (720 : Nat) ({ cls := "PlantKeeperModel", name := "signCode", desc := "(I)I" } : Jvm.MethodName) ∈ zk_BW := zk_inT 2580 (by decide +kernel) rfl
theorem kw2582 : Jvm.Cond.instanceMethod ({ cls := "PlantKeeperModel", name := "signCode", desc := "(I)I" } : Jvm.MethodName) ∈ zk_BW := zk_inT 2582 (by decide +kernel) rfl
theorem kw2583 : Jvm.Cond.code ({ cls := "PlantKeeperModel", name := "signCode", desc := "(I)I" } : Jvm.MethodName) prog_14_method_127_code (3 : Nat) (Option.some FieldType.int) ∈ zk_BW := zk_inT 2583 (by decide +kernel) rfl
theorem kw2606 : Jvm.Cond.instanceMethod ({ cls := "PlantKeeperModel", name := "here", desc := "()I" } : Jvm.MethodName) ∈ zk_BW := zk_inT 2606 (by decide +kernel) rfl
theorem kw2607 : Jvm.Cond.code ({ cls := "PlantKeeperModel", name := "here", desc := "()I" } : Jvm.MethodName) prog_14_method_110_code (1 : Nat) (Option.some FieldType.int) ∈ zk_BW := zk_inT 2607 (by decide +kernel) rfl
theorem kw2610 : Jvm.Cond.instanceMethod ({ cls := "PlantKeeperModel", name := "aim", desc := "(II)V" } : Jvm.MethodName) ∈ zk_BW := zk_inT 2610 (by decide +kernel) rfl
theorem kw2611 : Jvm.Cond.code ({ cls := "PlantKeeperModel", name := "aim", desc := "(II)V" } : Jvm.MethodName) prog_14_method_111_code (4 : Nat) (Option.none : Option FieldType) ∈ zk_BW := zk_inT 2611 (by decide +kernel) rfl
theorem kw2618 : Jvm.Cond.instanceMethod ({ cls := "PlantKeeperModel", name := "times", desc := "(I)I" } : Jvm.MethodName) ∈ zk_BW := zk_inT 2618 (by decide +kernel) rfl
theorem kw2619 : Jvm.Cond.code ({ cls := "PlantKeeperModel", name := "times", desc := "(I)I" } : Jvm.MethodName) prog_14_method_121_code (8 : Nat) (Option.some FieldType.int) ∈ zk_BW := zk_inT 2619 (by decide +kernel) rfl
abbrev kc_Mo_aim : ByteArray := prog_14_method_111_code
def km_Mo_aim : zk_MT := (⟨"PlantKeeperModel", "aim", "(II)V"⟩, kc_Mo_aim, 4, none, 2)
theorem ku_Mo_aim : zk_My km_Mo_aim := ⟨kw2611, kw17, by decide, by decide, by decide, by decide +kernel⟩
theorem kv_Mo_aim : zk_Mv km_Mo_aim := ⟨kw2610, zk_inS 266 (q := (⟨"PlantKeeperModel", "aim", "(II)V"⟩, 96)) (by decide +kernel)⟩
abbrev kc_Mo_beginFunction : ByteArray := prog_14_method_113_code
def km_Mo_beginFunction : zk_MT := (⟨"PlantKeeperModel", "beginFunction", "(I)V"⟩, kc_Mo_beginFunction, 4, none, 1)
theorem ku_Mo_beginFunction : zk_My km_Mo_beginFunction := ⟨kw2523, kw17, by decide, by decide, by decide, by decide +kernel⟩
theorem kv_Mo_beginFunction : zk_Mv km_Mo_beginFunction := ⟨kw2522, zk_inS 247 (q := (⟨"PlantKeeperModel", "beginFunction", "(I)V"⟩, 96)) (by decide +kernel)⟩
abbrev kc_Mo_emit : ByteArray := prog_14_method_109_code
def km_Mo_emit : zk_MT := (⟨"PlantKeeperModel", "emit", "(IIII)I"⟩, kc_Mo_emit, 5, some .int, 4)
theorem ku_Mo_emit : zk_My km_Mo_emit := ⟨kw2527, kw17, by decide, by decide, by decide, by decide +kernel⟩
theorem kv_Mo_emit : zk_Mv km_Mo_emit := ⟨kw2526, zk_inS 248 (q := (⟨"PlantKeeperModel", "emit", "(IIII)I"⟩, 96)) (by decide +kernel)⟩
abbrev kc_Mo_here : ByteArray := prog_14_method_110_code
def km_Mo_here : zk_MT := (⟨"PlantKeeperModel", "here", "()I"⟩, kc_Mo_here, 1, some .int, 0)
theorem ku_Mo_here : zk_My km_Mo_here := ⟨kw2607, kw17, by decide, by decide, by decide, by decide +kernel⟩
theorem kv_Mo_here : zk_Mv km_Mo_here := ⟨kw2606, zk_inS 265 (q := (⟨"PlantKeeperModel", "here", "()I"⟩, 96)) (by decide +kernel)⟩
abbrev kc_Mo_isConstant : ByteArray := prog_14_method_123_code
def km_Mo_isConstant : zk_MT := (⟨"PlantKeeperModel", "isConstant", "(I)Z"⟩, kc_Mo_isConstant, 4, some .boolean, 1)
theorem ku_Mo_isConstant : zk_My km_Mo_isConstant := ⟨kw2551, kw17, by decide, by decide, by decide, by decide +kernel⟩
theorem kv_Mo_isConstant : zk_Mv km_Mo_isConstant := ⟨kw2550, zk_inS 254 (q := (⟨"PlantKeeperModel", "isConstant", "(I)Z"⟩, 96)) (by decide +kernel)⟩
abbrev kc_Mo_lookAtElement : ByteArray := prog_14_method_104_code
def km_Mo_lookAtElement : zk_MT := (⟨"PlantKeeperModel", "lookAtElement", "(I)V"⟩, kc_Mo_lookAtElement, 3, none, 1)
theorem ku_Mo_lookAtElement : zk_My km_Mo_lookAtElement := ⟨kw2492, kw17, by decide, by decide, by decide, by decide +kernel⟩
theorem kv_Mo_lookAtElement : zk_Mv km_Mo_lookAtElement := ⟨kw2491, zk_inS 240 (q := (⟨"PlantKeeperModel", "lookAtElement", "(I)V"⟩, 96)) (by decide +kernel)⟩
abbrev kc_Mo_oneCode : ByteArray := prog_14_method_128_code
def km_Mo_oneCode : zk_MT := (⟨"PlantKeeperModel", "oneCode", "(I)I"⟩, kc_Mo_oneCode, 2, some .int, 1)
theorem ku_Mo_oneCode : zk_My km_Mo_oneCode := ⟨kw2563, kw17, by decide, by decide, by decide, by decide +kernel⟩
theorem kv_Mo_oneCode : zk_Mv km_Mo_oneCode := ⟨kw2562, zk_inS 257 (q := (⟨"PlantKeeperModel", "oneCode", "(I)I"⟩, 96)) (by decide +kernel)⟩
abbrev kc_Mo_signCode : ByteArray := prog_14_method_127_code
def km_Mo_signCode : zk_MT := (⟨"PlantKeeperModel", "signCode", "(I)I"⟩, kc_Mo_signCode, 3, some .int, 1)
theorem ku_Mo_signCode : zk_My km_Mo_signCode := ⟨kw2583, kw17, by decide, by decide, by decide, by decide +kernel⟩
theorem kv_Mo_signCode : zk_Mv km_Mo_signCode := ⟨kw2582, zk_inS 259 (q := (⟨"PlantKeeperModel", "signCode", "(I)I"⟩, 96)) (by decide +kernel)⟩
abbrev kc_Mo_standard : ByteArray := prog_14_method_126_code
def km_Mo_standard : zk_MT := (⟨"PlantKeeperModel", "standard", "(IIII)I"⟩, kc_Mo_standard, 6, some .int, 4)
theorem ku_Mo_standard : zk_My km_Mo_standard := ⟨kw2575, kw17, by decide, by decide, by decide, by decide +kernel⟩
theorem kv_Mo_standard : zk_Mv km_Mo_standard := ⟨kw2574, zk_inS 258 (q := (⟨"PlantKeeperModel", "standard", "(IIII)I"⟩, 96)) (by decide +kernel)⟩
abbrev kc_Mo_times : ByteArray := prog_14_method_121_code
def km_Mo_times : zk_MT := (⟨"PlantKeeperModel", "times", "(I)I"⟩, kc_Mo_times, 8, some .int, 1)
theorem ku_Mo_times : zk_My km_Mo_times := ⟨kw2619, kw17, by decide, by decide, by decide, by decide +kernel⟩
theorem kv_Mo_times : zk_Mv km_Mo_times := ⟨kw2618, zk_inS 268 (q := (⟨"PlantKeeperModel", "times", "(I)I"⟩, 96)) (by decide +kernel)⟩
abbrev kc_Mo_valueAlone : ByteArray := prog_14_method_125_code
def km_Mo_valueAlone : zk_MT := (⟨"PlantKeeperModel", "valueAlone", "(I)I"⟩, kc_Mo_valueAlone, 6, some .int, 1)
theorem ku_Mo_valueAlone : zk_My km_Mo_valueAlone := ⟨kw2559, kw17, by decide, by decide, by decide, by decide +kernel⟩
theorem kv_Mo_valueAlone : zk_Mv km_Mo_valueAlone := ⟨kw2558, zk_inS 256 (q := (⟨"PlantKeeperModel", "valueAlone", "(I)I"⟩, 96)) (by decide +kernel)⟩
abbrev kc_Mo_valueOf : ByteArray := prog_14_method_124_code
def km_Mo_valueOf : zk_MT := (⟨"PlantKeeperModel", "valueOf", "(I)I"⟩, kc_Mo_valueOf, 4, some .int, 1)
theorem ku_Mo_valueOf : zk_My km_Mo_valueOf := ⟨kw2555, kw17, by decide, by decide, by decide, by decide +kernel⟩
theorem kv_Mo_valueOf : zk_Mv km_Mo_valueOf := ⟨kw2554, zk_inS 255 (q := (⟨"PlantKeeperModel", "valueOf", "(I)I"⟩, 96)) (by decide +kernel)⟩
theorem kd_Mo_aim_0 : decode kc_Mo_aim 0 = .ok (.aload_n 0, 1) := by decide +kernel
theorem kd_Mo_aim_1 : decode kc_Mo_aim 1 = .ok (.getfield 115, 3) := by decide +kernel
theorem kd_Mo_aim_4 : decode kc_Mo_aim 4 = .ok (.aload_n 0, 1) := by decide +kernel
theorem kd_Mo_aim_5 : decode kc_Mo_aim 5 = .ok (.getfield 658, 3) := by decide +kernel
theorem kd_Mo_aim_8 : decode kc_Mo_aim 8 = .ok (.iaload, 1) := by decide +kernel
theorem kd_Mo_aim_9 : decode kc_Mo_aim 9 = .ok (.iload_n 1, 1) := by decide +kernel
theorem kd_Mo_aim_10 : decode kc_Mo_aim 10 = .ok (.iadd, 1) := by decide +kernel
theorem kd_Mo_aim_11 : decode kc_Mo_aim 11 = .ok (.istore_n 3, 1) := by decide +kernel
theorem kd_Mo_aim_12 : decode kc_Mo_aim 12 = .ok (.iload_n 3, 1) := by decide +kernel
theorem kd_Mo_aim_13 : decode kc_Mo_aim 13 = .ok (.sipush 4000, 3) := by decide +kernel
theorem kd_Mo_aim_16 : decode kc_Mo_aim 16 = .ok (.if_icmp .ge 24, 3) := by decide +kernel
theorem kd_Mo_aim_19 : decode kc_Mo_aim 19 = .ok (.aload_n 0, 1) := by decide +kernel
theorem kd_Mo_aim_20 : decode kc_Mo_aim 20 = .ok (.getfield 118, 3) := by decide +kernel
theorem kd_Mo_aim_23 : decode kc_Mo_aim 23 = .ok (.iload_n 3, 1) := by decide +kernel
theorem kd_Mo_aim_24 : decode kc_Mo_aim 24 = .ok (.iaload, 1) := by decide +kernel
theorem kd_Mo_aim_25 : decode kc_Mo_aim 25 = .ok (.bipush 13, 2) := by decide +kernel
theorem kd_Mo_aim_27 : decode kc_Mo_aim 27 = .ok (.if_icmp .ne 13, 3) := by decide +kernel
theorem kd_Mo_aim_30 : decode kc_Mo_aim 30 = .ok (.aload_n 0, 1) := by decide +kernel
theorem kd_Mo_aim_31 : decode kc_Mo_aim 31 = .ok (.getfield 124, 3) := by decide +kernel
theorem kd_Mo_aim_34 : decode kc_Mo_aim 34 = .ok (.iload_n 3, 1) := by decide +kernel
theorem kd_Mo_aim_35 : decode kc_Mo_aim 35 = .ok (.iload_n 2, 1) := by decide +kernel
theorem kd_Mo_aim_36 : decode kc_Mo_aim 36 = .ok (.iastore, 1) := by decide +kernel
theorem kd_Mo_aim_37 : decode kc_Mo_aim 37 = .ok (.goto 17, 3) := by decide +kernel
theorem kd_Mo_aim_40 : decode kc_Mo_aim 40 = .ok (.iload_n 3, 1) := by decide +kernel
theorem kd_Mo_aim_41 : decode kc_Mo_aim 41 = .ok (.sipush 4000, 3) := by decide +kernel
theorem kd_Mo_aim_44 : decode kc_Mo_aim 44 = .ok (.if_icmp .ge 10, 3) := by decide +kernel
theorem kd_Mo_aim_47 : decode kc_Mo_aim 47 = .ok (.aload_n 0, 1) := by decide +kernel
theorem kd_Mo_aim_48 : decode kc_Mo_aim 48 = .ok (.getfield 121, 3) := by decide +kernel
theorem kd_Mo_aim_51 : decode kc_Mo_aim 51 = .ok (.iload_n 3, 1) := by decide +kernel
theorem kd_Mo_aim_52 : decode kc_Mo_aim 52 = .ok (.iload_n 2, 1) := by decide +kernel
theorem kd_Mo_aim_53 : decode kc_Mo_aim 53 = .ok (.iastore, 1) := by decide +kernel
theorem kd_Mo_aim_54 : decode kc_Mo_aim 54 = .ok (.return_, 1) := by decide +kernel
theorem kd_Mo_beginFunction_0 : decode kc_Mo_beginFunction 0 = .ok (.aload_n 0, 1) := by decide +kernel
theorem kd_Mo_beginFunction_1 : decode kc_Mo_beginFunction 1 = .ok (.iconst 0, 1) := by decide +kernel
theorem kd_Mo_beginFunction_2 : decode kc_Mo_beginFunction 2 = .ok (.iconst 0, 1) := by decide +kernel
theorem kd_Mo_beginFunction_3 : decode kc_Mo_beginFunction 3 = .ok (.iconst 0, 1) := by decide +kernel
theorem kd_Mo_beginFunction_4 : decode kc_Mo_beginFunction 4 = .ok (.iconst 0, 1) := by decide +kernel
theorem kd_Mo_beginFunction_5 : decode kc_Mo_beginFunction 5 = .ok (.invokevirtual 670, 3) := by decide +kernel
theorem kd_Mo_beginFunction_8 : decode kc_Mo_beginFunction 8 = .ok (.istore_n 2, 1) := by decide +kernel
theorem kd_Mo_beginFunction_9 : decode kc_Mo_beginFunction 9 = .ok (.aload_n 0, 1) := by decide +kernel
theorem kd_Mo_beginFunction_10 : decode kc_Mo_beginFunction 10 = .ok (.iconst 2, 1) := by decide +kernel
theorem kd_Mo_beginFunction_11 : decode kc_Mo_beginFunction 11 = .ok (.iconst 0, 1) := by decide +kernel
theorem kd_Mo_beginFunction_12 : decode kc_Mo_beginFunction 12 = .ok (.iconst 0, 1) := by decide +kernel
theorem kd_Mo_beginFunction_13 : decode kc_Mo_beginFunction 13 = .ok (.iconst 0, 1) := by decide +kernel
theorem kd_Mo_beginFunction_14 : decode kc_Mo_beginFunction 14 = .ok (.invokevirtual 670, 3) := by decide +kernel
theorem kd_Mo_beginFunction_17 : decode kc_Mo_beginFunction 17 = .ok (.istore_n 2, 1) := by decide +kernel
theorem kd_Mo_beginFunction_18 : decode kc_Mo_beginFunction 18 = .ok (.aload_n 0, 1) := by decide +kernel
theorem kd_Mo_beginFunction_19 : decode kc_Mo_beginFunction 19 = .ok (.getfield 76, 3) := by decide +kernel
theorem kd_Mo_beginFunction_22 : decode kc_Mo_beginFunction 22 = .ok (.iload_n 1, 1) := by decide +kernel
theorem kd_Mo_beginFunction_23 : decode kc_Mo_beginFunction 23 = .ok (.iaload, 1) := by decide +kernel
theorem kd_Mo_beginFunction_24 : decode kc_Mo_beginFunction 24 = .ok (.iconst 1, 1) := by decide +kernel
theorem kd_Mo_beginFunction_25 : decode kc_Mo_beginFunction 25 = .ok (.iadd, 1) := by decide +kernel
theorem kd_Mo_beginFunction_26 : decode kc_Mo_beginFunction 26 = .ok (.istore_n 3, 1) := by decide +kernel
theorem kd_Mo_beginFunction_27 : decode kc_Mo_beginFunction 27 = .ok (.iload_n 3, 1) := by decide +kernel
theorem kd_Mo_beginFunction_28 : decode kc_Mo_beginFunction 28 = .ok (.aload_n 0, 1) := by decide +kernel
theorem kd_Mo_beginFunction_29 : decode kc_Mo_beginFunction 29 = .ok (.iload_n 1, 1) := by decide +kernel
theorem kd_Mo_beginFunction_30 : decode kc_Mo_beginFunction 30 = .ok (.invokevirtual 673, 3) := by decide +kernel
theorem kd_Mo_beginFunction_33 : decode kc_Mo_beginFunction 33 = .ok (.if_icmp .ge 46, 3) := by decide +kernel
theorem kd_Mo_beginFunction_36 : decode kc_Mo_beginFunction 36 = .ok (.aload_n 0, 1) := by decide +kernel
theorem kd_Mo_beginFunction_37 : decode kc_Mo_beginFunction 37 = .ok (.getfield 91, 3) := by decide +kernel
theorem kd_Mo_beginFunction_40 : decode kc_Mo_beginFunction 40 = .ok (.iload_n 3, 1) := by decide +kernel
theorem kd_Mo_beginFunction_41 : decode kc_Mo_beginFunction 41 = .ok (.iaload, 1) := by decide +kernel
theorem kd_Mo_beginFunction_42 : decode kc_Mo_beginFunction 42 = .ok (.ifCond .ne 31, 3) := by decide +kernel
theorem kd_Mo_beginFunction_45 : decode kc_Mo_beginFunction 45 = .ok (.aload_n 0, 1) := by decide +kernel
theorem kd_Mo_beginFunction_46 : decode kc_Mo_beginFunction 46 = .ok (.iconst 0, 1) := by decide +kernel
theorem kd_Mo_beginFunction_47 : decode kc_Mo_beginFunction 47 = .ok (.aload_n 0, 1) := by decide +kernel
theorem kd_Mo_beginFunction_48 : decode kc_Mo_beginFunction 48 = .ok (.getfield 103, 3) := by decide +kernel
theorem kd_Mo_beginFunction_51 : decode kc_Mo_beginFunction 51 = .ok (.iload_n 3, 1) := by decide +kernel
theorem kd_Mo_beginFunction_52 : decode kc_Mo_beginFunction 52 = .ok (.iaload, 1) := by decide +kernel
theorem kd_Mo_beginFunction_53 : decode kc_Mo_beginFunction 53 = .ok (.iconst 0, 1) := by decide +kernel
theorem kd_Mo_beginFunction_54 : decode kc_Mo_beginFunction 54 = .ok (.iconst 0, 1) := by decide +kernel
theorem kd_Mo_beginFunction_55 : decode kc_Mo_beginFunction 55 = .ok (.invokevirtual 670, 3) := by decide +kernel
theorem kd_Mo_beginFunction_58 : decode kc_Mo_beginFunction 58 = .ok (.istore_n 2, 1) := by decide +kernel
theorem kd_Mo_beginFunction_59 : decode kc_Mo_beginFunction 59 = .ok (.aload_n 0, 1) := by decide +kernel
theorem kd_Mo_beginFunction_60 : decode kc_Mo_beginFunction 60 = .ok (.iconst 2, 1) := by decide +kernel
theorem kd_Mo_beginFunction_61 : decode kc_Mo_beginFunction 61 = .ok (.aload_n 0, 1) := by decide +kernel
theorem kd_Mo_beginFunction_62 : decode kc_Mo_beginFunction 62 = .ok (.getfield 88, 3) := by decide +kernel
theorem kd_Mo_beginFunction_65 : decode kc_Mo_beginFunction 65 = .ok (.iload_n 3, 1) := by decide +kernel
theorem kd_Mo_beginFunction_66 : decode kc_Mo_beginFunction 66 = .ok (.iaload, 1) := by decide +kernel
theorem kd_Mo_beginFunction_67 : decode kc_Mo_beginFunction 67 = .ok (.iconst 0, 1) := by decide +kernel
theorem kd_Mo_beginFunction_68 : decode kc_Mo_beginFunction 68 = .ok (.iconst 0, 1) := by decide +kernel
theorem kd_Mo_beginFunction_69 : decode kc_Mo_beginFunction 69 = .ok (.invokevirtual 670, 3) := by decide +kernel
theorem kd_Mo_beginFunction_72 : decode kc_Mo_beginFunction 72 = .ok (.istore_n 2, 1) := by decide +kernel
theorem kd_Mo_beginFunction_73 : decode kc_Mo_beginFunction 73 = .ok (.iinc 3 1, 3) := by decide +kernel
theorem kd_Mo_beginFunction_76 : decode kc_Mo_beginFunction 76 = .ok (.goto (-49), 3) := by decide +kernel
theorem kd_Mo_beginFunction_79 : decode kc_Mo_beginFunction 79 = .ok (.return_, 1) := by decide +kernel
theorem kd_Mo_emit_0 : decode kc_Mo_emit 0 = .ok (.aload_n 0, 1) := by decide +kernel
theorem kd_Mo_emit_1 : decode kc_Mo_emit 1 = .ok (.getfield 652, 3) := by decide +kernel
theorem kd_Mo_emit_4 : decode kc_Mo_emit 4 = .ok (.sipush 4000, 3) := by decide +kernel
theorem kd_Mo_emit_7 : decode kc_Mo_emit 7 = .ok (.if_icmp .ge 57, 3) := by decide +kernel
theorem kd_Mo_emit_10 : decode kc_Mo_emit 10 = .ok (.aload_n 0, 1) := by decide +kernel
theorem kd_Mo_emit_11 : decode kc_Mo_emit 11 = .ok (.getfield 118, 3) := by decide +kernel
theorem kd_Mo_emit_14 : decode kc_Mo_emit 14 = .ok (.aload_n 0, 1) := by decide +kernel
theorem kd_Mo_emit_15 : decode kc_Mo_emit 15 = .ok (.getfield 652, 3) := by decide +kernel
theorem kd_Mo_emit_18 : decode kc_Mo_emit 18 = .ok (.iload_n 1, 1) := by decide +kernel
theorem kd_Mo_emit_19 : decode kc_Mo_emit 19 = .ok (.iastore, 1) := by decide +kernel
theorem kd_Mo_emit_20 : decode kc_Mo_emit 20 = .ok (.aload_n 0, 1) := by decide +kernel
theorem kd_Mo_emit_21 : decode kc_Mo_emit 21 = .ok (.getfield 121, 3) := by decide +kernel
theorem kd_Mo_emit_24 : decode kc_Mo_emit 24 = .ok (.aload_n 0, 1) := by decide +kernel
theorem kd_Mo_emit_25 : decode kc_Mo_emit 25 = .ok (.getfield 652, 3) := by decide +kernel
theorem kd_Mo_emit_28 : decode kc_Mo_emit 28 = .ok (.iload_n 2, 1) := by decide +kernel
theorem kd_Mo_emit_29 : decode kc_Mo_emit 29 = .ok (.iastore, 1) := by decide +kernel
theorem kd_Mo_emit_30 : decode kc_Mo_emit 30 = .ok (.aload_n 0, 1) := by decide +kernel
theorem kd_Mo_emit_31 : decode kc_Mo_emit 31 = .ok (.getfield 124, 3) := by decide +kernel
theorem kd_Mo_emit_34 : decode kc_Mo_emit 34 = .ok (.aload_n 0, 1) := by decide +kernel
theorem kd_Mo_emit_35 : decode kc_Mo_emit 35 = .ok (.getfield 652, 3) := by decide +kernel
theorem kd_Mo_emit_38 : decode kc_Mo_emit 38 = .ok (.iload_n 3, 1) := by decide +kernel
theorem kd_Mo_emit_39 : decode kc_Mo_emit 39 = .ok (.iastore, 1) := by decide +kernel
theorem kd_Mo_emit_40 : decode kc_Mo_emit 40 = .ok (.aload_n 0, 1) := by decide +kernel
theorem kd_Mo_emit_41 : decode kc_Mo_emit 41 = .ok (.getfield 127, 3) := by decide +kernel
theorem kd_Mo_emit_44 : decode kc_Mo_emit 44 = .ok (.aload_n 0, 1) := by decide +kernel
theorem kd_Mo_emit_45 : decode kc_Mo_emit 45 = .ok (.getfield 652, 3) := by decide +kernel
theorem kd_Mo_emit_48 : decode kc_Mo_emit 48 = .ok (.iload 4, 2) := by decide +kernel
theorem kd_Mo_emit_50 : decode kc_Mo_emit 50 = .ok (.iastore, 1) := by decide +kernel
theorem kd_Mo_emit_51 : decode kc_Mo_emit 51 = .ok (.aload_n 0, 1) := by decide +kernel
theorem kd_Mo_emit_52 : decode kc_Mo_emit 52 = .ok (.getfield 130, 3) := by decide +kernel
theorem kd_Mo_emit_55 : decode kc_Mo_emit 55 = .ok (.aload_n 0, 1) := by decide +kernel
theorem kd_Mo_emit_56 : decode kc_Mo_emit 56 = .ok (.getfield 652, 3) := by decide +kernel
theorem kd_Mo_emit_59 : decode kc_Mo_emit 59 = .ok (.aload_n 0, 1) := by decide +kernel
theorem kd_Mo_emit_60 : decode kc_Mo_emit 60 = .ok (.getfield 655, 3) := by decide +kernel
theorem kd_Mo_emit_63 : decode kc_Mo_emit 63 = .ok (.iastore, 1) := by decide +kernel
theorem kd_Mo_emit_64 : decode kc_Mo_emit 64 = .ok (.aload_n 0, 1) := by decide +kernel
theorem kd_Mo_emit_65 : decode kc_Mo_emit 65 = .ok (.dup, 1) := by decide +kernel
theorem kd_Mo_emit_66 : decode kc_Mo_emit 66 = .ok (.getfield 652, 3) := by decide +kernel
theorem kd_Mo_emit_69 : decode kc_Mo_emit 69 = .ok (.iconst 1, 1) := by decide +kernel
theorem kd_Mo_emit_70 : decode kc_Mo_emit 70 = .ok (.iadd, 1) := by decide +kernel
theorem kd_Mo_emit_71 : decode kc_Mo_emit 71 = .ok (.putfield 652, 3) := by decide +kernel
theorem kd_Mo_emit_74 : decode kc_Mo_emit 74 = .ok (.aload_n 0, 1) := by decide +kernel
theorem kd_Mo_emit_75 : decode kc_Mo_emit 75 = .ok (.getfield 652, 3) := by decide +kernel
theorem kd_Mo_emit_78 : decode kc_Mo_emit 78 = .ok (.iconst 1, 1) := by decide +kernel
theorem kd_Mo_emit_79 : decode kc_Mo_emit 79 = .ok (.isub, 1) := by decide +kernel
theorem kd_Mo_emit_80 : decode kc_Mo_emit 80 = .ok (.aload_n 0, 1) := by decide +kernel
theorem kd_Mo_emit_81 : decode kc_Mo_emit 81 = .ok (.getfield 115, 3) := by decide +kernel
theorem kd_Mo_emit_84 : decode kc_Mo_emit 84 = .ok (.aload_n 0, 1) := by decide +kernel
theorem kd_Mo_emit_85 : decode kc_Mo_emit 85 = .ok (.getfield 658, 3) := by decide +kernel
theorem kd_Mo_emit_88 : decode kc_Mo_emit 88 = .ok (.iaload, 1) := by decide +kernel
theorem kd_Mo_emit_89 : decode kc_Mo_emit 89 = .ok (.isub, 1) := by decide +kernel
theorem kd_Mo_emit_90 : decode kc_Mo_emit 90 = .ok (.ireturn, 1) := by decide +kernel
theorem kd_Mo_here_0 : decode kc_Mo_here 0 = .ok (.aload_n 0, 1) := by decide +kernel
theorem kd_Mo_here_1 : decode kc_Mo_here 1 = .ok (.getfield 652, 3) := by decide +kernel
theorem kd_Mo_here_4 : decode kc_Mo_here 4 = .ok (.aload_n 0, 1) := by decide +kernel
theorem kd_Mo_here_5 : decode kc_Mo_here 5 = .ok (.getfield 115, 3) := by decide +kernel
theorem kd_Mo_here_8 : decode kc_Mo_here 8 = .ok (.aload_n 0, 1) := by decide +kernel
theorem kd_Mo_here_9 : decode kc_Mo_here 9 = .ok (.getfield 658, 3) := by decide +kernel
theorem kd_Mo_here_12 : decode kc_Mo_here 12 = .ok (.iaload, 1) := by decide +kernel
theorem kd_Mo_here_13 : decode kc_Mo_here 13 = .ok (.isub, 1) := by decide +kernel
theorem kd_Mo_here_14 : decode kc_Mo_here 14 = .ok (.ireturn, 1) := by decide +kernel
theorem kd_Mo_isConstant_0 : decode kc_Mo_isConstant 0 = .ok (.iload_n 1, 1) := by decide +kernel
theorem kd_Mo_isConstant_1 : decode kc_Mo_isConstant 1 = .ok (.istore_n 2, 1) := by decide +kernel
theorem kd_Mo_isConstant_2 : decode kc_Mo_isConstant 2 = .ok (.aload_n 0, 1) := by decide +kernel
theorem kd_Mo_isConstant_3 : decode kc_Mo_isConstant 3 = .ok (.getfield 22, 3) := by decide +kernel
theorem kd_Mo_isConstant_6 : decode kc_Mo_isConstant 6 = .ok (.iload_n 2, 1) := by decide +kernel
theorem kd_Mo_isConstant_7 : decode kc_Mo_isConstant 7 = .ok (.iaload, 1) := by decide +kernel
theorem kd_Mo_isConstant_8 : decode kc_Mo_isConstant 8 = .ok (.bipush 35, 2) := by decide +kernel
theorem kd_Mo_isConstant_10 : decode kc_Mo_isConstant 10 = .ok (.if_icmp .ne 52, 3) := by decide +kernel
theorem kd_Mo_isConstant_13 : decode kc_Mo_isConstant 13 = .ok (.aload_n 0, 1) := by decide +kernel
theorem kd_Mo_isConstant_14 : decode kc_Mo_isConstant 14 = .ok (.aload_n 0, 1) := by decide +kernel
theorem kd_Mo_isConstant_15 : decode kc_Mo_isConstant 15 = .ok (.getfield 37, 3) := by decide +kernel
theorem kd_Mo_isConstant_18 : decode kc_Mo_isConstant 18 = .ok (.iload_n 2, 1) := by decide +kernel
theorem kd_Mo_isConstant_19 : decode kc_Mo_isConstant 19 = .ok (.iaload, 1) := by decide +kernel
theorem kd_Mo_isConstant_20 : decode kc_Mo_isConstant 20 = .ok (.invokevirtual 711, 3) := by decide +kernel
theorem kd_Mo_isConstant_23 : decode kc_Mo_isConstant 23 = .ok (.ifCond .eq 27, 3) := by decide +kernel
theorem kd_Mo_isConstant_26 : decode kc_Mo_isConstant 26 = .ok (.aload_n 0, 1) := by decide +kernel
theorem kd_Mo_isConstant_27 : decode kc_Mo_isConstant 27 = .ok (.getfield 28, 3) := by decide +kernel
theorem kd_Mo_isConstant_30 : decode kc_Mo_isConstant 30 = .ok (.iload_n 2, 1) := by decide +kernel
theorem kd_Mo_isConstant_31 : decode kc_Mo_isConstant 31 = .ok (.iaload, 1) := by decide +kernel
theorem kd_Mo_isConstant_32 : decode kc_Mo_isConstant 32 = .ok (.bipush 11, 2) := by decide +kernel
theorem kd_Mo_isConstant_34 : decode kc_Mo_isConstant 34 = .ok (.if_icmp .le 18, 3) := by decide +kernel
theorem kd_Mo_isConstant_37 : decode kc_Mo_isConstant 37 = .ok (.aload_n 0, 1) := by decide +kernel
theorem kd_Mo_isConstant_38 : decode kc_Mo_isConstant 38 = .ok (.aload_n 0, 1) := by decide +kernel
theorem kd_Mo_isConstant_39 : decode kc_Mo_isConstant 39 = .ok (.getfield 37, 3) := by decide +kernel
theorem kd_Mo_isConstant_42 : decode kc_Mo_isConstant 42 = .ok (.iload_n 2, 1) := by decide +kernel
theorem kd_Mo_isConstant_43 : decode kc_Mo_isConstant 43 = .ok (.iaload, 1) := by decide +kernel
theorem kd_Mo_isConstant_44 : decode kc_Mo_isConstant 44 = .ok (.invokevirtual 714, 3) := by decide +kernel
theorem kd_Mo_isConstant_47 : decode kc_Mo_isConstant 47 = .ok (.ifCond .ne 5, 3) := by decide +kernel
theorem kd_Mo_isConstant_50 : decode kc_Mo_isConstant 50 = .ok (.iconst 0, 1) := by decide +kernel
theorem kd_Mo_isConstant_51 : decode kc_Mo_isConstant 51 = .ok (.ireturn, 1) := by decide +kernel
theorem kd_Mo_isConstant_52 : decode kc_Mo_isConstant 52 = .ok (.aload_n 0, 1) := by decide +kernel
theorem kd_Mo_isConstant_53 : decode kc_Mo_isConstant 53 = .ok (.getfield 34, 3) := by decide +kernel
theorem kd_Mo_isConstant_56 : decode kc_Mo_isConstant 56 = .ok (.iload_n 2, 1) := by decide +kernel
theorem kd_Mo_isConstant_57 : decode kc_Mo_isConstant 57 = .ok (.iaload, 1) := by decide +kernel
theorem kd_Mo_isConstant_58 : decode kc_Mo_isConstant 58 = .ok (.istore_n 2, 1) := by decide +kernel
theorem kd_Mo_isConstant_59 : decode kc_Mo_isConstant 59 = .ok (.goto (-57), 3) := by decide +kernel
theorem kd_Mo_isConstant_62 : decode kc_Mo_isConstant 62 = .ok (.aload_n 0, 1) := by decide +kernel
theorem kd_Mo_isConstant_63 : decode kc_Mo_isConstant 63 = .ok (.getfield 22, 3) := by decide +kernel
theorem kd_Mo_isConstant_66 : decode kc_Mo_isConstant 66 = .ok (.iload_n 2, 1) := by decide +kernel
theorem kd_Mo_isConstant_67 : decode kc_Mo_isConstant 67 = .ok (.iaload, 1) := by decide +kernel
theorem kd_Mo_isConstant_68 : decode kc_Mo_isConstant 68 = .ok (.bipush 30, 2) := by decide +kernel
theorem kd_Mo_isConstant_70 : decode kc_Mo_isConstant 70 = .ok (.if_icmp .eq 14, 3) := by decide +kernel
theorem kd_Mo_isConstant_73 : decode kc_Mo_isConstant 73 = .ok (.aload_n 0, 1) := by decide +kernel
theorem kd_Mo_isConstant_74 : decode kc_Mo_isConstant 74 = .ok (.getfield 22, 3) := by decide +kernel
theorem kd_Mo_isConstant_77 : decode kc_Mo_isConstant 77 = .ok (.iload_n 2, 1) := by decide +kernel
theorem kd_Mo_isConstant_78 : decode kc_Mo_isConstant 78 = .ok (.iaload, 1) := by decide +kernel
theorem kd_Mo_isConstant_79 : decode kc_Mo_isConstant 79 = .ok (.bipush 31, 2) := by decide +kernel
theorem kd_Mo_isConstant_81 : decode kc_Mo_isConstant 81 = .ok (.if_icmp .ne 5, 3) := by decide +kernel
theorem kd_Mo_isConstant_84 : decode kc_Mo_isConstant 84 = .ok (.iconst 1, 1) := by decide +kernel
theorem kd_Mo_isConstant_85 : decode kc_Mo_isConstant 85 = .ok (.ireturn, 1) := by decide +kernel
theorem kd_Mo_isConstant_86 : decode kc_Mo_isConstant 86 = .ok (.aload_n 0, 1) := by decide +kernel
theorem kd_Mo_isConstant_87 : decode kc_Mo_isConstant 87 = .ok (.getfield 22, 3) := by decide +kernel
theorem kd_Mo_isConstant_90 : decode kc_Mo_isConstant 90 = .ok (.iload_n 2, 1) := by decide +kernel
theorem kd_Mo_isConstant_91 : decode kc_Mo_isConstant 91 = .ok (.iaload, 1) := by decide +kernel
theorem kd_Mo_isConstant_92 : decode kc_Mo_isConstant 92 = .ok (.bipush 34, 2) := by decide +kernel
theorem kd_Mo_isConstant_94 : decode kc_Mo_isConstant 94 = .ok (.if_icmp .lt 30, 3) := by decide +kernel
theorem kd_Mo_isConstant_97 : decode kc_Mo_isConstant 97 = .ok (.aload_n 0, 1) := by decide +kernel
theorem kd_Mo_isConstant_98 : decode kc_Mo_isConstant 98 = .ok (.getfield 22, 3) := by decide +kernel
theorem kd_Mo_isConstant_101 : decode kc_Mo_isConstant 101 = .ok (.iload_n 2, 1) := by decide +kernel
theorem kd_Mo_isConstant_102 : decode kc_Mo_isConstant 102 = .ok (.iaload, 1) := by decide +kernel
theorem kd_Mo_isConstant_103 : decode kc_Mo_isConstant 103 = .ok (.bipush 34, 2) := by decide +kernel
theorem kd_Mo_isConstant_105 : decode kc_Mo_isConstant 105 = .ok (.if_icmp .ne 21, 3) := by decide +kernel
theorem kd_Mo_isConstant_108 : decode kc_Mo_isConstant 108 = .ok (.aload_n 0, 1) := by decide +kernel
theorem kd_Mo_isConstant_109 : decode kc_Mo_isConstant 109 = .ok (.ldc_w 460, 3) := by decide +kernel
theorem kd_Mo_isConstant_112 : decode kc_Mo_isConstant 112 = .ok (.aload_n 0, 1) := by decide +kernel
theorem kd_Mo_isConstant_113 : decode kc_Mo_isConstant 113 = .ok (.getfield 28, 3) := by decide +kernel
theorem kd_Mo_isConstant_116 : decode kc_Mo_isConstant 116 = .ok (.iload_n 2, 1) := by decide +kernel
theorem kd_Mo_isConstant_117 : decode kc_Mo_isConstant 117 = .ok (.iaload, 1) := by decide +kernel
theorem kd_Mo_isConstant_118 : decode kc_Mo_isConstant 118 = .ok (.invokevirtual 456, 3) := by decide +kernel
theorem kd_Mo_isConstant_121 : decode kc_Mo_isConstant 121 = .ok (.ifCond .ge 5, 3) := by decide +kernel
theorem kd_Mo_isConstant_124 : decode kc_Mo_isConstant 124 = .ok (.iconst 0, 1) := by decide +kernel
theorem kd_Mo_isConstant_125 : decode kc_Mo_isConstant 125 = .ok (.ireturn, 1) := by decide +kernel
theorem kd_Mo_isConstant_126 : decode kc_Mo_isConstant 126 = .ok (.aload_n 0, 1) := by decide +kernel
theorem kd_Mo_isConstant_127 : decode kc_Mo_isConstant 127 = .ok (.getfield 34, 3) := by decide +kernel
theorem kd_Mo_isConstant_130 : decode kc_Mo_isConstant 130 = .ok (.iload_n 2, 1) := by decide +kernel
theorem kd_Mo_isConstant_131 : decode kc_Mo_isConstant 131 = .ok (.iaload, 1) := by decide +kernel
theorem kd_Mo_isConstant_132 : decode kc_Mo_isConstant 132 = .ok (.istore_n 3, 1) := by decide +kernel
theorem kd_Mo_isConstant_133 : decode kc_Mo_isConstant 133 = .ok (.iload_n 3, 1) := by decide +kernel
theorem kd_Mo_isConstant_134 : decode kc_Mo_isConstant 134 = .ok (.ifCond .lt 23, 3) := by decide +kernel
theorem kd_Mo_isConstant_137 : decode kc_Mo_isConstant 137 = .ok (.aload_n 0, 1) := by decide +kernel
theorem kd_Mo_isConstant_138 : decode kc_Mo_isConstant 138 = .ok (.iload_n 3, 1) := by decide +kernel
theorem kd_Mo_isConstant_139 : decode kc_Mo_isConstant 139 = .ok (.invokevirtual 711, 3) := by decide +kernel
theorem kd_Mo_isConstant_142 : decode kc_Mo_isConstant 142 = .ok (.ifCond .ne 5, 3) := by decide +kernel
theorem kd_Mo_isConstant_145 : decode kc_Mo_isConstant 145 = .ok (.iconst 0, 1) := by decide +kernel
theorem kd_Mo_isConstant_146 : decode kc_Mo_isConstant 146 = .ok (.ireturn, 1) := by decide +kernel
theorem kd_Mo_isConstant_147 : decode kc_Mo_isConstant 147 = .ok (.aload_n 0, 1) := by decide +kernel
theorem kd_Mo_isConstant_148 : decode kc_Mo_isConstant 148 = .ok (.getfield 40, 3) := by decide +kernel
theorem kd_Mo_isConstant_151 : decode kc_Mo_isConstant 151 = .ok (.iload_n 3, 1) := by decide +kernel
theorem kd_Mo_isConstant_152 : decode kc_Mo_isConstant 152 = .ok (.iaload, 1) := by decide +kernel
theorem kd_Mo_isConstant_153 : decode kc_Mo_isConstant 153 = .ok (.istore_n 3, 1) := by decide +kernel
theorem kd_Mo_isConstant_154 : decode kc_Mo_isConstant 154 = .ok (.goto (-21), 3) := by decide +kernel
theorem kd_Mo_isConstant_157 : decode kc_Mo_isConstant 157 = .ok (.iconst 1, 1) := by decide +kernel
theorem kd_Mo_isConstant_158 : decode kc_Mo_isConstant 158 = .ok (.ireturn, 1) := by decide +kernel
theorem kd_Mo_lookAtElement_0 : decode kc_Mo_lookAtElement 0 = .ok (.aload_n 0, 1) := by decide +kernel
theorem kd_Mo_lookAtElement_1 : decode kc_Mo_lookAtElement 1 = .ok (.aload_n 0, 1) := by decide +kernel
theorem kd_Mo_lookAtElement_2 : decode kc_Mo_lookAtElement 2 = .ok (.getfield 550, 3) := by decide +kernel
theorem kd_Mo_lookAtElement_5 : decode kc_Mo_lookAtElement 5 = .ok (.aload_n 0, 1) := by decide +kernel
theorem kd_Mo_lookAtElement_6 : decode kc_Mo_lookAtElement 6 = .ok (.getfield 28, 3) := by decide +kernel
theorem kd_Mo_lookAtElement_9 : decode kc_Mo_lookAtElement 9 = .ok (.iload_n 1, 1) := by decide +kernel
theorem kd_Mo_lookAtElement_10 : decode kc_Mo_lookAtElement 10 = .ok (.iaload, 1) := by decide +kernel
theorem kd_Mo_lookAtElement_11 : decode kc_Mo_lookAtElement 11 = .ok (.invokevirtual 507, 3) := by decide +kernel
theorem kd_Mo_lookAtElement_14 : decode kc_Mo_lookAtElement 14 = .ok (.istore_n 2, 1) := by decide +kernel
theorem kd_Mo_lookAtElement_15 : decode kc_Mo_lookAtElement 15 = .ok (.aload_n 0, 1) := by decide +kernel
theorem kd_Mo_lookAtElement_16 : decode kc_Mo_lookAtElement 16 = .ok (.iload_n 2, 1) := by decide +kernel
theorem kd_Mo_lookAtElement_17 : decode kc_Mo_lookAtElement 17 = .ok (.ifCond .ge 7, 3) := by decide +kernel
theorem kd_Mo_lookAtElement_20 : decode kc_Mo_lookAtElement 20 = .ok (.iconst 1, 1) := by decide +kernel
theorem kd_Mo_lookAtElement_21 : decode kc_Mo_lookAtElement 21 = .ok (.goto 4, 3) := by decide +kernel
theorem kd_Mo_lookAtElement_24 : decode kc_Mo_lookAtElement 24 = .ok (.iconst 0, 1) := by decide +kernel
theorem kd_Mo_lookAtElement_25 : decode kc_Mo_lookAtElement 25 = .ok (.bipush 20, 2) := by decide +kernel
theorem kd_Mo_lookAtElement_27 : decode kc_Mo_lookAtElement 27 = .ok (.iload_n 1, 1) := by decide +kernel
theorem kd_Mo_lookAtElement_28 : decode kc_Mo_lookAtElement 28 = .ok (.invokevirtual 540, 3) := by decide +kernel
theorem kd_Mo_lookAtElement_31 : decode kc_Mo_lookAtElement 31 = .ok (.aload_n 0, 1) := by decide +kernel
theorem kd_Mo_lookAtElement_32 : decode kc_Mo_lookAtElement 32 = .ok (.iload_n 2, 1) := by decide +kernel
theorem kd_Mo_lookAtElement_33 : decode kc_Mo_lookAtElement 33 = .ok (.ifCond .lt 17, 3) := by decide +kernel
theorem kd_Mo_lookAtElement_36 : decode kc_Mo_lookAtElement 36 = .ok (.aload_n 0, 1) := by decide +kernel
theorem kd_Mo_lookAtElement_37 : decode kc_Mo_lookAtElement 37 = .ok (.getfield 82, 3) := by decide +kernel
theorem kd_Mo_lookAtElement_40 : decode kc_Mo_lookAtElement 40 = .ok (.iload_n 2, 1) := by decide +kernel
theorem kd_Mo_lookAtElement_41 : decode kc_Mo_lookAtElement 41 = .ok (.iaload, 1) := by decide +kernel
theorem kd_Mo_lookAtElement_42 : decode kc_Mo_lookAtElement 42 = .ok (.iconst 1, 1) := by decide +kernel
theorem kd_Mo_lookAtElement_43 : decode kc_Mo_lookAtElement 43 = .ok (.if_icmp .eq 7, 3) := by decide +kernel
theorem kd_Mo_lookAtElement_46 : decode kc_Mo_lookAtElement 46 = .ok (.iconst 1, 1) := by decide +kernel
theorem kd_Mo_lookAtElement_47 : decode kc_Mo_lookAtElement 47 = .ok (.goto 4, 3) := by decide +kernel
theorem kd_Mo_lookAtElement_50 : decode kc_Mo_lookAtElement 50 = .ok (.iconst 0, 1) := by decide +kernel
theorem kd_Mo_lookAtElement_51 : decode kc_Mo_lookAtElement 51 = .ok (.bipush 21, 2) := by decide +kernel
theorem kd_Mo_lookAtElement_53 : decode kc_Mo_lookAtElement 53 = .ok (.iload_n 1, 1) := by decide +kernel
theorem kd_Mo_lookAtElement_54 : decode kc_Mo_lookAtElement 54 = .ok (.invokevirtual 540, 3) := by decide +kernel
theorem kd_Mo_lookAtElement_57 : decode kc_Mo_lookAtElement 57 = .ok (.aload_n 0, 1) := by decide +kernel
theorem kd_Mo_lookAtElement_58 : decode kc_Mo_lookAtElement 58 = .ok (.aload_n 0, 1) := by decide +kernel
theorem kd_Mo_lookAtElement_59 : decode kc_Mo_lookAtElement 59 = .ok (.getfield 106, 3) := by decide +kernel
theorem kd_Mo_lookAtElement_62 : decode kc_Mo_lookAtElement 62 = .ok (.aload_n 0, 1) := by decide +kernel
theorem kd_Mo_lookAtElement_63 : decode kc_Mo_lookAtElement 63 = .ok (.getfield 34, 3) := by decide +kernel
theorem kd_Mo_lookAtElement_66 : decode kc_Mo_lookAtElement 66 = .ok (.iload_n 1, 1) := by decide +kernel
theorem kd_Mo_lookAtElement_67 : decode kc_Mo_lookAtElement 67 = .ok (.iaload, 1) := by decide +kernel
theorem kd_Mo_lookAtElement_68 : decode kc_Mo_lookAtElement 68 = .ok (.iaload, 1) := by decide +kernel
theorem kd_Mo_lookAtElement_69 : decode kc_Mo_lookAtElement 69 = .ok (.invokestatic 609, 3) := by decide +kernel
theorem kd_Mo_lookAtElement_72 : decode kc_Mo_lookAtElement 72 = .ok (.ifCond .ne 7, 3) := by decide +kernel
theorem kd_Mo_lookAtElement_75 : decode kc_Mo_lookAtElement 75 = .ok (.iconst 1, 1) := by decide +kernel
theorem kd_Mo_lookAtElement_76 : decode kc_Mo_lookAtElement 76 = .ok (.goto 4, 3) := by decide +kernel
theorem kd_Mo_lookAtElement_79 : decode kc_Mo_lookAtElement 79 = .ok (.iconst 0, 1) := by decide +kernel
theorem kd_Mo_lookAtElement_80 : decode kc_Mo_lookAtElement 80 = .ok (.bipush 22, 2) := by decide +kernel
theorem kd_Mo_lookAtElement_82 : decode kc_Mo_lookAtElement 82 = .ok (.iload_n 1, 1) := by decide +kernel
theorem kd_Mo_lookAtElement_83 : decode kc_Mo_lookAtElement 83 = .ok (.invokevirtual 540, 3) := by decide +kernel
theorem kd_Mo_lookAtElement_86 : decode kc_Mo_lookAtElement 86 = .ok (.aload_n 0, 1) := by decide +kernel
theorem kd_Mo_lookAtElement_87 : decode kc_Mo_lookAtElement 87 = .ok (.getfield 445, 3) := by decide +kernel
theorem kd_Mo_lookAtElement_90 : decode kc_Mo_lookAtElement 90 = .ok (.ifCond .ne 27, 3) := by decide +kernel
theorem kd_Mo_lookAtElement_93 : decode kc_Mo_lookAtElement 93 = .ok (.aload_n 0, 1) := by decide +kernel
theorem kd_Mo_lookAtElement_94 : decode kc_Mo_lookAtElement 94 = .ok (.getfield 106, 3) := by decide +kernel
theorem kd_Mo_lookAtElement_97 : decode kc_Mo_lookAtElement 97 = .ok (.iload_n 1, 1) := by decide +kernel
theorem kd_Mo_lookAtElement_98 : decode kc_Mo_lookAtElement 98 = .ok (.aload_n 0, 1) := by decide +kernel
theorem kd_Mo_lookAtElement_99 : decode kc_Mo_lookAtElement 99 = .ok (.getfield 85, 3) := by decide +kernel
theorem kd_Mo_lookAtElement_102 : decode kc_Mo_lookAtElement 102 = .ok (.iload_n 2, 1) := by decide +kernel
theorem kd_Mo_lookAtElement_103 : decode kc_Mo_lookAtElement 103 = .ok (.iaload, 1) := by decide +kernel
theorem kd_Mo_lookAtElement_104 : decode kc_Mo_lookAtElement 104 = .ok (.iastore, 1) := by decide +kernel
theorem kd_Mo_lookAtElement_105 : decode kc_Mo_lookAtElement 105 = .ok (.aload_n 0, 1) := by decide +kernel
theorem kd_Mo_lookAtElement_106 : decode kc_Mo_lookAtElement 106 = .ok (.getfield 109, 3) := by decide +kernel
theorem kd_Mo_lookAtElement_109 : decode kc_Mo_lookAtElement 109 = .ok (.iload_n 1, 1) := by decide +kernel
theorem kd_Mo_lookAtElement_110 : decode kc_Mo_lookAtElement 110 = .ok (.aload_n 0, 1) := by decide +kernel
theorem kd_Mo_lookAtElement_111 : decode kc_Mo_lookAtElement 111 = .ok (.getfield 88, 3) := by decide +kernel
theorem kd_Mo_lookAtElement_114 : decode kc_Mo_lookAtElement 114 = .ok (.iload_n 2, 1) := by decide +kernel
theorem kd_Mo_lookAtElement_115 : decode kc_Mo_lookAtElement 115 = .ok (.iaload, 1) := by decide +kernel
theorem kd_Mo_lookAtElement_116 : decode kc_Mo_lookAtElement 116 = .ok (.iastore, 1) := by decide +kernel
theorem kd_Mo_lookAtElement_117 : decode kc_Mo_lookAtElement 117 = .ok (.return_, 1) := by decide +kernel
theorem kd_Mo_oneCode_0 : decode kc_Mo_oneCode 0 = .ok (.aload_n 0, 1) := by decide +kernel
theorem kd_Mo_oneCode_1 : decode kc_Mo_oneCode 1 = .ok (.getfield 28, 3) := by decide +kernel
theorem kd_Mo_oneCode_4 : decode kc_Mo_oneCode 4 = .ok (.iload_n 1, 1) := by decide +kernel
theorem kd_Mo_oneCode_5 : decode kc_Mo_oneCode 5 = .ok (.iaload, 1) := by decide +kernel
theorem kd_Mo_oneCode_6 : decode kc_Mo_oneCode 6 = .ok (.ifCond .ne 21, 3) := by decide +kernel
theorem kd_Mo_oneCode_9 : decode kc_Mo_oneCode 9 = .ok (.aload_n 0, 1) := by decide +kernel
theorem kd_Mo_oneCode_10 : decode kc_Mo_oneCode 10 = .ok (.getfield 106, 3) := by decide +kernel
theorem kd_Mo_oneCode_13 : decode kc_Mo_oneCode 13 = .ok (.iload_n 1, 1) := by decide +kernel
theorem kd_Mo_oneCode_14 : decode kc_Mo_oneCode 14 = .ok (.iaload, 1) := by decide +kernel
theorem kd_Mo_oneCode_15 : decode kc_Mo_oneCode 15 = .ok (.iconst 1, 1) := by decide +kernel
theorem kd_Mo_oneCode_16 : decode kc_Mo_oneCode 16 = .ok (.if_icmp .ne 7, 3) := by decide +kernel
theorem kd_Mo_oneCode_19 : decode kc_Mo_oneCode 19 = .ok (.iconst 0, 1) := by decide +kernel
theorem kd_Mo_oneCode_20 : decode kc_Mo_oneCode 20 = .ok (.goto 21, 3) := by decide +kernel
theorem kd_Mo_oneCode_23 : decode kc_Mo_oneCode 23 = .ok (.iconst 1, 1) := by decide +kernel
theorem kd_Mo_oneCode_24 : decode kc_Mo_oneCode 24 = .ok (.goto 17, 3) := by decide +kernel
theorem kd_Mo_oneCode_27 : decode kc_Mo_oneCode 27 = .ok (.aload_n 0, 1) := by decide +kernel
theorem kd_Mo_oneCode_28 : decode kc_Mo_oneCode 28 = .ok (.getfield 106, 3) := by decide +kernel
theorem kd_Mo_oneCode_31 : decode kc_Mo_oneCode 31 = .ok (.iload_n 1, 1) := by decide +kernel
theorem kd_Mo_oneCode_32 : decode kc_Mo_oneCode 32 = .ok (.iaload, 1) := by decide +kernel
theorem kd_Mo_oneCode_33 : decode kc_Mo_oneCode 33 = .ok (.ifCond .ne 7, 3) := by decide +kernel
theorem kd_Mo_oneCode_36 : decode kc_Mo_oneCode 36 = .ok (.iconst 2, 1) := by decide +kernel
theorem kd_Mo_oneCode_37 : decode kc_Mo_oneCode 37 = .ok (.goto 4, 3) := by decide +kernel
theorem kd_Mo_oneCode_40 : decode kc_Mo_oneCode 40 = .ok (.iconst 3, 1) := by decide +kernel
theorem kd_Mo_oneCode_41 : decode kc_Mo_oneCode 41 = .ok (.ireturn, 1) := by decide +kernel
theorem kd_Mo_signCode_0 : decode kc_Mo_signCode 0 = .ok (.aload_n 0, 1) := by decide +kernel
theorem kd_Mo_signCode_1 : decode kc_Mo_signCode 1 = .ok (.getfield 28, 3) := by decide +kernel
theorem kd_Mo_signCode_4 : decode kc_Mo_signCode 4 = .ok (.iload_n 1, 1) := by decide +kernel
theorem kd_Mo_signCode_5 : decode kc_Mo_signCode 5 = .ok (.iaload, 1) := by decide +kernel
theorem kd_Mo_signCode_6 : decode kc_Mo_signCode 6 = .ok (.istore_n 2, 1) := by decide +kernel
theorem kd_Mo_signCode_7 : decode kc_Mo_signCode 7 = .ok (.iload_n 2, 1) := by decide +kernel
theorem kd_Mo_signCode_8 : decode kc_Mo_signCode 8 = .ok (.ifCond .ne 8, 3) := by decide +kernel
theorem kd_Mo_signCode_11 : decode kc_Mo_signCode 11 = .ok (.bipush 11, 2) := by decide +kernel
theorem kd_Mo_signCode_13 : decode kc_Mo_signCode 13 = .ok (.goto 56, 3) := by decide +kernel
theorem kd_Mo_signCode_16 : decode kc_Mo_signCode 16 = .ok (.iload_n 2, 1) := by decide +kernel
theorem kd_Mo_signCode_17 : decode kc_Mo_signCode 17 = .ok (.iconst 1, 1) := by decide +kernel
theorem kd_Mo_signCode_18 : decode kc_Mo_signCode 18 = .ok (.if_icmp .ne 8, 3) := by decide +kernel
theorem kd_Mo_signCode_21 : decode kc_Mo_signCode 21 = .ok (.bipush 12, 2) := by decide +kernel
theorem kd_Mo_signCode_23 : decode kc_Mo_signCode 23 = .ok (.goto 46, 3) := by decide +kernel
theorem kd_Mo_signCode_26 : decode kc_Mo_signCode 26 = .ok (.iload_n 2, 1) := by decide +kernel
theorem kd_Mo_signCode_27 : decode kc_Mo_signCode 27 = .ok (.iconst 2, 1) := by decide +kernel
theorem kd_Mo_signCode_28 : decode kc_Mo_signCode 28 = .ok (.if_icmp .ne 8, 3) := by decide +kernel
theorem kd_Mo_signCode_31 : decode kc_Mo_signCode 31 = .ok (.bipush 10, 2) := by decide +kernel
theorem kd_Mo_signCode_33 : decode kc_Mo_signCode 33 = .ok (.goto 36, 3) := by decide +kernel
theorem kd_Mo_signCode_36 : decode kc_Mo_signCode 36 = .ok (.iload_n 2, 1) := by decide +kernel
theorem kd_Mo_signCode_37 : decode kc_Mo_signCode 37 = .ok (.bipush 9, 2) := by decide +kernel
theorem kd_Mo_signCode_39 : decode kc_Mo_signCode 39 = .ok (.if_icmp .ge 10, 3) := by decide +kernel
theorem kd_Mo_signCode_42 : decode kc_Mo_signCode 42 = .ok (.bipush 10, 2) := by decide +kernel
theorem kd_Mo_signCode_44 : decode kc_Mo_signCode 44 = .ok (.iload_n 2, 1) := by decide +kernel
theorem kd_Mo_signCode_45 : decode kc_Mo_signCode 45 = .ok (.iadd, 1) := by decide +kernel
theorem kd_Mo_signCode_46 : decode kc_Mo_signCode 46 = .ok (.goto 23, 3) := by decide +kernel
theorem kd_Mo_signCode_49 : decode kc_Mo_signCode 49 = .ok (.aload_n 0, 1) := by decide +kernel
theorem kd_Mo_signCode_50 : decode kc_Mo_signCode 50 = .ok (.getfield 106, 3) := by decide +kernel
theorem kd_Mo_signCode_53 : decode kc_Mo_signCode 53 = .ok (.iload_n 1, 1) := by decide +kernel
theorem kd_Mo_signCode_54 : decode kc_Mo_signCode 54 = .ok (.iaload, 1) := by decide +kernel
theorem kd_Mo_signCode_55 : decode kc_Mo_signCode 55 = .ok (.iconst 1, 1) := by decide +kernel
theorem kd_Mo_signCode_56 : decode kc_Mo_signCode 56 = .ok (.if_icmp .ne 10, 3) := by decide +kernel
theorem kd_Mo_signCode_59 : decode kc_Mo_signCode 59 = .ok (.iload_n 2, 1) := by decide +kernel
theorem kd_Mo_signCode_60 : decode kc_Mo_signCode 60 = .ok (.bipush 9, 2) := by decide +kernel
theorem kd_Mo_signCode_62 : decode kc_Mo_signCode 62 = .ok (.isub, 1) := by decide +kernel
theorem kd_Mo_signCode_63 : decode kc_Mo_signCode 63 = .ok (.goto 6, 3) := by decide +kernel
theorem kd_Mo_signCode_66 : decode kc_Mo_signCode 66 = .ok (.iload_n 2, 1) := by decide +kernel
theorem kd_Mo_signCode_67 : decode kc_Mo_signCode 67 = .ok (.iconst 4, 1) := by decide +kernel
theorem kd_Mo_signCode_68 : decode kc_Mo_signCode 68 = .ok (.isub, 1) := by decide +kernel
theorem kd_Mo_signCode_69 : decode kc_Mo_signCode 69 = .ok (.ireturn, 1) := by decide +kernel
theorem kd_Mo_standard_0 : decode kc_Mo_standard 0 = .ok (.aload_n 0, 1) := by decide +kernel
theorem kd_Mo_standard_1 : decode kc_Mo_standard 1 = .ok (.getfield 106, 3) := by decide +kernel
theorem kd_Mo_standard_4 : decode kc_Mo_standard 4 = .ok (.aload_n 0, 1) := by decide +kernel
theorem kd_Mo_standard_5 : decode kc_Mo_standard 5 = .ok (.getfield 34, 3) := by decide +kernel
theorem kd_Mo_standard_8 : decode kc_Mo_standard 8 = .ok (.iload_n 1, 1) := by decide +kernel
theorem kd_Mo_standard_9 : decode kc_Mo_standard 9 = .ok (.iaload, 1) := by decide +kernel
theorem kd_Mo_standard_10 : decode kc_Mo_standard 10 = .ok (.iaload, 1) := by decide +kernel
theorem kd_Mo_standard_11 : decode kc_Mo_standard 11 = .ok (.istore 5, 2) := by decide +kernel
theorem kd_Mo_standard_13 : decode kc_Mo_standard 13 = .ok (.aload_n 0, 1) := by decide +kernel
theorem kd_Mo_standard_14 : decode kc_Mo_standard 14 = .ok (.getfield 112, 3) := by decide +kernel
theorem kd_Mo_standard_17 : decode kc_Mo_standard 17 = .ok (.iload_n 1, 1) := by decide +kernel
theorem kd_Mo_standard_18 : decode kc_Mo_standard 18 = .ok (.iaload, 1) := by decide +kernel
theorem kd_Mo_standard_19 : decode kc_Mo_standard 19 = .ok (.bipush 100, 2) := by decide +kernel
theorem kd_Mo_standard_21 : decode kc_Mo_standard 21 = .ok (.isub, 1) := by decide +kernel
theorem kd_Mo_standard_22 : decode kc_Mo_standard 22 = .ok (.tableswitch 155 0 8 #[50, 66, 74, 82, 97, 108, 127, 146, 153], 50) := by decide +kernel
theorem kd_Mo_standard_72 : decode kc_Mo_standard 72 = .ok (.iload 5, 2) := by decide +kernel
theorem kd_Mo_standard_74 : decode kc_Mo_standard 74 = .ok (.iconst 1, 1) := by decide +kernel
theorem kd_Mo_standard_75 : decode kc_Mo_standard 75 = .ok (.if_icmp .ne 7, 3) := by decide +kernel
theorem kd_Mo_standard_78 : decode kc_Mo_standard 78 = .ok (.iconst 4, 1) := by decide +kernel
theorem kd_Mo_standard_79 : decode kc_Mo_standard 79 = .ok (.goto 4, 3) := by decide +kernel
theorem kd_Mo_standard_82 : decode kc_Mo_standard 82 = .ok (.iconst 5, 1) := by decide +kernel
theorem kd_Mo_standard_83 : decode kc_Mo_standard 83 = .ok (.iload_n 2, 1) := by decide +kernel
theorem kd_Mo_standard_84 : decode kc_Mo_standard 84 = .ok (.invokestatic 729, 3) := by decide +kernel
theorem kd_Mo_standard_87 : decode kc_Mo_standard 87 = .ok (.ireturn, 1) := by decide +kernel
theorem kd_Mo_standard_88 : decode kc_Mo_standard 88 = .ok (.bipush 23, 2) := by decide +kernel
theorem kd_Mo_standard_90 : decode kc_Mo_standard 90 = .ok (.iload_n 2, 1) := by decide +kernel
theorem kd_Mo_standard_91 : decode kc_Mo_standard 91 = .ok (.iload_n 3, 1) := by decide +kernel
theorem kd_Mo_standard_92 : decode kc_Mo_standard 92 = .ok (.invokestatic 723, 3) := by decide +kernel
theorem kd_Mo_standard_95 : decode kc_Mo_standard 95 = .ok (.ireturn, 1) := by decide +kernel
theorem kd_Mo_standard_96 : decode kc_Mo_standard 96 = .ok (.bipush 24, 2) := by decide +kernel
theorem kd_Mo_standard_98 : decode kc_Mo_standard 98 = .ok (.iload_n 2, 1) := by decide +kernel
theorem kd_Mo_standard_99 : decode kc_Mo_standard 99 = .ok (.iload_n 3, 1) := by decide +kernel
theorem kd_Mo_standard_100 : decode kc_Mo_standard 100 = .ok (.invokestatic 723, 3) := by decide +kernel
theorem kd_Mo_standard_103 : decode kc_Mo_standard 103 = .ok (.ireturn, 1) := by decide +kernel
theorem kd_Mo_standard_104 : decode kc_Mo_standard 104 = .ok (.bipush 23, 2) := by decide +kernel
theorem kd_Mo_standard_106 : decode kc_Mo_standard 106 = .ok (.bipush 24, 2) := by decide +kernel
theorem kd_Mo_standard_108 : decode kc_Mo_standard 108 = .ok (.iload_n 2, 1) := by decide +kernel
theorem kd_Mo_standard_109 : decode kc_Mo_standard 109 = .ok (.iload_n 3, 1) := by decide +kernel
theorem kd_Mo_standard_110 : decode kc_Mo_standard 110 = .ok (.invokestatic 723, 3) := by decide +kernel
theorem kd_Mo_standard_113 : decode kc_Mo_standard 113 = .ok (.iload 4, 2) := by decide +kernel
theorem kd_Mo_standard_115 : decode kc_Mo_standard 115 = .ok (.invokestatic 723, 3) := by decide +kernel
theorem kd_Mo_standard_118 : decode kc_Mo_standard 118 = .ok (.ireturn, 1) := by decide +kernel
theorem kd_Mo_standard_119 : decode kc_Mo_standard 119 = .ok (.iload_n 2, 1) := by decide +kernel
theorem kd_Mo_standard_120 : decode kc_Mo_standard 120 = .ok (.ifCond .eq 8, 3) := by decide +kernel
theorem kd_Mo_standard_123 : decode kc_Mo_standard 123 = .ok (.iload 4, 2) := by decide +kernel
theorem kd_Mo_standard_125 : decode kc_Mo_standard 125 = .ok (.goto 4, 3) := by decide +kernel
theorem kd_Mo_standard_128 : decode kc_Mo_standard 128 = .ok (.iload_n 3, 1) := by decide +kernel
theorem kd_Mo_standard_129 : decode kc_Mo_standard 129 = .ok (.ireturn, 1) := by decide +kernel
theorem kd_Mo_standard_130 : decode kc_Mo_standard 130 = .ok (.iload 5, 2) := by decide +kernel
theorem kd_Mo_standard_132 : decode kc_Mo_standard 132 = .ok (.iconst 1, 1) := by decide +kernel
theorem kd_Mo_standard_133 : decode kc_Mo_standard 133 = .ok (.if_icmp .ne 8, 3) := by decide +kernel
theorem kd_Mo_standard_136 : decode kc_Mo_standard 136 = .ok (.bipush 19, 2) := by decide +kernel
theorem kd_Mo_standard_138 : decode kc_Mo_standard 138 = .ok (.goto 5, 3) := by decide +kernel
theorem kd_Mo_standard_141 : decode kc_Mo_standard 141 = .ok (.bipush 21, 2) := by decide +kernel
theorem kd_Mo_standard_143 : decode kc_Mo_standard 143 = .ok (.iload_n 2, 1) := by decide +kernel
theorem kd_Mo_standard_144 : decode kc_Mo_standard 144 = .ok (.iload_n 3, 1) := by decide +kernel
theorem kd_Mo_standard_145 : decode kc_Mo_standard 145 = .ok (.invokestatic 723, 3) := by decide +kernel
theorem kd_Mo_standard_148 : decode kc_Mo_standard 148 = .ok (.ireturn, 1) := by decide +kernel
theorem kd_Mo_standard_149 : decode kc_Mo_standard 149 = .ok (.iload 5, 2) := by decide +kernel
theorem kd_Mo_standard_151 : decode kc_Mo_standard 151 = .ok (.iconst 1, 1) := by decide +kernel
theorem kd_Mo_standard_152 : decode kc_Mo_standard 152 = .ok (.if_icmp .ne 8, 3) := by decide +kernel
theorem kd_Mo_standard_155 : decode kc_Mo_standard 155 = .ok (.bipush 20, 2) := by decide +kernel
theorem kd_Mo_standard_157 : decode kc_Mo_standard 157 = .ok (.goto 5, 3) := by decide +kernel
theorem kd_Mo_standard_160 : decode kc_Mo_standard 160 = .ok (.bipush 22, 2) := by decide +kernel
theorem kd_Mo_standard_162 : decode kc_Mo_standard 162 = .ok (.iload_n 2, 1) := by decide +kernel
theorem kd_Mo_standard_163 : decode kc_Mo_standard 163 = .ok (.iload_n 3, 1) := by decide +kernel
theorem kd_Mo_standard_164 : decode kc_Mo_standard 164 = .ok (.invokestatic 723, 3) := by decide +kernel
theorem kd_Mo_standard_167 : decode kc_Mo_standard 167 = .ok (.ireturn, 1) := by decide +kernel
theorem kd_Mo_standard_168 : decode kc_Mo_standard 168 = .ok (.bipush 6, 2) := by decide +kernel
theorem kd_Mo_standard_170 : decode kc_Mo_standard 170 = .ok (.iload_n 2, 1) := by decide +kernel
theorem kd_Mo_standard_171 : decode kc_Mo_standard 171 = .ok (.invokestatic 729, 3) := by decide +kernel
theorem kd_Mo_standard_174 : decode kc_Mo_standard 174 = .ok (.ireturn, 1) := by decide +kernel
theorem kd_Mo_standard_175 : decode kc_Mo_standard 175 = .ok (.iload_n 2, 1) := by decide +kernel
theorem kd_Mo_standard_176 : decode kc_Mo_standard 176 = .ok (.ireturn, 1) := by decide +kernel
theorem kd_Mo_standard_177 : decode kc_Mo_standard 177 = .ok (.bipush 7, 2) := by decide +kernel
theorem kd_Mo_standard_179 : decode kc_Mo_standard 179 = .ok (.iload_n 2, 1) := by decide +kernel
theorem kd_Mo_standard_180 : decode kc_Mo_standard 180 = .ok (.invokestatic 729, 3) := by decide +kernel
theorem kd_Mo_standard_183 : decode kc_Mo_standard 183 = .ok (.ireturn, 1) := by decide +kernel
theorem kd_Mo_times_0 : decode kc_Mo_times 0 = .ok (.aload_n 0, 1) := by decide +kernel
theorem kd_Mo_times_1 : decode kc_Mo_times 1 = .ok (.getfield 34, 3) := by decide +kernel
theorem kd_Mo_times_4 : decode kc_Mo_times 4 = .ok (.iload_n 1, 1) := by decide +kernel
theorem kd_Mo_times_5 : decode kc_Mo_times 5 = .ok (.iaload, 1) := by decide +kernel
theorem kd_Mo_times_6 : decode kc_Mo_times 6 = .ok (.istore_n 2, 1) := by decide +kernel
theorem kd_Mo_times_7 : decode kc_Mo_times 7 = .ok (.aload_n 0, 1) := by decide +kernel
theorem kd_Mo_times_8 : decode kc_Mo_times 8 = .ok (.getfield 40, 3) := by decide +kernel
theorem kd_Mo_times_11 : decode kc_Mo_times 11 = .ok (.iload_n 2, 1) := by decide +kernel
theorem kd_Mo_times_12 : decode kc_Mo_times 12 = .ok (.iaload, 1) := by decide +kernel
theorem kd_Mo_times_13 : decode kc_Mo_times 13 = .ok (.istore_n 3, 1) := by decide +kernel
theorem kd_Mo_times_14 : decode kc_Mo_times 14 = .ok (.aload_n 0, 1) := by decide +kernel
theorem kd_Mo_times_15 : decode kc_Mo_times 15 = .ok (.getfield 22, 3) := by decide +kernel
theorem kd_Mo_times_18 : decode kc_Mo_times 18 = .ok (.aload_n 0, 1) := by decide +kernel
theorem kd_Mo_times_19 : decode kc_Mo_times 19 = .ok (.getfield 40, 3) := by decide +kernel
theorem kd_Mo_times_22 : decode kc_Mo_times 22 = .ok (.iload_n 3, 1) := by decide +kernel
theorem kd_Mo_times_23 : decode kc_Mo_times 23 = .ok (.iaload, 1) := by decide +kernel
theorem kd_Mo_times_24 : decode kc_Mo_times 24 = .ok (.iaload, 1) := by decide +kernel
theorem kd_Mo_times_25 : decode kc_Mo_times 25 = .ok (.bipush 11, 2) := by decide +kernel
theorem kd_Mo_times_27 : decode kc_Mo_times 27 = .ok (.if_icmp .ne 7, 3) := by decide +kernel
theorem kd_Mo_times_30 : decode kc_Mo_times 30 = .ok (.lconst 1, 1) := by decide +kernel
theorem kd_Mo_times_31 : decode kc_Mo_times 31 = .ok (.goto 15, 3) := by decide +kernel
theorem kd_Mo_times_34 : decode kc_Mo_times 34 = .ok (.aload_n 0, 1) := by decide +kernel
theorem kd_Mo_times_35 : decode kc_Mo_times 35 = .ok (.getfield 28, 3) := by decide +kernel
theorem kd_Mo_times_38 : decode kc_Mo_times 38 = .ok (.aload_n 0, 1) := by decide +kernel
theorem kd_Mo_times_39 : decode kc_Mo_times 39 = .ok (.getfield 40, 3) := by decide +kernel
theorem kd_Mo_times_42 : decode kc_Mo_times 42 = .ok (.iload_n 3, 1) := by decide +kernel
theorem kd_Mo_times_43 : decode kc_Mo_times 43 = .ok (.iaload, 1) := by decide +kernel
theorem kd_Mo_times_44 : decode kc_Mo_times 44 = .ok (.iaload, 1) := by decide +kernel
theorem kd_Mo_times_45 : decode kc_Mo_times 45 = .ok (.i2l, 1) := by decide +kernel
theorem kd_Mo_times_46 : decode kc_Mo_times 46 = .ok (.lstore 4, 2) := by decide +kernel
theorem kd_Mo_times_48 : decode kc_Mo_times 48 = .ok (.aload_n 0, 1) := by decide +kernel
theorem kd_Mo_times_49 : decode kc_Mo_times 49 = .ok (.getfield 28, 3) := by decide +kernel
theorem kd_Mo_times_52 : decode kc_Mo_times 52 = .ok (.iload_n 3, 1) := by decide +kernel
theorem kd_Mo_times_53 : decode kc_Mo_times 53 = .ok (.iaload, 1) := by decide +kernel
theorem kd_Mo_times_54 : decode kc_Mo_times 54 = .ok (.i2l, 1) := by decide +kernel
theorem kd_Mo_times_55 : decode kc_Mo_times 55 = .ok (.aload_n 0, 1) := by decide +kernel
theorem kd_Mo_times_56 : decode kc_Mo_times 56 = .ok (.getfield 28, 3) := by decide +kernel
theorem kd_Mo_times_59 : decode kc_Mo_times 59 = .ok (.iload_n 2, 1) := by decide +kernel
theorem kd_Mo_times_60 : decode kc_Mo_times 60 = .ok (.iaload, 1) := by decide +kernel
theorem kd_Mo_times_61 : decode kc_Mo_times 61 = .ok (.i2l, 1) := by decide +kernel
theorem kd_Mo_times_62 : decode kc_Mo_times 62 = .ok (.lsub, 1) := by decide +kernel
theorem kd_Mo_times_63 : decode kc_Mo_times 63 = .ok (.lstore 6, 2) := by decide +kernel
theorem kd_Mo_times_65 : decode kc_Mo_times 65 = .ok (.lload 6, 2) := by decide +kernel
theorem kd_Mo_times_67 : decode kc_Mo_times 67 = .ok (.lconst 0, 1) := by decide +kernel
theorem kd_Mo_times_68 : decode kc_Mo_times 68 = .ok (.lcmp, 1) := by decide +kernel
theorem kd_Mo_times_69 : decode kc_Mo_times 69 = .ok (.ifCond .eq 34, 3) := by decide +kernel
theorem kd_Mo_times_72 : decode kc_Mo_times 72 = .ok (.lload 6, 2) := by decide +kernel
theorem kd_Mo_times_74 : decode kc_Mo_times 74 = .ok (.lconst 0, 1) := by decide +kernel
theorem kd_Mo_times_75 : decode kc_Mo_times 75 = .ok (.lcmp, 1) := by decide +kernel
theorem kd_Mo_times_76 : decode kc_Mo_times 76 = .ok (.ifCond .le 7, 3) := by decide +kernel
theorem kd_Mo_times_79 : decode kc_Mo_times 79 = .ok (.iconst 1, 1) := by decide +kernel
theorem kd_Mo_times_80 : decode kc_Mo_times 80 = .ok (.goto 4, 3) := by decide +kernel
theorem kd_Mo_times_83 : decode kc_Mo_times 83 = .ok (.iconst 0, 1) := by decide +kernel
theorem kd_Mo_times_84 : decode kc_Mo_times 84 = .ok (.lload 4, 2) := by decide +kernel
theorem kd_Mo_times_86 : decode kc_Mo_times 86 = .ok (.lconst 0, 1) := by decide +kernel
theorem kd_Mo_times_87 : decode kc_Mo_times 87 = .ok (.lcmp, 1) := by decide +kernel
theorem kd_Mo_times_88 : decode kc_Mo_times 88 = .ok (.ifCond .le 7, 3) := by decide +kernel
theorem kd_Mo_times_91 : decode kc_Mo_times 91 = .ok (.iconst 1, 1) := by decide +kernel
theorem kd_Mo_times_92 : decode kc_Mo_times 92 = .ok (.goto 4, 3) := by decide +kernel
theorem kd_Mo_times_95 : decode kc_Mo_times 95 = .ok (.iconst 0, 1) := by decide +kernel
theorem kd_Mo_times_96 : decode kc_Mo_times 96 = .ok (.if_icmp .eq 7, 3) := by decide +kernel
theorem kd_Mo_times_99 : decode kc_Mo_times 99 = .ok (.iconst 0, 1) := by decide +kernel
theorem kd_Mo_times_100 : decode kc_Mo_times 100 = .ok (.goto 11, 3) := by decide +kernel
theorem kd_Mo_times_103 : decode kc_Mo_times 103 = .ok (.lload 6, 2) := by decide +kernel
theorem kd_Mo_times_105 : decode kc_Mo_times 105 = .ok (.lload 4, 2) := by decide +kernel
theorem kd_Mo_times_107 : decode kc_Mo_times 107 = .ok (.ldiv, 1) := by decide +kernel
theorem kd_Mo_times_108 : decode kc_Mo_times 108 = .ok (.lconst 1, 1) := by decide +kernel
theorem kd_Mo_times_109 : decode kc_Mo_times 109 = .ok (.ladd, 1) := by decide +kernel
theorem kd_Mo_times_110 : decode kc_Mo_times 110 = .ok (.l2i, 1) := by decide +kernel
theorem kd_Mo_times_111 : decode kc_Mo_times 111 = .ok (.ireturn, 1) := by decide +kernel
theorem kd_Mo_valueAlone_0 : decode kc_Mo_valueAlone 0 = .ok (.aload_n 0, 1) := by decide +kernel
theorem kd_Mo_valueAlone_1 : decode kc_Mo_valueAlone 1 = .ok (.getfield 34, 3) := by decide +kernel
theorem kd_Mo_valueAlone_4 : decode kc_Mo_valueAlone 4 = .ok (.iload_n 1, 1) := by decide +kernel
theorem kd_Mo_valueAlone_5 : decode kc_Mo_valueAlone 5 = .ok (.iaload, 1) := by decide +kernel
theorem kd_Mo_valueAlone_6 : decode kc_Mo_valueAlone 6 = .ok (.ifCond .ge 10, 3) := by decide +kernel
theorem kd_Mo_valueAlone_9 : decode kc_Mo_valueAlone 9 = .ok (.aload_n 0, 1) := by decide +kernel
theorem kd_Mo_valueAlone_10 : decode kc_Mo_valueAlone 10 = .ok (.getfield 28, 3) := by decide +kernel
theorem kd_Mo_valueAlone_13 : decode kc_Mo_valueAlone 13 = .ok (.iload_n 1, 1) := by decide +kernel
theorem kd_Mo_valueAlone_14 : decode kc_Mo_valueAlone 14 = .ok (.iaload, 1) := by decide +kernel
theorem kd_Mo_valueAlone_15 : decode kc_Mo_valueAlone 15 = .ok (.ireturn, 1) := by decide +kernel
theorem kd_Mo_valueAlone_16 : decode kc_Mo_valueAlone 16 = .ok (.aload_n 0, 1) := by decide +kernel
theorem kd_Mo_valueAlone_17 : decode kc_Mo_valueAlone 17 = .ok (.aload_n 0, 1) := by decide +kernel
theorem kd_Mo_valueAlone_18 : decode kc_Mo_valueAlone 18 = .ok (.getfield 34, 3) := by decide +kernel
theorem kd_Mo_valueAlone_21 : decode kc_Mo_valueAlone 21 = .ok (.iload_n 1, 1) := by decide +kernel
theorem kd_Mo_valueAlone_22 : decode kc_Mo_valueAlone 22 = .ok (.iaload, 1) := by decide +kernel
theorem kd_Mo_valueAlone_23 : decode kc_Mo_valueAlone 23 = .ok (.invokevirtual 714, 3) := by decide +kernel
theorem kd_Mo_valueAlone_26 : decode kc_Mo_valueAlone 26 = .ok (.istore_n 2, 1) := by decide +kernel
theorem kd_Mo_valueAlone_27 : decode kc_Mo_valueAlone 27 = .ok (.aload_n 0, 1) := by decide +kernel
theorem kd_Mo_valueAlone_28 : decode kc_Mo_valueAlone 28 = .ok (.getfield 40, 3) := by decide +kernel
theorem kd_Mo_valueAlone_31 : decode kc_Mo_valueAlone 31 = .ok (.aload_n 0, 1) := by decide +kernel
theorem kd_Mo_valueAlone_32 : decode kc_Mo_valueAlone 32 = .ok (.getfield 34, 3) := by decide +kernel
theorem kd_Mo_valueAlone_35 : decode kc_Mo_valueAlone 35 = .ok (.iload_n 1, 1) := by decide +kernel
theorem kd_Mo_valueAlone_36 : decode kc_Mo_valueAlone 36 = .ok (.iaload, 1) := by decide +kernel
theorem kd_Mo_valueAlone_37 : decode kc_Mo_valueAlone 37 = .ok (.iaload, 1) := by decide +kernel
theorem kd_Mo_valueAlone_38 : decode kc_Mo_valueAlone 38 = .ok (.istore_n 3, 1) := by decide +kernel
theorem kd_Mo_valueAlone_39 : decode kc_Mo_valueAlone 39 = .ok (.iload_n 3, 1) := by decide +kernel
theorem kd_Mo_valueAlone_40 : decode kc_Mo_valueAlone 40 = .ok (.ifCond .ge 7, 3) := by decide +kernel
theorem kd_Mo_valueAlone_43 : decode kc_Mo_valueAlone 43 = .ok (.iconst 0, 1) := by decide +kernel
theorem kd_Mo_valueAlone_44 : decode kc_Mo_valueAlone 44 = .ok (.goto 8, 3) := by decide +kernel
theorem kd_Mo_valueAlone_47 : decode kc_Mo_valueAlone 47 = .ok (.aload_n 0, 1) := by decide +kernel
theorem kd_Mo_valueAlone_48 : decode kc_Mo_valueAlone 48 = .ok (.iload_n 3, 1) := by decide +kernel
theorem kd_Mo_valueAlone_49 : decode kc_Mo_valueAlone 49 = .ok (.invokevirtual 714, 3) := by decide +kernel
theorem kd_Mo_valueAlone_52 : decode kc_Mo_valueAlone 52 = .ok (.istore 4, 2) := by decide +kernel
theorem kd_Mo_valueAlone_54 : decode kc_Mo_valueAlone 54 = .ok (.iload_n 3, 1) := by decide +kernel
theorem kd_Mo_valueAlone_55 : decode kc_Mo_valueAlone 55 = .ok (.ifCond .lt 12, 3) := by decide +kernel
theorem kd_Mo_valueAlone_58 : decode kc_Mo_valueAlone 58 = .ok (.aload_n 0, 1) := by decide +kernel
theorem kd_Mo_valueAlone_59 : decode kc_Mo_valueAlone 59 = .ok (.getfield 40, 3) := by decide +kernel
theorem kd_Mo_valueAlone_62 : decode kc_Mo_valueAlone 62 = .ok (.iload_n 3, 1) := by decide +kernel
theorem kd_Mo_valueAlone_63 : decode kc_Mo_valueAlone 63 = .ok (.iaload, 1) := by decide +kernel
theorem kd_Mo_valueAlone_64 : decode kc_Mo_valueAlone 64 = .ok (.ifCond .ge 7, 3) := by decide +kernel
theorem kd_Mo_valueAlone_67 : decode kc_Mo_valueAlone 67 = .ok (.iconst 0, 1) := by decide +kernel
theorem kd_Mo_valueAlone_68 : decode kc_Mo_valueAlone 68 = .ok (.goto 13, 3) := by decide +kernel
theorem kd_Mo_valueAlone_71 : decode kc_Mo_valueAlone 71 = .ok (.aload_n 0, 1) := by decide +kernel
theorem kd_Mo_valueAlone_72 : decode kc_Mo_valueAlone 72 = .ok (.aload_n 0, 1) := by decide +kernel
theorem kd_Mo_valueAlone_73 : decode kc_Mo_valueAlone 73 = .ok (.getfield 40, 3) := by decide +kernel
theorem kd_Mo_valueAlone_76 : decode kc_Mo_valueAlone 76 = .ok (.iload_n 3, 1) := by decide +kernel
theorem kd_Mo_valueAlone_77 : decode kc_Mo_valueAlone 77 = .ok (.iaload, 1) := by decide +kernel
theorem kd_Mo_valueAlone_78 : decode kc_Mo_valueAlone 78 = .ok (.invokevirtual 714, 3) := by decide +kernel
theorem kd_Mo_valueAlone_81 : decode kc_Mo_valueAlone 81 = .ok (.istore 5, 2) := by decide +kernel
theorem kd_Mo_valueAlone_83 : decode kc_Mo_valueAlone 83 = .ok (.aload_n 0, 1) := by decide +kernel
theorem kd_Mo_valueAlone_84 : decode kc_Mo_valueAlone 84 = .ok (.getfield 22, 3) := by decide +kernel
theorem kd_Mo_valueAlone_87 : decode kc_Mo_valueAlone 87 = .ok (.iload_n 1, 1) := by decide +kernel
theorem kd_Mo_valueAlone_88 : decode kc_Mo_valueAlone 88 = .ok (.iaload, 1) := by decide +kernel
theorem kd_Mo_valueAlone_89 : decode kc_Mo_valueAlone 89 = .ok (.bipush 36, 2) := by decide +kernel
theorem kd_Mo_valueAlone_91 : decode kc_Mo_valueAlone 91 = .ok (.if_icmp .ne 15, 3) := by decide +kernel
theorem kd_Mo_valueAlone_94 : decode kc_Mo_valueAlone 94 = .ok (.aload_n 0, 1) := by decide +kernel
theorem kd_Mo_valueAlone_95 : decode kc_Mo_valueAlone 95 = .ok (.iload_n 1, 1) := by decide +kernel
theorem kd_Mo_valueAlone_96 : decode kc_Mo_valueAlone 96 = .ok (.invokevirtual 726, 3) := by decide +kernel
theorem kd_Mo_valueAlone_99 : decode kc_Mo_valueAlone 99 = .ok (.iload_n 2, 1) := by decide +kernel
theorem kd_Mo_valueAlone_100 : decode kc_Mo_valueAlone 100 = .ok (.invokestatic 729, 3) := by decide +kernel
theorem kd_Mo_valueAlone_103 : decode kc_Mo_valueAlone 103 = .ok (.goto 13, 3) := by decide +kernel
theorem kd_Mo_valueAlone_106 : decode kc_Mo_valueAlone 106 = .ok (.aload_n 0, 1) := by decide +kernel
theorem kd_Mo_valueAlone_107 : decode kc_Mo_valueAlone 107 = .ok (.iload_n 1, 1) := by decide +kernel
theorem kd_Mo_valueAlone_108 : decode kc_Mo_valueAlone 108 = .ok (.iload_n 2, 1) := by decide +kernel
theorem kd_Mo_valueAlone_109 : decode kc_Mo_valueAlone 109 = .ok (.iload 4, 2) := by decide +kernel
theorem kd_Mo_valueAlone_111 : decode kc_Mo_valueAlone 111 = .ok (.iload 5, 2) := by decide +kernel
theorem kd_Mo_valueAlone_113 : decode kc_Mo_valueAlone 113 = .ok (.invokevirtual 732, 3) := by decide +kernel
theorem kd_Mo_valueAlone_116 : decode kc_Mo_valueAlone 116 = .ok (.ireturn, 1) := by decide +kernel
theorem kd_Mo_valueOf_0 : decode kc_Mo_valueOf 0 = .ok (.iload_n 1, 1) := by decide +kernel
theorem kd_Mo_valueOf_1 : decode kc_Mo_valueOf 1 = .ok (.istore_n 2, 1) := by decide +kernel
theorem kd_Mo_valueOf_2 : decode kc_Mo_valueOf 2 = .ok (.aload_n 0, 1) := by decide +kernel
theorem kd_Mo_valueOf_3 : decode kc_Mo_valueOf 3 = .ok (.getfield 22, 3) := by decide +kernel
theorem kd_Mo_valueOf_6 : decode kc_Mo_valueOf 6 = .ok (.iload_n 2, 1) := by decide +kernel
theorem kd_Mo_valueOf_7 : decode kc_Mo_valueOf 7 = .ok (.iaload, 1) := by decide +kernel
theorem kd_Mo_valueOf_8 : decode kc_Mo_valueOf 8 = .ok (.bipush 35, 2) := by decide +kernel
theorem kd_Mo_valueOf_10 : decode kc_Mo_valueOf 10 = .ok (.if_icmp .ne 13, 3) := by decide +kernel
theorem kd_Mo_valueOf_13 : decode kc_Mo_valueOf 13 = .ok (.aload_n 0, 1) := by decide +kernel
theorem kd_Mo_valueOf_14 : decode kc_Mo_valueOf 14 = .ok (.getfield 34, 3) := by decide +kernel
theorem kd_Mo_valueOf_17 : decode kc_Mo_valueOf 17 = .ok (.iload_n 2, 1) := by decide +kernel
theorem kd_Mo_valueOf_18 : decode kc_Mo_valueOf 18 = .ok (.iaload, 1) := by decide +kernel
theorem kd_Mo_valueOf_19 : decode kc_Mo_valueOf 19 = .ok (.istore_n 2, 1) := by decide +kernel
theorem kd_Mo_valueOf_20 : decode kc_Mo_valueOf 20 = .ok (.goto (-18), 3) := by decide +kernel
theorem kd_Mo_valueOf_23 : decode kc_Mo_valueOf 23 = .ok (.aload_n 0, 1) := by decide +kernel
theorem kd_Mo_valueOf_24 : decode kc_Mo_valueOf 24 = .ok (.iload_n 2, 1) := by decide +kernel
theorem kd_Mo_valueOf_25 : decode kc_Mo_valueOf 25 = .ok (.invokevirtual 717, 3) := by decide +kernel
theorem kd_Mo_valueOf_28 : decode kc_Mo_valueOf 28 = .ok (.istore_n 3, 1) := by decide +kernel
theorem kd_Mo_valueOf_29 : decode kc_Mo_valueOf 29 = .ok (.iload_n 2, 1) := by decide +kernel
theorem kd_Mo_valueOf_30 : decode kc_Mo_valueOf 30 = .ok (.iload_n 1, 1) := by decide +kernel
theorem kd_Mo_valueOf_31 : decode kc_Mo_valueOf 31 = .ok (.if_icmp .eq 33, 3) := by decide +kernel
theorem kd_Mo_valueOf_34 : decode kc_Mo_valueOf 34 = .ok (.aload_n 0, 1) := by decide +kernel
theorem kd_Mo_valueOf_35 : decode kc_Mo_valueOf 35 = .ok (.getfield 31, 3) := by decide +kernel
theorem kd_Mo_valueOf_38 : decode kc_Mo_valueOf 38 = .ok (.iload_n 2, 1) := by decide +kernel
theorem kd_Mo_valueOf_39 : decode kc_Mo_valueOf 39 = .ok (.iaload, 1) := by decide +kernel
theorem kd_Mo_valueOf_40 : decode kc_Mo_valueOf 40 = .ok (.istore_n 2, 1) := by decide +kernel
theorem kd_Mo_valueOf_41 : decode kc_Mo_valueOf 41 = .ok (.aload_n 0, 1) := by decide +kernel
theorem kd_Mo_valueOf_42 : decode kc_Mo_valueOf 42 = .ok (.iload_n 2, 1) := by decide +kernel
theorem kd_Mo_valueOf_43 : decode kc_Mo_valueOf 43 = .ok (.invokevirtual 720, 3) := by decide +kernel
theorem kd_Mo_valueOf_46 : decode kc_Mo_valueOf 46 = .ok (.iload_n 3, 1) := by decide +kernel
theorem kd_Mo_valueOf_47 : decode kc_Mo_valueOf 47 = .ok (.aload_n 0, 1) := by decide +kernel
theorem kd_Mo_valueOf_48 : decode kc_Mo_valueOf 48 = .ok (.aload_n 0, 1) := by decide +kernel
theorem kd_Mo_valueOf_49 : decode kc_Mo_valueOf 49 = .ok (.getfield 37, 3) := by decide +kernel
theorem kd_Mo_valueOf_52 : decode kc_Mo_valueOf 52 = .ok (.iload_n 2, 1) := by decide +kernel
theorem kd_Mo_valueOf_53 : decode kc_Mo_valueOf 53 = .ok (.iaload, 1) := by decide +kernel
theorem kd_Mo_valueOf_54 : decode kc_Mo_valueOf 54 = .ok (.invokevirtual 714, 3) := by decide +kernel
theorem kd_Mo_valueOf_57 : decode kc_Mo_valueOf 57 = .ok (.invokestatic 723, 3) := by decide +kernel
theorem kd_Mo_valueOf_60 : decode kc_Mo_valueOf 60 = .ok (.istore_n 3, 1) := by decide +kernel
theorem kd_Mo_valueOf_61 : decode kc_Mo_valueOf 61 = .ok (.goto (-32), 3) := by decide +kernel
theorem kd_Mo_valueOf_64 : decode kc_Mo_valueOf 64 = .ok (.iload_n 3, 1) := by decide +kernel
theorem kd_Mo_valueOf_65 : decode kc_Mo_valueOf 65 = .ok (.ireturn, 1) := by decide +kernel
set_option maxHeartbeats 4000000 in
set_option maxRecDepth 100000 in
theorem zb_Mo_lookAtElement_80 {X : zkj_T} {S : zs_T} {P : ze_T} {l : Launch} {D : va_G} {sz0 : Nat} {rh : zs_H} (C : zk_C X km_Mo_lookAtElement (zs_G S l D sz0) { frames := 2, cells := 0, slots := 0, locals := 45 } (ze_E P)) (hR : zkj_R X (zd_PV S rh) (none)) (h : zs_H) (x1 : Int32) (x2 : Int32) (y0 : Int32) (e : f_Mo_lookAtElement_80 h x1 x2 y0 = some rh) : zk_Ab X (zs_W S h) 0 0 80 [(0, .ref (S.1 68)), (1, .int x1), (2, .int x2)] [.int y0, .ref (S.1 68)] := by
  unfold f_Mo_lookAtElement_80 at e
  refine zk_bipush (v := 22) C kd_Mo_lookAtElement_80 (by decide) rfl ?_
  refine zk_iload_n C kd_Mo_lookAtElement_82 rfl 1 rfl rfl ?_
  obtain ⟨h2, c1, e⟩ := zd_b e
  refine zs_callV (k := 68) (rn := { frames := 1, cells := 0, slots := 0, locals := 22 }) (As := [.int y0, .int 22, .int x1]) (rest := []) C (zc_Mo_rule h y0 22 x1 c1) ku_Mo_rule kw2260 kv_Mo_rule rfl ⟨by decide, by decide⟩ ⟨by decide, by decide⟩ rfl rfl rfl (Nat.le_of_ble_eq_true rfl) kd_Mo_lookAtElement_83 rfl (c1 := 0) (s1 := 0) rfl rfl (fun v w hp => ?_)
  obtain ⟨rfl, rfl⟩ := hp
  refine zk_stk (r' := []) rfl ?_
  refine zk_aload_n C kd_Mo_lookAtElement_86 rfl 0 rfl rfl ?_
  refine zs_get (v := .int (h2.1 68 29)) C 68 29 rfl rfl rfl rfl ki_Mo (by decide) kw1712 kd_Mo_lookAtElement_87 rfl ?_
  refine zk_if_ne (tgt := 117) C kd_Mo_lookAtElement_90 (by decide) rfl (fun b3 => ?_) (fun b3 => ?_)
  · replace e := zd_neg b3 e
    exact zk_vret C hR kd_Mo_lookAtElement_117 rfl rfl (zd_rV e)
  · replace e := zd_pos b3 e
    refine zk_aload_n C kd_Mo_lookAtElement_93 rfl 0 rfl rfl ?_
    refine zs_get (v := .ref (S.1 100)) C 68 51 rfl rfl rfl rfl ki_Mo (by decide) kw1734 kd_Mo_lookAtElement_94 rfl ?_
    refine zk_iload_n C kd_Mo_lookAtElement_97 rfl 1 rfl rfl ?_
    refine zk_aload_n C kd_Mo_lookAtElement_98 rfl 0 rfl rfl ?_
    refine zs_get (v := .ref (S.1 93)) C 68 44 rfl rfl rfl rfl ki_Mo (by decide) kw1727 kd_Mo_lookAtElement_99 rfl ?_
    refine zk_iload_n C kd_Mo_lookAtElement_102 rfl 2 rfl rfl ?_
    obtain ⟨q4, e⟩ := zd_g e
    refine zs_iald C 93 rfl (zd_vp q4) kd_Mo_lookAtElement_103 rfl ?_
    obtain ⟨q5, e⟩ := zd_g e
    refine zs_iast C 100 rfl (zd_vp q5) kd_Mo_lookAtElement_104 rfl ?_
    refine zk_aload_n C kd_Mo_lookAtElement_105 rfl 0 rfl rfl ?_
    refine zs_get (v := .ref (S.1 101)) C 68 52 rfl rfl rfl rfl ki_Mo (by decide) kw1735 kd_Mo_lookAtElement_106 rfl ?_
    refine zk_iload_n C kd_Mo_lookAtElement_109 rfl 1 rfl rfl ?_
    refine zk_aload_n C kd_Mo_lookAtElement_110 rfl 0 rfl rfl ?_
    refine zs_get (v := .ref (S.1 94)) C 68 45 rfl rfl rfl rfl ki_Mo (by decide) kw1728 kd_Mo_lookAtElement_111 rfl ?_
    refine zk_iload_n C kd_Mo_lookAtElement_114 rfl 2 rfl rfl ?_
    refine zs_iald C 94 rfl (zd_vp q4) kd_Mo_lookAtElement_115 rfl ?_
    refine zk_stk (r' := [.int (h2.2.1 94 x2.toNatClampNeg), .int x1, .ref (S.1 101)]) rfl ?_
    refine zs_iast C 101 rfl (zd_vp q5) kd_Mo_lookAtElement_116 rfl ?_
    exact zk_vret C hR kd_Mo_lookAtElement_117 rfl rfl (zd_rV e)
set_option maxHeartbeats 4000000 in
set_option maxRecDepth 100000 in
theorem zb_Mo_lookAtElement_51 {X : zkj_T} {S : zs_T} {P : ze_T} {l : Launch} {D : va_G} {sz0 : Nat} {rh : zs_H} (C : zk_C X km_Mo_lookAtElement (zs_G S l D sz0) { frames := 2, cells := 0, slots := 0, locals := 45 } (ze_E P)) (hR : zkj_R X (zd_PV S rh) (none)) (h : zs_H) (x1 : Int32) (x2 : Int32) (y0 : Int32) (e : f_Mo_lookAtElement_51 h x1 x2 y0 = some rh) : zk_Ab X (zs_W S h) 0 0 51 [(0, .ref (S.1 68)), (1, .int x1), (2, .int x2)] [.int y0, .ref (S.1 68)] := by
  unfold f_Mo_lookAtElement_51 at e
  refine zk_bipush (v := 21) C kd_Mo_lookAtElement_51 (by decide) rfl ?_
  refine zk_iload_n C kd_Mo_lookAtElement_53 rfl 1 rfl rfl ?_
  obtain ⟨h2, c1, e⟩ := zd_b e
  refine zs_callV (k := 68) (rn := { frames := 1, cells := 0, slots := 0, locals := 22 }) (As := [.int y0, .int 21, .int x1]) (rest := []) C (zc_Mo_rule h y0 21 x1 c1) ku_Mo_rule kw2260 kv_Mo_rule rfl ⟨by decide, by decide⟩ ⟨by decide, by decide⟩ rfl rfl rfl (Nat.le_of_ble_eq_true rfl) kd_Mo_lookAtElement_54 rfl (c1 := 0) (s1 := 0) rfl rfl (fun v w hp => ?_)
  obtain ⟨rfl, rfl⟩ := hp
  refine zk_stk (r' := []) rfl ?_
  refine zk_aload_n C kd_Mo_lookAtElement_57 rfl 0 rfl rfl ?_
  refine zk_aload_n C kd_Mo_lookAtElement_58 rfl 0 rfl rfl ?_
  refine zs_get (v := .ref (S.1 100)) C 68 51 rfl rfl rfl rfl ki_Mo (by decide) kw1734 kd_Mo_lookAtElement_59 rfl ?_
  refine zk_aload_n C kd_Mo_lookAtElement_62 rfl 0 rfl rfl ?_
  refine zs_get (v := .ref (S.1 76)) C 68 19 rfl rfl rfl rfl ki_Mo (by decide) kw1702 kd_Mo_lookAtElement_63 rfl ?_
  refine zk_iload_n C kd_Mo_lookAtElement_66 rfl 1 rfl rfl ?_
  obtain ⟨q3, e⟩ := zd_g e
  refine zs_iald C 76 rfl (zd_vp q3) kd_Mo_lookAtElement_67 rfl ?_
  obtain ⟨q4, e⟩ := zd_g e
  refine zs_iald C 100 rfl (zd_vp q4) kd_Mo_lookAtElement_68 rfl ?_
  refine zk_callS (rn := { frames := 0, cells := 0, slots := 0, locals := 0 }) (As := [.int (h2.2.1 100 (h2.2.1 76 x1.toNatClampNeg).toNatClampNeg)]) (rest := [.ref (S.1 68)]) C (zc_Mo_isNumber h2 (h2.2.1 100 (h2.2.1 76 x1.toNatClampNeg).toNatClampNeg)) ku_Mo_isNumber kw2469 ks_Mo_isNumber rfl ⟨by decide, by decide⟩ ⟨by decide, by decide⟩ rfl (Nat.le_of_ble_eq_true rfl) kd_Mo_lookAtElement_69 rfl (c1 := 0) (s1 := 0) rfl rfl (fun v w hp => ?_)
  obtain ⟨rfl, rfl, z5⟩ := hp
  refine zk_stk (r' := [.int (f_Mo_isNumber (h2.2.1 100 (h2.2.1 76 x1.toNatClampNeg).toNatClampNeg)), .ref (S.1 68)]) rfl ?_
  refine zk_if_ne (tgt := 79) C kd_Mo_lookAtElement_72 (by decide) rfl (fun b6 => ?_) (fun b6 => ?_)
  · replace e := zd_neg b6 e
    refine zk_iconst (v := 0) C kd_Mo_lookAtElement_79 (by decide) rfl ?_
    refine zk_lvs (lv' := [(0, .ref (S.1 68)), (1, .int x1), (2, .int x2)]) [0, 1, 2] rfl ?_
    exact zb_Mo_lookAtElement_80 C hR h2 x1 x2 0 e
  · replace e := zd_pos b6 e
    refine zk_iconst (v := 1) C kd_Mo_lookAtElement_75 (by decide) rfl ?_
    refine zk_goto (tgt := 80) C kd_Mo_lookAtElement_76 (by decide) ?_
    refine zk_lvs (lv' := [(0, .ref (S.1 68)), (1, .int x1), (2, .int x2)]) [0, 1, 2] rfl ?_
    exact zb_Mo_lookAtElement_80 C hR h2 x1 x2 1 e
set_option maxHeartbeats 4000000 in
set_option maxRecDepth 100000 in
theorem zb_Mo_lookAtElement_50 {X : zkj_T} {S : zs_T} {P : ze_T} {l : Launch} {D : va_G} {sz0 : Nat} {rh : zs_H} (C : zk_C X km_Mo_lookAtElement (zs_G S l D sz0) { frames := 2, cells := 0, slots := 0, locals := 45 } (ze_E P)) (hR : zkj_R X (zd_PV S rh) (none)) (h : zs_H) (x1 : Int32) (x2 : Int32) (e : f_Mo_lookAtElement_50 h x1 x2 = some rh) : zk_Ab X (zs_W S h) 0 0 50 [(0, .ref (S.1 68)), (1, .int x1), (2, .int x2)] [.ref (S.1 68)] := by
  unfold f_Mo_lookAtElement_50 at e
  refine zk_iconst (v := 0) C kd_Mo_lookAtElement_50 (by decide) rfl ?_
  refine zk_lvs (lv' := [(0, .ref (S.1 68)), (1, .int x1), (2, .int x2)]) [0, 1, 2] rfl ?_
  exact zb_Mo_lookAtElement_51 C hR h x1 x2 0 e
set_option maxHeartbeats 4000000 in
set_option maxRecDepth 100000 in
theorem zb_Mo_lookAtElement_25 {X : zkj_T} {S : zs_T} {P : ze_T} {l : Launch} {D : va_G} {sz0 : Nat} {rh : zs_H} (C : zk_C X km_Mo_lookAtElement (zs_G S l D sz0) { frames := 2, cells := 0, slots := 0, locals := 45 } (ze_E P)) (hR : zkj_R X (zd_PV S rh) (none)) (h : zs_H) (x1 : Int32) (x2 : Int32) (y0 : Int32) (e : f_Mo_lookAtElement_25 h x1 x2 y0 = some rh) : zk_Ab X (zs_W S h) 0 0 25 [(0, .ref (S.1 68)), (1, .int x1), (2, .int x2)] [.int y0, .ref (S.1 68)] := by
  unfold f_Mo_lookAtElement_25 at e
  refine zk_bipush (v := 20) C kd_Mo_lookAtElement_25 (by decide) rfl ?_
  refine zk_iload_n C kd_Mo_lookAtElement_27 rfl 1 rfl rfl ?_
  obtain ⟨h2, c1, e⟩ := zd_b e
  refine zs_callV (k := 68) (rn := { frames := 1, cells := 0, slots := 0, locals := 22 }) (As := [.int y0, .int 20, .int x1]) (rest := []) C (zc_Mo_rule h y0 20 x1 c1) ku_Mo_rule kw2260 kv_Mo_rule rfl ⟨by decide, by decide⟩ ⟨by decide, by decide⟩ rfl rfl rfl (Nat.le_of_ble_eq_true rfl) kd_Mo_lookAtElement_28 rfl (c1 := 0) (s1 := 0) rfl rfl (fun v w hp => ?_)
  obtain ⟨rfl, rfl⟩ := hp
  refine zk_stk (r' := []) rfl ?_
  refine zk_aload_n C kd_Mo_lookAtElement_31 rfl 0 rfl rfl ?_
  refine zk_iload_n C kd_Mo_lookAtElement_32 rfl 2 rfl rfl ?_
  refine zk_if_lt (tgt := 50) C kd_Mo_lookAtElement_33 (by decide) rfl (fun b3 => ?_) (fun b3 => ?_)
  · replace e := zd_pos b3 e
    refine zk_lvs (lv' := [(0, .ref (S.1 68)), (1, .int x1), (2, .int x2)]) [0, 1, 2] rfl ?_
    exact zb_Mo_lookAtElement_50 C hR h2 x1 x2 e
  · replace e := zd_neg b3 e
    refine zk_aload_n C kd_Mo_lookAtElement_36 rfl 0 rfl rfl ?_
    refine zs_get (v := .ref (S.1 92)) C 68 43 rfl rfl rfl rfl ki_Mo (by decide) kw1726 kd_Mo_lookAtElement_37 rfl ?_
    refine zk_iload_n C kd_Mo_lookAtElement_40 rfl 2 rfl rfl ?_
    obtain ⟨q4, e⟩ := zd_g e
    refine zs_iald C 92 rfl (zd_vp q4) kd_Mo_lookAtElement_41 rfl ?_
    refine zk_iconst (v := 1) C kd_Mo_lookAtElement_42 (by decide) rfl ?_
    refine zk_icmp_eq (tgt := 50) C kd_Mo_lookAtElement_43 (by decide) rfl (fun b5 => ?_) (fun b5 => ?_)
    · replace e := zd_pos b5 e
      refine zk_lvs (lv' := [(0, .ref (S.1 68)), (1, .int x1), (2, .int x2)]) [0, 1, 2] rfl ?_
      exact zb_Mo_lookAtElement_50 C hR h2 x1 x2 e
    · replace e := zd_neg b5 e
      refine zk_iconst (v := 1) C kd_Mo_lookAtElement_46 (by decide) rfl ?_
      refine zk_goto (tgt := 51) C kd_Mo_lookAtElement_47 (by decide) ?_
      refine zk_lvs (lv' := [(0, .ref (S.1 68)), (1, .int x1), (2, .int x2)]) [0, 1, 2] rfl ?_
      exact zb_Mo_lookAtElement_51 C hR h2 x1 x2 1 e
set_option maxHeartbeats 4000000 in
set_option maxRecDepth 100000 in
theorem zc_Mo_lookAtElement {l : Launch} {D : va_G} {sz0 : Nat} {S : zs_T} {P : ze_T} (h : zs_H) (x1 : Int32) {rh : zs_H} (e : f_Mo_lookAtElement h x1 = some rh) : zk_Sp (zs_G S l D sz0) (ze_E P) km_Mo_lookAtElement { frames := 2, cells := 0, slots := 0, locals := 45 } [.ref (S.1 68), .int x1] (zs_W S h) (zd_PV S rh) := by
  refine zk_met ku_Mo_lookAtElement (Nat.le_of_ble_eq_true rfl) (ze_Em P) ?_
  intro X C hR
  refine zk_lvs (lv' := [(0, .ref (S.1 68)), (1, .int x1)]) [0, 1] rfl ?_
  unfold f_Mo_lookAtElement at e
  refine zk_aload_n C kd_Mo_lookAtElement_0 rfl 0 rfl rfl ?_
  refine zk_aload_n C kd_Mo_lookAtElement_1 rfl 0 rfl rfl ?_
  refine zs_get (v := .int (h.1 68 54)) C 68 54 rfl rfl rfl rfl ki_Mo (by decide) kw1737 kd_Mo_lookAtElement_2 rfl ?_
  refine zk_aload_n C kd_Mo_lookAtElement_5 rfl 0 rfl rfl ?_
  refine zs_get (v := .ref (S.1 74)) C 68 17 rfl rfl rfl rfl ki_Mo (by decide) kw1700 kd_Mo_lookAtElement_6 rfl ?_
  refine zk_iload_n C kd_Mo_lookAtElement_9 rfl 1 rfl rfl ?_
  obtain ⟨q1, e⟩ := zd_g e
  refine zs_iald C 74 rfl (zd_vp q1) kd_Mo_lookAtElement_10 rfl ?_
  obtain ⟨v3, c2, e⟩ := zd_b e
  refine zs_callV (k := 68) (rn := { frames := 0, cells := 0, slots := 0, locals := 0 }) (As := [.int (h.1 68 54), .int (h.2.1 74 x1.toNatClampNeg)]) (rest := []) C (zc_Mo_variable h (h.1 68 54) (h.2.1 74 x1.toNatClampNeg) c2) ku_Mo_variable kw2327 kv_Mo_variable rfl ⟨by decide, by decide⟩ ⟨by decide, by decide⟩ rfl rfl rfl (Nat.le_of_ble_eq_true rfl) kd_Mo_lookAtElement_11 rfl (c1 := 0) (s1 := 0) rfl rfl (fun v w hp => ?_)
  obtain ⟨rfl, rfl⟩ := hp
  refine zk_stk (r' := [.int v3]) rfl ?_
  refine zk_istore_n (lv' := [(2, _), (0, _), (1, _)]) C kd_Mo_lookAtElement_14 rfl (by decide) rfl rfl ?_
  refine zk_aload_n C kd_Mo_lookAtElement_15 rfl 1 rfl rfl ?_
  refine zk_iload_n C kd_Mo_lookAtElement_16 rfl 0 rfl rfl ?_
  refine zk_if_ge (tgt := 24) C kd_Mo_lookAtElement_17 (by decide) rfl (fun b4 => ?_) (fun b4 => ?_)
  · replace e := zd_pos b4 e
    refine zk_iconst (v := 0) C kd_Mo_lookAtElement_24 (by decide) rfl ?_
    refine zk_lvs (lv' := [(0, .ref (S.1 68)), (1, .int x1), (2, .int v3)]) [1, 2, 0] rfl ?_
    exact zb_Mo_lookAtElement_25 C hR h x1 v3 0 e
  · replace e := zd_neg b4 e
    refine zk_iconst (v := 1) C kd_Mo_lookAtElement_20 (by decide) rfl ?_
    refine zk_goto (tgt := 25) C kd_Mo_lookAtElement_21 (by decide) ?_
    refine zk_lvs (lv' := [(0, .ref (S.1 68)), (1, .int x1), (2, .int v3)]) [1, 2, 0] rfl ?_
    exact zb_Mo_lookAtElement_25 C hR h x1 v3 1 e
set_option maxHeartbeats 4000000 in
set_option maxRecDepth 100000 in
theorem zb_Mo_emit_64 {X : zkj_T} {S : zs_T} {P : ze_T} {l : Launch} {D : va_G} {sz0 : Nat} {rv : Int32} {rh : zs_H} (C : zk_C X km_Mo_emit (zs_G S l D sz0) { frames := 0, cells := 0, slots := 0, locals := 0 } (ze_E P)) (hR : zkj_R X (zd_PI S rv rh) (some .int)) (h : zs_H) (e : f_Mo_emit_64 h = some (rv, rh)) : zk_Ab X (zs_W S h) 0 0 64 [(0, .ref (S.1 68))] [] := by
  unfold f_Mo_emit_64 at e
  refine zk_aload_n C kd_Mo_emit_64 rfl 0 rfl rfl ?_
  refine zk_dup C kd_Mo_emit_65 rfl rfl ?_
  refine zs_get (v := .int (h.1 68 56)) C 68 56 rfl rfl rfl rfl ki_Mo (by decide) kw1739 kd_Mo_emit_66 rfl ?_
  refine zk_iconst (v := 1) C kd_Mo_emit_69 (by decide) rfl ?_
  refine zk_iadd C kd_Mo_emit_70 rfl ?_
  refine zs_put (ty := .int) C 68 56 ((h.1 68 56) + 1) rfl rfl rfl rfl ki_Mo ky_Mo ko_Mo kn_Mo (by decide) kw1739 rfl rfl rfl rfl (by decide) kd_Mo_emit_71 rfl ?_
  refine zk_aload_n C kd_Mo_emit_74 rfl 0 rfl rfl ?_
  refine zs_get (v := .int ((h.1 68 56) + 1)) C 68 56 rfl rfl rfl rfl ki_Mo (by decide) kw1739 kd_Mo_emit_75 rfl ?_
  refine zk_iconst (v := 1) C kd_Mo_emit_78 (by decide) rfl ?_
  refine zk_isub C kd_Mo_emit_79 rfl ?_
  refine zk_aload_n C kd_Mo_emit_80 rfl 0 rfl rfl ?_
  refine zs_get (v := .ref (S.1 103)) C 68 57 rfl rfl rfl rfl ki_Mo (by decide) kw1740 kd_Mo_emit_81 rfl ?_
  refine zk_aload_n C kd_Mo_emit_84 rfl 0 rfl rfl ?_
  refine zs_get (v := .int (h.1 68 58)) C 68 58 rfl rfl rfl rfl ki_Mo (by decide) kw1741 kd_Mo_emit_85 rfl ?_
  obtain ⟨q1, e⟩ := zd_g e
  refine zs_iald C 103 rfl (zd_vp q1) kd_Mo_emit_88 rfl ?_
  refine zk_stk (r' := [.int (h.2.1 103 (h.1 68 58).toNatClampNeg), .int (((h.1 68 56) + 1) - 1)]) rfl ?_
  refine zk_isub C kd_Mo_emit_89 rfl ?_
  exact zk_iret C hR kd_Mo_emit_90 rfl rfl (zd_rIS e)
set_option maxHeartbeats 4000000 in
set_option maxRecDepth 100000 in
theorem zc_Mo_emit {l : Launch} {D : va_G} {sz0 : Nat} {S : zs_T} {P : ze_T} (h : zs_H) (x1 : Int32) (x2 : Int32) (x3 : Int32) (x4 : Int32) {rv : Int32} {rh : zs_H} (e : f_Mo_emit h x1 x2 x3 x4 = some (rv, rh)) : zk_Sp (zs_G S l D sz0) (ze_E P) km_Mo_emit { frames := 0, cells := 0, slots := 0, locals := 0 } [.ref (S.1 68), .int x1, .int x2, .int x3, .int x4] (zs_W S h) (zd_PI S rv rh) := by
  refine zk_met ku_Mo_emit (Nat.le_of_ble_eq_true rfl) (ze_Em P) ?_
  intro X C hR
  refine zk_lvs (lv' := [(0, .ref (S.1 68)), (1, .int x1), (2, .int x2), (3, .int x3), (4, .int x4)]) [0, 1, 2, 3, 4] rfl ?_
  unfold f_Mo_emit at e
  refine zk_aload_n C kd_Mo_emit_0 rfl 0 rfl rfl ?_
  refine zs_get (v := .int (h.1 68 56)) C 68 56 rfl rfl rfl rfl ki_Mo (by decide) kw1739 kd_Mo_emit_1 rfl ?_
  refine zk_sipush (v := 4000) C kd_Mo_emit_4 (by decide) rfl ?_
  refine zk_icmp_ge (tgt := 64) C kd_Mo_emit_7 (by decide) rfl (fun b1 => ?_) (fun b1 => ?_)
  · replace e := zd_pos b1 e
    refine zk_lvs (lv' := [(0, .ref (S.1 68))]) [0] rfl ?_
    exact zb_Mo_emit_64 C hR h e
  · replace e := zd_neg b1 e
    refine zk_aload_n C kd_Mo_emit_10 rfl 0 rfl rfl ?_
    refine zs_get (v := .ref (S.1 104)) C 68 59 rfl rfl rfl rfl ki_Mo (by decide) kw1742 kd_Mo_emit_11 rfl ?_
    refine zk_aload_n C kd_Mo_emit_14 rfl 0 rfl rfl ?_
    refine zs_get (v := .int (h.1 68 56)) C 68 56 rfl rfl rfl rfl ki_Mo (by decide) kw1739 kd_Mo_emit_15 rfl ?_
    refine zk_iload_n C kd_Mo_emit_18 rfl 1 rfl rfl ?_
    obtain ⟨q2, e⟩ := zd_g e
    refine zs_iast C 104 rfl (zd_vp q2) kd_Mo_emit_19 rfl ?_
    refine zk_aload_n C kd_Mo_emit_20 rfl 0 rfl rfl ?_
    refine zs_get (v := .ref (S.1 105)) C 68 60 rfl rfl rfl rfl ki_Mo (by decide) kw1743 kd_Mo_emit_21 rfl ?_
    refine zk_aload_n C kd_Mo_emit_24 rfl 0 rfl rfl ?_
    refine zs_get (v := .int (h.1 68 56)) C 68 56 rfl rfl rfl rfl ki_Mo (by decide) kw1739 kd_Mo_emit_25 rfl ?_
    refine zk_iload_n C kd_Mo_emit_28 rfl 2 rfl rfl ?_
    refine zs_iast C 105 rfl (zd_vp q2) kd_Mo_emit_29 rfl ?_
    refine zk_aload_n C kd_Mo_emit_30 rfl 0 rfl rfl ?_
    refine zs_get (v := .ref (S.1 106)) C 68 61 rfl rfl rfl rfl ki_Mo (by decide) kw1744 kd_Mo_emit_31 rfl ?_
    refine zk_aload_n C kd_Mo_emit_34 rfl 0 rfl rfl ?_
    refine zs_get (v := .int (h.1 68 56)) C 68 56 rfl rfl rfl rfl ki_Mo (by decide) kw1739 kd_Mo_emit_35 rfl ?_
    refine zk_iload_n C kd_Mo_emit_38 rfl 3 rfl rfl ?_
    refine zs_iast C 106 rfl (zd_vp q2) kd_Mo_emit_39 rfl ?_
    refine zk_aload_n C kd_Mo_emit_40 rfl 0 rfl rfl ?_
    refine zs_get (v := .ref (S.1 107)) C 68 62 rfl rfl rfl rfl ki_Mo (by decide) kw1745 kd_Mo_emit_41 rfl ?_
    refine zk_aload_n C kd_Mo_emit_44 rfl 0 rfl rfl ?_
    refine zs_get (v := .int (h.1 68 56)) C 68 56 rfl rfl rfl rfl ki_Mo (by decide) kw1739 kd_Mo_emit_45 rfl ?_
    refine zk_iload C kd_Mo_emit_48 4 rfl rfl ?_
    refine zs_iast C 107 rfl (zd_vp q2) kd_Mo_emit_50 rfl ?_
    refine zk_aload_n C kd_Mo_emit_51 rfl 0 rfl rfl ?_
    refine zs_get (v := .ref (S.1 108)) C 68 63 rfl rfl rfl rfl ki_Mo (by decide) kw1746 kd_Mo_emit_52 rfl ?_
    refine zk_aload_n C kd_Mo_emit_55 rfl 0 rfl rfl ?_
    refine zs_get (v := .int (h.1 68 56)) C 68 56 rfl rfl rfl rfl ki_Mo (by decide) kw1739 kd_Mo_emit_56 rfl ?_
    refine zk_aload_n C kd_Mo_emit_59 rfl 0 rfl rfl ?_
    refine zs_get (v := .int (h.1 68 64)) C 68 64 rfl rfl rfl rfl ki_Mo (by decide) kw1747 kd_Mo_emit_60 rfl ?_
    obtain ⟨q3, e⟩ := zd_g e
    refine zs_iast C 108 rfl (zd_vp q3) kd_Mo_emit_63 rfl ?_
    refine zk_lvs (lv' := [(0, .ref (S.1 68))]) [0] rfl ?_
    exact zb_Mo_emit_64 C hR (zs_uM (zs_uM (zs_uM (zs_uM (zs_uM h 104 (h.1 68 56).toNatClampNeg x1) 105 (h.1 68 56).toNatClampNeg x2) 106 (h.1 68 56).toNatClampNeg x3) 107 (h.1 68 56).toNatClampNeg x4) 108 (h.1 68 56).toNatClampNeg (h.1 68 64)) e
set_option maxHeartbeats 4000000 in
set_option maxRecDepth 100000 in
theorem zb_Mo_beginFunction_73 {X : zkj_T} {S : zs_T} {P : ze_T} {l : Launch} {D : va_G} {sz0 : Nat} {rh : zs_H} (C : zk_C X km_Mo_beginFunction (zs_G S l D sz0) { frames := 1, cells := 0, slots := 0, locals := 24 } (ze_E P)) (hR : zkj_R X (zd_PV S rh) (none)) {k27 : zs_H → Int32 → Int32 → (Option zs_H)} (hk27 : ∀ (h : zs_H) (x1 : Int32) (x3 : Int32), k27 h x1 x3 = some rh → zk_Ab X (zs_W S h) 0 0 27 [(0, .ref (S.1 68)), (1, .int x1), (3, .int x3)] []) (h : zs_H) (x1 : Int32) (x3 : Int32) (e : f_Mo_beginFunction_73 k27 h x1 x3 = some rh) : zk_Ab X (zs_W S h) 0 0 73 [(0, .ref (S.1 68)), (1, .int x1), (3, .int x3)] [] := by
  unfold f_Mo_beginFunction_73 at e
  refine zk_iinc (v := (x3 + 1)) (lv' := [(3, _), (0, _), (1, _)]) C kd_Mo_beginFunction_73 2 rfl rfl (by decide) rfl rfl ?_
  refine zk_goto (tgt := 27) C kd_Mo_beginFunction_76 (by decide) ?_
  refine zk_lvs (lv' := [(0, .ref (S.1 68)), (1, .int x1), (3, .int (x3 + 1))]) [1, 2, 0] rfl ?_
  exact hk27 h x1 (x3 + 1) e
set_option maxHeartbeats 4000000 in
set_option maxRecDepth 100000 in
theorem zb_Mo_beginFunction_27 {X : zkj_T} {S : zs_T} {P : ze_T} {l : Launch} {D : va_G} {sz0 : Nat} {rh : zs_H} (C : zk_C X km_Mo_beginFunction (zs_G S l D sz0) { frames := 1, cells := 0, slots := 0, locals := 24 } (ze_E P)) (hR : zkj_R X (zd_PV S rh) (none)) {k27 : zs_H → Int32 → Int32 → (Option zs_H)} (hk27 : ∀ (h : zs_H) (x1 : Int32) (x3 : Int32), k27 h x1 x3 = some rh → zk_Ab X (zs_W S h) 0 0 27 [(0, .ref (S.1 68)), (1, .int x1), (3, .int x3)] []) (h : zs_H) (x1 : Int32) (x3 : Int32) (e : f_Mo_beginFunction_27 k27 h x1 x3 = some rh) : zk_Ab X (zs_W S h) 0 0 27 [(0, .ref (S.1 68)), (1, .int x1), (3, .int x3)] [] := by
  unfold f_Mo_beginFunction_27 at e
  refine zk_iload_n C kd_Mo_beginFunction_27 rfl 2 rfl rfl ?_
  refine zk_aload_n C kd_Mo_beginFunction_28 rfl 0 rfl rfl ?_
  refine zk_iload_n C kd_Mo_beginFunction_29 rfl 1 rfl rfl ?_
  obtain ⟨v2, c1, e⟩ := zd_b e
  refine zs_callV (k := 68) (rn := { frames := 0, cells := 0, slots := 0, locals := 0 }) (As := [.int x1]) (rest := [.int x3]) C (zc_Mo_endOf h x1 c1) ku_Mo_endOf kw2528 kv_Mo_endOf rfl ⟨by decide, by decide⟩ ⟨by decide, by decide⟩ rfl rfl rfl (Nat.le_of_ble_eq_true rfl) kd_Mo_beginFunction_30 rfl (c1 := 0) (s1 := 0) rfl rfl (fun v w hp => ?_)
  obtain ⟨rfl, rfl⟩ := hp
  refine zk_stk (r' := [.int v2, .int x3]) rfl ?_
  refine zk_icmp_ge (tgt := 79) C kd_Mo_beginFunction_33 (by decide) rfl (fun b3 => ?_) (fun b3 => ?_)
  · replace e := zd_pos b3 e
    exact zk_vret C hR kd_Mo_beginFunction_79 rfl rfl (zd_rV e)
  · replace e := zd_neg b3 e
    refine zk_aload_n C kd_Mo_beginFunction_36 rfl 0 rfl rfl ?_
    refine zs_get (v := .ref (S.1 95)) C 68 46 rfl rfl rfl rfl ki_Mo (by decide) kw1729 kd_Mo_beginFunction_37 rfl ?_
    refine zk_iload_n C kd_Mo_beginFunction_40 rfl 2 rfl rfl ?_
    obtain ⟨q4, e⟩ := zd_g e
    refine zs_iald C 95 rfl (zd_vp q4) kd_Mo_beginFunction_41 rfl ?_
    refine zk_if_ne (tgt := 73) C kd_Mo_beginFunction_42 (by decide) rfl (fun b5 => ?_) (fun b5 => ?_)
    · replace e := zd_neg b5 e
      refine zk_lvs (lv' := [(0, .ref (S.1 68)), (1, .int x1), (3, .int x3)]) [0, 1, 2] rfl ?_
      exact zb_Mo_beginFunction_73 C hR hk27 h x1 x3 e
    · replace e := zd_pos b5 e
      refine zk_aload_n C kd_Mo_beginFunction_45 rfl 0 rfl rfl ?_
      refine zk_iconst (v := 0) C kd_Mo_beginFunction_46 (by decide) rfl ?_
      refine zk_aload_n C kd_Mo_beginFunction_47 rfl 0 rfl rfl ?_
      refine zs_get (v := .ref (S.1 99)) C 68 50 rfl rfl rfl rfl ki_Mo (by decide) kw1733 kd_Mo_beginFunction_48 rfl ?_
      refine zk_iload_n C kd_Mo_beginFunction_51 rfl 2 rfl rfl ?_
      refine zs_iald C 99 rfl (zd_vp q4) kd_Mo_beginFunction_52 rfl ?_
      refine zk_iconst (v := 0) C kd_Mo_beginFunction_53 (by decide) rfl ?_
      refine zk_iconst (v := 0) C kd_Mo_beginFunction_54 (by decide) rfl ?_
      obtain ⟨v7, h8, c6, e⟩ := zd_Be e
      refine zs_callV (k := 68) (rn := { frames := 0, cells := 0, slots := 0, locals := 0 }) (As := [.int 0, .int (h.2.1 99 x3.toNatClampNeg), .int 0, .int 0]) (rest := []) C (zc_Mo_emit h 0 (h.2.1 99 x3.toNatClampNeg) 0 0 c6) ku_Mo_emit kw2524 kv_Mo_emit rfl ⟨by decide, by decide⟩ ⟨by decide, by decide⟩ rfl rfl rfl (Nat.le_of_ble_eq_true rfl) kd_Mo_beginFunction_55 rfl (c1 := 0) (s1 := 0) rfl rfl (fun v w hp => ?_)
      obtain ⟨rfl, rfl⟩ := hp
      refine zk_stk (r' := [.int v7]) rfl ?_
      refine zk_istore_n (lv' := [(2, _), (0, _), (1, _), (3, _)]) C kd_Mo_beginFunction_58 rfl (by decide) rfl rfl ?_
      refine zk_aload_n C kd_Mo_beginFunction_59 rfl 1 rfl rfl ?_
      refine zk_iconst (v := 2) C kd_Mo_beginFunction_60 (by decide) rfl ?_
      refine zk_aload_n C kd_Mo_beginFunction_61 rfl 1 rfl rfl ?_
      refine zs_get (v := .ref (S.1 94)) C 68 45 rfl rfl rfl rfl ki_Mo (by decide) kw1728 kd_Mo_beginFunction_62 rfl ?_
      refine zk_iload_n C kd_Mo_beginFunction_65 rfl 3 rfl rfl ?_
      obtain ⟨q9, e⟩ := zd_g e
      refine zs_iald C 94 rfl (zd_vp q9) kd_Mo_beginFunction_66 rfl ?_
      refine zk_iconst (v := 0) C kd_Mo_beginFunction_67 (by decide) rfl ?_
      refine zk_iconst (v := 0) C kd_Mo_beginFunction_68 (by decide) rfl ?_
      obtain ⟨v11, h12, c10, e⟩ := zd_Be e
      refine zs_callV (k := 68) (rn := { frames := 0, cells := 0, slots := 0, locals := 0 }) (As := [.int 2, .int (h8.2.1 94 x3.toNatClampNeg), .int 0, .int 0]) (rest := []) C (zc_Mo_emit h8 2 (h8.2.1 94 x3.toNatClampNeg) 0 0 c10) ku_Mo_emit kw2524 kv_Mo_emit rfl ⟨by decide, by decide⟩ ⟨by decide, by decide⟩ rfl rfl rfl (Nat.le_of_ble_eq_true rfl) kd_Mo_beginFunction_69 rfl (c1 := 0) (s1 := 0) rfl rfl (fun v w hp => ?_)
      obtain ⟨rfl, rfl⟩ := hp
      refine zk_stk (r' := [.int v11]) rfl ?_
      refine zk_istore_n (lv' := [(2, _), (0, _), (1, _), (3, _)]) C kd_Mo_beginFunction_72 rfl (by decide) rfl rfl ?_
      refine zk_lvs (lv' := [(0, .ref (S.1 68)), (1, .int x1), (3, .int x3)]) [1, 2, 3] rfl ?_
      exact zb_Mo_beginFunction_73 C hR hk27 h12 x1 x3 e
theorem zl_Mo_beginFunction_27 {X : zkj_T} {S : zs_T} {P : ze_T} {l : Launch} {D : va_G} {sz0 : Nat} {rh : zs_H} (C : zk_C X km_Mo_beginFunction (zs_G S l D sz0) { frames := 1, cells := 0, slots := 0, locals := 24 } (ze_E P)) (hR : zkj_R X (zd_PV S rh) (none)) (n : Nat) : ∀ (h : zs_H) (x1 : Int32) (x3 : Int32), f_Mo_beginFunction_L27 n h x1 x3 = some rh → zk_Ab X (zs_W S h) 0 0 27 [(0, .ref (S.1 68)), (1, .int x1), (3, .int x3)] [] := by
  induction n with
  | zero => intro h x1 x3 e; exact zd_no e
  | succ n ih => intro h x1 x3 e; exact zb_Mo_beginFunction_27 (k27 := f_Mo_beginFunction_L27  n) C hR ih h x1 x3 e
set_option maxHeartbeats 4000000 in
set_option maxRecDepth 100000 in
theorem zc_Mo_beginFunction {l : Launch} {D : va_G} {sz0 : Nat} {S : zs_T} {P : ze_T} (h : zs_H) (x1 : Int32) {rh : zs_H} (e : f_Mo_beginFunction h x1 = some rh) : zk_Sp (zs_G S l D sz0) (ze_E P) km_Mo_beginFunction { frames := 1, cells := 0, slots := 0, locals := 24 } [.ref (S.1 68), .int x1] (zs_W S h) (zd_PV S rh) := by
  refine zk_met ku_Mo_beginFunction (Nat.le_of_ble_eq_true rfl) (ze_Em P) ?_
  intro X C hR
  refine zk_lvs (lv' := [(0, .ref (S.1 68)), (1, .int x1)]) [0, 1] rfl ?_
  unfold f_Mo_beginFunction at e
  refine zk_aload_n C kd_Mo_beginFunction_0 rfl 0 rfl rfl ?_
  refine zk_iconst (v := 0) C kd_Mo_beginFunction_1 (by decide) rfl ?_
  refine zk_iconst (v := 0) C kd_Mo_beginFunction_2 (by decide) rfl ?_
  refine zk_iconst (v := 0) C kd_Mo_beginFunction_3 (by decide) rfl ?_
  refine zk_iconst (v := 0) C kd_Mo_beginFunction_4 (by decide) rfl ?_
  obtain ⟨v2, h3, c1, e⟩ := zd_Be e
  refine zs_callV (k := 68) (rn := { frames := 0, cells := 0, slots := 0, locals := 0 }) (As := [.int 0, .int 0, .int 0, .int 0]) (rest := []) C (zc_Mo_emit h 0 0 0 0 c1) ku_Mo_emit kw2524 kv_Mo_emit rfl ⟨by decide, by decide⟩ ⟨by decide, by decide⟩ rfl rfl rfl (Nat.le_of_ble_eq_true rfl) kd_Mo_beginFunction_5 rfl (c1 := 0) (s1 := 0) rfl rfl (fun v w hp => ?_)
  obtain ⟨rfl, rfl⟩ := hp
  refine zk_stk (r' := [.int v2]) rfl ?_
  refine zk_istore_n (lv' := [(2, _), (0, _), (1, _)]) C kd_Mo_beginFunction_8 rfl (by decide) rfl rfl ?_
  refine zk_aload_n C kd_Mo_beginFunction_9 rfl 1 rfl rfl ?_
  refine zk_iconst (v := 2) C kd_Mo_beginFunction_10 (by decide) rfl ?_
  refine zk_iconst (v := 0) C kd_Mo_beginFunction_11 (by decide) rfl ?_
  refine zk_iconst (v := 0) C kd_Mo_beginFunction_12 (by decide) rfl ?_
  refine zk_iconst (v := 0) C kd_Mo_beginFunction_13 (by decide) rfl ?_
  obtain ⟨v5, h6, c4, e⟩ := zd_Be e
  refine zs_callV (k := 68) (rn := { frames := 0, cells := 0, slots := 0, locals := 0 }) (As := [.int 2, .int 0, .int 0, .int 0]) (rest := []) C (zc_Mo_emit h3 2 0 0 0 c4) ku_Mo_emit kw2524 kv_Mo_emit rfl ⟨by decide, by decide⟩ ⟨by decide, by decide⟩ rfl rfl rfl (Nat.le_of_ble_eq_true rfl) kd_Mo_beginFunction_14 rfl (c1 := 0) (s1 := 0) rfl rfl (fun v w hp => ?_)
  obtain ⟨rfl, rfl⟩ := hp
  refine zk_stk (r' := [.int v5]) rfl ?_
  refine zk_istore_n (lv' := [(2, _), (0, _), (1, _)]) C kd_Mo_beginFunction_17 rfl (by decide) rfl rfl ?_
  refine zk_aload_n C kd_Mo_beginFunction_18 rfl 1 rfl rfl ?_
  refine zs_get (v := .ref (S.1 90)) C 68 40 rfl rfl rfl rfl ki_Mo (by decide) kw1723 kd_Mo_beginFunction_19 rfl ?_
  refine zk_iload_n C kd_Mo_beginFunction_22 rfl 2 rfl rfl ?_
  obtain ⟨q7, e⟩ := zd_g e
  refine zs_iald C 90 rfl (zd_vp q7) kd_Mo_beginFunction_23 rfl ?_
  refine zk_iconst (v := 1) C kd_Mo_beginFunction_24 (by decide) rfl ?_
  refine zk_iadd C kd_Mo_beginFunction_25 rfl ?_
  refine zk_istore_n (lv' := [(3, _), (2, _), (0, _), (1, _)]) C kd_Mo_beginFunction_26 rfl (by decide) rfl rfl ?_
  refine zk_lvs (lv' := [(0, .ref (S.1 68)), (1, .int x1), (3, .int ((h6.2.1 90 x1.toNatClampNeg) + 1))]) [2, 3, 0] rfl ?_
  exact zl_Mo_beginFunction_27 C hR zF h6 x1 ((h6.2.1 90 x1.toNatClampNeg) + 1) e
set_option maxHeartbeats 4000000 in
set_option maxRecDepth 100000 in
theorem zb_Mo_times_103 {X : zkj_T} {S : zs_T} {P : ze_T} {l : Launch} {D : va_G} {sz0 : Nat} {rv : Int32} {h : zs_H} (C : zk_C X km_Mo_times (zs_G S l D sz0) { frames := 0, cells := 0, slots := 0, locals := 0 } (ze_E P)) (hR : zkj_R X (zd_PI S rv h) (some .int)) (x4 : Int64) (x6 : Int64) (e : f_Mo_times_103 h x4 x6 = some rv) : zk_Ab X (zs_W S h) 0 0 103 [(4, .long x4), (6, .long x6)] [] := by
  unfold f_Mo_times_103 at e
  refine zk_lload C kd_Mo_times_103 1 rfl rfl ?_
  refine zk_lload C kd_Mo_times_105 0 rfl rfl ?_
  obtain ⟨q1, e⟩ := zd_gn e
  refine zk_ldiv C kd_Mo_times_107 q1 rfl ?_
  refine zk_lconst (v := 1) C kd_Mo_times_108 (by decide) rfl ?_
  refine zk_ladd C kd_Mo_times_109 rfl ?_
  refine zk_l2i C kd_Mo_times_110 rfl ?_
  exact zk_iret C hR kd_Mo_times_111 rfl rfl (zd_rIO e)
set_option maxHeartbeats 4000000 in
set_option maxRecDepth 100000 in
theorem zb_Mo_times_96 {X : zkj_T} {S : zs_T} {P : ze_T} {l : Launch} {D : va_G} {sz0 : Nat} {rv : Int32} {h : zs_H} (C : zk_C X km_Mo_times (zs_G S l D sz0) { frames := 0, cells := 0, slots := 0, locals := 0 } (ze_E P)) (hR : zkj_R X (zd_PI S rv h) (some .int)) (x4 : Int64) (x6 : Int64) (y0 : Int32) (y1 : Int32) (e : f_Mo_times_96 h x4 x6 y0 y1 = some rv) : zk_Ab X (zs_W S h) 0 0 96 [(4, .long x4), (6, .long x6)] [.int y0, .int y1] := by
  unfold f_Mo_times_96 at e
  refine zk_icmp_eq (tgt := 103) C kd_Mo_times_96 (by decide) rfl (fun b1 => ?_) (fun b1 => ?_)
  · replace e := zd_pos b1 e
    refine zk_lvs (lv' := [(4, .long x4), (6, .long x6)]) [0, 1] rfl ?_
    exact zb_Mo_times_103 C hR x4 x6 e
  · replace e := zd_neg b1 e
    refine zk_iconst (v := 0) C kd_Mo_times_99 (by decide) rfl ?_
    refine zk_goto (tgt := 111) C kd_Mo_times_100 (by decide) ?_
    exact zk_iret C hR kd_Mo_times_111 rfl rfl (zd_rIO e)
set_option maxHeartbeats 4000000 in
set_option maxRecDepth 100000 in
theorem zb_Mo_times_84 {X : zkj_T} {S : zs_T} {P : ze_T} {l : Launch} {D : va_G} {sz0 : Nat} {rv : Int32} {h : zs_H} (C : zk_C X km_Mo_times (zs_G S l D sz0) { frames := 0, cells := 0, slots := 0, locals := 0 } (ze_E P)) (hR : zkj_R X (zd_PI S rv h) (some .int)) (x4 : Int64) (x6 : Int64) (y0 : Int32) (e : f_Mo_times_84 h x4 x6 y0 = some rv) : zk_Ab X (zs_W S h) 0 0 84 [(4, .long x4), (6, .long x6)] [.int y0] := by
  unfold f_Mo_times_84 at e
  refine zk_lload C kd_Mo_times_84 0 rfl rfl ?_
  refine zk_lconst (v := 0) C kd_Mo_times_86 (by decide) rfl ?_
  refine zk_lcmp C kd_Mo_times_87 rfl ?_
  refine zk_if_le (tgt := 95) C kd_Mo_times_88 (by decide) rfl (fun b1 => ?_) (fun b1 => ?_)
  · replace e := zd_pos (zd_cle.mp b1) e
    refine zk_iconst (v := 0) C kd_Mo_times_95 (by decide) rfl ?_
    refine zk_lvs (lv' := [(4, .long x4), (6, .long x6)]) [0, 1] rfl ?_
    exact zb_Mo_times_96 C hR x4 x6 0 y0 e
  · replace e := zd_neg (fun z => b1 (zd_cle.mpr z)) e
    refine zk_iconst (v := 1) C kd_Mo_times_91 (by decide) rfl ?_
    refine zk_goto (tgt := 96) C kd_Mo_times_92 (by decide) ?_
    refine zk_lvs (lv' := [(4, .long x4), (6, .long x6)]) [0, 1] rfl ?_
    exact zb_Mo_times_96 C hR x4 x6 1 y0 e
set_option maxHeartbeats 4000000 in
set_option maxRecDepth 100000 in
theorem zb_Mo_times_46 {X : zkj_T} {S : zs_T} {P : ze_T} {l : Launch} {D : va_G} {sz0 : Nat} {rv : Int32} {h : zs_H} (C : zk_C X km_Mo_times (zs_G S l D sz0) { frames := 0, cells := 0, slots := 0, locals := 0 } (ze_E P)) (hR : zkj_R X (zd_PI S rv h) (some .int)) (x2 : Int32) (x3 : Int32) (y0 : Int64) (e : f_Mo_times_46 h x2 x3 y0 = some rv) : zk_Ab X (zs_W S h) 0 0 46 [(0, .ref (S.1 68)), (2, .int x2), (3, .int x3)] [.long y0] := by
  unfold f_Mo_times_46 at e
  refine zk_lstore (lv' := [(4, _), (0, _), (2, _), (3, _)]) C kd_Mo_times_46 (by decide) rfl rfl ?_
  refine zk_aload_n C kd_Mo_times_48 rfl 1 rfl rfl ?_
  refine zs_get (v := .ref (S.1 74)) C 68 17 rfl rfl rfl rfl ki_Mo (by decide) kw1700 kd_Mo_times_49 rfl ?_
  refine zk_iload_n C kd_Mo_times_52 rfl 3 rfl rfl ?_
  obtain ⟨q1, e⟩ := zd_g e
  refine zs_iald C 74 rfl (zd_vp q1) kd_Mo_times_53 rfl ?_
  refine zk_i2l C kd_Mo_times_54 rfl ?_
  refine zk_aload_n C kd_Mo_times_55 rfl 1 rfl rfl ?_
  refine zs_get (v := .ref (S.1 74)) C 68 17 rfl rfl rfl rfl ki_Mo (by decide) kw1700 kd_Mo_times_56 rfl ?_
  refine zk_iload_n C kd_Mo_times_59 rfl 2 rfl rfl ?_
  obtain ⟨q2, e⟩ := zd_g e
  refine zs_iald C 74 rfl (zd_vp q2) kd_Mo_times_60 rfl ?_
  refine zk_i2l C kd_Mo_times_61 rfl ?_
  refine zk_lsub C kd_Mo_times_62 rfl ?_
  refine zk_lstore (lv' := [(6, _), (4, _), (0, _), (2, _), (3, _)]) C kd_Mo_times_63 (by decide) rfl rfl ?_
  refine zk_lload C kd_Mo_times_65 0 rfl rfl ?_
  refine zk_lconst (v := 0) C kd_Mo_times_67 (by decide) rfl ?_
  refine zk_lcmp C kd_Mo_times_68 rfl ?_
  refine zk_if_eq (tgt := 103) C kd_Mo_times_69 (by decide) rfl (fun b3 => ?_) (fun b3 => ?_)
  · replace e := zd_pos (zd_ceq.mp b3) e
    refine zk_lvs (lv' := [(4, .long y0), (6, .long (((h.2.1 74 x3.toNatClampNeg).toInt64) - ((h.2.1 74 x2.toNatClampNeg).toInt64)))]) [1, 0] rfl ?_
    exact zb_Mo_times_103 C hR y0 (((h.2.1 74 x3.toNatClampNeg).toInt64) - ((h.2.1 74 x2.toNatClampNeg).toInt64)) e
  · replace e := zd_neg (fun z => b3 (zd_ceq.mpr z)) e
    refine zk_lload C kd_Mo_times_72 0 rfl rfl ?_
    refine zk_lconst (v := 0) C kd_Mo_times_74 (by decide) rfl ?_
    refine zk_lcmp C kd_Mo_times_75 rfl ?_
    refine zk_if_le (tgt := 83) C kd_Mo_times_76 (by decide) rfl (fun b4 => ?_) (fun b4 => ?_)
    · replace e := zd_pos (zd_cle.mp b4) e
      refine zk_iconst (v := 0) C kd_Mo_times_83 (by decide) rfl ?_
      refine zk_lvs (lv' := [(4, .long y0), (6, .long (((h.2.1 74 x3.toNatClampNeg).toInt64) - ((h.2.1 74 x2.toNatClampNeg).toInt64)))]) [1, 0] rfl ?_
      exact zb_Mo_times_84 C hR y0 (((h.2.1 74 x3.toNatClampNeg).toInt64) - ((h.2.1 74 x2.toNatClampNeg).toInt64)) 0 e
    · replace e := zd_neg (fun z => b4 (zd_cle.mpr z)) e
      refine zk_iconst (v := 1) C kd_Mo_times_79 (by decide) rfl ?_
      refine zk_goto (tgt := 84) C kd_Mo_times_80 (by decide) ?_
      refine zk_lvs (lv' := [(4, .long y0), (6, .long (((h.2.1 74 x3.toNatClampNeg).toInt64) - ((h.2.1 74 x2.toNatClampNeg).toInt64)))]) [1, 0] rfl ?_
      exact zb_Mo_times_84 C hR y0 (((h.2.1 74 x3.toNatClampNeg).toInt64) - ((h.2.1 74 x2.toNatClampNeg).toInt64)) 1 e
set_option maxHeartbeats 4000000 in
set_option maxRecDepth 100000 in
theorem zc_Mo_times {l : Launch} {D : va_G} {sz0 : Nat} {S : zs_T} {P : ze_T} (h : zs_H) (x1 : Int32) {rv : Int32} (e : f_Mo_times h x1 = some rv) : zk_Sp (zs_G S l D sz0) (ze_E P) km_Mo_times { frames := 0, cells := 0, slots := 0, locals := 0 } [.ref (S.1 68), .int x1] (zs_W S h) (zd_PI S rv h) := by
  refine zk_met ku_Mo_times (Nat.le_of_ble_eq_true rfl) (ze_Em P) ?_
  intro X C hR
  refine zk_lvs (lv' := [(0, .ref (S.1 68)), (1, .int x1)]) [0, 1] rfl ?_
  unfold f_Mo_times at e
  refine zk_aload_n C kd_Mo_times_0 rfl 0 rfl rfl ?_
  refine zs_get (v := .ref (S.1 76)) C 68 19 rfl rfl rfl rfl ki_Mo (by decide) kw1702 kd_Mo_times_1 rfl ?_
  refine zk_iload_n C kd_Mo_times_4 rfl 1 rfl rfl ?_
  obtain ⟨q1, e⟩ := zd_g e
  refine zs_iald C 76 rfl (zd_vp q1) kd_Mo_times_5 rfl ?_
  refine zk_istore_n (lv' := [(2, _), (0, _), (1, _)]) C kd_Mo_times_6 rfl (by decide) rfl rfl ?_
  refine zk_aload_n C kd_Mo_times_7 rfl 1 rfl rfl ?_
  refine zs_get (v := .ref (S.1 78)) C 68 21 rfl rfl rfl rfl ki_Mo (by decide) kw1704 kd_Mo_times_8 rfl ?_
  refine zk_iload_n C kd_Mo_times_11 rfl 0 rfl rfl ?_
  obtain ⟨q2, e⟩ := zd_g e
  refine zs_iald C 78 rfl (zd_vp q2) kd_Mo_times_12 rfl ?_
  refine zk_istore_n (lv' := [(3, _), (2, _), (0, _), (1, _)]) C kd_Mo_times_13 rfl (by decide) rfl rfl ?_
  refine zk_aload_n C kd_Mo_times_14 rfl 2 rfl rfl ?_
  refine zs_get (v := .ref (S.1 72)) C 68 15 rfl rfl rfl rfl ki_Mo (by decide) kw1698 kd_Mo_times_15 rfl ?_
  refine zk_aload_n C kd_Mo_times_18 rfl 2 rfl rfl ?_
  refine zs_get (v := .ref (S.1 78)) C 68 21 rfl rfl rfl rfl ki_Mo (by decide) kw1704 kd_Mo_times_19 rfl ?_
  refine zk_iload_n C kd_Mo_times_22 rfl 0 rfl rfl ?_
  obtain ⟨q3, e⟩ := zd_g e
  refine zs_iald C 78 rfl (zd_vp q3) kd_Mo_times_23 rfl ?_
  obtain ⟨q4, e⟩ := zd_g e
  refine zs_iald C 72 rfl (zd_vp q4) kd_Mo_times_24 rfl ?_
  refine zk_bipush (v := 11) C kd_Mo_times_25 (by decide) rfl ?_
  refine zk_icmp_ne (tgt := 34) C kd_Mo_times_27 (by decide) rfl (fun b5 => ?_) (fun b5 => ?_)
  · replace e := zd_neg b5 e
    refine zk_aload_n C kd_Mo_times_34 rfl 2 rfl rfl ?_
    refine zs_get (v := .ref (S.1 74)) C 68 17 rfl rfl rfl rfl ki_Mo (by decide) kw1700 kd_Mo_times_35 rfl ?_
    refine zk_aload_n C kd_Mo_times_38 rfl 2 rfl rfl ?_
    refine zs_get (v := .ref (S.1 78)) C 68 21 rfl rfl rfl rfl ki_Mo (by decide) kw1704 kd_Mo_times_39 rfl ?_
    refine zk_iload_n C kd_Mo_times_42 rfl 0 rfl rfl ?_
    refine zs_iald C 78 rfl (zd_vp q3) kd_Mo_times_43 rfl ?_
    refine zs_iald C 74 rfl (zd_vp q4) kd_Mo_times_44 rfl ?_
    refine zk_i2l C kd_Mo_times_45 rfl ?_
    refine zk_lvs (lv' := [(0, .ref (S.1 68)), (2, .int (h.2.1 76 x1.toNatClampNeg)), (3, .int (h.2.1 78 (h.2.1 76 x1.toNatClampNeg).toNatClampNeg))]) [2, 1, 0] rfl ?_
    exact zb_Mo_times_46 C hR (h.2.1 76 x1.toNatClampNeg) (h.2.1 78 (h.2.1 76 x1.toNatClampNeg).toNatClampNeg) ((h.2.1 74 (h.2.1 78 (h.2.1 78 (h.2.1 76 x1.toNatClampNeg).toNatClampNeg).toNatClampNeg).toNatClampNeg).toInt64) e
  · replace e := zd_pos b5 e
    refine zk_lconst (v := 1) C kd_Mo_times_30 (by decide) rfl ?_
    refine zk_goto (tgt := 46) C kd_Mo_times_31 (by decide) ?_
    refine zk_lvs (lv' := [(0, .ref (S.1 68)), (2, .int (h.2.1 76 x1.toNatClampNeg)), (3, .int (h.2.1 78 (h.2.1 76 x1.toNatClampNeg).toNatClampNeg))]) [2, 1, 0] rfl ?_
    exact zb_Mo_times_46 C hR (h.2.1 76 x1.toNatClampNeg) (h.2.1 78 (h.2.1 76 x1.toNatClampNeg).toNatClampNeg) (1 : Int64) e
set_option maxHeartbeats 4000000 in
set_option maxRecDepth 100000 in
theorem zc_Mo_here {l : Launch} {D : va_G} {sz0 : Nat} {S : zs_T} {P : ze_T} (h : zs_H) {rv : Int32} (e : f_Mo_here h = some rv) : zk_Sp (zs_G S l D sz0) (ze_E P) km_Mo_here { frames := 0, cells := 0, slots := 0, locals := 0 } [.ref (S.1 68)] (zs_W S h) (zd_PI S rv h) := by
  refine zk_met ku_Mo_here (Nat.le_of_ble_eq_true rfl) (ze_Em P) ?_
  intro X C hR
  refine zk_lvs (lv' := [(0, .ref (S.1 68))]) [0] rfl ?_
  unfold f_Mo_here at e
  refine zk_aload_n C kd_Mo_here_0 rfl 0 rfl rfl ?_
  refine zs_get (v := .int (h.1 68 56)) C 68 56 rfl rfl rfl rfl ki_Mo (by decide) kw1739 kd_Mo_here_1 rfl ?_
  refine zk_aload_n C kd_Mo_here_4 rfl 0 rfl rfl ?_
  refine zs_get (v := .ref (S.1 103)) C 68 57 rfl rfl rfl rfl ki_Mo (by decide) kw1740 kd_Mo_here_5 rfl ?_
  refine zk_aload_n C kd_Mo_here_8 rfl 0 rfl rfl ?_
  refine zs_get (v := .int (h.1 68 58)) C 68 58 rfl rfl rfl rfl ki_Mo (by decide) kw1741 kd_Mo_here_9 rfl ?_
  obtain ⟨q1, e⟩ := zd_g e
  refine zs_iald C 103 rfl (zd_vp q1) kd_Mo_here_12 rfl ?_
  refine zk_isub C kd_Mo_here_13 rfl ?_
  exact zk_iret C hR kd_Mo_here_14 rfl rfl (zd_rIO e)
set_option maxHeartbeats 4000000 in
set_option maxRecDepth 100000 in
theorem zb_Mo_aim_40 {X : zkj_T} {S : zs_T} {P : ze_T} {l : Launch} {D : va_G} {sz0 : Nat} {rh : zs_H} (C : zk_C X km_Mo_aim (zs_G S l D sz0) { frames := 0, cells := 0, slots := 0, locals := 0 } (ze_E P)) (hR : zkj_R X (zd_PV S rh) (none)) (h : zs_H) (x2 : Int32) (x3 : Int32) (e : f_Mo_aim_40 h x2 x3 = some rh) : zk_Ab X (zs_W S h) 0 0 40 [(0, .ref (S.1 68)), (2, .int x2), (3, .int x3)] [] := by
  unfold f_Mo_aim_40 at e
  refine zk_iload_n C kd_Mo_aim_40 rfl 2 rfl rfl ?_
  refine zk_sipush (v := 4000) C kd_Mo_aim_41 (by decide) rfl ?_
  refine zk_icmp_ge (tgt := 54) C kd_Mo_aim_44 (by decide) rfl (fun b1 => ?_) (fun b1 => ?_)
  · replace e := zd_pos b1 e
    exact zk_vret C hR kd_Mo_aim_54 rfl rfl (zd_rV e)
  · replace e := zd_neg b1 e
    refine zk_aload_n C kd_Mo_aim_47 rfl 0 rfl rfl ?_
    refine zs_get (v := .ref (S.1 105)) C 68 60 rfl rfl rfl rfl ki_Mo (by decide) kw1743 kd_Mo_aim_48 rfl ?_
    refine zk_iload_n C kd_Mo_aim_51 rfl 2 rfl rfl ?_
    refine zk_iload_n C kd_Mo_aim_52 rfl 1 rfl rfl ?_
    obtain ⟨q2, e⟩ := zd_g e
    refine zs_iast C 105 rfl (zd_vp q2) kd_Mo_aim_53 rfl ?_
    exact zk_vret C hR kd_Mo_aim_54 rfl rfl (zd_rV e)
set_option maxHeartbeats 4000000 in
set_option maxRecDepth 100000 in
theorem zc_Mo_aim {l : Launch} {D : va_G} {sz0 : Nat} {S : zs_T} {P : ze_T} (h : zs_H) (x1 : Int32) (x2 : Int32) {rh : zs_H} (e : f_Mo_aim h x1 x2 = some rh) : zk_Sp (zs_G S l D sz0) (ze_E P) km_Mo_aim { frames := 0, cells := 0, slots := 0, locals := 0 } [.ref (S.1 68), .int x1, .int x2] (zs_W S h) (zd_PV S rh) := by
  refine zk_met ku_Mo_aim (Nat.le_of_ble_eq_true rfl) (ze_Em P) ?_
  intro X C hR
  refine zk_lvs (lv' := [(0, .ref (S.1 68)), (1, .int x1), (2, .int x2)]) [0, 1, 2] rfl ?_
  unfold f_Mo_aim at e
  refine zk_aload_n C kd_Mo_aim_0 rfl 0 rfl rfl ?_
  refine zs_get (v := .ref (S.1 103)) C 68 57 rfl rfl rfl rfl ki_Mo (by decide) kw1740 kd_Mo_aim_1 rfl ?_
  refine zk_aload_n C kd_Mo_aim_4 rfl 0 rfl rfl ?_
  refine zs_get (v := .int (h.1 68 58)) C 68 58 rfl rfl rfl rfl ki_Mo (by decide) kw1741 kd_Mo_aim_5 rfl ?_
  obtain ⟨q1, e⟩ := zd_g e
  refine zs_iald C 103 rfl (zd_vp q1) kd_Mo_aim_8 rfl ?_
  refine zk_iload_n C kd_Mo_aim_9 rfl 1 rfl rfl ?_
  refine zk_iadd C kd_Mo_aim_10 rfl ?_
  refine zk_istore_n (lv' := [(3, _), (0, _), (1, _), (2, _)]) C kd_Mo_aim_11 rfl (by decide) rfl rfl ?_
  refine zk_iload_n C kd_Mo_aim_12 rfl 0 rfl rfl ?_
  refine zk_sipush (v := 4000) C kd_Mo_aim_13 (by decide) rfl ?_
  refine zk_icmp_ge (tgt := 40) C kd_Mo_aim_16 (by decide) rfl (fun b2 => ?_) (fun b2 => ?_)
  · replace e := zd_pos b2 e
    refine zk_lvs (lv' := [(0, .ref (S.1 68)), (2, .int x2), (3, .int ((h.2.1 103 (h.1 68 58).toNatClampNeg) + x1))]) [1, 3, 0] rfl ?_
    exact zb_Mo_aim_40 C hR h x2 ((h.2.1 103 (h.1 68 58).toNatClampNeg) + x1) e
  · replace e := zd_neg b2 e
    refine zk_aload_n C kd_Mo_aim_19 rfl 1 rfl rfl ?_
    refine zs_get (v := .ref (S.1 104)) C 68 59 rfl rfl rfl rfl ki_Mo (by decide) kw1742 kd_Mo_aim_20 rfl ?_
    refine zk_iload_n C kd_Mo_aim_23 rfl 0 rfl rfl ?_
    obtain ⟨q3, e⟩ := zd_g e
    refine zs_iald C 104 rfl (zd_vp q3) kd_Mo_aim_24 rfl ?_
    refine zk_bipush (v := 13) C kd_Mo_aim_25 (by decide) rfl ?_
    refine zk_icmp_ne (tgt := 40) C kd_Mo_aim_27 (by decide) rfl (fun b4 => ?_) (fun b4 => ?_)
    · replace e := zd_neg b4 e
      refine zk_lvs (lv' := [(0, .ref (S.1 68)), (2, .int x2), (3, .int ((h.2.1 103 (h.1 68 58).toNatClampNeg) + x1))]) [1, 3, 0] rfl ?_
      exact zb_Mo_aim_40 C hR h x2 ((h.2.1 103 (h.1 68 58).toNatClampNeg) + x1) e
    · replace e := zd_pos b4 e
      refine zk_aload_n C kd_Mo_aim_30 rfl 1 rfl rfl ?_
      refine zs_get (v := .ref (S.1 106)) C 68 61 rfl rfl rfl rfl ki_Mo (by decide) kw1744 kd_Mo_aim_31 rfl ?_
      refine zk_iload_n C kd_Mo_aim_34 rfl 0 rfl rfl ?_
      refine zk_iload_n C kd_Mo_aim_35 rfl 3 rfl rfl ?_
      refine zs_iast C 106 rfl (zd_vp q3) kd_Mo_aim_36 rfl ?_
      refine zk_goto (tgt := 54) C kd_Mo_aim_37 (by decide) ?_
      exact zk_vret C hR kd_Mo_aim_54 rfl rfl (zd_rV e)
set_option maxHeartbeats 4000000 in
set_option maxRecDepth 100000 in
theorem zc_Mo_oneCode {l : Launch} {D : va_G} {sz0 : Nat} {S : zs_T} {P : ze_T} (h : zs_H) (x1 : Int32) {rv : Int32} (e : f_Mo_oneCode h x1 = some rv) : zk_Sp (zs_G S l D sz0) (ze_E P) km_Mo_oneCode { frames := 0, cells := 0, slots := 0, locals := 0 } [.ref (S.1 68), .int x1] (zs_W S h) (zd_PI S rv h) := by
  refine zk_met ku_Mo_oneCode (Nat.le_of_ble_eq_true rfl) (ze_Em P) ?_
  intro X C hR
  refine zk_lvs (lv' := [(0, .ref (S.1 68)), (1, .int x1)]) [0, 1] rfl ?_
  unfold f_Mo_oneCode at e
  refine zk_aload_n C kd_Mo_oneCode_0 rfl 0 rfl rfl ?_
  refine zs_get (v := .ref (S.1 74)) C 68 17 rfl rfl rfl rfl ki_Mo (by decide) kw1700 kd_Mo_oneCode_1 rfl ?_
  refine zk_iload_n C kd_Mo_oneCode_4 rfl 1 rfl rfl ?_
  obtain ⟨q1, e⟩ := zd_g e
  refine zs_iald C 74 rfl (zd_vp q1) kd_Mo_oneCode_5 rfl ?_
  refine zk_if_ne (tgt := 27) C kd_Mo_oneCode_6 (by decide) rfl (fun b2 => ?_) (fun b2 => ?_)
  · replace e := zd_neg b2 e
    refine zk_aload_n C kd_Mo_oneCode_27 rfl 0 rfl rfl ?_
    refine zs_get (v := .ref (S.1 100)) C 68 51 rfl rfl rfl rfl ki_Mo (by decide) kw1734 kd_Mo_oneCode_28 rfl ?_
    refine zk_iload_n C kd_Mo_oneCode_31 rfl 1 rfl rfl ?_
    refine zs_iald C 100 rfl (zd_vp q1) kd_Mo_oneCode_32 rfl ?_
    refine zk_if_ne (tgt := 40) C kd_Mo_oneCode_33 (by decide) rfl (fun b3 => ?_) (fun b3 => ?_)
    · replace e := zd_neg b3 e
      refine zk_iconst (v := 3) C kd_Mo_oneCode_40 (by decide) rfl ?_
      exact zk_iret C hR kd_Mo_oneCode_41 rfl rfl (zd_rIO e)
    · replace e := zd_pos b3 e
      refine zk_iconst (v := 2) C kd_Mo_oneCode_36 (by decide) rfl ?_
      refine zk_goto (tgt := 41) C kd_Mo_oneCode_37 (by decide) ?_
      exact zk_iret C hR kd_Mo_oneCode_41 rfl rfl (zd_rIO e)
  · replace e := zd_pos b2 e
    refine zk_aload_n C kd_Mo_oneCode_9 rfl 0 rfl rfl ?_
    refine zs_get (v := .ref (S.1 100)) C 68 51 rfl rfl rfl rfl ki_Mo (by decide) kw1734 kd_Mo_oneCode_10 rfl ?_
    refine zk_iload_n C kd_Mo_oneCode_13 rfl 1 rfl rfl ?_
    refine zs_iald C 100 rfl (zd_vp q1) kd_Mo_oneCode_14 rfl ?_
    refine zk_iconst (v := 1) C kd_Mo_oneCode_15 (by decide) rfl ?_
    refine zk_icmp_ne (tgt := 23) C kd_Mo_oneCode_16 (by decide) rfl (fun b4 => ?_) (fun b4 => ?_)
    · replace e := zd_neg b4 e
      refine zk_iconst (v := 1) C kd_Mo_oneCode_23 (by decide) rfl ?_
      refine zk_goto (tgt := 41) C kd_Mo_oneCode_24 (by decide) ?_
      exact zk_iret C hR kd_Mo_oneCode_41 rfl rfl (zd_rIO e)
    · replace e := zd_pos b4 e
      refine zk_iconst (v := 0) C kd_Mo_oneCode_19 (by decide) rfl ?_
      refine zk_goto (tgt := 41) C kd_Mo_oneCode_20 (by decide) ?_
      exact zk_iret C hR kd_Mo_oneCode_41 rfl rfl (zd_rIO e)
set_option maxHeartbeats 4000000 in
set_option maxRecDepth 100000 in
theorem zb_Mo_standard_162 {X : zkj_T} {S : zs_T} {P : ze_T} {l : Launch} {D : va_G} {sz0 : Nat} {rv : Int32} {h : zs_H} (C : zk_C X km_Mo_standard (zs_G S l D sz0) { frames := 2, cells := 0, slots := 0, locals := 43 } (ze_E P)) (hR : zkj_R X (zd_PI S rv h) (some .int)) (x2 : Int32) (x3 : Int32) (y0 : Int32) (e : f_Mo_standard_162 h x2 x3 y0 = some rv) : zk_Ab X (zs_W S h) 0 0 162 [(2, .int x2), (3, .int x3)] [.int y0] := by
  unfold f_Mo_standard_162 at e
  refine zk_iload_n C kd_Mo_standard_162 rfl 0 rfl rfl ?_
  refine zk_iload_n C kd_Mo_standard_163 rfl 1 rfl rfl ?_
  obtain ⟨v2, c1, e⟩ := zd_b e
  refine zk_callS (rn := { frames := 1, cells := 0, slots := 0, locals := 21 }) (As := [.int y0, .int x2, .int x3]) (rest := []) C (zc_Mo_two h y0 x2 x3 c1) ku_Mo_two kw2576 ks_Mo_two rfl ⟨by decide, by decide⟩ ⟨by decide, by decide⟩ rfl (Nat.le_of_ble_eq_true rfl) kd_Mo_standard_164 rfl (c1 := 0) (s1 := 0) rfl rfl (fun v w hp => ?_)
  obtain ⟨rfl, rfl⟩ := hp
  refine zk_stk (r' := [.int v2]) rfl ?_
  exact zk_iret C hR kd_Mo_standard_167 rfl rfl (zd_rIO e)
set_option maxHeartbeats 4000000 in
set_option maxRecDepth 100000 in
theorem zb_Mo_standard_143 {X : zkj_T} {S : zs_T} {P : ze_T} {l : Launch} {D : va_G} {sz0 : Nat} {rv : Int32} {h : zs_H} (C : zk_C X km_Mo_standard (zs_G S l D sz0) { frames := 2, cells := 0, slots := 0, locals := 43 } (ze_E P)) (hR : zkj_R X (zd_PI S rv h) (some .int)) (x2 : Int32) (x3 : Int32) (y0 : Int32) (e : f_Mo_standard_143 h x2 x3 y0 = some rv) : zk_Ab X (zs_W S h) 0 0 143 [(2, .int x2), (3, .int x3)] [.int y0] := by
  unfold f_Mo_standard_143 at e
  refine zk_iload_n C kd_Mo_standard_143 rfl 0 rfl rfl ?_
  refine zk_iload_n C kd_Mo_standard_144 rfl 1 rfl rfl ?_
  obtain ⟨v2, c1, e⟩ := zd_b e
  refine zk_callS (rn := { frames := 1, cells := 0, slots := 0, locals := 21 }) (As := [.int y0, .int x2, .int x3]) (rest := []) C (zc_Mo_two h y0 x2 x3 c1) ku_Mo_two kw2576 ks_Mo_two rfl ⟨by decide, by decide⟩ ⟨by decide, by decide⟩ rfl (Nat.le_of_ble_eq_true rfl) kd_Mo_standard_145 rfl (c1 := 0) (s1 := 0) rfl rfl (fun v w hp => ?_)
  obtain ⟨rfl, rfl⟩ := hp
  refine zk_stk (r' := [.int v2]) rfl ?_
  exact zk_iret C hR kd_Mo_standard_148 rfl rfl (zd_rIO e)
set_option maxHeartbeats 4000000 in
set_option maxRecDepth 100000 in
theorem zb_Mo_standard_83 {X : zkj_T} {S : zs_T} {P : ze_T} {l : Launch} {D : va_G} {sz0 : Nat} {rv : Int32} {h : zs_H} (C : zk_C X km_Mo_standard (zs_G S l D sz0) { frames := 2, cells := 0, slots := 0, locals := 43 } (ze_E P)) (hR : zkj_R X (zd_PI S rv h) (some .int)) (x2 : Int32) (y0 : Int32) (e : f_Mo_standard_83 h x2 y0 = some rv) : zk_Ab X (zs_W S h) 0 0 83 [(2, .int x2)] [.int y0] := by
  unfold f_Mo_standard_83 at e
  refine zk_iload_n C kd_Mo_standard_83 rfl 0 rfl rfl ?_
  refine zk_callS (rn := { frames := 1, cells := 0, slots := 0, locals := 21 }) (As := [.int y0, .int x2]) (rest := []) C (zc_Mo_one h y0 x2) ku_Mo_one kw2564 ks_Mo_one rfl ⟨by decide, by decide⟩ ⟨by decide, by decide⟩ rfl (Nat.le_of_ble_eq_true rfl) kd_Mo_standard_84 rfl (c1 := 0) (s1 := 0) rfl rfl (fun v w hp => ?_)
  obtain ⟨rfl, rfl⟩ := hp
  refine zk_stk (r' := [.int (f_Mo_one y0 x2)]) rfl ?_
  exact zk_iret C hR kd_Mo_standard_87 rfl rfl (zd_rIO e)
set_option maxHeartbeats 4000000 in
set_option maxRecDepth 100000 in
theorem zc_Mo_standard {l : Launch} {D : va_G} {sz0 : Nat} {S : zs_T} {P : ze_T} (h : zs_H) (x1 : Int32) (x2 : Int32) (x3 : Int32) (x4 : Int32) {rv : Int32} (e : f_Mo_standard h x1 x2 x3 x4 = some rv) : zk_Sp (zs_G S l D sz0) (ze_E P) km_Mo_standard { frames := 2, cells := 0, slots := 0, locals := 43 } [.ref (S.1 68), .int x1, .int x2, .int x3, .int x4] (zs_W S h) (zd_PI S rv h) := by
  refine zk_met ku_Mo_standard (Nat.le_of_ble_eq_true rfl) (ze_Em P) ?_
  intro X C hR
  refine zk_lvs (lv' := [(0, .ref (S.1 68)), (1, .int x1), (2, .int x2), (3, .int x3), (4, .int x4)]) [0, 1, 2, 3, 4] rfl ?_
  unfold f_Mo_standard at e
  refine zk_aload_n C kd_Mo_standard_0 rfl 0 rfl rfl ?_
  refine zs_get (v := .ref (S.1 100)) C 68 51 rfl rfl rfl rfl ki_Mo (by decide) kw1734 kd_Mo_standard_1 rfl ?_
  refine zk_aload_n C kd_Mo_standard_4 rfl 0 rfl rfl ?_
  refine zs_get (v := .ref (S.1 76)) C 68 19 rfl rfl rfl rfl ki_Mo (by decide) kw1702 kd_Mo_standard_5 rfl ?_
  refine zk_iload_n C kd_Mo_standard_8 rfl 1 rfl rfl ?_
  obtain ⟨q1, e⟩ := zd_g e
  refine zs_iald C 76 rfl (zd_vp q1) kd_Mo_standard_9 rfl ?_
  obtain ⟨q2, e⟩ := zd_g e
  refine zs_iald C 100 rfl (zd_vp q2) kd_Mo_standard_10 rfl ?_
  refine zk_istore (lv' := [(5, _), (0, _), (1, _), (2, _), (3, _), (4, _)]) C kd_Mo_standard_11 (by decide) rfl rfl ?_
  refine zk_aload_n C kd_Mo_standard_13 rfl 1 rfl rfl ?_
  refine zs_get (v := .ref (S.1 102)) C 68 53 rfl rfl rfl rfl ki_Mo (by decide) kw1736 kd_Mo_standard_14 rfl ?_
  refine zk_iload_n C kd_Mo_standard_17 rfl 2 rfl rfl ?_
  refine zs_iald C 102 rfl (zd_vp q1) kd_Mo_standard_18 rfl ?_
  refine zk_bipush (v := 100) C kd_Mo_standard_19 (by decide) rfl ?_
  refine zk_isub C kd_Mo_standard_21 rfl ?_
  by_cases b3 : ((h.2.1 102 x1.toNatClampNeg) - 100) = 0
  · replace e := zd_pos b3 e
    refine zk_tableIn (tgt := 72) C kd_Mo_standard_22 (by rw [b3]; decide) (by rw [b3]; decide) (by rw [b3]; rfl) (by decide) ?_
    refine zk_iload C kd_Mo_standard_72 0 rfl rfl ?_
    refine zk_iconst (v := 1) C kd_Mo_standard_74 (by decide) rfl ?_
    refine zk_icmp_ne (tgt := 82) C kd_Mo_standard_75 (by decide) rfl (fun b4 => ?_) (fun b4 => ?_)
    · replace e := zd_neg b4 e
      refine zk_iconst (v := 5) C kd_Mo_standard_82 (by decide) rfl ?_
      refine zk_lvs (lv' := [(2, .int x2)]) [3] rfl ?_
      exact zb_Mo_standard_83 C hR x2 5 e
    · replace e := zd_pos b4 e
      refine zk_iconst (v := 4) C kd_Mo_standard_78 (by decide) rfl ?_
      refine zk_goto (tgt := 83) C kd_Mo_standard_79 (by decide) ?_
      refine zk_lvs (lv' := [(2, .int x2)]) [3] rfl ?_
      exact zb_Mo_standard_83 C hR x2 4 e
  replace e := zd_neg b3 e
  by_cases b5 : ((h.2.1 102 x1.toNatClampNeg) - 100) = 1
  · replace e := zd_pos b5 e
    refine zk_tableIn (tgt := 88) C kd_Mo_standard_22 (by rw [b5]; decide) (by rw [b5]; decide) (by rw [b5]; rfl) (by decide) ?_
    refine zk_bipush (v := 23) C kd_Mo_standard_88 (by decide) rfl ?_
    refine zk_iload_n C kd_Mo_standard_90 rfl 3 rfl rfl ?_
    refine zk_iload_n C kd_Mo_standard_91 rfl 4 rfl rfl ?_
    obtain ⟨v7, c6, e⟩ := zd_b e
    refine zk_callS (rn := { frames := 1, cells := 0, slots := 0, locals := 21 }) (As := [.int 23, .int x2, .int x3]) (rest := []) C (zc_Mo_two h 23 x2 x3 c6) ku_Mo_two kw2576 ks_Mo_two rfl ⟨by decide, by decide⟩ ⟨by decide, by decide⟩ rfl (Nat.le_of_ble_eq_true rfl) kd_Mo_standard_92 rfl (c1 := 0) (s1 := 0) rfl rfl (fun v w hp => ?_)
    obtain ⟨rfl, rfl⟩ := hp
    refine zk_stk (r' := [.int v7]) rfl ?_
    exact zk_iret C hR kd_Mo_standard_95 rfl rfl (zd_rIO e)
  replace e := zd_neg b5 e
  by_cases b8 : ((h.2.1 102 x1.toNatClampNeg) - 100) = 2
  · replace e := zd_pos b8 e
    refine zk_tableIn (tgt := 96) C kd_Mo_standard_22 (by rw [b8]; decide) (by rw [b8]; decide) (by rw [b8]; rfl) (by decide) ?_
    refine zk_bipush (v := 24) C kd_Mo_standard_96 (by decide) rfl ?_
    refine zk_iload_n C kd_Mo_standard_98 rfl 3 rfl rfl ?_
    refine zk_iload_n C kd_Mo_standard_99 rfl 4 rfl rfl ?_
    obtain ⟨v10, c9, e⟩ := zd_b e
    refine zk_callS (rn := { frames := 1, cells := 0, slots := 0, locals := 21 }) (As := [.int 24, .int x2, .int x3]) (rest := []) C (zc_Mo_two h 24 x2 x3 c9) ku_Mo_two kw2576 ks_Mo_two rfl ⟨by decide, by decide⟩ ⟨by decide, by decide⟩ rfl (Nat.le_of_ble_eq_true rfl) kd_Mo_standard_100 rfl (c1 := 0) (s1 := 0) rfl rfl (fun v w hp => ?_)
    obtain ⟨rfl, rfl⟩ := hp
    refine zk_stk (r' := [.int v10]) rfl ?_
    exact zk_iret C hR kd_Mo_standard_103 rfl rfl (zd_rIO e)
  replace e := zd_neg b8 e
  by_cases b11 : ((h.2.1 102 x1.toNatClampNeg) - 100) = 3
  · replace e := zd_pos b11 e
    refine zk_tableIn (tgt := 104) C kd_Mo_standard_22 (by rw [b11]; decide) (by rw [b11]; decide) (by rw [b11]; rfl) (by decide) ?_
    refine zk_bipush (v := 23) C kd_Mo_standard_104 (by decide) rfl ?_
    refine zk_bipush (v := 24) C kd_Mo_standard_106 (by decide) rfl ?_
    refine zk_iload_n C kd_Mo_standard_108 rfl 3 rfl rfl ?_
    refine zk_iload_n C kd_Mo_standard_109 rfl 4 rfl rfl ?_
    obtain ⟨v13, c12, e⟩ := zd_b e
    refine zk_callS (rn := { frames := 1, cells := 0, slots := 0, locals := 21 }) (As := [.int 24, .int x2, .int x3]) (rest := [.int 23]) C (zc_Mo_two h 24 x2 x3 c12) ku_Mo_two kw2576 ks_Mo_two rfl ⟨by decide, by decide⟩ ⟨by decide, by decide⟩ rfl (Nat.le_of_ble_eq_true rfl) kd_Mo_standard_110 rfl (c1 := 0) (s1 := 0) rfl rfl (fun v w hp => ?_)
    obtain ⟨rfl, rfl⟩ := hp
    refine zk_stk (r' := [.int v13, .int 23]) rfl ?_
    refine zk_iload C kd_Mo_standard_113 5 rfl rfl ?_
    obtain ⟨v15, c14, e⟩ := zd_b e
    refine zk_callS (rn := { frames := 1, cells := 0, slots := 0, locals := 21 }) (As := [.int 23, .int v13, .int x4]) (rest := []) C (zc_Mo_two h 23 v13 x4 c14) ku_Mo_two kw2576 ks_Mo_two rfl ⟨by decide, by decide⟩ ⟨by decide, by decide⟩ rfl (Nat.le_of_ble_eq_true rfl) kd_Mo_standard_115 rfl (c1 := 0) (s1 := 0) rfl rfl (fun v w hp => ?_)
    obtain ⟨rfl, rfl⟩ := hp
    refine zk_stk (r' := [.int v15]) rfl ?_
    exact zk_iret C hR kd_Mo_standard_118 rfl rfl (zd_rIO e)
  replace e := zd_neg b11 e
  by_cases b16 : ((h.2.1 102 x1.toNatClampNeg) - 100) = 4
  · replace e := zd_pos b16 e
    refine zk_tableIn (tgt := 119) C kd_Mo_standard_22 (by rw [b16]; decide) (by rw [b16]; decide) (by rw [b16]; rfl) (by decide) ?_
    refine zk_iload_n C kd_Mo_standard_119 rfl 3 rfl rfl ?_
    refine zk_if_eq (tgt := 128) C kd_Mo_standard_120 (by decide) rfl (fun b17 => ?_) (fun b17 => ?_)
    · replace e := zd_pos b17 e
      refine zk_iload_n C kd_Mo_standard_128 rfl 4 rfl rfl ?_
      exact zk_iret C hR kd_Mo_standard_129 rfl rfl (zd_rIO e)
    · replace e := zd_neg b17 e
      refine zk_iload C kd_Mo_standard_123 5 rfl rfl ?_
      refine zk_goto (tgt := 129) C kd_Mo_standard_125 (by decide) ?_
      exact zk_iret C hR kd_Mo_standard_129 rfl rfl (zd_rIO e)
  replace e := zd_neg b16 e
  by_cases b18 : ((h.2.1 102 x1.toNatClampNeg) - 100) = 5
  · replace e := zd_pos b18 e
    refine zk_tableIn (tgt := 130) C kd_Mo_standard_22 (by rw [b18]; decide) (by rw [b18]; decide) (by rw [b18]; rfl) (by decide) ?_
    refine zk_iload C kd_Mo_standard_130 0 rfl rfl ?_
    refine zk_iconst (v := 1) C kd_Mo_standard_132 (by decide) rfl ?_
    refine zk_icmp_ne (tgt := 141) C kd_Mo_standard_133 (by decide) rfl (fun b19 => ?_) (fun b19 => ?_)
    · replace e := zd_neg b19 e
      refine zk_bipush (v := 21) C kd_Mo_standard_141 (by decide) rfl ?_
      refine zk_lvs (lv' := [(2, .int x2), (3, .int x3)]) [3, 4] rfl ?_
      exact zb_Mo_standard_143 C hR x2 x3 21 e
    · replace e := zd_pos b19 e
      refine zk_bipush (v := 19) C kd_Mo_standard_136 (by decide) rfl ?_
      refine zk_goto (tgt := 143) C kd_Mo_standard_138 (by decide) ?_
      refine zk_lvs (lv' := [(2, .int x2), (3, .int x3)]) [3, 4] rfl ?_
      exact zb_Mo_standard_143 C hR x2 x3 19 e
  replace e := zd_neg b18 e
  by_cases b20 : ((h.2.1 102 x1.toNatClampNeg) - 100) = 6
  · replace e := zd_pos b20 e
    refine zk_tableIn (tgt := 149) C kd_Mo_standard_22 (by rw [b20]; decide) (by rw [b20]; decide) (by rw [b20]; rfl) (by decide) ?_
    refine zk_iload C kd_Mo_standard_149 0 rfl rfl ?_
    refine zk_iconst (v := 1) C kd_Mo_standard_151 (by decide) rfl ?_
    refine zk_icmp_ne (tgt := 160) C kd_Mo_standard_152 (by decide) rfl (fun b21 => ?_) (fun b21 => ?_)
    · replace e := zd_neg b21 e
      refine zk_bipush (v := 22) C kd_Mo_standard_160 (by decide) rfl ?_
      refine zk_lvs (lv' := [(2, .int x2), (3, .int x3)]) [3, 4] rfl ?_
      exact zb_Mo_standard_162 C hR x2 x3 22 e
    · replace e := zd_pos b21 e
      refine zk_bipush (v := 20) C kd_Mo_standard_155 (by decide) rfl ?_
      refine zk_goto (tgt := 162) C kd_Mo_standard_157 (by decide) ?_
      refine zk_lvs (lv' := [(2, .int x2), (3, .int x3)]) [3, 4] rfl ?_
      exact zb_Mo_standard_162 C hR x2 x3 20 e
  replace e := zd_neg b20 e
  by_cases b22 : ((h.2.1 102 x1.toNatClampNeg) - 100) = 7
  · replace e := zd_pos b22 e
    refine zk_tableIn (tgt := 168) C kd_Mo_standard_22 (by rw [b22]; decide) (by rw [b22]; decide) (by rw [b22]; rfl) (by decide) ?_
    refine zk_bipush (v := 6) C kd_Mo_standard_168 (by decide) rfl ?_
    refine zk_iload_n C kd_Mo_standard_170 rfl 3 rfl rfl ?_
    refine zk_callS (rn := { frames := 1, cells := 0, slots := 0, locals := 21 }) (As := [.int 6, .int x2]) (rest := []) C (zc_Mo_one h 6 x2) ku_Mo_one kw2564 ks_Mo_one rfl ⟨by decide, by decide⟩ ⟨by decide, by decide⟩ rfl (Nat.le_of_ble_eq_true rfl) kd_Mo_standard_171 rfl (c1 := 0) (s1 := 0) rfl rfl (fun v w hp => ?_)
    obtain ⟨rfl, rfl⟩ := hp
    refine zk_stk (r' := [.int (f_Mo_one 6 x2)]) rfl ?_
    exact zk_iret C hR kd_Mo_standard_174 rfl rfl (zd_rIO e)
  replace e := zd_neg b22 e
  by_cases b23 : ((h.2.1 102 x1.toNatClampNeg) - 100) = 8
  · replace e := zd_pos b23 e
    refine zk_tableIn (tgt := 175) C kd_Mo_standard_22 (by rw [b23]; decide) (by rw [b23]; decide) (by rw [b23]; rfl) (by decide) ?_
    refine zk_iload_n C kd_Mo_standard_175 rfl 3 rfl rfl ?_
    exact zk_iret C hR kd_Mo_standard_176 rfl rfl (zd_rIO e)
  replace e := zd_neg b23 e
  refine zk_tableOut (tgt := 177) C kd_Mo_standard_22 (by have := lv_neT b3 (a := 0) (by decide); have := lv_neT b5 (a := 1) (by decide); have := lv_neT b8 (a := 2) (by decide); have := lv_neT b11 (a := 3) (by decide); have := lv_neT b16 (a := 4) (by decide); have := lv_neT b18 (a := 5) (by decide); have := lv_neT b20 (a := 6) (by decide); have := lv_neT b22 (a := 7) (by decide); have := lv_neT b23 (a := 8) (by decide); omega) (by decide) ?_
  refine zk_bipush (v := 7) C kd_Mo_standard_177 (by decide) rfl ?_
  refine zk_iload_n C kd_Mo_standard_179 rfl 3 rfl rfl ?_
  refine zk_callS (rn := { frames := 1, cells := 0, slots := 0, locals := 21 }) (As := [.int 7, .int x2]) (rest := []) C (zc_Mo_one h 7 x2) ku_Mo_one kw2564 ks_Mo_one rfl ⟨by decide, by decide⟩ ⟨by decide, by decide⟩ rfl (Nat.le_of_ble_eq_true rfl) kd_Mo_standard_180 rfl (c1 := 0) (s1 := 0) rfl rfl (fun v w hp => ?_)
  obtain ⟨rfl, rfl⟩ := hp
  refine zk_stk (r' := [.int (f_Mo_one 7 x2)]) rfl ?_
  exact zk_iret C hR kd_Mo_standard_183 rfl rfl (zd_rIO e)
set_option maxHeartbeats 4000000 in
set_option maxRecDepth 100000 in
theorem zc_Mo_signCode {l : Launch} {D : va_G} {sz0 : Nat} {S : zs_T} {P : ze_T} (h : zs_H) (x1 : Int32) {rv : Int32} (e : f_Mo_signCode h x1 = some rv) : zk_Sp (zs_G S l D sz0) (ze_E P) km_Mo_signCode { frames := 0, cells := 0, slots := 0, locals := 0 } [.ref (S.1 68), .int x1] (zs_W S h) (zd_PI S rv h) := by
  refine zk_met ku_Mo_signCode (Nat.le_of_ble_eq_true rfl) (ze_Em P) ?_
  intro X C hR
  refine zk_lvs (lv' := [(0, .ref (S.1 68)), (1, .int x1)]) [0, 1] rfl ?_
  unfold f_Mo_signCode at e
  refine zk_aload_n C kd_Mo_signCode_0 rfl 0 rfl rfl ?_
  refine zs_get (v := .ref (S.1 74)) C 68 17 rfl rfl rfl rfl ki_Mo (by decide) kw1700 kd_Mo_signCode_1 rfl ?_
  refine zk_iload_n C kd_Mo_signCode_4 rfl 1 rfl rfl ?_
  obtain ⟨q1, e⟩ := zd_g e
  refine zs_iald C 74 rfl (zd_vp q1) kd_Mo_signCode_5 rfl ?_
  refine zk_istore_n (lv' := [(2, _), (0, _), (1, _)]) C kd_Mo_signCode_6 rfl (by decide) rfl rfl ?_
  refine zk_iload_n C kd_Mo_signCode_7 rfl 0 rfl rfl ?_
  refine zk_if_ne (tgt := 16) C kd_Mo_signCode_8 (by decide) rfl (fun b2 => ?_) (fun b2 => ?_)
  · replace e := zd_neg b2 e
    refine zk_iload_n C kd_Mo_signCode_16 rfl 0 rfl rfl ?_
    refine zk_iconst (v := 1) C kd_Mo_signCode_17 (by decide) rfl ?_
    refine zk_icmp_ne (tgt := 26) C kd_Mo_signCode_18 (by decide) rfl (fun b3 => ?_) (fun b3 => ?_)
    · replace e := zd_neg b3 e
      refine zk_iload_n C kd_Mo_signCode_26 rfl 0 rfl rfl ?_
      refine zk_iconst (v := 2) C kd_Mo_signCode_27 (by decide) rfl ?_
      refine zk_icmp_ne (tgt := 36) C kd_Mo_signCode_28 (by decide) rfl (fun b4 => ?_) (fun b4 => ?_)
      · replace e := zd_neg b4 e
        refine zk_iload_n C kd_Mo_signCode_36 rfl 0 rfl rfl ?_
        refine zk_bipush (v := 9) C kd_Mo_signCode_37 (by decide) rfl ?_
        refine zk_icmp_ge (tgt := 49) C kd_Mo_signCode_39 (by decide) rfl (fun b5 => ?_) (fun b5 => ?_)
        · replace e := zd_pos b5 e
          refine zk_aload_n C kd_Mo_signCode_49 rfl 1 rfl rfl ?_
          refine zs_get (v := .ref (S.1 100)) C 68 51 rfl rfl rfl rfl ki_Mo (by decide) kw1734 kd_Mo_signCode_50 rfl ?_
          refine zk_iload_n C kd_Mo_signCode_53 rfl 2 rfl rfl ?_
          refine zs_iald C 100 rfl (zd_vp q1) kd_Mo_signCode_54 rfl ?_
          refine zk_iconst (v := 1) C kd_Mo_signCode_55 (by decide) rfl ?_
          refine zk_icmp_ne (tgt := 66) C kd_Mo_signCode_56 (by decide) rfl (fun b6 => ?_) (fun b6 => ?_)
          · replace e := zd_neg b6 e
            refine zk_iload_n C kd_Mo_signCode_66 rfl 0 rfl rfl ?_
            refine zk_iconst (v := 4) C kd_Mo_signCode_67 (by decide) rfl ?_
            refine zk_isub C kd_Mo_signCode_68 rfl ?_
            exact zk_iret C hR kd_Mo_signCode_69 rfl rfl (zd_rIO e)
          · replace e := zd_pos b6 e
            refine zk_iload_n C kd_Mo_signCode_59 rfl 0 rfl rfl ?_
            refine zk_bipush (v := 9) C kd_Mo_signCode_60 (by decide) rfl ?_
            refine zk_isub C kd_Mo_signCode_62 rfl ?_
            refine zk_goto (tgt := 69) C kd_Mo_signCode_63 (by decide) ?_
            exact zk_iret C hR kd_Mo_signCode_69 rfl rfl (zd_rIO e)
        · replace e := zd_neg b5 e
          refine zk_bipush (v := 10) C kd_Mo_signCode_42 (by decide) rfl ?_
          refine zk_iload_n C kd_Mo_signCode_44 rfl 0 rfl rfl ?_
          refine zk_iadd C kd_Mo_signCode_45 rfl ?_
          refine zk_goto (tgt := 69) C kd_Mo_signCode_46 (by decide) ?_
          exact zk_iret C hR kd_Mo_signCode_69 rfl rfl (zd_rIO e)
      · replace e := zd_pos b4 e
        refine zk_bipush (v := 10) C kd_Mo_signCode_31 (by decide) rfl ?_
        refine zk_goto (tgt := 69) C kd_Mo_signCode_33 (by decide) ?_
        exact zk_iret C hR kd_Mo_signCode_69 rfl rfl (zd_rIO e)
    · replace e := zd_pos b3 e
      refine zk_bipush (v := 12) C kd_Mo_signCode_21 (by decide) rfl ?_
      refine zk_goto (tgt := 69) C kd_Mo_signCode_23 (by decide) ?_
      exact zk_iret C hR kd_Mo_signCode_69 rfl rfl (zd_rIO e)
  · replace e := zd_pos b2 e
    refine zk_bipush (v := 11) C kd_Mo_signCode_11 (by decide) rfl ?_
    refine zk_goto (tgt := 69) C kd_Mo_signCode_13 (by decide) ?_
    exact zk_iret C hR kd_Mo_signCode_69 rfl rfl (zd_rIO e)
set_option maxHeartbeats 4000000 in
set_option maxRecDepth 100000 in
theorem zb_Mo_valueAlone_81 {X : zkj_T} {S : zs_T} {P : ze_T} {l : Launch} {D : va_G} {sz0 : Nat} {d : Nat} {rv : Int32} {h : zs_H} (C : zk_C X km_Mo_valueAlone (zs_G S l D sz0) { frames := 3 + (d + 1), cells := 0, slots := 0, locals := 68 + 25 * (d + 1) } (ze_E P)) (hR : zkj_R X (zd_PI S rv h) (some .int)) (x1 : Int32) (x2 : Int32) (x4 : Int32) (y0 : Int32) (e : f_Mo_valueAlone_81 h x1 x2 x4 y0 = some rv) : zk_Ab X (zs_W S h) 0 0 81 [(0, .ref (S.1 68)), (1, .int x1), (2, .int x2), (4, .int x4)] [.int y0] := by
  unfold f_Mo_valueAlone_81 at e
  refine zk_istore (lv' := [(5, _), (0, _), (1, _), (2, _), (4, _)]) C kd_Mo_valueAlone_81 (by decide) rfl rfl ?_
  refine zk_aload_n C kd_Mo_valueAlone_83 rfl 1 rfl rfl ?_
  refine zs_get (v := .ref (S.1 72)) C 68 15 rfl rfl rfl rfl ki_Mo (by decide) kw1698 kd_Mo_valueAlone_84 rfl ?_
  refine zk_iload_n C kd_Mo_valueAlone_87 rfl 2 rfl rfl ?_
  obtain ⟨q1, e⟩ := zd_g e
  refine zs_iald C 72 rfl (zd_vp q1) kd_Mo_valueAlone_88 rfl ?_
  refine zk_bipush (v := 36) C kd_Mo_valueAlone_89 (by decide) rfl ?_
  refine zk_icmp_ne (tgt := 106) C kd_Mo_valueAlone_91 (by decide) rfl (fun b2 => ?_) (fun b2 => ?_)
  · replace e := zd_neg b2 e
    refine zk_aload_n C kd_Mo_valueAlone_106 rfl 1 rfl rfl ?_
    refine zk_iload_n C kd_Mo_valueAlone_107 rfl 2 rfl rfl ?_
    refine zk_iload_n C kd_Mo_valueAlone_108 rfl 3 rfl rfl ?_
    refine zk_iload C kd_Mo_valueAlone_109 4 rfl rfl ?_
    refine zk_iload C kd_Mo_valueAlone_111 0 rfl rfl ?_
    obtain ⟨v4, c3, e⟩ := zd_b e
    refine zs_callV (k := 68) (rn := { frames := 2, cells := 0, slots := 0, locals := 43 }) (As := [.int x1, .int x2, .int x4, .int y0]) (rest := []) C (zc_Mo_standard h x1 x2 x4 y0 c3) ku_Mo_standard kw2572 kv_Mo_standard rfl (zd_rmO (by decide) (by decide)) ⟨Nat.le_refl _, Nat.le_refl _⟩ rfl rfl rfl (Nat.le_of_ble_eq_true rfl) kd_Mo_valueAlone_113 rfl (c1 := 0) (s1 := 0) rfl rfl (fun v w hp => ?_)
    obtain ⟨rfl, rfl⟩ := hp
    refine zk_stk (r' := [.int v4]) rfl ?_
    exact zk_iret C hR kd_Mo_valueAlone_116 rfl rfl (zd_rIO e)
  · replace e := zd_pos b2 e
    refine zk_aload_n C kd_Mo_valueAlone_94 rfl 1 rfl rfl ?_
    refine zk_iload_n C kd_Mo_valueAlone_95 rfl 2 rfl rfl ?_
    obtain ⟨v6, c5, e⟩ := zd_b e
    refine zs_callV (k := 68) (rn := { frames := 0, cells := 0, slots := 0, locals := 0 }) (As := [.int x1]) (rest := []) C (zc_Mo_oneCode h x1 c5) ku_Mo_oneCode kw2560 kv_Mo_oneCode rfl (zd_rmO (by decide) (by decide)) ⟨Nat.le_refl _, Nat.le_refl _⟩ rfl rfl rfl (Nat.le_of_ble_eq_true rfl) kd_Mo_valueAlone_96 rfl (c1 := 0) (s1 := 0) rfl rfl (fun v w hp => ?_)
    obtain ⟨rfl, rfl⟩ := hp
    refine zk_stk (r' := [.int v6]) rfl ?_
    refine zk_iload_n C kd_Mo_valueAlone_99 rfl 3 rfl rfl ?_
    refine zk_callS (rn := { frames := 1, cells := 0, slots := 0, locals := 21 }) (As := [.int v6, .int x2]) (rest := []) C (zc_Mo_one h v6 x2) ku_Mo_one kw2564 ks_Mo_one rfl (zd_rmO (by decide) (by decide)) ⟨Nat.le_refl _, Nat.le_refl _⟩ rfl (Nat.le_of_ble_eq_true rfl) kd_Mo_valueAlone_100 rfl (c1 := 0) (s1 := 0) rfl rfl (fun v w hp => ?_)
    obtain ⟨rfl, rfl⟩ := hp
    refine zk_stk (r' := [.int (f_Mo_one v6 x2)]) rfl ?_
    refine zk_goto (tgt := 116) C kd_Mo_valueAlone_103 (by decide) ?_
    exact zk_iret C hR kd_Mo_valueAlone_116 rfl rfl (zd_rIO e)
set_option maxHeartbeats 4000000 in
set_option maxRecDepth 100000 in
theorem zb_Mo_valueAlone_67 {X : zkj_T} {S : zs_T} {P : ze_T} {l : Launch} {D : va_G} {sz0 : Nat} {d : Nat} {rv : Int32} {h : zs_H} (C : zk_C X km_Mo_valueAlone (zs_G S l D sz0) { frames := 3 + (d + 1), cells := 0, slots := 0, locals := 68 + 25 * (d + 1) } (ze_E P)) (hR : zkj_R X (zd_PI S rv h) (some .int)) (x1 : Int32) (x2 : Int32) (x4 : Int32) (e : f_Mo_valueAlone_67 h x1 x2 x4 = some rv) : zk_Ab X (zs_W S h) 0 0 67 [(0, .ref (S.1 68)), (1, .int x1), (2, .int x2), (4, .int x4)] [] := by
  unfold f_Mo_valueAlone_67 at e
  refine zk_iconst (v := 0) C kd_Mo_valueAlone_67 (by decide) rfl ?_
  refine zk_goto (tgt := 81) C kd_Mo_valueAlone_68 (by decide) ?_
  refine zk_lvs (lv' := [(0, .ref (S.1 68)), (1, .int x1), (2, .int x2), (4, .int x4)]) [0, 1, 2, 3] rfl ?_
  exact zb_Mo_valueAlone_81 C hR x1 x2 x4 0 e
set_option maxHeartbeats 4000000 in
set_option maxRecDepth 100000 in
theorem zb_Mo_valueAlone_52 {X : zkj_T} {S : zs_T} {P : ze_T} {l : Launch} {D : va_G} {sz0 : Nat} {d : Nat} {rv : Int32} {h : zs_H} (C : zk_C X km_Mo_valueAlone (zs_G S l D sz0) { frames := 3 + (d + 1), cells := 0, slots := 0, locals := 68 + 25 * (d + 1) } (ze_E P)) (hR : zkj_R X (zd_PI S rv h) (some .int)) {r_Mo_valueOf : zs_H → Int32 → (Option Int32)} (hr_Mo_valueOf : ∀ (h : zs_H) (x0 : Int32) {rv : Int32}, r_Mo_valueOf h x0 = some rv → zk_Sp (zs_G S l D sz0) (ze_E P) km_Mo_valueOf { frames := 3 + d, cells := 0, slots := 0, locals := 68 + 25 * d } [.ref (S.1 68), .int x0] (zs_W S h) (zd_PI S rv h)) (x1 : Int32) (x2 : Int32) (x3 : Int32) (y0 : Int32) (e : f_Mo_valueAlone_52 r_Mo_valueOf h x1 x2 x3 y0 = some rv) : zk_Ab X (zs_W S h) 0 0 52 [(0, .ref (S.1 68)), (1, .int x1), (2, .int x2), (3, .int x3)] [.int y0] := by
  unfold f_Mo_valueAlone_52 at e
  refine zk_istore (lv' := [(4, _), (0, _), (1, _), (2, _), (3, _)]) C kd_Mo_valueAlone_52 (by decide) rfl rfl ?_
  refine zk_iload_n C kd_Mo_valueAlone_54 rfl 4 rfl rfl ?_
  refine zk_if_lt (tgt := 67) C kd_Mo_valueAlone_55 (by decide) rfl (fun b1 => ?_) (fun b1 => ?_)
  · replace e := zd_pos b1 e
    refine zk_lvs (lv' := [(0, .ref (S.1 68)), (1, .int x1), (2, .int x2), (4, .int y0)]) [1, 2, 3, 0] rfl ?_
    exact zb_Mo_valueAlone_67 C hR x1 x2 y0 e
  · replace e := zd_neg b1 e
    refine zk_aload_n C kd_Mo_valueAlone_58 rfl 1 rfl rfl ?_
    refine zs_get (v := .ref (S.1 78)) C 68 21 rfl rfl rfl rfl ki_Mo (by decide) kw1704 kd_Mo_valueAlone_59 rfl ?_
    refine zk_iload_n C kd_Mo_valueAlone_62 rfl 4 rfl rfl ?_
    obtain ⟨q2, e⟩ := zd_g e
    refine zs_iald C 78 rfl (zd_vp q2) kd_Mo_valueAlone_63 rfl ?_
    refine zk_if_ge (tgt := 71) C kd_Mo_valueAlone_64 (by decide) rfl (fun b3 => ?_) (fun b3 => ?_)
    · replace e := zd_pos b3 e
      refine zk_aload_n C kd_Mo_valueAlone_71 rfl 1 rfl rfl ?_
      refine zk_aload_n C kd_Mo_valueAlone_72 rfl 1 rfl rfl ?_
      refine zs_get (v := .ref (S.1 78)) C 68 21 rfl rfl rfl rfl ki_Mo (by decide) kw1704 kd_Mo_valueAlone_73 rfl ?_
      refine zk_iload_n C kd_Mo_valueAlone_76 rfl 4 rfl rfl ?_
      refine zs_iald C 78 rfl (zd_vp q2) kd_Mo_valueAlone_77 rfl ?_
      obtain ⟨v5, c4, e⟩ := zd_b e
      refine zs_callV (k := 68) (rn := { frames := 3 + d, cells := 0, slots := 0, locals := 68 + 25 * d }) (As := [.int (h.2.1 78 x3.toNatClampNeg)]) (rest := []) C (hr_Mo_valueOf h (h.2.1 78 x3.toNatClampNeg) c4) ku_Mo_valueOf kw2552 kv_Mo_valueOf rfl (zd_rmI (by decide)) ⟨Nat.le_refl _, Nat.le_refl _⟩ rfl rfl rfl (Nat.le_of_ble_eq_true rfl) kd_Mo_valueAlone_78 rfl (c1 := 0) (s1 := 0) rfl rfl (fun v w hp => ?_)
      obtain ⟨rfl, rfl⟩ := hp
      refine zk_stk (r' := [.int v5]) rfl ?_
      refine zk_lvs (lv' := [(0, .ref (S.1 68)), (1, .int x1), (2, .int x2), (4, .int y0)]) [1, 2, 3, 0] rfl ?_
      exact zb_Mo_valueAlone_81 C hR x1 x2 y0 v5 e
    · replace e := zd_neg b3 e
      refine zk_lvs (lv' := [(0, .ref (S.1 68)), (1, .int x1), (2, .int x2), (4, .int y0)]) [1, 2, 3, 0] rfl ?_
      exact zb_Mo_valueAlone_67 C hR x1 x2 y0 e
set_option maxHeartbeats 4000000 in
set_option maxRecDepth 100000 in
theorem zg_Mo_valueAlone {l : Launch} {D : va_G} {sz0 : Nat} {S : zs_T} {P : ze_T} {d : Nat} {r_Mo_valueOf : zs_H → Int32 → (Option Int32)} (hr_Mo_valueOf : ∀ (h : zs_H) (x0 : Int32) {rv : Int32}, r_Mo_valueOf h x0 = some rv → zk_Sp (zs_G S l D sz0) (ze_E P) km_Mo_valueOf { frames := 3 + d, cells := 0, slots := 0, locals := 68 + 25 * d } [.ref (S.1 68), .int x0] (zs_W S h) (zd_PI S rv h)) (h : zs_H) (x1 : Int32) {rv : Int32} (e : g_Mo_valueAlone r_Mo_valueOf h x1 = some rv) : zk_Sp (zs_G S l D sz0) (ze_E P) km_Mo_valueAlone { frames := 3 + (d + 1), cells := 0, slots := 0, locals := 68 + 25 * (d + 1) } [.ref (S.1 68), .int x1] (zs_W S h) (zd_PI S rv h) := by
  refine zk_met ku_Mo_valueAlone (Nat.le_of_ble_eq_true rfl) (ze_Em P) ?_
  intro X C hR
  refine zk_lvs (lv' := [(0, .ref (S.1 68)), (1, .int x1)]) [0, 1] rfl ?_
  unfold g_Mo_valueAlone at e
  refine zk_aload_n C kd_Mo_valueAlone_0 rfl 0 rfl rfl ?_
  refine zs_get (v := .ref (S.1 76)) C 68 19 rfl rfl rfl rfl ki_Mo (by decide) kw1702 kd_Mo_valueAlone_1 rfl ?_
  refine zk_iload_n C kd_Mo_valueAlone_4 rfl 1 rfl rfl ?_
  obtain ⟨q1, e⟩ := zd_g e
  refine zs_iald C 76 rfl (zd_vp q1) kd_Mo_valueAlone_5 rfl ?_
  refine zk_if_ge (tgt := 16) C kd_Mo_valueAlone_6 (by decide) rfl (fun b2 => ?_) (fun b2 => ?_)
  · replace e := zd_pos b2 e
    refine zk_aload_n C kd_Mo_valueAlone_16 rfl 0 rfl rfl ?_
    refine zk_aload_n C kd_Mo_valueAlone_17 rfl 0 rfl rfl ?_
    refine zs_get (v := .ref (S.1 76)) C 68 19 rfl rfl rfl rfl ki_Mo (by decide) kw1702 kd_Mo_valueAlone_18 rfl ?_
    refine zk_iload_n C kd_Mo_valueAlone_21 rfl 1 rfl rfl ?_
    refine zs_iald C 76 rfl (zd_vp q1) kd_Mo_valueAlone_22 rfl ?_
    obtain ⟨v4, c3, e⟩ := zd_b e
    refine zs_callV (k := 68) (rn := { frames := 3 + d, cells := 0, slots := 0, locals := 68 + 25 * d }) (As := [.int (h.2.1 76 x1.toNatClampNeg)]) (rest := []) C (hr_Mo_valueOf h (h.2.1 76 x1.toNatClampNeg) c3) ku_Mo_valueOf kw2552 kv_Mo_valueOf rfl (zd_rmI (by decide)) ⟨Nat.le_refl _, Nat.le_refl _⟩ rfl rfl rfl (Nat.le_of_ble_eq_true rfl) kd_Mo_valueAlone_23 rfl (c1 := 0) (s1 := 0) rfl rfl (fun v w hp => ?_)
    obtain ⟨rfl, rfl⟩ := hp
    refine zk_stk (r' := [.int v4]) rfl ?_
    refine zk_istore_n (lv' := [(2, _), (0, _), (1, _)]) C kd_Mo_valueAlone_26 rfl (by decide) rfl rfl ?_
    refine zk_aload_n C kd_Mo_valueAlone_27 rfl 1 rfl rfl ?_
    refine zs_get (v := .ref (S.1 78)) C 68 21 rfl rfl rfl rfl ki_Mo (by decide) kw1704 kd_Mo_valueAlone_28 rfl ?_
    refine zk_aload_n C kd_Mo_valueAlone_31 rfl 1 rfl rfl ?_
    refine zs_get (v := .ref (S.1 76)) C 68 19 rfl rfl rfl rfl ki_Mo (by decide) kw1702 kd_Mo_valueAlone_32 rfl ?_
    refine zk_iload_n C kd_Mo_valueAlone_35 rfl 2 rfl rfl ?_
    refine zs_iald C 76 rfl (zd_vp q1) kd_Mo_valueAlone_36 rfl ?_
    obtain ⟨q5, e⟩ := zd_g e
    refine zs_iald C 78 rfl (zd_vp q5) kd_Mo_valueAlone_37 rfl ?_
    refine zk_istore_n (lv' := [(3, _), (2, _), (0, _), (1, _)]) C kd_Mo_valueAlone_38 rfl (by decide) rfl rfl ?_
    refine zk_iload_n C kd_Mo_valueAlone_39 rfl 0 rfl rfl ?_
    refine zk_if_ge (tgt := 47) C kd_Mo_valueAlone_40 (by decide) rfl (fun b6 => ?_) (fun b6 => ?_)
    · replace e := zd_pos b6 e
      refine zk_aload_n C kd_Mo_valueAlone_47 rfl 2 rfl rfl ?_
      refine zk_iload_n C kd_Mo_valueAlone_48 rfl 0 rfl rfl ?_
      obtain ⟨v8, c7, e⟩ := zd_b e
      refine zs_callV (k := 68) (rn := { frames := 3 + d, cells := 0, slots := 0, locals := 68 + 25 * d }) (As := [.int (h.2.1 78 (h.2.1 76 x1.toNatClampNeg).toNatClampNeg)]) (rest := []) C (hr_Mo_valueOf h (h.2.1 78 (h.2.1 76 x1.toNatClampNeg).toNatClampNeg) c7) ku_Mo_valueOf kw2552 kv_Mo_valueOf rfl (zd_rmI (by decide)) ⟨Nat.le_refl _, Nat.le_refl _⟩ rfl rfl rfl (Nat.le_of_ble_eq_true rfl) kd_Mo_valueAlone_49 rfl (c1 := 0) (s1 := 0) rfl rfl (fun v w hp => ?_)
      obtain ⟨rfl, rfl⟩ := hp
      refine zk_stk (r' := [.int v8]) rfl ?_
      refine zk_lvs (lv' := [(0, .ref (S.1 68)), (1, .int x1), (2, .int v4), (3, .int (h.2.1 78 (h.2.1 76 x1.toNatClampNeg).toNatClampNeg))]) [2, 3, 1, 0] rfl ?_
      exact zb_Mo_valueAlone_52 C hR hr_Mo_valueOf x1 v4 (h.2.1 78 (h.2.1 76 x1.toNatClampNeg).toNatClampNeg) v8 e
    · replace e := zd_neg b6 e
      refine zk_iconst (v := 0) C kd_Mo_valueAlone_43 (by decide) rfl ?_
      refine zk_goto (tgt := 52) C kd_Mo_valueAlone_44 (by decide) ?_
      refine zk_lvs (lv' := [(0, .ref (S.1 68)), (1, .int x1), (2, .int v4), (3, .int (h.2.1 78 (h.2.1 76 x1.toNatClampNeg).toNatClampNeg))]) [2, 3, 1, 0] rfl ?_
      exact zb_Mo_valueAlone_52 C hR hr_Mo_valueOf x1 v4 (h.2.1 78 (h.2.1 76 x1.toNatClampNeg).toNatClampNeg) 0 e
  · replace e := zd_neg b2 e
    refine zk_aload_n C kd_Mo_valueAlone_9 rfl 0 rfl rfl ?_
    refine zs_get (v := .ref (S.1 74)) C 68 17 rfl rfl rfl rfl ki_Mo (by decide) kw1700 kd_Mo_valueAlone_10 rfl ?_
    refine zk_iload_n C kd_Mo_valueAlone_13 rfl 1 rfl rfl ?_
    refine zs_iald C 74 rfl (zd_vp q1) kd_Mo_valueAlone_14 rfl ?_
    exact zk_iret C hR kd_Mo_valueAlone_15 rfl rfl (zd_rIO e)
set_option maxHeartbeats 4000000 in
set_option maxRecDepth 100000 in
theorem zb_Mo_valueOf_29 {X : zkj_T} {S : zs_T} {P : ze_T} {l : Launch} {D : va_G} {sz0 : Nat} {d : Nat} {rv : Int32} {h : zs_H} (C : zk_C X km_Mo_valueOf (zs_G S l D sz0) { frames := 3 + (d + 1), cells := 0, slots := 0, locals := 68 + 25 * (d + 1) } (ze_E P)) (hR : zkj_R X (zd_PI S rv h) (some .int)) {r_Mo_valueOf : zs_H → Int32 → (Option Int32)} (hr_Mo_valueOf : ∀ (h : zs_H) (x0 : Int32) {rv : Int32}, r_Mo_valueOf h x0 = some rv → zk_Sp (zs_G S l D sz0) (ze_E P) km_Mo_valueOf { frames := 3 + d, cells := 0, slots := 0, locals := 68 + 25 * d } [.ref (S.1 68), .int x0] (zs_W S h) (zd_PI S rv h)) {k29 : Int32 → Int32 → Int32 → (Option Int32)} (hk29 : ∀ (x1 : Int32) (x2 : Int32) (x3 : Int32), k29 x1 x2 x3 = some rv → zk_Ab X (zs_W S h) 0 0 29 [(0, .ref (S.1 68)), (1, .int x1), (2, .int x2), (3, .int x3)] []) (x1 : Int32) (x2 : Int32) (x3 : Int32) (e : f_Mo_valueOf_29 r_Mo_valueOf h k29 x1 x2 x3 = some rv) : zk_Ab X (zs_W S h) 0 0 29 [(0, .ref (S.1 68)), (1, .int x1), (2, .int x2), (3, .int x3)] [] := by
  unfold f_Mo_valueOf_29 at e
  refine zk_iload_n C kd_Mo_valueOf_29 rfl 2 rfl rfl ?_
  refine zk_iload_n C kd_Mo_valueOf_30 rfl 1 rfl rfl ?_
  refine zk_icmp_eq (tgt := 64) C kd_Mo_valueOf_31 (by decide) rfl (fun b1 => ?_) (fun b1 => ?_)
  · replace e := zd_pos b1 e
    refine zk_iload_n C kd_Mo_valueOf_64 rfl 3 rfl rfl ?_
    exact zk_iret C hR kd_Mo_valueOf_65 rfl rfl (zd_rIO e)
  · replace e := zd_neg b1 e
    refine zk_aload_n C kd_Mo_valueOf_34 rfl 0 rfl rfl ?_
    refine zs_get (v := .ref (S.1 75)) C 68 18 rfl rfl rfl rfl ki_Mo (by decide) kw1701 kd_Mo_valueOf_35 rfl ?_
    refine zk_iload_n C kd_Mo_valueOf_38 rfl 2 rfl rfl ?_
    obtain ⟨q2, e⟩ := zd_g e
    refine zs_iald C 75 rfl (zd_vp q2) kd_Mo_valueOf_39 rfl ?_
    refine zk_istore_n (lv' := [(2, _), (0, _), (1, _), (3, _)]) C kd_Mo_valueOf_40 rfl (by decide) rfl rfl ?_
    refine zk_aload_n C kd_Mo_valueOf_41 rfl 1 rfl rfl ?_
    refine zk_iload_n C kd_Mo_valueOf_42 rfl 0 rfl rfl ?_
    obtain ⟨v4, c3, e⟩ := zd_b e
    refine zs_callV (k := 68) (rn := { frames := 0, cells := 0, slots := 0, locals := 0 }) (As := [.int (h.2.1 75 x2.toNatClampNeg)]) (rest := []) C (zc_Mo_signCode h (h.2.1 75 x2.toNatClampNeg) c3) ku_Mo_signCode kw2580 kv_Mo_signCode rfl (zd_rmO (by decide) (by decide)) ⟨Nat.le_refl _, Nat.le_refl _⟩ rfl rfl rfl (Nat.le_of_ble_eq_true rfl) kd_Mo_valueOf_43 rfl (c1 := 0) (s1 := 0) rfl rfl (fun v w hp => ?_)
    obtain ⟨rfl, rfl⟩ := hp
    refine zk_stk (r' := [.int v4]) rfl ?_
    refine zk_iload_n C kd_Mo_valueOf_46 rfl 3 rfl rfl ?_
    refine zk_aload_n C kd_Mo_valueOf_47 rfl 1 rfl rfl ?_
    refine zk_aload_n C kd_Mo_valueOf_48 rfl 1 rfl rfl ?_
    refine zs_get (v := .ref (S.1 77)) C 68 20 rfl rfl rfl rfl ki_Mo (by decide) kw1703 kd_Mo_valueOf_49 rfl ?_
    refine zk_iload_n C kd_Mo_valueOf_52 rfl 0 rfl rfl ?_
    obtain ⟨q5, e⟩ := zd_g e
    refine zs_iald C 77 rfl (zd_vp q5) kd_Mo_valueOf_53 rfl ?_
    obtain ⟨v7, c6, e⟩ := zd_b e
    refine zs_callV (k := 68) (rn := { frames := 3 + d, cells := 0, slots := 0, locals := 68 + 25 * d }) (As := [.int (h.2.1 77 (h.2.1 75 x2.toNatClampNeg).toNatClampNeg)]) (rest := [.int x3, .int v4]) C (hr_Mo_valueOf h (h.2.1 77 (h.2.1 75 x2.toNatClampNeg).toNatClampNeg) c6) ku_Mo_valueOf kw2552 kv_Mo_valueOf rfl (zd_rmI (by decide)) ⟨Nat.le_refl _, Nat.le_refl _⟩ rfl rfl rfl (Nat.le_of_ble_eq_true rfl) kd_Mo_valueOf_54 rfl (c1 := 0) (s1 := 0) rfl rfl (fun v w hp => ?_)
    obtain ⟨rfl, rfl⟩ := hp
    refine zk_stk (r' := [.int v7, .int x3, .int v4]) rfl ?_
    obtain ⟨v9, c8, e⟩ := zd_b e
    refine zk_callS (rn := { frames := 1, cells := 0, slots := 0, locals := 21 }) (As := [.int v4, .int x3, .int v7]) (rest := []) C (zc_Mo_two h v4 x3 v7 c8) ku_Mo_two kw2576 ks_Mo_two rfl (zd_rmO (by decide) (by decide)) ⟨Nat.le_refl _, Nat.le_refl _⟩ rfl (Nat.le_of_ble_eq_true rfl) kd_Mo_valueOf_57 rfl (c1 := 0) (s1 := 0) rfl rfl (fun v w hp => ?_)
    obtain ⟨rfl, rfl⟩ := hp
    refine zk_stk (r' := [.int v9]) rfl ?_
    refine zk_istore_n (lv' := [(3, _), (2, _), (0, _), (1, _)]) C kd_Mo_valueOf_60 rfl (by decide) rfl rfl ?_
    refine zk_goto (tgt := 29) C kd_Mo_valueOf_61 (by decide) ?_
    refine zk_lvs (lv' := [(0, .ref (S.1 68)), (1, .int x1), (2, .int (h.2.1 75 x2.toNatClampNeg)), (3, .int v9)]) [2, 3, 1, 0] rfl ?_
    exact hk29 x1 (h.2.1 75 x2.toNatClampNeg) v9 e
theorem zl_Mo_valueOf_29 {X : zkj_T} {S : zs_T} {P : ze_T} {l : Launch} {D : va_G} {sz0 : Nat} {d : Nat} {rv : Int32} {h : zs_H} (C : zk_C X km_Mo_valueOf (zs_G S l D sz0) { frames := 3 + (d + 1), cells := 0, slots := 0, locals := 68 + 25 * (d + 1) } (ze_E P)) (hR : zkj_R X (zd_PI S rv h) (some .int)) {r_Mo_valueOf : zs_H → Int32 → (Option Int32)} (hr_Mo_valueOf : ∀ (h : zs_H) (x0 : Int32) {rv : Int32}, r_Mo_valueOf h x0 = some rv → zk_Sp (zs_G S l D sz0) (ze_E P) km_Mo_valueOf { frames := 3 + d, cells := 0, slots := 0, locals := 68 + 25 * d } [.ref (S.1 68), .int x0] (zs_W S h) (zd_PI S rv h)) (n : Nat) : ∀ (x1 : Int32) (x2 : Int32) (x3 : Int32), f_Mo_valueOf_L29 r_Mo_valueOf h n x1 x2 x3 = some rv → zk_Ab X (zs_W S h) 0 0 29 [(0, .ref (S.1 68)), (1, .int x1), (2, .int x2), (3, .int x3)] [] := by
  induction n with
  | zero => intro x1 x2 x3 e; exact zd_no e
  | succ n ih => intro x1 x2 x3 e; exact zb_Mo_valueOf_29 (k29 := f_Mo_valueOf_L29 r_Mo_valueOf h n) C hR hr_Mo_valueOf ih x1 x2 x3 e
set_option maxHeartbeats 4000000 in
set_option maxRecDepth 100000 in
theorem zb_Mo_valueOf_2 {X : zkj_T} {S : zs_T} {P : ze_T} {l : Launch} {D : va_G} {sz0 : Nat} {d : Nat} {rv : Int32} {h : zs_H} (C : zk_C X km_Mo_valueOf (zs_G S l D sz0) { frames := 3 + (d + 1), cells := 0, slots := 0, locals := 68 + 25 * (d + 1) } (ze_E P)) (hR : zkj_R X (zd_PI S rv h) (some .int)) {r_Mo_valueAlone : zs_H → Int32 → (Option Int32)} (hr_Mo_valueAlone : ∀ (h : zs_H) (x0 : Int32) {rv : Int32}, r_Mo_valueAlone h x0 = some rv → zk_Sp (zs_G S l D sz0) (ze_E P) km_Mo_valueAlone { frames := 3 + d, cells := 0, slots := 0, locals := 68 + 25 * d } [.ref (S.1 68), .int x0] (zs_W S h) (zd_PI S rv h)) {r_Mo_valueOf : zs_H → Int32 → (Option Int32)} (hr_Mo_valueOf : ∀ (h : zs_H) (x0 : Int32) {rv : Int32}, r_Mo_valueOf h x0 = some rv → zk_Sp (zs_G S l D sz0) (ze_E P) km_Mo_valueOf { frames := 3 + d, cells := 0, slots := 0, locals := 68 + 25 * d } [.ref (S.1 68), .int x0] (zs_W S h) (zd_PI S rv h)) {k2 : Int32 → Int32 → (Option Int32)} (hk2 : ∀ (x1 : Int32) (x2 : Int32), k2 x1 x2 = some rv → zk_Ab X (zs_W S h) 0 0 2 [(0, .ref (S.1 68)), (1, .int x1), (2, .int x2)] []) (x1 : Int32) (x2 : Int32) (e : f_Mo_valueOf_2 r_Mo_valueAlone r_Mo_valueOf h k2 x1 x2 = some rv) : zk_Ab X (zs_W S h) 0 0 2 [(0, .ref (S.1 68)), (1, .int x1), (2, .int x2)] [] := by
  unfold f_Mo_valueOf_2 at e
  refine zk_aload_n C kd_Mo_valueOf_2 rfl 0 rfl rfl ?_
  refine zs_get (v := .ref (S.1 72)) C 68 15 rfl rfl rfl rfl ki_Mo (by decide) kw1698 kd_Mo_valueOf_3 rfl ?_
  refine zk_iload_n C kd_Mo_valueOf_6 rfl 2 rfl rfl ?_
  obtain ⟨q1, e⟩ := zd_g e
  refine zs_iald C 72 rfl (zd_vp q1) kd_Mo_valueOf_7 rfl ?_
  refine zk_bipush (v := 35) C kd_Mo_valueOf_8 (by decide) rfl ?_
  refine zk_icmp_ne (tgt := 23) C kd_Mo_valueOf_10 (by decide) rfl (fun b2 => ?_) (fun b2 => ?_)
  · replace e := zd_neg b2 e
    refine zk_aload_n C kd_Mo_valueOf_23 rfl 0 rfl rfl ?_
    refine zk_iload_n C kd_Mo_valueOf_24 rfl 2 rfl rfl ?_
    obtain ⟨v4, c3, e⟩ := zd_b e
    refine zs_callV (k := 68) (rn := { frames := 3 + d, cells := 0, slots := 0, locals := 68 + 25 * d }) (As := [.int x2]) (rest := []) C (hr_Mo_valueAlone h x2 c3) ku_Mo_valueAlone kw2556 kv_Mo_valueAlone rfl (zd_rmI (by decide)) ⟨Nat.le_refl _, Nat.le_refl _⟩ rfl rfl rfl (Nat.le_of_ble_eq_true rfl) kd_Mo_valueOf_25 rfl (c1 := 0) (s1 := 0) rfl rfl (fun v w hp => ?_)
    obtain ⟨rfl, rfl⟩ := hp
    refine zk_stk (r' := [.int v4]) rfl ?_
    refine zk_istore_n (lv' := [(3, _), (0, _), (1, _), (2, _)]) C kd_Mo_valueOf_28 rfl (by decide) rfl rfl ?_
    refine zk_lvs (lv' := [(0, .ref (S.1 68)), (1, .int x1), (2, .int x2), (3, .int v4)]) [1, 2, 3, 0] rfl ?_
    exact zl_Mo_valueOf_29 C hR hr_Mo_valueOf zF x1 x2 v4 e
  · replace e := zd_pos b2 e
    refine zk_aload_n C kd_Mo_valueOf_13 rfl 0 rfl rfl ?_
    refine zs_get (v := .ref (S.1 76)) C 68 19 rfl rfl rfl rfl ki_Mo (by decide) kw1702 kd_Mo_valueOf_14 rfl ?_
    refine zk_iload_n C kd_Mo_valueOf_17 rfl 2 rfl rfl ?_
    refine zs_iald C 76 rfl (zd_vp q1) kd_Mo_valueOf_18 rfl ?_
    refine zk_istore_n (lv' := [(2, _), (0, _), (1, _)]) C kd_Mo_valueOf_19 rfl (by decide) rfl rfl ?_
    refine zk_goto (tgt := 2) C kd_Mo_valueOf_20 (by decide) ?_
    refine zk_lvs (lv' := [(0, .ref (S.1 68)), (1, .int x1), (2, .int (h.2.1 76 x2.toNatClampNeg))]) [1, 2, 0] rfl ?_
    exact hk2 x1 (h.2.1 76 x2.toNatClampNeg) e
theorem zl_Mo_valueOf_2 {X : zkj_T} {S : zs_T} {P : ze_T} {l : Launch} {D : va_G} {sz0 : Nat} {d : Nat} {rv : Int32} {h : zs_H} (C : zk_C X km_Mo_valueOf (zs_G S l D sz0) { frames := 3 + (d + 1), cells := 0, slots := 0, locals := 68 + 25 * (d + 1) } (ze_E P)) (hR : zkj_R X (zd_PI S rv h) (some .int)) {r_Mo_valueAlone : zs_H → Int32 → (Option Int32)} (hr_Mo_valueAlone : ∀ (h : zs_H) (x0 : Int32) {rv : Int32}, r_Mo_valueAlone h x0 = some rv → zk_Sp (zs_G S l D sz0) (ze_E P) km_Mo_valueAlone { frames := 3 + d, cells := 0, slots := 0, locals := 68 + 25 * d } [.ref (S.1 68), .int x0] (zs_W S h) (zd_PI S rv h)) {r_Mo_valueOf : zs_H → Int32 → (Option Int32)} (hr_Mo_valueOf : ∀ (h : zs_H) (x0 : Int32) {rv : Int32}, r_Mo_valueOf h x0 = some rv → zk_Sp (zs_G S l D sz0) (ze_E P) km_Mo_valueOf { frames := 3 + d, cells := 0, slots := 0, locals := 68 + 25 * d } [.ref (S.1 68), .int x0] (zs_W S h) (zd_PI S rv h)) (n : Nat) : ∀ (x1 : Int32) (x2 : Int32), f_Mo_valueOf_L2 r_Mo_valueAlone r_Mo_valueOf h n x1 x2 = some rv → zk_Ab X (zs_W S h) 0 0 2 [(0, .ref (S.1 68)), (1, .int x1), (2, .int x2)] [] := by
  induction n with
  | zero => intro x1 x2 e; exact zd_no e
  | succ n ih => intro x1 x2 e; exact zb_Mo_valueOf_2 (k2 := f_Mo_valueOf_L2 r_Mo_valueAlone r_Mo_valueOf h n) C hR hr_Mo_valueAlone hr_Mo_valueOf ih x1 x2 e
set_option maxHeartbeats 4000000 in
set_option maxRecDepth 100000 in
theorem zg_Mo_valueOf {l : Launch} {D : va_G} {sz0 : Nat} {S : zs_T} {P : ze_T} {d : Nat} {r_Mo_valueAlone : zs_H → Int32 → (Option Int32)} (hr_Mo_valueAlone : ∀ (h : zs_H) (x0 : Int32) {rv : Int32}, r_Mo_valueAlone h x0 = some rv → zk_Sp (zs_G S l D sz0) (ze_E P) km_Mo_valueAlone { frames := 3 + d, cells := 0, slots := 0, locals := 68 + 25 * d } [.ref (S.1 68), .int x0] (zs_W S h) (zd_PI S rv h)) {r_Mo_valueOf : zs_H → Int32 → (Option Int32)} (hr_Mo_valueOf : ∀ (h : zs_H) (x0 : Int32) {rv : Int32}, r_Mo_valueOf h x0 = some rv → zk_Sp (zs_G S l D sz0) (ze_E P) km_Mo_valueOf { frames := 3 + d, cells := 0, slots := 0, locals := 68 + 25 * d } [.ref (S.1 68), .int x0] (zs_W S h) (zd_PI S rv h)) (h : zs_H) (x1 : Int32) {rv : Int32} (e : g_Mo_valueOf r_Mo_valueAlone r_Mo_valueOf h x1 = some rv) : zk_Sp (zs_G S l D sz0) (ze_E P) km_Mo_valueOf { frames := 3 + (d + 1), cells := 0, slots := 0, locals := 68 + 25 * (d + 1) } [.ref (S.1 68), .int x1] (zs_W S h) (zd_PI S rv h) := by
  refine zk_met ku_Mo_valueOf (Nat.le_of_ble_eq_true rfl) (ze_Em P) ?_
  intro X C hR
  refine zk_lvs (lv' := [(0, .ref (S.1 68)), (1, .int x1)]) [0, 1] rfl ?_
  unfold g_Mo_valueOf at e
  refine zk_iload_n C kd_Mo_valueOf_0 rfl 1 rfl rfl ?_
  refine zk_istore_n (lv' := [(2, _), (0, _), (1, _)]) C kd_Mo_valueOf_1 rfl (by decide) rfl rfl ?_
  refine zk_lvs (lv' := [(0, .ref (S.1 68)), (1, .int x1), (2, .int x1)]) [1, 2, 0] rfl ?_
  exact zl_Mo_valueOf_2 C hR hr_Mo_valueAlone hr_Mo_valueOf zF x1 x1 e
theorem zs_Mo_valueAlone {l : Launch} {D : va_G} {sz0 : Nat} {S : zs_T} {P : ze_T} (d : Nat) : (∀ (h : zs_H) (x0 : Int32) {rv : Int32}, f_Mo_valueAlone d h x0 = some rv → zk_Sp (zs_G S l D sz0) (ze_E P) km_Mo_valueAlone { frames := 3 + d, cells := 0, slots := 0, locals := 68 + 25 * d } [.ref (S.1 68), .int x0] (zs_W S h) (zd_PI S rv h)) ∧ (∀ (h : zs_H) (x0 : Int32) {rv : Int32}, f_Mo_valueOf d h x0 = some rv → zk_Sp (zs_G S l D sz0) (ze_E P) km_Mo_valueOf { frames := 3 + d, cells := 0, slots := 0, locals := 68 + 25 * d } [.ref (S.1 68), .int x0] (zs_W S h) (zd_PI S rv h)) := by
  induction d with
  | zero => exact ⟨(fun h x0 _ e => zd_no e), (fun h x0 _ e => zd_no e)⟩
  | succ d ih =>
    obtain ⟨q0, q1⟩ := ih
    exact ⟨(fun h x0 _ e => zg_Mo_valueAlone (r_Mo_valueOf := f_Mo_valueOf d) q1 h x0 e), (fun h x0 _ e => zg_Mo_valueOf (r_Mo_valueAlone := f_Mo_valueAlone d) q0 (r_Mo_valueOf := f_Mo_valueOf d) q1 h x0 e)⟩
theorem zc_Mo_valueAlone {l : Launch} {D : va_G} {sz0 : Nat} {S : zs_T} {P : ze_T} (h : zs_H) (x0 : Int32) {rv : Int32} (e : f_Mo_valueAlone 400 h x0 = some rv) : zk_Sp (zs_G S l D sz0) (ze_E P) km_Mo_valueAlone { frames := 3 + 400, cells := 0, slots := 0, locals := 68 + 25 * 400 } [.ref (S.1 68), .int x0] (zs_W S h) (zd_PI S rv h) := (zs_Mo_valueAlone 400).1 h x0 e
theorem zc_Mo_valueOf {l : Launch} {D : va_G} {sz0 : Nat} {S : zs_T} {P : ze_T} (h : zs_H) (x0 : Int32) {rv : Int32} (e : f_Mo_valueOf 400 h x0 = some rv) : zk_Sp (zs_G S l D sz0) (ze_E P) km_Mo_valueOf { frames := 3 + 400, cells := 0, slots := 0, locals := 68 + 25 * 400 } [.ref (S.1 68), .int x0] (zs_W S h) (zd_PI S rv h) := (zs_Mo_valueAlone 400).2 h x0 e
set_option maxHeartbeats 4000000 in
set_option maxRecDepth 100000 in
theorem zb_Mo_isConstant_52 {X : zkj_T} {S : zs_T} {P : ze_T} {l : Launch} {D : va_G} {sz0 : Nat} {d : Nat} {rv : Int32} {h : zs_H} (C : zk_C X km_Mo_isConstant (zs_G S l D sz0) { frames := 404 + (d + 1), cells := 0, slots := 0, locals := 10091 + 23 * (d + 1) } (ze_E P)) (hR : zkj_R X (zd_PZ S rv h) (some .boolean)) {r_Mo_isConstant : zs_H → Int32 → (Option Int32)} (hr_Mo_isConstant : ∀ (h : zs_H) (x0 : Int32) {rv : Int32}, r_Mo_isConstant h x0 = some rv → zk_Sp (zs_G S l D sz0) (ze_E P) km_Mo_isConstant { frames := 404 + d, cells := 0, slots := 0, locals := 10091 + 23 * d } [.ref (S.1 68), .int x0] (zs_W S h) (zd_PZ S rv h)) {k2 : Int32 → (Option Int32)} (hk2 : ∀ (x2 : Int32), k2 x2 = some rv → zk_Ab X (zs_W S h) 0 0 2 [(0, .ref (S.1 68)), (2, .int x2)] []) (x2 : Int32) (e : f_Mo_isConstant_52 r_Mo_isConstant h k2 x2 = some rv) : zk_Ab X (zs_W S h) 0 0 52 [(0, .ref (S.1 68)), (2, .int x2)] [] := by
  unfold f_Mo_isConstant_52 at e
  refine zk_aload_n C kd_Mo_isConstant_52 rfl 0 rfl rfl ?_
  refine zs_get (v := .ref (S.1 76)) C 68 19 rfl rfl rfl rfl ki_Mo (by decide) kw1702 kd_Mo_isConstant_53 rfl ?_
  refine zk_iload_n C kd_Mo_isConstant_56 rfl 1 rfl rfl ?_
  obtain ⟨q1, e⟩ := zd_g e
  refine zs_iald C 76 rfl (zd_vp q1) kd_Mo_isConstant_57 rfl ?_
  refine zk_istore_n (lv' := [(2, _), (0, _)]) C kd_Mo_isConstant_58 rfl (by decide) rfl rfl ?_
  refine zk_goto (tgt := 2) C kd_Mo_isConstant_59 (by decide) ?_
  refine zk_lvs (lv' := [(0, .ref (S.1 68)), (2, .int (h.2.1 76 x2.toNatClampNeg))]) [1, 0] rfl ?_
  exact hk2 (h.2.1 76 x2.toNatClampNeg) e
set_option maxHeartbeats 4000000 in
set_option maxRecDepth 100000 in
theorem zb_Mo_isConstant_133 {X : zkj_T} {S : zs_T} {P : ze_T} {l : Launch} {D : va_G} {sz0 : Nat} {d : Nat} {rv : Int32} {h : zs_H} (C : zk_C X km_Mo_isConstant (zs_G S l D sz0) { frames := 404 + (d + 1), cells := 0, slots := 0, locals := 10091 + 23 * (d + 1) } (ze_E P)) (hR : zkj_R X (zd_PZ S rv h) (some .boolean)) {r_Mo_isConstant : zs_H → Int32 → (Option Int32)} (hr_Mo_isConstant : ∀ (h : zs_H) (x0 : Int32) {rv : Int32}, r_Mo_isConstant h x0 = some rv → zk_Sp (zs_G S l D sz0) (ze_E P) km_Mo_isConstant { frames := 404 + d, cells := 0, slots := 0, locals := 10091 + 23 * d } [.ref (S.1 68), .int x0] (zs_W S h) (zd_PZ S rv h)) {k133 : Int32 → (Option Int32)} (hk133 : ∀ (x3 : Int32), k133 x3 = some rv → zk_Ab X (zs_W S h) 0 0 133 [(0, .ref (S.1 68)), (3, .int x3)] []) (x3 : Int32) (e : f_Mo_isConstant_133 r_Mo_isConstant h k133 x3 = some rv) : zk_Ab X (zs_W S h) 0 0 133 [(0, .ref (S.1 68)), (3, .int x3)] [] := by
  unfold f_Mo_isConstant_133 at e
  refine zk_iload_n C kd_Mo_isConstant_133 rfl 1 rfl rfl ?_
  refine zk_if_lt (tgt := 157) C kd_Mo_isConstant_134 (by decide) rfl (fun b1 => ?_) (fun b1 => ?_)
  · replace e := zd_pos b1 e
    refine zk_iconst (v := 1) C kd_Mo_isConstant_157 (by decide) rfl ?_
    exact zk_zret C hR (zd_nb (Or.inr rfl)) kd_Mo_isConstant_158 rfl rfl (zd_rZO (Or.inr rfl) e)
  · replace e := zd_neg b1 e
    refine zk_aload_n C kd_Mo_isConstant_137 rfl 0 rfl rfl ?_
    refine zk_iload_n C kd_Mo_isConstant_138 rfl 1 rfl rfl ?_
    obtain ⟨v3, c2, e⟩ := zd_b e
    refine zs_callV (k := 68) (rn := { frames := 404 + d, cells := 0, slots := 0, locals := 10091 + 23 * d }) (As := [.int x3]) (rest := []) C (hr_Mo_isConstant h x3 c2) ku_Mo_isConstant kw2548 kv_Mo_isConstant rfl (zd_rmI (by decide)) ⟨Nat.le_refl _, Nat.le_refl _⟩ rfl rfl rfl (Nat.le_of_ble_eq_true rfl) kd_Mo_isConstant_139 rfl (c1 := 0) (s1 := 0) rfl rfl (fun v w hp => ?_)
    obtain ⟨rfl, rfl, z4⟩ := hp
    refine zk_stk (r' := [.int v3]) rfl ?_
    refine zk_if_ne (tgt := 147) C kd_Mo_isConstant_142 (by decide) rfl (fun b5 => ?_) (fun b5 => ?_)
    · replace e := zd_neg b5 e
      refine zk_aload_n C kd_Mo_isConstant_147 rfl 0 rfl rfl ?_
      refine zs_get (v := .ref (S.1 78)) C 68 21 rfl rfl rfl rfl ki_Mo (by decide) kw1704 kd_Mo_isConstant_148 rfl ?_
      refine zk_iload_n C kd_Mo_isConstant_151 rfl 1 rfl rfl ?_
      obtain ⟨q6, e⟩ := zd_g e
      refine zs_iald C 78 rfl (zd_vp q6) kd_Mo_isConstant_152 rfl ?_
      refine zk_istore_n (lv' := [(3, _), (0, _)]) C kd_Mo_isConstant_153 rfl (by decide) rfl rfl ?_
      refine zk_goto (tgt := 133) C kd_Mo_isConstant_154 (by decide) ?_
      refine zk_lvs (lv' := [(0, .ref (S.1 68)), (3, .int (h.2.1 78 x3.toNatClampNeg))]) [1, 0] rfl ?_
      exact hk133 (h.2.1 78 x3.toNatClampNeg) e
    · replace e := zd_pos b5 e
      refine zk_iconst (v := 0) C kd_Mo_isConstant_145 (by decide) rfl ?_
      exact zk_zret C hR (zd_nb (Or.inl rfl)) kd_Mo_isConstant_146 rfl rfl (zd_rZO (Or.inl rfl) e)
theorem zl_Mo_isConstant_133 {X : zkj_T} {S : zs_T} {P : ze_T} {l : Launch} {D : va_G} {sz0 : Nat} {d : Nat} {rv : Int32} {h : zs_H} (C : zk_C X km_Mo_isConstant (zs_G S l D sz0) { frames := 404 + (d + 1), cells := 0, slots := 0, locals := 10091 + 23 * (d + 1) } (ze_E P)) (hR : zkj_R X (zd_PZ S rv h) (some .boolean)) {r_Mo_isConstant : zs_H → Int32 → (Option Int32)} (hr_Mo_isConstant : ∀ (h : zs_H) (x0 : Int32) {rv : Int32}, r_Mo_isConstant h x0 = some rv → zk_Sp (zs_G S l D sz0) (ze_E P) km_Mo_isConstant { frames := 404 + d, cells := 0, slots := 0, locals := 10091 + 23 * d } [.ref (S.1 68), .int x0] (zs_W S h) (zd_PZ S rv h)) (n : Nat) : ∀ (x3 : Int32), f_Mo_isConstant_L133 r_Mo_isConstant h n x3 = some rv → zk_Ab X (zs_W S h) 0 0 133 [(0, .ref (S.1 68)), (3, .int x3)] [] := by
  induction n with
  | zero => intro x3 e; exact zd_no e
  | succ n ih => intro x3 e; exact zb_Mo_isConstant_133 (k133 := f_Mo_isConstant_L133 r_Mo_isConstant h n) C hR hr_Mo_isConstant ih x3 e
set_option maxHeartbeats 4000000 in
set_option maxRecDepth 100000 in
theorem zb_Mo_isConstant_126 {X : zkj_T} {S : zs_T} {P : ze_T} {l : Launch} {D : va_G} {sz0 : Nat} {d : Nat} {rv : Int32} {h : zs_H} (C : zk_C X km_Mo_isConstant (zs_G S l D sz0) { frames := 404 + (d + 1), cells := 0, slots := 0, locals := 10091 + 23 * (d + 1) } (ze_E P)) (hR : zkj_R X (zd_PZ S rv h) (some .boolean)) {r_Mo_isConstant : zs_H → Int32 → (Option Int32)} (hr_Mo_isConstant : ∀ (h : zs_H) (x0 : Int32) {rv : Int32}, r_Mo_isConstant h x0 = some rv → zk_Sp (zs_G S l D sz0) (ze_E P) km_Mo_isConstant { frames := 404 + d, cells := 0, slots := 0, locals := 10091 + 23 * d } [.ref (S.1 68), .int x0] (zs_W S h) (zd_PZ S rv h)) (x2 : Int32) (e : f_Mo_isConstant_126 r_Mo_isConstant h x2 = some rv) : zk_Ab X (zs_W S h) 0 0 126 [(0, .ref (S.1 68)), (2, .int x2)] [] := by
  unfold f_Mo_isConstant_126 at e
  refine zk_aload_n C kd_Mo_isConstant_126 rfl 0 rfl rfl ?_
  refine zs_get (v := .ref (S.1 76)) C 68 19 rfl rfl rfl rfl ki_Mo (by decide) kw1702 kd_Mo_isConstant_127 rfl ?_
  refine zk_iload_n C kd_Mo_isConstant_130 rfl 1 rfl rfl ?_
  obtain ⟨q1, e⟩ := zd_g e
  refine zs_iald C 76 rfl (zd_vp q1) kd_Mo_isConstant_131 rfl ?_
  refine zk_istore_n (lv' := [(3, _), (0, _), (2, _)]) C kd_Mo_isConstant_132 rfl (by decide) rfl rfl ?_
  refine zk_lvs (lv' := [(0, .ref (S.1 68)), (3, .int (h.2.1 76 x2.toNatClampNeg))]) [1, 0] rfl ?_
  exact zl_Mo_isConstant_133 C hR hr_Mo_isConstant zF (h.2.1 76 x2.toNatClampNeg) e
set_option maxHeartbeats 4000000 in
set_option maxRecDepth 100000 in
theorem zb_Mo_isConstant_2 {X : zkj_T} {S : zs_T} {P : ze_T} {l : Launch} {D : va_G} {sz0 : Nat} {d : Nat} {rv : Int32} {h : zs_H} (C : zk_C X km_Mo_isConstant (zs_G S l D sz0) { frames := 404 + (d + 1), cells := 0, slots := 0, locals := 10091 + 23 * (d + 1) } (ze_E P)) (hR : zkj_R X (zd_PZ S rv h) (some .boolean)) {r_Mo_isConstant : zs_H → Int32 → (Option Int32)} (hr_Mo_isConstant : ∀ (h : zs_H) (x0 : Int32) {rv : Int32}, r_Mo_isConstant h x0 = some rv → zk_Sp (zs_G S l D sz0) (ze_E P) km_Mo_isConstant { frames := 404 + d, cells := 0, slots := 0, locals := 10091 + 23 * d } [.ref (S.1 68), .int x0] (zs_W S h) (zd_PZ S rv h)) {k2 : Int32 → (Option Int32)} (hk2 : ∀ (x2 : Int32), k2 x2 = some rv → zk_Ab X (zs_W S h) 0 0 2 [(0, .ref (S.1 68)), (2, .int x2)] []) (x2 : Int32) (e : f_Mo_isConstant_2 r_Mo_isConstant h k2 x2 = some rv) : zk_Ab X (zs_W S h) 0 0 2 [(0, .ref (S.1 68)), (2, .int x2)] [] := by
  unfold f_Mo_isConstant_2 at e
  refine zk_aload_n C kd_Mo_isConstant_2 rfl 0 rfl rfl ?_
  refine zs_get (v := .ref (S.1 72)) C 68 15 rfl rfl rfl rfl ki_Mo (by decide) kw1698 kd_Mo_isConstant_3 rfl ?_
  refine zk_iload_n C kd_Mo_isConstant_6 rfl 1 rfl rfl ?_
  obtain ⟨q1, e⟩ := zd_g e
  refine zs_iald C 72 rfl (zd_vp q1) kd_Mo_isConstant_7 rfl ?_
  refine zk_bipush (v := 35) C kd_Mo_isConstant_8 (by decide) rfl ?_
  refine zk_icmp_ne (tgt := 62) C kd_Mo_isConstant_10 (by decide) rfl (fun b2 => ?_) (fun b2 => ?_)
  · replace e := zd_neg b2 e
    refine zk_aload_n C kd_Mo_isConstant_62 rfl 0 rfl rfl ?_
    refine zs_get (v := .ref (S.1 72)) C 68 15 rfl rfl rfl rfl ki_Mo (by decide) kw1698 kd_Mo_isConstant_63 rfl ?_
    refine zk_iload_n C kd_Mo_isConstant_66 rfl 1 rfl rfl ?_
    refine zs_iald C 72 rfl (zd_vp q1) kd_Mo_isConstant_67 rfl ?_
    refine zk_bipush (v := 30) C kd_Mo_isConstant_68 (by decide) rfl ?_
    refine zk_icmp_eq (tgt := 84) C kd_Mo_isConstant_70 (by decide) rfl (fun b3 => ?_) (fun b3 => ?_)
    · replace e := zd_pos b3 e
      refine zk_iconst (v := 1) C kd_Mo_isConstant_84 (by decide) rfl ?_
      exact zk_zret C hR (zd_nb (Or.inr rfl)) kd_Mo_isConstant_85 rfl rfl (zd_rZO (Or.inr rfl) e)
    · replace e := zd_neg b3 e
      refine zk_aload_n C kd_Mo_isConstant_73 rfl 0 rfl rfl ?_
      refine zs_get (v := .ref (S.1 72)) C 68 15 rfl rfl rfl rfl ki_Mo (by decide) kw1698 kd_Mo_isConstant_74 rfl ?_
      refine zk_iload_n C kd_Mo_isConstant_77 rfl 1 rfl rfl ?_
      refine zs_iald C 72 rfl (zd_vp q1) kd_Mo_isConstant_78 rfl ?_
      refine zk_bipush (v := 31) C kd_Mo_isConstant_79 (by decide) rfl ?_
      refine zk_icmp_ne (tgt := 86) C kd_Mo_isConstant_81 (by decide) rfl (fun b4 => ?_) (fun b4 => ?_)
      · replace e := zd_neg b4 e
        refine zk_aload_n C kd_Mo_isConstant_86 rfl 0 rfl rfl ?_
        refine zs_get (v := .ref (S.1 72)) C 68 15 rfl rfl rfl rfl ki_Mo (by decide) kw1698 kd_Mo_isConstant_87 rfl ?_
        refine zk_iload_n C kd_Mo_isConstant_90 rfl 1 rfl rfl ?_
        refine zs_iald C 72 rfl (zd_vp q1) kd_Mo_isConstant_91 rfl ?_
        refine zk_bipush (v := 34) C kd_Mo_isConstant_92 (by decide) rfl ?_
        refine zk_icmp_lt (tgt := 124) C kd_Mo_isConstant_94 (by decide) rfl (fun b5 => ?_) (fun b5 => ?_)
        · replace e := zd_pos b5 e
          refine zk_iconst (v := 0) C kd_Mo_isConstant_124 (by decide) rfl ?_
          exact zk_zret C hR (zd_nb (Or.inl rfl)) kd_Mo_isConstant_125 rfl rfl (zd_rZO (Or.inl rfl) e)
        · replace e := zd_neg b5 e
          refine zk_aload_n C kd_Mo_isConstant_97 rfl 0 rfl rfl ?_
          refine zs_get (v := .ref (S.1 72)) C 68 15 rfl rfl rfl rfl ki_Mo (by decide) kw1698 kd_Mo_isConstant_98 rfl ?_
          refine zk_iload_n C kd_Mo_isConstant_101 rfl 1 rfl rfl ?_
          refine zs_iald C 72 rfl (zd_vp q1) kd_Mo_isConstant_102 rfl ?_
          refine zk_bipush (v := 34) C kd_Mo_isConstant_103 (by decide) rfl ?_
          refine zk_icmp_ne (tgt := 126) C kd_Mo_isConstant_105 (by decide) rfl (fun b6 => ?_) (fun b6 => ?_)
          · replace e := zd_neg b6 e
            refine zk_lvs (lv' := [(0, .ref (S.1 68)), (2, .int x2)]) [0, 1] rfl ?_
            exact zb_Mo_isConstant_126 C hR hr_Mo_isConstant x2 e
          · replace e := zd_pos b6 e
            refine zk_aload_n C kd_Mo_isConstant_108 rfl 0 rfl rfl ?_
            refine ze_ldcSw (i := 11) C (zd_str 11 rfl) kd_Mo_isConstant_109 rfl ?_
            refine zk_aload_n C kd_Mo_isConstant_112 rfl 0 rfl rfl ?_
            refine zs_get (v := .ref (S.1 74)) C 68 17 rfl rfl rfl rfl ki_Mo (by decide) kw1700 kd_Mo_isConstant_113 rfl ?_
            refine zk_iload_n C kd_Mo_isConstant_116 rfl 1 rfl rfl ?_
            refine zs_iald C 74 rfl (zd_vp q1) kd_Mo_isConstant_117 rfl ?_
            obtain ⟨v8, c7, e⟩ := zd_b e
            refine zs_callV (k := 68) (rn := { frames := 4, cells := 0, slots := 0, locals := 85 }) (As := [.ref (P.1 11), .int (h.2.1 74 x2.toNatClampNeg)]) (rest := []) C (zc_Mo_wordOf_s11 h (h.2.1 74 x2.toNatClampNeg) c7) ku_Mo_wordOf kw2273 kv_Mo_wordOf rfl (zd_rmO (by decide) (by decide)) ⟨Nat.le_refl _, Nat.le_refl _⟩ rfl rfl rfl (Nat.le_of_ble_eq_true rfl) kd_Mo_isConstant_118 rfl (c1 := 0) (s1 := 0) rfl rfl (fun v w hp => ?_)
            obtain ⟨rfl, rfl⟩ := hp
            refine zk_stk (r' := [.int v8]) rfl ?_
            refine zk_if_ge (tgt := 126) C kd_Mo_isConstant_121 (by decide) rfl (fun b9 => ?_) (fun b9 => ?_)
            · replace e := zd_pos b9 e
              refine zk_lvs (lv' := [(0, .ref (S.1 68)), (2, .int x2)]) [0, 1] rfl ?_
              exact zb_Mo_isConstant_126 C hR hr_Mo_isConstant x2 e
            · replace e := zd_neg b9 e
              refine zk_iconst (v := 0) C kd_Mo_isConstant_124 (by decide) rfl ?_
              exact zk_zret C hR (zd_nb (Or.inl rfl)) kd_Mo_isConstant_125 rfl rfl (zd_rZO (Or.inl rfl) e)
      · replace e := zd_pos b4 e
        refine zk_iconst (v := 1) C kd_Mo_isConstant_84 (by decide) rfl ?_
        exact zk_zret C hR (zd_nb (Or.inr rfl)) kd_Mo_isConstant_85 rfl rfl (zd_rZO (Or.inr rfl) e)
  · replace e := zd_pos b2 e
    refine zk_aload_n C kd_Mo_isConstant_13 rfl 0 rfl rfl ?_
    refine zk_aload_n C kd_Mo_isConstant_14 rfl 0 rfl rfl ?_
    refine zs_get (v := .ref (S.1 77)) C 68 20 rfl rfl rfl rfl ki_Mo (by decide) kw1703 kd_Mo_isConstant_15 rfl ?_
    refine zk_iload_n C kd_Mo_isConstant_18 rfl 1 rfl rfl ?_
    refine zs_iald C 77 rfl (zd_vp q1) kd_Mo_isConstant_19 rfl ?_
    obtain ⟨v11, c10, e⟩ := zd_b e
    refine zs_callV (k := 68) (rn := { frames := 404 + d, cells := 0, slots := 0, locals := 10091 + 23 * d }) (As := [.int (h.2.1 77 x2.toNatClampNeg)]) (rest := []) C (hr_Mo_isConstant h (h.2.1 77 x2.toNatClampNeg) c10) ku_Mo_isConstant kw2548 kv_Mo_isConstant rfl (zd_rmI (by decide)) ⟨Nat.le_refl _, Nat.le_refl _⟩ rfl rfl rfl (Nat.le_of_ble_eq_true rfl) kd_Mo_isConstant_20 rfl (c1 := 0) (s1 := 0) rfl rfl (fun v w hp => ?_)
    obtain ⟨rfl, rfl, z12⟩ := hp
    refine zk_stk (r' := [.int v11]) rfl ?_
    refine zk_if_eq (tgt := 50) C kd_Mo_isConstant_23 (by decide) rfl (fun b13 => ?_) (fun b13 => ?_)
    · replace e := zd_pos b13 e
      refine zk_iconst (v := 0) C kd_Mo_isConstant_50 (by decide) rfl ?_
      exact zk_zret C hR (zd_nb (Or.inl rfl)) kd_Mo_isConstant_51 rfl rfl (zd_rZO (Or.inl rfl) e)
    · replace e := zd_neg b13 e
      refine zk_aload_n C kd_Mo_isConstant_26 rfl 0 rfl rfl ?_
      refine zs_get (v := .ref (S.1 74)) C 68 17 rfl rfl rfl rfl ki_Mo (by decide) kw1700 kd_Mo_isConstant_27 rfl ?_
      refine zk_iload_n C kd_Mo_isConstant_30 rfl 1 rfl rfl ?_
      refine zs_iald C 74 rfl (zd_vp q1) kd_Mo_isConstant_31 rfl ?_
      refine zk_bipush (v := 11) C kd_Mo_isConstant_32 (by decide) rfl ?_
      refine zk_icmp_le (tgt := 52) C kd_Mo_isConstant_34 (by decide) rfl (fun b14 => ?_) (fun b14 => ?_)
      · replace e := zd_pos b14 e
        refine zk_lvs (lv' := [(0, .ref (S.1 68)), (2, .int x2)]) [0, 1] rfl ?_
        exact zb_Mo_isConstant_52 C hR hr_Mo_isConstant hk2 x2 e
      · replace e := zd_neg b14 e
        refine zk_aload_n C kd_Mo_isConstant_37 rfl 0 rfl rfl ?_
        refine zk_aload_n C kd_Mo_isConstant_38 rfl 0 rfl rfl ?_
        refine zs_get (v := .ref (S.1 77)) C 68 20 rfl rfl rfl rfl ki_Mo (by decide) kw1703 kd_Mo_isConstant_39 rfl ?_
        refine zk_iload_n C kd_Mo_isConstant_42 rfl 1 rfl rfl ?_
        refine zs_iald C 77 rfl (zd_vp q1) kd_Mo_isConstant_43 rfl ?_
        obtain ⟨v16, c15, e⟩ := zd_b e
        refine zs_callV (k := 68) (rn := { frames := 3 + 400, cells := 0, slots := 0, locals := 68 + 25 * 400 }) (As := [.int (h.2.1 77 x2.toNatClampNeg)]) (rest := []) C (zc_Mo_valueOf h (h.2.1 77 x2.toNatClampNeg) c15) ku_Mo_valueOf kw2552 kv_Mo_valueOf rfl (zd_rmO (by decide) (by decide)) ⟨Nat.le_refl _, Nat.le_refl _⟩ rfl rfl rfl (Nat.le_of_ble_eq_true rfl) kd_Mo_isConstant_44 rfl (c1 := 0) (s1 := 0) rfl rfl (fun v w hp => ?_)
        obtain ⟨rfl, rfl⟩ := hp
        refine zk_stk (r' := [.int v16]) rfl ?_
        refine zk_if_ne (tgt := 52) C kd_Mo_isConstant_47 (by decide) rfl (fun b17 => ?_) (fun b17 => ?_)
        · replace e := zd_neg b17 e
          refine zk_lvs (lv' := [(0, .ref (S.1 68)), (2, .int x2)]) [0, 1] rfl ?_
          exact zb_Mo_isConstant_52 C hR hr_Mo_isConstant hk2 x2 e
        · replace e := zd_pos b17 e
          refine zk_iconst (v := 0) C kd_Mo_isConstant_50 (by decide) rfl ?_
          exact zk_zret C hR (zd_nb (Or.inl rfl)) kd_Mo_isConstant_51 rfl rfl (zd_rZO (Or.inl rfl) e)
theorem zl_Mo_isConstant_2 {X : zkj_T} {S : zs_T} {P : ze_T} {l : Launch} {D : va_G} {sz0 : Nat} {d : Nat} {rv : Int32} {h : zs_H} (C : zk_C X km_Mo_isConstant (zs_G S l D sz0) { frames := 404 + (d + 1), cells := 0, slots := 0, locals := 10091 + 23 * (d + 1) } (ze_E P)) (hR : zkj_R X (zd_PZ S rv h) (some .boolean)) {r_Mo_isConstant : zs_H → Int32 → (Option Int32)} (hr_Mo_isConstant : ∀ (h : zs_H) (x0 : Int32) {rv : Int32}, r_Mo_isConstant h x0 = some rv → zk_Sp (zs_G S l D sz0) (ze_E P) km_Mo_isConstant { frames := 404 + d, cells := 0, slots := 0, locals := 10091 + 23 * d } [.ref (S.1 68), .int x0] (zs_W S h) (zd_PZ S rv h)) (n : Nat) : ∀ (x2 : Int32), f_Mo_isConstant_L2 r_Mo_isConstant h n x2 = some rv → zk_Ab X (zs_W S h) 0 0 2 [(0, .ref (S.1 68)), (2, .int x2)] [] := by
  induction n with
  | zero => intro x2 e; exact zd_no e
  | succ n ih => intro x2 e; exact zb_Mo_isConstant_2 (k2 := f_Mo_isConstant_L2 r_Mo_isConstant h n) C hR hr_Mo_isConstant ih x2 e
set_option maxHeartbeats 4000000 in
set_option maxRecDepth 100000 in
theorem zg_Mo_isConstant {l : Launch} {D : va_G} {sz0 : Nat} {S : zs_T} {P : ze_T} {d : Nat} {r_Mo_isConstant : zs_H → Int32 → (Option Int32)} (hr_Mo_isConstant : ∀ (h : zs_H) (x0 : Int32) {rv : Int32}, r_Mo_isConstant h x0 = some rv → zk_Sp (zs_G S l D sz0) (ze_E P) km_Mo_isConstant { frames := 404 + d, cells := 0, slots := 0, locals := 10091 + 23 * d } [.ref (S.1 68), .int x0] (zs_W S h) (zd_PZ S rv h)) (h : zs_H) (x1 : Int32) {rv : Int32} (e : g_Mo_isConstant r_Mo_isConstant h x1 = some rv) : zk_Sp (zs_G S l D sz0) (ze_E P) km_Mo_isConstant { frames := 404 + (d + 1), cells := 0, slots := 0, locals := 10091 + 23 * (d + 1) } [.ref (S.1 68), .int x1] (zs_W S h) (zd_PZ S rv h) := by
  refine zk_met ku_Mo_isConstant (Nat.le_of_ble_eq_true rfl) (ze_Em P) ?_
  intro X C hR
  refine zk_lvs (lv' := [(0, .ref (S.1 68)), (1, .int x1)]) [0, 1] rfl ?_
  unfold g_Mo_isConstant at e
  refine zk_iload_n C kd_Mo_isConstant_0 rfl 1 rfl rfl ?_
  refine zk_istore_n (lv' := [(2, _), (0, _), (1, _)]) C kd_Mo_isConstant_1 rfl (by decide) rfl rfl ?_
  refine zk_lvs (lv' := [(0, .ref (S.1 68)), (2, .int x1)]) [1, 0] rfl ?_
  exact zl_Mo_isConstant_2 C hR hr_Mo_isConstant zF x1 e
theorem zs_Mo_isConstant {l : Launch} {D : va_G} {sz0 : Nat} {S : zs_T} {P : ze_T} (d : Nat) : (∀ (h : zs_H) (x0 : Int32) {rv : Int32}, f_Mo_isConstant d h x0 = some rv → zk_Sp (zs_G S l D sz0) (ze_E P) km_Mo_isConstant { frames := 404 + d, cells := 0, slots := 0, locals := 10091 + 23 * d } [.ref (S.1 68), .int x0] (zs_W S h) (zd_PZ S rv h)) := by
  induction d with
  | zero => exact ((fun h x0 _ e => zd_no e))
  | succ d ih =>
    have q0 := @ih
    have hh : f_Mo_isConstant (d + 1) = g_Mo_isConstant (f_Mo_isConstant d) := zd_its _ _ d
    exact ((fun h x0 _ e => zg_Mo_isConstant (r_Mo_isConstant := f_Mo_isConstant d) q0 h x0 ((congrFun (congrFun hh h) x0).symm.trans e)))
theorem zc_Mo_isConstant {l : Launch} {D : va_G} {sz0 : Nat} {S : zs_T} {P : ze_T} (h : zs_H) (x0 : Int32) {rv : Int32} (e : f_Mo_isConstant 400 h x0 = some rv) : zk_Sp (zs_G S l D sz0) (ze_E P) km_Mo_isConstant { frames := 404 + 400, cells := 0, slots := 0, locals := 10091 + 23 * 400 } [.ref (S.1 68), .int x0] (zs_W S h) (zd_PZ S rv h) := (zs_Mo_isConstant 400) h x0 e
