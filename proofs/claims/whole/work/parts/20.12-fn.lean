theorem kw2292 : Jvm.Cond.instanceMethod ({ cls := "PlantKeeperModel", name := "lookAtBlocks", desc := "(I)V" } : Jvm.MethodName) ∈ zk_BW := zk_inT 2292 (by decide +kernel) rfl
theorem kw2293 : Jvm.Cond.code ({ cls := "PlantKeeperModel", name := "lookAtBlocks", desc := "(I)V" } : Jvm.MethodName) prog_14_method_86_code (3 : Nat) (Option.none : Option FieldType) ∈ zk_BW := zk_inT 2293 (by decide +kernel) rfl
theorem kw2294 : Jvm.Cond.methodLink "PlantKeeperModel" (560 : Nat) ({ cls := "PlantKeeperModel", name := "lookAtText", desc := "(I)V" } : Jvm.MethodName) ∈ zk_BW := zk_inT 2294 (by decide +kernel) rfl
theorem kw2296 : Jvm.Cond.instanceMethod ({ cls := "PlantKeeperModel", name := "lookAtText", desc := "(I)V" } : Jvm.MethodName) ∈ zk_BW := zk_inT 2296 (by decide +kernel) rfl
theorem kw2297 : Jvm.Cond.code ({ cls := "PlantKeeperModel", name := "lookAtText", desc := "(I)V" } : Jvm.MethodName) prog_14_method_94_code (4 : Nat) (Option.none : Option FieldType) ∈ zk_BW := zk_inT 2297 (by decide +kernel) rfl
theorem kw2298 : Jvm.Cond.methodLink "PlantKeeperModel" (563 : Nat) ({ cls := "PlantKeeperModel", name := "inputs", desc := "(I)I" } : Jvm.MethodName) ∈ zk_BW := zk_inT 2298 (by decide +kernel) rfl
theorem kw2302 : Jvm.Cond.methodLink "PlantKeeperModel" (566 : Nat) ({ cls := "PlantKeeperModel", name := "endBlock", desc := "(I)V" } : Jvm.MethodName) ∈ zk_BW := zk_inT 2302 (by decide +kernel) rfl
theorem kw2310 : Jvm.Cond.methodLink "PlantKeeperModel" (569 : Nat) ({ cls := "PlantKeeperModel", name := "lookAtDeclaration", desc := "(I)V" } : Jvm.MethodName) ∈ zk_BW := zk_inT 2310 (by decide +kernel) rfl
theorem kw2323 : Jvm.Cond.methodLink "PlantKeeperModel" (572 : Nat) ({ cls := "PlantKeeperModel", name := "lookAtName", desc := "(I)V" } : Jvm.MethodName) ∈ zk_BW := zk_inT 2323 (by decide +kernel) rfl
theorem kw2331 : Jvm.Cond.methodLink "PlantKeeperModel" (575 : Nat) ({ cls := "PlantKeeperModel", name := "isPlaceTaken", desc := "(I)Z" } : Jvm.MethodName) ∈ zk_BW := zk_inT 2331 (by decide +kernel) rfl
theorem kw2335 : Jvm.Cond.methodLink "PlantKeeperModel" (578 : Nat) ({ cls := "PlantKeeperModel", name := "lookAtArray", desc := "(I)V" } : Jvm.MethodName) ∈ zk_BW := zk_inT 2335 (by decide +kernel) rfl
theorem kw2343 : Jvm.Cond.methodLink "PlantKeeperModel" (597 : Nat) ({ cls := "PlantKeeperModel", name := "lookAtAssigned", desc := "(II)V" } : Jvm.MethodName) ∈ zk_BW := zk_inT 2343 (by decide +kernel) rfl
theorem kw2345 : Jvm.Cond.instanceMethod ({ cls := "PlantKeeperModel", name := "lookAtAssigned", desc := "(II)V" } : Jvm.MethodName) ∈ zk_BW := zk_inT 2345 (by decide +kernel) rfl
theorem kw2346 : Jvm.Cond.code ({ cls := "PlantKeeperModel", name := "lookAtAssigned", desc := "(II)V" } : Jvm.MethodName) prog_14_method_96_code (5 : Nat) (Option.none : Option FieldType) ∈ zk_BW := zk_inT 2346 (by decide +kernel) rfl
theorem kw2347 : Jvm.Cond.methodLink "PlantKeeperModel" (593 : Nat) ({ cls := "PlantKeeperModel", name := "isLoops", desc := "(II)Z" } : Jvm.MethodName) ∈ zk_BW := zk_inT 2347 (by decide +kernel) rfl
theorem kw2349 : Jvm.Cond.instanceMethod ({ cls := "PlantKeeperModel", name := "isLoops", desc := "(II)Z" } : Jvm.MethodName) ∈ zk_BW := zk_inT 2349 (by decide +kernel) rfl
theorem kw2350 : Jvm.Cond.code ({ cls := "PlantKeeperModel", name := "isLoops", desc := "(II)Z" } : Jvm.MethodName) prog_14_method_95_code (5 : Nat) (Option.some FieldType.boolean) ∈ zk_BW := zk_inT 2350 (by decide +kernel) rfl
theorem kw2352 : Jvm.Cond.static ({ cls := "PlantKeeperModel", name := "fits", desc := "(II)Z" } : Jvm.MethodName) ∈ zk_BW := zk_inT 2352 (by decide +kernel) rfl
theorem kw2353 : Jvm.Cond.code ({ cls := "PlantKeeperModel", name := "fits", desc := "(II)Z" } : Jvm.MethodName) prog_14_method_71_code (2 : Nat) (Option.some FieldType.boolean) ∈ zk_BW := zk_inT 2353 (by decide +kernel) rfl
theorem kw2369 : Jvm.Cond.constant "PlantKeeperModel" (468 : Nat) (100003 : Int32) ∈ zk_BW := zk_inT 2369 (by decide +kernel) rfl
theorem kw2374 : Jvm.Cond.constant "PlantKeeperModel" (476 : Nat) (100007 : Int32) ∈ zk_BW := zk_inT 2374 (by decide +kernel) rfl
theorem kw2463 : Jvm.Cond.instanceMethod ({ cls := "PlantKeeperModel", name := "pinType", desc := "(IZI)I" } : Jvm.MethodName) ∈ zk_BW := zk_inT 2463 (by decide +kernel) rfl
theorem kw2464 : Jvm.Cond.code ({ cls := "PlantKeeperModel", name := "pinType", desc := "(IZI)I" } : Jvm.MethodName) prog_14_method_75_code (5 : Nat) (Option.some FieldType.int) ∈ zk_BW := zk_inT 2464 (by decide +kernel) rfl
theorem kw2467 : Jvm.Cond.instanceMethod ({ cls := "PlantKeeperModel", name := "pinCell", desc := "(IZI)I" } : Jvm.MethodName) ∈ zk_BW := zk_inT 2467 (by decide +kernel) rfl
theorem kw2468 : Jvm.Cond.code ({ cls := "PlantKeeperModel", name := "pinCell", desc := "(IZI)I" } : Jvm.MethodName) prog_14_method_76_code (4 : Nat) (Option.some FieldType.int) ∈ zk_BW := zk_inT 2468 (by decide +kernel) rfl
theorem kw2469 : Jvm.Cond.methodLink "PlantKeeperModel" (609 : Nat) ({ cls := "PlantKeeperModel", name := "isNumber", desc := "(I)Z" } : Jvm.MethodName) ∈ zk_BW := zk_inT 2469 (by decide +kernel) rfl
theorem kw2470 : Jvm.Cond.static ({ cls := "PlantKeeperModel", name := "isNumber", desc := "(I)Z" } : Jvm.MethodName) ∈ zk_BW := zk_inT 2470 (by decide +kernel) rfl
theorem kw2471 : Jvm.Cond.code ({ cls := "PlantKeeperModel", name := "isNumber", desc := "(I)Z" } : Jvm.MethodName) prog_14_method_69_code (1 : Nat) (Option.some FieldType.boolean) ∈ zk_BW := zk_inT 2471 (by decide +kernel) rfl
theorem kw2474 : Jvm.Cond.instanceMethod ({ cls := "PlantKeeperModel", name := "lookAtLoop", desc := "(I)V" } : Jvm.MethodName) ∈ zk_BW := zk_inT 2474 (by decide +kernel) rfl
theorem kw2475 : Jvm.Cond.code ({ cls := "PlantKeeperModel", name := "lookAtLoop", desc := "(I)V" } : Jvm.MethodName) prog_14_method_100_code (12 : Nat) (Option.none : Option FieldType) ∈ zk_BW := zk_inT 2475 (by decide +kernel) rfl
theorem kw2476 : Jvm.Cond.constantLong "PlantKeeperModel" (625 : Nat) (1000000 : Int64) ∈ zk_BW := zk_inT 2476 (by decide +kernel) rfl
abbrev kc_Mo_fits : ByteArray := prog_14_method_71_code
def km_Mo_fits : zk_MT := (⟨"PlantKeeperModel", "fits", "(II)Z"⟩, kc_Mo_fits, 2, some .boolean, 2)
theorem ku_Mo_fits : zk_My km_Mo_fits := ⟨kw2353, kw17, by decide, by decide, by decide, by decide +kernel⟩
theorem ks_Mo_fits : Cond.static km_Mo_fits.1 ∈ zk_BW := kw2352
abbrev kc_Mo_isLoops : ByteArray := prog_14_method_95_code
def km_Mo_isLoops : zk_MT := (⟨"PlantKeeperModel", "isLoops", "(II)Z"⟩, kc_Mo_isLoops, 5, some .boolean, 2)
theorem ku_Mo_isLoops : zk_My km_Mo_isLoops := ⟨kw2350, kw17, by decide, by decide, by decide, by decide +kernel⟩
theorem kv_Mo_isLoops : zk_Mv km_Mo_isLoops := ⟨kw2349, zk_inS 229 (q := (⟨"PlantKeeperModel", "isLoops", "(II)Z"⟩, 96)) (by decide +kernel)⟩
abbrev kc_Mo_isNumber : ByteArray := prog_14_method_69_code
def km_Mo_isNumber : zk_MT := (⟨"PlantKeeperModel", "isNumber", "(I)Z"⟩, kc_Mo_isNumber, 1, some .boolean, 1)
theorem ku_Mo_isNumber : zk_My km_Mo_isNumber := ⟨kw2471, kw17, by decide, by decide, by decide, by decide +kernel⟩
theorem ks_Mo_isNumber : Cond.static km_Mo_isNumber.1 ∈ zk_BW := kw2470
abbrev kc_Mo_lookAtAssigned : ByteArray := prog_14_method_96_code
def km_Mo_lookAtAssigned : zk_MT := (⟨"PlantKeeperModel", "lookAtAssigned", "(II)V"⟩, kc_Mo_lookAtAssigned, 5, none, 2)
theorem ku_Mo_lookAtAssigned : zk_My km_Mo_lookAtAssigned := ⟨kw2346, kw17, by decide, by decide, by decide, by decide +kernel⟩
theorem kv_Mo_lookAtAssigned : zk_Mv km_Mo_lookAtAssigned := ⟨kw2345, zk_inS 228 (q := (⟨"PlantKeeperModel", "lookAtAssigned", "(II)V"⟩, 96)) (by decide +kernel)⟩
abbrev kc_Mo_lookAtBlocks : ByteArray := prog_14_method_86_code
def km_Mo_lookAtBlocks : zk_MT := (⟨"PlantKeeperModel", "lookAtBlocks", "(I)V"⟩, kc_Mo_lookAtBlocks, 3, none, 1)
theorem ku_Mo_lookAtBlocks : zk_My km_Mo_lookAtBlocks := ⟨kw2293, kw17, by decide, by decide, by decide, by decide +kernel⟩
theorem kv_Mo_lookAtBlocks : zk_Mv km_Mo_lookAtBlocks := ⟨kw2292, zk_inS 215 (q := (⟨"PlantKeeperModel", "lookAtBlocks", "(I)V"⟩, 96)) (by decide +kernel)⟩
abbrev kc_Mo_lookAtLoop : ByteArray := prog_14_method_100_code
def km_Mo_lookAtLoop : zk_MT := (⟨"PlantKeeperModel", "lookAtLoop", "(I)V"⟩, kc_Mo_lookAtLoop, 12, none, 1)
theorem ku_Mo_lookAtLoop : zk_My km_Mo_lookAtLoop := ⟨kw2475, kw17, by decide, by decide, by decide, by decide +kernel⟩
theorem kv_Mo_lookAtLoop : zk_Mv km_Mo_lookAtLoop := ⟨kw2474, zk_inS 236 (q := (⟨"PlantKeeperModel", "lookAtLoop", "(I)V"⟩, 96)) (by decide +kernel)⟩
abbrev kc_Mo_lookAtText : ByteArray := prog_14_method_94_code
def km_Mo_lookAtText : zk_MT := (⟨"PlantKeeperModel", "lookAtText", "(I)V"⟩, kc_Mo_lookAtText, 4, none, 1)
theorem ku_Mo_lookAtText : zk_My km_Mo_lookAtText := ⟨kw2297, kw17, by decide, by decide, by decide, by decide +kernel⟩
theorem kv_Mo_lookAtText : zk_Mv km_Mo_lookAtText := ⟨kw2296, zk_inS 216 (q := (⟨"PlantKeeperModel", "lookAtText", "(I)V"⟩, 96)) (by decide +kernel)⟩
abbrev kc_Mo_pinCell : ByteArray := prog_14_method_76_code
def km_Mo_pinCell : zk_MT := (⟨"PlantKeeperModel", "pinCell", "(IZI)I"⟩, kc_Mo_pinCell, 4, some .int, 3)
theorem ku_Mo_pinCell : zk_My km_Mo_pinCell := ⟨kw2468, kw17, by decide, by decide, by decide, by decide +kernel⟩
theorem kv_Mo_pinCell : zk_Mv km_Mo_pinCell := ⟨kw2467, zk_inS 235 (q := (⟨"PlantKeeperModel", "pinCell", "(IZI)I"⟩, 96)) (by decide +kernel)⟩
abbrev kc_Mo_pinType : ByteArray := prog_14_method_75_code
def km_Mo_pinType : zk_MT := (⟨"PlantKeeperModel", "pinType", "(IZI)I"⟩, kc_Mo_pinType, 5, some .int, 3)
theorem ku_Mo_pinType : zk_My km_Mo_pinType := ⟨kw2464, kw17, by decide, by decide, by decide, by decide +kernel⟩
theorem kv_Mo_pinType : zk_Mv km_Mo_pinType := ⟨kw2463, zk_inS 234 (q := (⟨"PlantKeeperModel", "pinType", "(IZI)I"⟩, 96)) (by decide +kernel)⟩
theorem kd_Mo_fits_0 : decode kc_Mo_fits 0 = .ok (.iload_n 0, 1) := by decide +kernel
theorem kd_Mo_fits_1 : decode kc_Mo_fits 1 = .ok (.iload_n 1, 1) := by decide +kernel
theorem kd_Mo_fits_2 : decode kc_Mo_fits 2 = .ok (.if_icmp .eq 13, 3) := by decide +kernel
theorem kd_Mo_fits_5 : decode kc_Mo_fits 5 = .ok (.iload_n 0, 1) := by decide +kernel
theorem kd_Mo_fits_6 : decode kc_Mo_fits 6 = .ok (.iconst 1, 1) := by decide +kernel
theorem kd_Mo_fits_7 : decode kc_Mo_fits 7 = .ok (.if_icmp .ne 12, 3) := by decide +kernel
theorem kd_Mo_fits_10 : decode kc_Mo_fits 10 = .ok (.iload_n 1, 1) := by decide +kernel
theorem kd_Mo_fits_11 : decode kc_Mo_fits 11 = .ok (.iconst 2, 1) := by decide +kernel
theorem kd_Mo_fits_12 : decode kc_Mo_fits 12 = .ok (.if_icmp .ne 7, 3) := by decide +kernel
theorem kd_Mo_fits_15 : decode kc_Mo_fits 15 = .ok (.iconst 1, 1) := by decide +kernel
theorem kd_Mo_fits_16 : decode kc_Mo_fits 16 = .ok (.goto 4, 3) := by decide +kernel
theorem kd_Mo_fits_19 : decode kc_Mo_fits 19 = .ok (.iconst 0, 1) := by decide +kernel
theorem kd_Mo_fits_20 : decode kc_Mo_fits 20 = .ok (.ireturn, 1) := by decide +kernel
theorem kd_Mo_isLoops_0 : decode kc_Mo_isLoops 0 = .ok (.iconst 0, 1) := by decide +kernel
theorem kd_Mo_isLoops_1 : decode kc_Mo_isLoops 1 = .ok (.istore_n 3, 1) := by decide +kernel
theorem kd_Mo_isLoops_2 : decode kc_Mo_isLoops 2 = .ok (.aload_n 0, 1) := by decide +kernel
theorem kd_Mo_isLoops_3 : decode kc_Mo_isLoops 3 = .ok (.getfield 31, 3) := by decide +kernel
theorem kd_Mo_isLoops_6 : decode kc_Mo_isLoops 6 = .ok (.iload_n 2, 1) := by decide +kernel
theorem kd_Mo_isLoops_7 : decode kc_Mo_isLoops 7 = .ok (.iaload, 1) := by decide +kernel
theorem kd_Mo_isLoops_8 : decode kc_Mo_isLoops 8 = .ok (.istore 4, 2) := by decide +kernel
theorem kd_Mo_isLoops_10 : decode kc_Mo_isLoops 10 = .ok (.iload 4, 2) := by decide +kernel
theorem kd_Mo_isLoops_12 : decode kc_Mo_isLoops 12 = .ok (.ifCond .lt 48, 3) := by decide +kernel
theorem kd_Mo_isLoops_15 : decode kc_Mo_isLoops 15 = .ok (.iload_n 3, 1) := by decide +kernel
theorem kd_Mo_isLoops_16 : decode kc_Mo_isLoops 16 = .ok (.ifCond .ne 26, 3) := by decide +kernel
theorem kd_Mo_isLoops_19 : decode kc_Mo_isLoops 19 = .ok (.aload_n 0, 1) := by decide +kernel
theorem kd_Mo_isLoops_20 : decode kc_Mo_isLoops 20 = .ok (.getfield 22, 3) := by decide +kernel
theorem kd_Mo_isLoops_23 : decode kc_Mo_isLoops 23 = .ok (.iload 4, 2) := by decide +kernel
theorem kd_Mo_isLoops_25 : decode kc_Mo_isLoops 25 = .ok (.iaload, 1) := by decide +kernel
theorem kd_Mo_isLoops_26 : decode kc_Mo_isLoops 26 = .ok (.bipush 19, 2) := by decide +kernel
theorem kd_Mo_isLoops_28 : decode kc_Mo_isLoops 28 = .ok (.if_icmp .ne 18, 3) := by decide +kernel
theorem kd_Mo_isLoops_31 : decode kc_Mo_isLoops 31 = .ok (.aload_n 0, 1) := by decide +kernel
theorem kd_Mo_isLoops_32 : decode kc_Mo_isLoops 32 = .ok (.getfield 28, 3) := by decide +kernel
theorem kd_Mo_isLoops_35 : decode kc_Mo_isLoops 35 = .ok (.iload 4, 2) := by decide +kernel
theorem kd_Mo_isLoops_37 : decode kc_Mo_isLoops 37 = .ok (.iaload, 1) := by decide +kernel
theorem kd_Mo_isLoops_38 : decode kc_Mo_isLoops 38 = .ok (.iload_n 1, 1) := by decide +kernel
theorem kd_Mo_isLoops_39 : decode kc_Mo_isLoops 39 = .ok (.if_icmp .ne 7, 3) := by decide +kernel
theorem kd_Mo_isLoops_42 : decode kc_Mo_isLoops 42 = .ok (.iconst 1, 1) := by decide +kernel
theorem kd_Mo_isLoops_43 : decode kc_Mo_isLoops 43 = .ok (.goto 4, 3) := by decide +kernel
theorem kd_Mo_isLoops_46 : decode kc_Mo_isLoops 46 = .ok (.iconst 0, 1) := by decide +kernel
theorem kd_Mo_isLoops_47 : decode kc_Mo_isLoops 47 = .ok (.istore_n 3, 1) := by decide +kernel
theorem kd_Mo_isLoops_48 : decode kc_Mo_isLoops 48 = .ok (.aload_n 0, 1) := by decide +kernel
theorem kd_Mo_isLoops_49 : decode kc_Mo_isLoops 49 = .ok (.getfield 31, 3) := by decide +kernel
theorem kd_Mo_isLoops_52 : decode kc_Mo_isLoops 52 = .ok (.iload 4, 2) := by decide +kernel
theorem kd_Mo_isLoops_54 : decode kc_Mo_isLoops 54 = .ok (.iaload, 1) := by decide +kernel
theorem kd_Mo_isLoops_55 : decode kc_Mo_isLoops 55 = .ok (.istore 4, 2) := by decide +kernel
theorem kd_Mo_isLoops_57 : decode kc_Mo_isLoops 57 = .ok (.goto (-47), 3) := by decide +kernel
theorem kd_Mo_isLoops_60 : decode kc_Mo_isLoops 60 = .ok (.iload_n 3, 1) := by decide +kernel
theorem kd_Mo_isLoops_61 : decode kc_Mo_isLoops 61 = .ok (.ireturn, 1) := by decide +kernel
theorem kd_Mo_isNumber_0 : decode kc_Mo_isNumber 0 = .ok (.iload_n 0, 1) := by decide +kernel
theorem kd_Mo_isNumber_1 : decode kc_Mo_isNumber 1 = .ok (.iconst 1, 1) := by decide +kernel
theorem kd_Mo_isNumber_2 : decode kc_Mo_isNumber 2 = .ok (.if_icmp .eq 8, 3) := by decide +kernel
theorem kd_Mo_isNumber_5 : decode kc_Mo_isNumber 5 = .ok (.iload_n 0, 1) := by decide +kernel
theorem kd_Mo_isNumber_6 : decode kc_Mo_isNumber 6 = .ok (.iconst 2, 1) := by decide +kernel
theorem kd_Mo_isNumber_7 : decode kc_Mo_isNumber 7 = .ok (.if_icmp .ne 7, 3) := by decide +kernel
theorem kd_Mo_isNumber_10 : decode kc_Mo_isNumber 10 = .ok (.iconst 1, 1) := by decide +kernel
theorem kd_Mo_isNumber_11 : decode kc_Mo_isNumber 11 = .ok (.goto 4, 3) := by decide +kernel
theorem kd_Mo_isNumber_14 : decode kc_Mo_isNumber 14 = .ok (.iconst 0, 1) := by decide +kernel
theorem kd_Mo_isNumber_15 : decode kc_Mo_isNumber 15 = .ok (.ireturn, 1) := by decide +kernel
theorem kd_Mo_lookAtAssigned_0 : decode kc_Mo_lookAtAssigned 0 = .ok (.aload_n 0, 1) := by decide +kernel
theorem kd_Mo_lookAtAssigned_1 : decode kc_Mo_lookAtAssigned 1 = .ok (.aload_n 0, 1) := by decide +kernel
theorem kd_Mo_lookAtAssigned_2 : decode kc_Mo_lookAtAssigned 2 = .ok (.getfield 550, 3) := by decide +kernel
theorem kd_Mo_lookAtAssigned_5 : decode kc_Mo_lookAtAssigned 5 = .ok (.iload_n 1, 1) := by decide +kernel
theorem kd_Mo_lookAtAssigned_6 : decode kc_Mo_lookAtAssigned 6 = .ok (.invokevirtual 507, 3) := by decide +kernel
theorem kd_Mo_lookAtAssigned_9 : decode kc_Mo_lookAtAssigned 9 = .ok (.istore_n 3, 1) := by decide +kernel
theorem kd_Mo_lookAtAssigned_10 : decode kc_Mo_lookAtAssigned 10 = .ok (.iload_n 3, 1) := by decide +kernel
theorem kd_Mo_lookAtAssigned_11 : decode kc_Mo_lookAtAssigned 11 = .ok (.ifCond .ge 7, 3) := by decide +kernel
theorem kd_Mo_lookAtAssigned_14 : decode kc_Mo_lookAtAssigned 14 = .ok (.iconst (-1), 1) := by decide +kernel
theorem kd_Mo_lookAtAssigned_15 : decode kc_Mo_lookAtAssigned 15 = .ok (.goto 9, 3) := by decide +kernel
theorem kd_Mo_lookAtAssigned_18 : decode kc_Mo_lookAtAssigned 18 = .ok (.aload_n 0, 1) := by decide +kernel
theorem kd_Mo_lookAtAssigned_19 : decode kc_Mo_lookAtAssigned 19 = .ok (.getfield 94, 3) := by decide +kernel
theorem kd_Mo_lookAtAssigned_22 : decode kc_Mo_lookAtAssigned 22 = .ok (.iload_n 3, 1) := by decide +kernel
theorem kd_Mo_lookAtAssigned_23 : decode kc_Mo_lookAtAssigned 23 = .ok (.iaload, 1) := by decide +kernel
theorem kd_Mo_lookAtAssigned_24 : decode kc_Mo_lookAtAssigned 24 = .ok (.istore 4, 2) := by decide +kernel
theorem kd_Mo_lookAtAssigned_26 : decode kc_Mo_lookAtAssigned 26 = .ok (.aload_n 0, 1) := by decide +kernel
theorem kd_Mo_lookAtAssigned_27 : decode kc_Mo_lookAtAssigned 27 = .ok (.iload_n 3, 1) := by decide +kernel
theorem kd_Mo_lookAtAssigned_28 : decode kc_Mo_lookAtAssigned 28 = .ok (.ifCond .lt 41, 3) := by decide +kernel
theorem kd_Mo_lookAtAssigned_31 : decode kc_Mo_lookAtAssigned 31 = .ok (.aload_n 0, 1) := by decide +kernel
theorem kd_Mo_lookAtAssigned_32 : decode kc_Mo_lookAtAssigned 32 = .ok (.getfield 91, 3) := by decide +kernel
theorem kd_Mo_lookAtAssigned_35 : decode kc_Mo_lookAtAssigned 35 = .ok (.iload_n 3, 1) := by decide +kernel
theorem kd_Mo_lookAtAssigned_36 : decode kc_Mo_lookAtAssigned 36 = .ok (.iaload, 1) := by decide +kernel
theorem kd_Mo_lookAtAssigned_37 : decode kc_Mo_lookAtAssigned 37 = .ok (.iconst 1, 1) := by decide +kernel
theorem kd_Mo_lookAtAssigned_38 : decode kc_Mo_lookAtAssigned 38 = .ok (.if_icmp .eq 27, 3) := by decide +kernel
theorem kd_Mo_lookAtAssigned_41 : decode kc_Mo_lookAtAssigned 41 = .ok (.iload 4, 2) := by decide +kernel
theorem kd_Mo_lookAtAssigned_43 : decode kc_Mo_lookAtAssigned 43 = .ok (.ifCond .lt 26, 3) := by decide +kernel
theorem kd_Mo_lookAtAssigned_46 : decode kc_Mo_lookAtAssigned 46 = .ok (.iload 4, 2) := by decide +kernel
theorem kd_Mo_lookAtAssigned_48 : decode kc_Mo_lookAtAssigned 48 = .ok (.sipush 256, 3) := by decide +kernel
theorem kd_Mo_lookAtAssigned_51 : decode kc_Mo_lookAtAssigned 51 = .ok (.idiv, 1) := by decide +kernel
theorem kd_Mo_lookAtAssigned_52 : decode kc_Mo_lookAtAssigned 52 = .ok (.ifCond .eq 13, 3) := by decide +kernel
theorem kd_Mo_lookAtAssigned_55 : decode kc_Mo_lookAtAssigned 55 = .ok (.iload 4, 2) := by decide +kernel
theorem kd_Mo_lookAtAssigned_57 : decode kc_Mo_lookAtAssigned 57 = .ok (.sipush 256, 3) := by decide +kernel
theorem kd_Mo_lookAtAssigned_60 : decode kc_Mo_lookAtAssigned 60 = .ok (.idiv, 1) := by decide +kernel
theorem kd_Mo_lookAtAssigned_61 : decode kc_Mo_lookAtAssigned 61 = .ok (.iconst 3, 1) := by decide +kernel
theorem kd_Mo_lookAtAssigned_62 : decode kc_Mo_lookAtAssigned 62 = .ok (.if_icmp .ne 7, 3) := by decide +kernel
theorem kd_Mo_lookAtAssigned_65 : decode kc_Mo_lookAtAssigned 65 = .ok (.iconst 1, 1) := by decide +kernel
theorem kd_Mo_lookAtAssigned_66 : decode kc_Mo_lookAtAssigned 66 = .ok (.goto 4, 3) := by decide +kernel
theorem kd_Mo_lookAtAssigned_69 : decode kc_Mo_lookAtAssigned 69 = .ok (.iconst 0, 1) := by decide +kernel
theorem kd_Mo_lookAtAssigned_70 : decode kc_Mo_lookAtAssigned 70 = .ok (.bipush 29, 2) := by decide +kernel
theorem kd_Mo_lookAtAssigned_72 : decode kc_Mo_lookAtAssigned 72 = .ok (.iload_n 2, 1) := by decide +kernel
theorem kd_Mo_lookAtAssigned_73 : decode kc_Mo_lookAtAssigned 73 = .ok (.invokevirtual 540, 3) := by decide +kernel
theorem kd_Mo_lookAtAssigned_76 : decode kc_Mo_lookAtAssigned 76 = .ok (.aload_n 0, 1) := by decide +kernel
theorem kd_Mo_lookAtAssigned_77 : decode kc_Mo_lookAtAssigned 77 = .ok (.aload_n 0, 1) := by decide +kernel
theorem kd_Mo_lookAtAssigned_78 : decode kc_Mo_lookAtAssigned 78 = .ok (.iload_n 1, 1) := by decide +kernel
theorem kd_Mo_lookAtAssigned_79 : decode kc_Mo_lookAtAssigned 79 = .ok (.iload_n 2, 1) := by decide +kernel
theorem kd_Mo_lookAtAssigned_80 : decode kc_Mo_lookAtAssigned 80 = .ok (.invokevirtual 593, 3) := by decide +kernel
theorem kd_Mo_lookAtAssigned_83 : decode kc_Mo_lookAtAssigned 83 = .ok (.bipush 30, 2) := by decide +kernel
theorem kd_Mo_lookAtAssigned_85 : decode kc_Mo_lookAtAssigned 85 = .ok (.iload_n 2, 1) := by decide +kernel
theorem kd_Mo_lookAtAssigned_86 : decode kc_Mo_lookAtAssigned 86 = .ok (.invokevirtual 540, 3) := by decide +kernel
theorem kd_Mo_lookAtAssigned_89 : decode kc_Mo_lookAtAssigned 89 = .ok (.return_, 1) := by decide +kernel
theorem kd_Mo_lookAtBlocks_0 : decode kc_Mo_lookAtBlocks 0 = .ok (.aload_n 0, 1) := by decide +kernel
theorem kd_Mo_lookAtBlocks_1 : decode kc_Mo_lookAtBlocks 1 = .ok (.getfield 22, 3) := by decide +kernel
theorem kd_Mo_lookAtBlocks_4 : decode kc_Mo_lookAtBlocks 4 = .ok (.iload_n 1, 1) := by decide +kernel
theorem kd_Mo_lookAtBlocks_5 : decode kc_Mo_lookAtBlocks 5 = .ok (.iaload, 1) := by decide +kernel
theorem kd_Mo_lookAtBlocks_6 : decode kc_Mo_lookAtBlocks 6 = .ok (.tableswitch 265 0 9 #[54, 62, 62, 62, 105, 165, 173, 181, 242, 257], 54) := by decide +kernel
theorem kd_Mo_lookAtBlocks_60 : decode kc_Mo_lookAtBlocks 60 = .ok (.aload_n 0, 1) := by decide +kernel
theorem kd_Mo_lookAtBlocks_61 : decode kc_Mo_lookAtBlocks 61 = .ok (.iload_n 1, 1) := by decide +kernel
theorem kd_Mo_lookAtBlocks_62 : decode kc_Mo_lookAtBlocks 62 = .ok (.invokevirtual 560, 3) := by decide +kernel
theorem kd_Mo_lookAtBlocks_65 : decode kc_Mo_lookAtBlocks 65 = .ok (.goto 276, 3) := by decide +kernel
theorem kd_Mo_lookAtBlocks_68 : decode kc_Mo_lookAtBlocks 68 = .ok (.aload_n 0, 1) := by decide +kernel
theorem kd_Mo_lookAtBlocks_69 : decode kc_Mo_lookAtBlocks 69 = .ok (.aload_n 0, 1) := by decide +kernel
theorem kd_Mo_lookAtBlocks_70 : decode kc_Mo_lookAtBlocks 70 = .ok (.getfield 22, 3) := by decide +kernel
theorem kd_Mo_lookAtBlocks_73 : decode kc_Mo_lookAtBlocks 73 = .ok (.iload_n 1, 1) := by decide +kernel
theorem kd_Mo_lookAtBlocks_74 : decode kc_Mo_lookAtBlocks 74 = .ok (.iaload, 1) := by decide +kernel
theorem kd_Mo_lookAtBlocks_75 : decode kc_Mo_lookAtBlocks 75 = .ok (.iconst 1, 1) := by decide +kernel
theorem kd_Mo_lookAtBlocks_76 : decode kc_Mo_lookAtBlocks 76 = .ok (.if_icmp .ne 20, 3) := by decide +kernel
theorem kd_Mo_lookAtBlocks_79 : decode kc_Mo_lookAtBlocks 79 = .ok (.aload_n 0, 1) := by decide +kernel
theorem kd_Mo_lookAtBlocks_80 : decode kc_Mo_lookAtBlocks 80 = .ok (.aload_n 0, 1) := by decide +kernel
theorem kd_Mo_lookAtBlocks_81 : decode kc_Mo_lookAtBlocks 81 = .ok (.getfield 550, 3) := by decide +kernel
theorem kd_Mo_lookAtBlocks_84 : decode kc_Mo_lookAtBlocks 84 = .ok (.invokevirtual 563, 3) := by decide +kernel
theorem kd_Mo_lookAtBlocks_87 : decode kc_Mo_lookAtBlocks 87 = .ok (.bipush 8, 2) := by decide +kernel
theorem kd_Mo_lookAtBlocks_89 : decode kc_Mo_lookAtBlocks 89 = .ok (.if_icmp .le 7, 3) := by decide +kernel
theorem kd_Mo_lookAtBlocks_92 : decode kc_Mo_lookAtBlocks 92 = .ok (.iconst 1, 1) := by decide +kernel
theorem kd_Mo_lookAtBlocks_93 : decode kc_Mo_lookAtBlocks 93 = .ok (.goto 4, 3) := by decide +kernel
theorem kd_Mo_lookAtBlocks_96 : decode kc_Mo_lookAtBlocks 96 = .ok (.iconst 0, 1) := by decide +kernel
theorem kd_Mo_lookAtBlocks_97 : decode kc_Mo_lookAtBlocks 97 = .ok (.bipush 44, 2) := by decide +kernel
theorem kd_Mo_lookAtBlocks_99 : decode kc_Mo_lookAtBlocks 99 = .ok (.iload_n 1, 1) := by decide +kernel
theorem kd_Mo_lookAtBlocks_100 : decode kc_Mo_lookAtBlocks 100 = .ok (.invokevirtual 540, 3) := by decide +kernel
theorem kd_Mo_lookAtBlocks_103 : decode kc_Mo_lookAtBlocks 103 = .ok (.aload_n 0, 1) := by decide +kernel
theorem kd_Mo_lookAtBlocks_104 : decode kc_Mo_lookAtBlocks 104 = .ok (.iload_n 1, 1) := by decide +kernel
theorem kd_Mo_lookAtBlocks_105 : decode kc_Mo_lookAtBlocks 105 = .ok (.invokevirtual 566, 3) := by decide +kernel
theorem kd_Mo_lookAtBlocks_108 : decode kc_Mo_lookAtBlocks 108 = .ok (.goto 233, 3) := by decide +kernel
theorem kd_Mo_lookAtBlocks_111 : decode kc_Mo_lookAtBlocks 111 = .ok (.aload_n 0, 1) := by decide +kernel
theorem kd_Mo_lookAtBlocks_112 : decode kc_Mo_lookAtBlocks 112 = .ok (.aload_n 0, 1) := by decide +kernel
theorem kd_Mo_lookAtBlocks_113 : decode kc_Mo_lookAtBlocks 113 = .ok (.getfield 64, 3) := by decide +kernel
theorem kd_Mo_lookAtBlocks_116 : decode kc_Mo_lookAtBlocks 116 = .ok (.aload_n 0, 1) := by decide +kernel
theorem kd_Mo_lookAtBlocks_117 : decode kc_Mo_lookAtBlocks 117 = .ok (.getfield 550, 3) := by decide +kernel
theorem kd_Mo_lookAtBlocks_120 : decode kc_Mo_lookAtBlocks 120 = .ok (.iaload, 1) := by decide +kernel
theorem kd_Mo_lookAtBlocks_121 : decode kc_Mo_lookAtBlocks 121 = .ok (.iconst 3, 1) := by decide +kernel
theorem kd_Mo_lookAtBlocks_122 : decode kc_Mo_lookAtBlocks 122 = .ok (.if_icmp .ne 12, 3) := by decide +kernel
theorem kd_Mo_lookAtBlocks_125 : decode kc_Mo_lookAtBlocks 125 = .ok (.aload_n 0, 1) := by decide +kernel
theorem kd_Mo_lookAtBlocks_126 : decode kc_Mo_lookAtBlocks 126 = .ok (.getfield 28, 3) := by decide +kernel
theorem kd_Mo_lookAtBlocks_129 : decode kc_Mo_lookAtBlocks 129 = .ok (.iload_n 1, 1) := by decide +kernel
theorem kd_Mo_lookAtBlocks_130 : decode kc_Mo_lookAtBlocks 130 = .ok (.iaload, 1) := by decide +kernel
theorem kd_Mo_lookAtBlocks_131 : decode kc_Mo_lookAtBlocks 131 = .ok (.ifCond .ne 26, 3) := by decide +kernel
theorem kd_Mo_lookAtBlocks_134 : decode kc_Mo_lookAtBlocks 134 = .ok (.aload_n 0, 1) := by decide +kernel
theorem kd_Mo_lookAtBlocks_135 : decode kc_Mo_lookAtBlocks 135 = .ok (.getfield 64, 3) := by decide +kernel
theorem kd_Mo_lookAtBlocks_138 : decode kc_Mo_lookAtBlocks 138 = .ok (.aload_n 0, 1) := by decide +kernel
theorem kd_Mo_lookAtBlocks_139 : decode kc_Mo_lookAtBlocks 139 = .ok (.getfield 550, 3) := by decide +kernel
theorem kd_Mo_lookAtBlocks_142 : decode kc_Mo_lookAtBlocks 142 = .ok (.iaload, 1) := by decide +kernel
theorem kd_Mo_lookAtBlocks_143 : decode kc_Mo_lookAtBlocks 143 = .ok (.iconst 1, 1) := by decide +kernel
theorem kd_Mo_lookAtBlocks_144 : decode kc_Mo_lookAtBlocks 144 = .ok (.if_icmp .ne 17, 3) := by decide +kernel
theorem kd_Mo_lookAtBlocks_147 : decode kc_Mo_lookAtBlocks 147 = .ok (.aload_n 0, 1) := by decide +kernel
theorem kd_Mo_lookAtBlocks_148 : decode kc_Mo_lookAtBlocks 148 = .ok (.getfield 28, 3) := by decide +kernel
theorem kd_Mo_lookAtBlocks_151 : decode kc_Mo_lookAtBlocks 151 = .ok (.iload_n 1, 1) := by decide +kernel
theorem kd_Mo_lookAtBlocks_152 : decode kc_Mo_lookAtBlocks 152 = .ok (.iaload, 1) := by decide +kernel
theorem kd_Mo_lookAtBlocks_153 : decode kc_Mo_lookAtBlocks 153 = .ok (.iconst 2, 1) := by decide +kernel
theorem kd_Mo_lookAtBlocks_154 : decode kc_Mo_lookAtBlocks 154 = .ok (.if_icmp .ne 7, 3) := by decide +kernel
theorem kd_Mo_lookAtBlocks_157 : decode kc_Mo_lookAtBlocks 157 = .ok (.iconst 1, 1) := by decide +kernel
theorem kd_Mo_lookAtBlocks_158 : decode kc_Mo_lookAtBlocks 158 = .ok (.goto 4, 3) := by decide +kernel
theorem kd_Mo_lookAtBlocks_161 : decode kc_Mo_lookAtBlocks 161 = .ok (.iconst 0, 1) := by decide +kernel
theorem kd_Mo_lookAtBlocks_162 : decode kc_Mo_lookAtBlocks 162 = .ok (.bipush 13, 2) := by decide +kernel
theorem kd_Mo_lookAtBlocks_164 : decode kc_Mo_lookAtBlocks 164 = .ok (.iload_n 1, 1) := by decide +kernel
theorem kd_Mo_lookAtBlocks_165 : decode kc_Mo_lookAtBlocks 165 = .ok (.invokevirtual 540, 3) := by decide +kernel
theorem kd_Mo_lookAtBlocks_168 : decode kc_Mo_lookAtBlocks 168 = .ok (.goto 173, 3) := by decide +kernel
theorem kd_Mo_lookAtBlocks_171 : decode kc_Mo_lookAtBlocks 171 = .ok (.aload_n 0, 1) := by decide +kernel
theorem kd_Mo_lookAtBlocks_172 : decode kc_Mo_lookAtBlocks 172 = .ok (.iload_n 1, 1) := by decide +kernel
theorem kd_Mo_lookAtBlocks_173 : decode kc_Mo_lookAtBlocks 173 = .ok (.invokevirtual 569, 3) := by decide +kernel
theorem kd_Mo_lookAtBlocks_176 : decode kc_Mo_lookAtBlocks 176 = .ok (.goto 165, 3) := by decide +kernel
theorem kd_Mo_lookAtBlocks_179 : decode kc_Mo_lookAtBlocks 179 = .ok (.aload_n 0, 1) := by decide +kernel
theorem kd_Mo_lookAtBlocks_180 : decode kc_Mo_lookAtBlocks 180 = .ok (.iload_n 1, 1) := by decide +kernel
theorem kd_Mo_lookAtBlocks_181 : decode kc_Mo_lookAtBlocks 181 = .ok (.invokevirtual 572, 3) := by decide +kernel
theorem kd_Mo_lookAtBlocks_184 : decode kc_Mo_lookAtBlocks 184 = .ok (.goto 157, 3) := by decide +kernel
theorem kd_Mo_lookAtBlocks_187 : decode kc_Mo_lookAtBlocks 187 = .ok (.aload_n 0, 1) := by decide +kernel
theorem kd_Mo_lookAtBlocks_188 : decode kc_Mo_lookAtBlocks 188 = .ok (.aload_n 0, 1) := by decide +kernel
theorem kd_Mo_lookAtBlocks_189 : decode kc_Mo_lookAtBlocks 189 = .ok (.getfield 64, 3) := by decide +kernel
theorem kd_Mo_lookAtBlocks_192 : decode kc_Mo_lookAtBlocks 192 = .ok (.aload_n 0, 1) := by decide +kernel
theorem kd_Mo_lookAtBlocks_193 : decode kc_Mo_lookAtBlocks 193 = .ok (.getfield 550, 3) := by decide +kernel
theorem kd_Mo_lookAtBlocks_196 : decode kc_Mo_lookAtBlocks 196 = .ok (.iaload, 1) := by decide +kernel
theorem kd_Mo_lookAtBlocks_197 : decode kc_Mo_lookAtBlocks 197 = .ok (.iconst 3, 1) := by decide +kernel
theorem kd_Mo_lookAtBlocks_198 : decode kc_Mo_lookAtBlocks 198 = .ok (.if_icmp .ne 36, 3) := by decide +kernel
theorem kd_Mo_lookAtBlocks_201 : decode kc_Mo_lookAtBlocks 201 = .ok (.aload_n 0, 1) := by decide +kernel
theorem kd_Mo_lookAtBlocks_202 : decode kc_Mo_lookAtBlocks 202 = .ok (.getfield 40, 3) := by decide +kernel
theorem kd_Mo_lookAtBlocks_205 : decode kc_Mo_lookAtBlocks 205 = .ok (.aload_n 0, 1) := by decide +kernel
theorem kd_Mo_lookAtBlocks_206 : decode kc_Mo_lookAtBlocks 206 = .ok (.getfield 34, 3) := by decide +kernel
theorem kd_Mo_lookAtBlocks_209 : decode kc_Mo_lookAtBlocks 209 = .ok (.aload_n 0, 1) := by decide +kernel
theorem kd_Mo_lookAtBlocks_210 : decode kc_Mo_lookAtBlocks 210 = .ok (.getfield 31, 3) := by decide +kernel
theorem kd_Mo_lookAtBlocks_213 : decode kc_Mo_lookAtBlocks 213 = .ok (.iload_n 1, 1) := by decide +kernel
theorem kd_Mo_lookAtBlocks_214 : decode kc_Mo_lookAtBlocks 214 = .ok (.iaload, 1) := by decide +kernel
theorem kd_Mo_lookAtBlocks_215 : decode kc_Mo_lookAtBlocks 215 = .ok (.iaload, 1) := by decide +kernel
theorem kd_Mo_lookAtBlocks_216 : decode kc_Mo_lookAtBlocks 216 = .ok (.iaload, 1) := by decide +kernel
theorem kd_Mo_lookAtBlocks_217 : decode kc_Mo_lookAtBlocks 217 = .ok (.iload_n 1, 1) := by decide +kernel
theorem kd_Mo_lookAtBlocks_218 : decode kc_Mo_lookAtBlocks 218 = .ok (.if_icmp .ne 16, 3) := by decide +kernel
theorem kd_Mo_lookAtBlocks_221 : decode kc_Mo_lookAtBlocks 221 = .ok (.aload_n 0, 1) := by decide +kernel
theorem kd_Mo_lookAtBlocks_222 : decode kc_Mo_lookAtBlocks 222 = .ok (.aload_n 0, 1) := by decide +kernel
theorem kd_Mo_lookAtBlocks_223 : decode kc_Mo_lookAtBlocks 223 = .ok (.getfield 28, 3) := by decide +kernel
theorem kd_Mo_lookAtBlocks_226 : decode kc_Mo_lookAtBlocks 226 = .ok (.iload_n 1, 1) := by decide +kernel
theorem kd_Mo_lookAtBlocks_227 : decode kc_Mo_lookAtBlocks 227 = .ok (.iaload, 1) := by decide +kernel
theorem kd_Mo_lookAtBlocks_228 : decode kc_Mo_lookAtBlocks 228 = .ok (.invokevirtual 575, 3) := by decide +kernel
theorem kd_Mo_lookAtBlocks_231 : decode kc_Mo_lookAtBlocks 231 = .ok (.ifCond .eq 7, 3) := by decide +kernel
theorem kd_Mo_lookAtBlocks_234 : decode kc_Mo_lookAtBlocks 234 = .ok (.iconst 1, 1) := by decide +kernel
theorem kd_Mo_lookAtBlocks_235 : decode kc_Mo_lookAtBlocks 235 = .ok (.goto 4, 3) := by decide +kernel
theorem kd_Mo_lookAtBlocks_238 : decode kc_Mo_lookAtBlocks 238 = .ok (.iconst 0, 1) := by decide +kernel
theorem kd_Mo_lookAtBlocks_239 : decode kc_Mo_lookAtBlocks 239 = .ok (.bipush 14, 2) := by decide +kernel
theorem kd_Mo_lookAtBlocks_241 : decode kc_Mo_lookAtBlocks 241 = .ok (.iload_n 1, 1) := by decide +kernel
theorem kd_Mo_lookAtBlocks_242 : decode kc_Mo_lookAtBlocks 242 = .ok (.invokevirtual 540, 3) := by decide +kernel
theorem kd_Mo_lookAtBlocks_245 : decode kc_Mo_lookAtBlocks 245 = .ok (.goto 96, 3) := by decide +kernel
theorem kd_Mo_lookAtBlocks_248 : decode kc_Mo_lookAtBlocks 248 = .ok (.aload_n 0, 1) := by decide +kernel
theorem kd_Mo_lookAtBlocks_249 : decode kc_Mo_lookAtBlocks 249 = .ok (.getfield 106, 3) := by decide +kernel
theorem kd_Mo_lookAtBlocks_252 : decode kc_Mo_lookAtBlocks 252 = .ok (.iload_n 1, 1) := by decide +kernel
theorem kd_Mo_lookAtBlocks_253 : decode kc_Mo_lookAtBlocks 253 = .ok (.aload_n 0, 1) := by decide +kernel
theorem kd_Mo_lookAtBlocks_254 : decode kc_Mo_lookAtBlocks 254 = .ok (.getfield 28, 3) := by decide +kernel
theorem kd_Mo_lookAtBlocks_257 : decode kc_Mo_lookAtBlocks 257 = .ok (.iload_n 1, 1) := by decide +kernel
theorem kd_Mo_lookAtBlocks_258 : decode kc_Mo_lookAtBlocks 258 = .ok (.iaload, 1) := by decide +kernel
theorem kd_Mo_lookAtBlocks_259 : decode kc_Mo_lookAtBlocks 259 = .ok (.iastore, 1) := by decide +kernel
theorem kd_Mo_lookAtBlocks_260 : decode kc_Mo_lookAtBlocks 260 = .ok (.goto 81, 3) := by decide +kernel
theorem kd_Mo_lookAtBlocks_263 : decode kc_Mo_lookAtBlocks 263 = .ok (.aload_n 0, 1) := by decide +kernel
theorem kd_Mo_lookAtBlocks_264 : decode kc_Mo_lookAtBlocks 264 = .ok (.iload_n 1, 1) := by decide +kernel
theorem kd_Mo_lookAtBlocks_265 : decode kc_Mo_lookAtBlocks 265 = .ok (.invokevirtual 578, 3) := by decide +kernel
theorem kd_Mo_lookAtBlocks_268 : decode kc_Mo_lookAtBlocks 268 = .ok (.goto 73, 3) := by decide +kernel
theorem kd_Mo_lookAtBlocks_271 : decode kc_Mo_lookAtBlocks 271 = .ok (.aload_n 0, 1) := by decide +kernel
theorem kd_Mo_lookAtBlocks_272 : decode kc_Mo_lookAtBlocks 272 = .ok (.aload_n 0, 1) := by decide +kernel
theorem kd_Mo_lookAtBlocks_273 : decode kc_Mo_lookAtBlocks 273 = .ok (.getfield 28, 3) := by decide +kernel
theorem kd_Mo_lookAtBlocks_276 : decode kc_Mo_lookAtBlocks 276 = .ok (.iload_n 1, 1) := by decide +kernel
theorem kd_Mo_lookAtBlocks_277 : decode kc_Mo_lookAtBlocks 277 = .ok (.iaload, 1) := by decide +kernel
theorem kd_Mo_lookAtBlocks_278 : decode kc_Mo_lookAtBlocks 278 = .ok (.aload_n 0, 1) := by decide +kernel
theorem kd_Mo_lookAtBlocks_279 : decode kc_Mo_lookAtBlocks 279 = .ok (.getfield 550, 3) := by decide +kernel
theorem kd_Mo_lookAtBlocks_282 : decode kc_Mo_lookAtBlocks 282 = .ok (.invokevirtual 547, 3) := by decide +kernel
theorem kd_Mo_lookAtBlocks_285 : decode kc_Mo_lookAtBlocks 285 = .ok (.istore_n 2, 1) := by decide +kernel
theorem kd_Mo_lookAtBlocks_286 : decode kc_Mo_lookAtBlocks 286 = .ok (.aload_n 0, 1) := by decide +kernel
theorem kd_Mo_lookAtBlocks_287 : decode kc_Mo_lookAtBlocks 287 = .ok (.aload_n 0, 1) := by decide +kernel
theorem kd_Mo_lookAtBlocks_288 : decode kc_Mo_lookAtBlocks 288 = .ok (.getfield 64, 3) := by decide +kernel
theorem kd_Mo_lookAtBlocks_291 : decode kc_Mo_lookAtBlocks 291 = .ok (.aload_n 0, 1) := by decide +kernel
theorem kd_Mo_lookAtBlocks_292 : decode kc_Mo_lookAtBlocks 292 = .ok (.getfield 550, 3) := by decide +kernel
theorem kd_Mo_lookAtBlocks_295 : decode kc_Mo_lookAtBlocks 295 = .ok (.iaload, 1) := by decide +kernel
theorem kd_Mo_lookAtBlocks_296 : decode kc_Mo_lookAtBlocks 296 = .ok (.iconst 1, 1) := by decide +kernel
theorem kd_Mo_lookAtBlocks_297 : decode kc_Mo_lookAtBlocks 297 = .ok (.if_icmp .eq 33, 3) := by decide +kernel
theorem kd_Mo_lookAtBlocks_300 : decode kc_Mo_lookAtBlocks 300 = .ok (.aload_n 0, 1) := by decide +kernel
theorem kd_Mo_lookAtBlocks_301 : decode kc_Mo_lookAtBlocks 301 = .ok (.ldc_w 454, 3) := by decide +kernel
theorem kd_Mo_lookAtBlocks_304 : decode kc_Mo_lookAtBlocks 304 = .ok (.aload_n 0, 1) := by decide +kernel
theorem kd_Mo_lookAtBlocks_305 : decode kc_Mo_lookAtBlocks 305 = .ok (.getfield 28, 3) := by decide +kernel
theorem kd_Mo_lookAtBlocks_308 : decode kc_Mo_lookAtBlocks 308 = .ok (.iload_n 1, 1) := by decide +kernel
theorem kd_Mo_lookAtBlocks_309 : decode kc_Mo_lookAtBlocks 309 = .ok (.iaload, 1) := by decide +kernel
theorem kd_Mo_lookAtBlocks_310 : decode kc_Mo_lookAtBlocks 310 = .ok (.invokevirtual 456, 3) := by decide +kernel
theorem kd_Mo_lookAtBlocks_313 : decode kc_Mo_lookAtBlocks 313 = .ok (.ifCond .ge 21, 3) := by decide +kernel
theorem kd_Mo_lookAtBlocks_316 : decode kc_Mo_lookAtBlocks 316 = .ok (.iload_n 2, 1) := by decide +kernel
theorem kd_Mo_lookAtBlocks_317 : decode kc_Mo_lookAtBlocks 317 = .ok (.ifCond .lt 13, 3) := by decide +kernel
theorem kd_Mo_lookAtBlocks_320 : decode kc_Mo_lookAtBlocks 320 = .ok (.aload_n 0, 1) := by decide +kernel
theorem kd_Mo_lookAtBlocks_321 : decode kc_Mo_lookAtBlocks 321 = .ok (.getfield 64, 3) := by decide +kernel
theorem kd_Mo_lookAtBlocks_324 : decode kc_Mo_lookAtBlocks 324 = .ok (.iload_n 2, 1) := by decide +kernel
theorem kd_Mo_lookAtBlocks_325 : decode kc_Mo_lookAtBlocks 325 = .ok (.iaload, 1) := by decide +kernel
theorem kd_Mo_lookAtBlocks_326 : decode kc_Mo_lookAtBlocks 326 = .ok (.iconst 2, 1) := by decide +kernel
theorem kd_Mo_lookAtBlocks_327 : decode kc_Mo_lookAtBlocks 327 = .ok (.if_icmp .eq 7, 3) := by decide +kernel
theorem kd_Mo_lookAtBlocks_330 : decode kc_Mo_lookAtBlocks 330 = .ok (.iconst 1, 1) := by decide +kernel
theorem kd_Mo_lookAtBlocks_331 : decode kc_Mo_lookAtBlocks 331 = .ok (.goto 4, 3) := by decide +kernel
theorem kd_Mo_lookAtBlocks_334 : decode kc_Mo_lookAtBlocks 334 = .ok (.iconst 0, 1) := by decide +kernel
theorem kd_Mo_lookAtBlocks_335 : decode kc_Mo_lookAtBlocks 335 = .ok (.bipush 17, 2) := by decide +kernel
theorem kd_Mo_lookAtBlocks_337 : decode kc_Mo_lookAtBlocks 337 = .ok (.iload_n 1, 1) := by decide +kernel
theorem kd_Mo_lookAtBlocks_338 : decode kc_Mo_lookAtBlocks 338 = .ok (.invokevirtual 540, 3) := by decide +kernel
theorem kd_Mo_lookAtBlocks_341 : decode kc_Mo_lookAtBlocks 341 = .ok (.return_, 1) := by decide +kernel
theorem kd_Mo_lookAtLoop_0 : decode kc_Mo_lookAtLoop 0 = .ok (.aload_n 0, 1) := by decide +kernel
theorem kd_Mo_lookAtLoop_1 : decode kc_Mo_lookAtLoop 1 = .ok (.aload_n 0, 1) := by decide +kernel
theorem kd_Mo_lookAtLoop_2 : decode kc_Mo_lookAtLoop 2 = .ok (.getfield 550, 3) := by decide +kernel
theorem kd_Mo_lookAtLoop_5 : decode kc_Mo_lookAtLoop 5 = .ok (.aload_n 0, 1) := by decide +kernel
theorem kd_Mo_lookAtLoop_6 : decode kc_Mo_lookAtLoop 6 = .ok (.getfield 28, 3) := by decide +kernel
theorem kd_Mo_lookAtLoop_9 : decode kc_Mo_lookAtLoop 9 = .ok (.iload_n 1, 1) := by decide +kernel
theorem kd_Mo_lookAtLoop_10 : decode kc_Mo_lookAtLoop 10 = .ok (.iaload, 1) := by decide +kernel
theorem kd_Mo_lookAtLoop_11 : decode kc_Mo_lookAtLoop 11 = .ok (.invokevirtual 507, 3) := by decide +kernel
theorem kd_Mo_lookAtLoop_14 : decode kc_Mo_lookAtLoop 14 = .ok (.istore_n 2, 1) := by decide +kernel
theorem kd_Mo_lookAtLoop_15 : decode kc_Mo_lookAtLoop 15 = .ok (.aload_n 0, 1) := by decide +kernel
theorem kd_Mo_lookAtLoop_16 : decode kc_Mo_lookAtLoop 16 = .ok (.iload_n 2, 1) := by decide +kernel
theorem kd_Mo_lookAtLoop_17 : decode kc_Mo_lookAtLoop 17 = .ok (.ifCond .ge 7, 3) := by decide +kernel
theorem kd_Mo_lookAtLoop_20 : decode kc_Mo_lookAtLoop 20 = .ok (.iconst 1, 1) := by decide +kernel
theorem kd_Mo_lookAtLoop_21 : decode kc_Mo_lookAtLoop 21 = .ok (.goto 4, 3) := by decide +kernel
theorem kd_Mo_lookAtLoop_24 : decode kc_Mo_lookAtLoop 24 = .ok (.iconst 0, 1) := by decide +kernel
theorem kd_Mo_lookAtLoop_25 : decode kc_Mo_lookAtLoop 25 = .ok (.bipush 20, 2) := by decide +kernel
theorem kd_Mo_lookAtLoop_27 : decode kc_Mo_lookAtLoop 27 = .ok (.iload_n 1, 1) := by decide +kernel
theorem kd_Mo_lookAtLoop_28 : decode kc_Mo_lookAtLoop 28 = .ok (.invokevirtual 540, 3) := by decide +kernel
theorem kd_Mo_lookAtLoop_31 : decode kc_Mo_lookAtLoop 31 = .ok (.aload_n 0, 1) := by decide +kernel
theorem kd_Mo_lookAtLoop_32 : decode kc_Mo_lookAtLoop 32 = .ok (.iload_n 2, 1) := by decide +kernel
theorem kd_Mo_lookAtLoop_33 : decode kc_Mo_lookAtLoop 33 = .ok (.ifCond .lt 16, 3) := by decide +kernel
theorem kd_Mo_lookAtLoop_36 : decode kc_Mo_lookAtLoop 36 = .ok (.aload_n 0, 1) := by decide +kernel
theorem kd_Mo_lookAtLoop_37 : decode kc_Mo_lookAtLoop 37 = .ok (.getfield 82, 3) := by decide +kernel
theorem kd_Mo_lookAtLoop_40 : decode kc_Mo_lookAtLoop 40 = .ok (.iload_n 2, 1) := by decide +kernel
theorem kd_Mo_lookAtLoop_41 : decode kc_Mo_lookAtLoop 41 = .ok (.iaload, 1) := by decide +kernel
theorem kd_Mo_lookAtLoop_42 : decode kc_Mo_lookAtLoop 42 = .ok (.ifCond .eq 7, 3) := by decide +kernel
theorem kd_Mo_lookAtLoop_45 : decode kc_Mo_lookAtLoop 45 = .ok (.iconst 1, 1) := by decide +kernel
theorem kd_Mo_lookAtLoop_46 : decode kc_Mo_lookAtLoop 46 = .ok (.goto 4, 3) := by decide +kernel
theorem kd_Mo_lookAtLoop_49 : decode kc_Mo_lookAtLoop 49 = .ok (.iconst 0, 1) := by decide +kernel
theorem kd_Mo_lookAtLoop_50 : decode kc_Mo_lookAtLoop 50 = .ok (.bipush 21, 2) := by decide +kernel
theorem kd_Mo_lookAtLoop_52 : decode kc_Mo_lookAtLoop 52 = .ok (.iload_n 1, 1) := by decide +kernel
theorem kd_Mo_lookAtLoop_53 : decode kc_Mo_lookAtLoop 53 = .ok (.invokevirtual 540, 3) := by decide +kernel
theorem kd_Mo_lookAtLoop_56 : decode kc_Mo_lookAtLoop 56 = .ok (.aload_n 0, 1) := by decide +kernel
theorem kd_Mo_lookAtLoop_57 : decode kc_Mo_lookAtLoop 57 = .ok (.iload_n 2, 1) := by decide +kernel
theorem kd_Mo_lookAtLoop_58 : decode kc_Mo_lookAtLoop 58 = .ok (.ifCond .lt 19, 3) := by decide +kernel
theorem kd_Mo_lookAtLoop_61 : decode kc_Mo_lookAtLoop 61 = .ok (.aload_n 0, 1) := by decide +kernel
theorem kd_Mo_lookAtLoop_62 : decode kc_Mo_lookAtLoop 62 = .ok (.getfield 85, 3) := by decide +kernel
theorem kd_Mo_lookAtLoop_65 : decode kc_Mo_lookAtLoop 65 = .ok (.iload_n 2, 1) := by decide +kernel
theorem kd_Mo_lookAtLoop_66 : decode kc_Mo_lookAtLoop 66 = .ok (.iaload, 1) := by decide +kernel
theorem kd_Mo_lookAtLoop_67 : decode kc_Mo_lookAtLoop 67 = .ok (.invokestatic 609, 3) := by decide +kernel
theorem kd_Mo_lookAtLoop_70 : decode kc_Mo_lookAtLoop 70 = .ok (.ifCond .ne 7, 3) := by decide +kernel
theorem kd_Mo_lookAtLoop_73 : decode kc_Mo_lookAtLoop 73 = .ok (.iconst 1, 1) := by decide +kernel
theorem kd_Mo_lookAtLoop_74 : decode kc_Mo_lookAtLoop 74 = .ok (.goto 4, 3) := by decide +kernel
theorem kd_Mo_lookAtLoop_77 : decode kc_Mo_lookAtLoop 77 = .ok (.iconst 0, 1) := by decide +kernel
theorem kd_Mo_lookAtLoop_78 : decode kc_Mo_lookAtLoop 78 = .ok (.bipush 22, 2) := by decide +kernel
theorem kd_Mo_lookAtLoop_80 : decode kc_Mo_lookAtLoop 80 = .ok (.iload_n 1, 1) := by decide +kernel
theorem kd_Mo_lookAtLoop_81 : decode kc_Mo_lookAtLoop 81 = .ok (.invokevirtual 540, 3) := by decide +kernel
theorem kd_Mo_lookAtLoop_84 : decode kc_Mo_lookAtLoop 84 = .ok (.aload_n 0, 1) := by decide +kernel
theorem kd_Mo_lookAtLoop_85 : decode kc_Mo_lookAtLoop 85 = .ok (.aload_n 0, 1) := by decide +kernel
theorem kd_Mo_lookAtLoop_86 : decode kc_Mo_lookAtLoop 86 = .ok (.getfield 28, 3) := by decide +kernel
theorem kd_Mo_lookAtLoop_89 : decode kc_Mo_lookAtLoop 89 = .ok (.iload_n 1, 1) := by decide +kernel
theorem kd_Mo_lookAtLoop_90 : decode kc_Mo_lookAtLoop 90 = .ok (.iaload, 1) := by decide +kernel
theorem kd_Mo_lookAtLoop_91 : decode kc_Mo_lookAtLoop 91 = .ok (.iload_n 1, 1) := by decide +kernel
theorem kd_Mo_lookAtLoop_92 : decode kc_Mo_lookAtLoop 92 = .ok (.invokevirtual 597, 3) := by decide +kernel
theorem kd_Mo_lookAtLoop_95 : decode kc_Mo_lookAtLoop 95 = .ok (.aload_n 0, 1) := by decide +kernel
theorem kd_Mo_lookAtLoop_96 : decode kc_Mo_lookAtLoop 96 = .ok (.getfield 445, 3) := by decide +kernel
theorem kd_Mo_lookAtLoop_99 : decode kc_Mo_lookAtLoop 99 = .ok (.ifCond .le 4, 3) := by decide +kernel
theorem kd_Mo_lookAtLoop_102 : decode kc_Mo_lookAtLoop 102 = .ok (.return_, 1) := by decide +kernel
theorem kd_Mo_lookAtLoop_103 : decode kc_Mo_lookAtLoop 103 = .ok (.aload_n 0, 1) := by decide +kernel
theorem kd_Mo_lookAtLoop_104 : decode kc_Mo_lookAtLoop 104 = .ok (.getfield 109, 3) := by decide +kernel
theorem kd_Mo_lookAtLoop_107 : decode kc_Mo_lookAtLoop 107 = .ok (.iload_n 1, 1) := by decide +kernel
theorem kd_Mo_lookAtLoop_108 : decode kc_Mo_lookAtLoop 108 = .ok (.aload_n 0, 1) := by decide +kernel
theorem kd_Mo_lookAtLoop_109 : decode kc_Mo_lookAtLoop 109 = .ok (.getfield 88, 3) := by decide +kernel
theorem kd_Mo_lookAtLoop_112 : decode kc_Mo_lookAtLoop 112 = .ok (.iload_n 2, 1) := by decide +kernel
theorem kd_Mo_lookAtLoop_113 : decode kc_Mo_lookAtLoop 113 = .ok (.iaload, 1) := by decide +kernel
theorem kd_Mo_lookAtLoop_114 : decode kc_Mo_lookAtLoop 114 = .ok (.iastore, 1) := by decide +kernel
theorem kd_Mo_lookAtLoop_115 : decode kc_Mo_lookAtLoop 115 = .ok (.iconst 0, 1) := by decide +kernel
theorem kd_Mo_lookAtLoop_116 : decode kc_Mo_lookAtLoop 116 = .ok (.istore_n 3, 1) := by decide +kernel
theorem kd_Mo_lookAtLoop_117 : decode kc_Mo_lookAtLoop 117 = .ok (.aload_n 0, 1) := by decide +kernel
theorem kd_Mo_lookAtLoop_118 : decode kc_Mo_lookAtLoop 118 = .ok (.getfield 34, 3) := by decide +kernel
theorem kd_Mo_lookAtLoop_121 : decode kc_Mo_lookAtLoop 121 = .ok (.iload_n 1, 1) := by decide +kernel
theorem kd_Mo_lookAtLoop_122 : decode kc_Mo_lookAtLoop 122 = .ok (.iaload, 1) := by decide +kernel
theorem kd_Mo_lookAtLoop_123 : decode kc_Mo_lookAtLoop 123 = .ok (.istore 4, 2) := by decide +kernel
theorem kd_Mo_lookAtLoop_125 : decode kc_Mo_lookAtLoop 125 = .ok (.aload_n 0, 1) := by decide +kernel
theorem kd_Mo_lookAtLoop_126 : decode kc_Mo_lookAtLoop 126 = .ok (.getfield 22, 3) := by decide +kernel
theorem kd_Mo_lookAtLoop_129 : decode kc_Mo_lookAtLoop 129 = .ok (.iload 4, 2) := by decide +kernel
theorem kd_Mo_lookAtLoop_131 : decode kc_Mo_lookAtLoop 131 = .ok (.iaload, 1) := by decide +kernel
theorem kd_Mo_lookAtLoop_132 : decode kc_Mo_lookAtLoop 132 = .ok (.bipush 29, 2) := by decide +kernel
theorem kd_Mo_lookAtLoop_134 : decode kc_Mo_lookAtLoop 134 = .ok (.if_icmp .le 73, 3) := by decide +kernel
theorem kd_Mo_lookAtLoop_137 : decode kc_Mo_lookAtLoop 137 = .ok (.iload_n 3, 1) := by decide +kernel
theorem kd_Mo_lookAtLoop_138 : decode kc_Mo_lookAtLoop 138 = .ok (.ifCond .ne 51, 3) := by decide +kernel
theorem kd_Mo_lookAtLoop_141 : decode kc_Mo_lookAtLoop 141 = .ok (.aload_n 0, 1) := by decide +kernel
theorem kd_Mo_lookAtLoop_142 : decode kc_Mo_lookAtLoop 142 = .ok (.getfield 22, 3) := by decide +kernel
theorem kd_Mo_lookAtLoop_145 : decode kc_Mo_lookAtLoop 145 = .ok (.iload 4, 2) := by decide +kernel
theorem kd_Mo_lookAtLoop_147 : decode kc_Mo_lookAtLoop 147 = .ok (.iaload, 1) := by decide +kernel
theorem kd_Mo_lookAtLoop_148 : decode kc_Mo_lookAtLoop 148 = .ok (.bipush 31, 2) := by decide +kernel
theorem kd_Mo_lookAtLoop_150 : decode kc_Mo_lookAtLoop 150 = .ok (.if_icmp .eq 39, 3) := by decide +kernel
theorem kd_Mo_lookAtLoop_153 : decode kc_Mo_lookAtLoop 153 = .ok (.aload_n 0, 1) := by decide +kernel
theorem kd_Mo_lookAtLoop_154 : decode kc_Mo_lookAtLoop 154 = .ok (.getfield 85, 3) := by decide +kernel
theorem kd_Mo_lookAtLoop_157 : decode kc_Mo_lookAtLoop 157 = .ok (.iload_n 2, 1) := by decide +kernel
theorem kd_Mo_lookAtLoop_158 : decode kc_Mo_lookAtLoop 158 = .ok (.iaload, 1) := by decide +kernel
theorem kd_Mo_lookAtLoop_159 : decode kc_Mo_lookAtLoop 159 = .ok (.iconst 1, 1) := by decide +kernel
theorem kd_Mo_lookAtLoop_160 : decode kc_Mo_lookAtLoop 160 = .ok (.if_icmp .ne 33, 3) := by decide +kernel
theorem kd_Mo_lookAtLoop_163 : decode kc_Mo_lookAtLoop 163 = .ok (.aload_n 0, 1) := by decide +kernel
theorem kd_Mo_lookAtLoop_164 : decode kc_Mo_lookAtLoop 164 = .ok (.getfield 28, 3) := by decide +kernel
theorem kd_Mo_lookAtLoop_167 : decode kc_Mo_lookAtLoop 167 = .ok (.iload 4, 2) := by decide +kernel
theorem kd_Mo_lookAtLoop_169 : decode kc_Mo_lookAtLoop 169 = .ok (.iaload, 1) := by decide +kernel
theorem kd_Mo_lookAtLoop_170 : decode kc_Mo_lookAtLoop 170 = .ok (.sipush (-32768), 3) := by decide +kernel
theorem kd_Mo_lookAtLoop_173 : decode kc_Mo_lookAtLoop 173 = .ok (.if_icmp .lt 16, 3) := by decide +kernel
theorem kd_Mo_lookAtLoop_176 : decode kc_Mo_lookAtLoop 176 = .ok (.aload_n 0, 1) := by decide +kernel
theorem kd_Mo_lookAtLoop_177 : decode kc_Mo_lookAtLoop 177 = .ok (.getfield 28, 3) := by decide +kernel
theorem kd_Mo_lookAtLoop_180 : decode kc_Mo_lookAtLoop 180 = .ok (.iload 4, 2) := by decide +kernel
theorem kd_Mo_lookAtLoop_182 : decode kc_Mo_lookAtLoop 182 = .ok (.iaload, 1) := by decide +kernel
theorem kd_Mo_lookAtLoop_183 : decode kc_Mo_lookAtLoop 183 = .ok (.sipush 32767, 3) := by decide +kernel
theorem kd_Mo_lookAtLoop_186 : decode kc_Mo_lookAtLoop 186 = .ok (.if_icmp .le 7, 3) := by decide +kernel
theorem kd_Mo_lookAtLoop_189 : decode kc_Mo_lookAtLoop 189 = .ok (.iconst 1, 1) := by decide +kernel
theorem kd_Mo_lookAtLoop_190 : decode kc_Mo_lookAtLoop 190 = .ok (.goto 4, 3) := by decide +kernel
theorem kd_Mo_lookAtLoop_193 : decode kc_Mo_lookAtLoop 193 = .ok (.iconst 0, 1) := by decide +kernel
theorem kd_Mo_lookAtLoop_194 : decode kc_Mo_lookAtLoop 194 = .ok (.istore_n 3, 1) := by decide +kernel
theorem kd_Mo_lookAtLoop_195 : decode kc_Mo_lookAtLoop 195 = .ok (.aload_n 0, 1) := by decide +kernel
theorem kd_Mo_lookAtLoop_196 : decode kc_Mo_lookAtLoop 196 = .ok (.getfield 40, 3) := by decide +kernel
theorem kd_Mo_lookAtLoop_199 : decode kc_Mo_lookAtLoop 199 = .ok (.iload 4, 2) := by decide +kernel
theorem kd_Mo_lookAtLoop_201 : decode kc_Mo_lookAtLoop 201 = .ok (.iaload, 1) := by decide +kernel
theorem kd_Mo_lookAtLoop_202 : decode kc_Mo_lookAtLoop 202 = .ok (.istore 4, 2) := by decide +kernel
theorem kd_Mo_lookAtLoop_204 : decode kc_Mo_lookAtLoop 204 = .ok (.goto (-79), 3) := by decide +kernel
theorem kd_Mo_lookAtLoop_207 : decode kc_Mo_lookAtLoop 207 = .ok (.aload_n 0, 1) := by decide +kernel
theorem kd_Mo_lookAtLoop_208 : decode kc_Mo_lookAtLoop 208 = .ok (.getfield 34, 3) := by decide +kernel
theorem kd_Mo_lookAtLoop_211 : decode kc_Mo_lookAtLoop 211 = .ok (.iload_n 1, 1) := by decide +kernel
theorem kd_Mo_lookAtLoop_212 : decode kc_Mo_lookAtLoop 212 = .ok (.iaload, 1) := by decide +kernel
theorem kd_Mo_lookAtLoop_213 : decode kc_Mo_lookAtLoop 213 = .ok (.istore 4, 2) := by decide +kernel
theorem kd_Mo_lookAtLoop_215 : decode kc_Mo_lookAtLoop 215 = .ok (.aload_n 0, 1) := by decide +kernel
theorem kd_Mo_lookAtLoop_216 : decode kc_Mo_lookAtLoop 216 = .ok (.getfield 40, 3) := by decide +kernel
theorem kd_Mo_lookAtLoop_219 : decode kc_Mo_lookAtLoop 219 = .ok (.iload 4, 2) := by decide +kernel
theorem kd_Mo_lookAtLoop_221 : decode kc_Mo_lookAtLoop 221 = .ok (.iaload, 1) := by decide +kernel
theorem kd_Mo_lookAtLoop_222 : decode kc_Mo_lookAtLoop 222 = .ok (.istore 5, 2) := by decide +kernel
theorem kd_Mo_lookAtLoop_224 : decode kc_Mo_lookAtLoop 224 = .ok (.aload_n 0, 1) := by decide +kernel
theorem kd_Mo_lookAtLoop_225 : decode kc_Mo_lookAtLoop 225 = .ok (.getfield 22, 3) := by decide +kernel
theorem kd_Mo_lookAtLoop_228 : decode kc_Mo_lookAtLoop 228 = .ok (.aload_n 0, 1) := by decide +kernel
theorem kd_Mo_lookAtLoop_229 : decode kc_Mo_lookAtLoop 229 = .ok (.getfield 40, 3) := by decide +kernel
theorem kd_Mo_lookAtLoop_232 : decode kc_Mo_lookAtLoop 232 = .ok (.iload 5, 2) := by decide +kernel
theorem kd_Mo_lookAtLoop_234 : decode kc_Mo_lookAtLoop 234 = .ok (.iaload, 1) := by decide +kernel
theorem kd_Mo_lookAtLoop_235 : decode kc_Mo_lookAtLoop 235 = .ok (.iaload, 1) := by decide +kernel
theorem kd_Mo_lookAtLoop_236 : decode kc_Mo_lookAtLoop 236 = .ok (.bipush 11, 2) := by decide +kernel
theorem kd_Mo_lookAtLoop_238 : decode kc_Mo_lookAtLoop 238 = .ok (.if_icmp .ne 7, 3) := by decide +kernel
theorem kd_Mo_lookAtLoop_241 : decode kc_Mo_lookAtLoop 241 = .ok (.lconst 1, 1) := by decide +kernel
theorem kd_Mo_lookAtLoop_242 : decode kc_Mo_lookAtLoop 242 = .ok (.goto 16, 3) := by decide +kernel
theorem kd_Mo_lookAtLoop_245 : decode kc_Mo_lookAtLoop 245 = .ok (.aload_n 0, 1) := by decide +kernel
theorem kd_Mo_lookAtLoop_246 : decode kc_Mo_lookAtLoop 246 = .ok (.getfield 28, 3) := by decide +kernel
theorem kd_Mo_lookAtLoop_249 : decode kc_Mo_lookAtLoop 249 = .ok (.aload_n 0, 1) := by decide +kernel
theorem kd_Mo_lookAtLoop_250 : decode kc_Mo_lookAtLoop 250 = .ok (.getfield 40, 3) := by decide +kernel
theorem kd_Mo_lookAtLoop_253 : decode kc_Mo_lookAtLoop 253 = .ok (.iload 5, 2) := by decide +kernel
theorem kd_Mo_lookAtLoop_255 : decode kc_Mo_lookAtLoop 255 = .ok (.iaload, 1) := by decide +kernel
theorem kd_Mo_lookAtLoop_256 : decode kc_Mo_lookAtLoop 256 = .ok (.iaload, 1) := by decide +kernel
theorem kd_Mo_lookAtLoop_257 : decode kc_Mo_lookAtLoop 257 = .ok (.i2l, 1) := by decide +kernel
theorem kd_Mo_lookAtLoop_258 : decode kc_Mo_lookAtLoop 258 = .ok (.lstore 6, 2) := by decide +kernel
theorem kd_Mo_lookAtLoop_260 : decode kc_Mo_lookAtLoop 260 = .ok (.aload_n 0, 1) := by decide +kernel
theorem kd_Mo_lookAtLoop_261 : decode kc_Mo_lookAtLoop 261 = .ok (.getfield 28, 3) := by decide +kernel
theorem kd_Mo_lookAtLoop_264 : decode kc_Mo_lookAtLoop 264 = .ok (.iload 5, 2) := by decide +kernel
theorem kd_Mo_lookAtLoop_266 : decode kc_Mo_lookAtLoop 266 = .ok (.iaload, 1) := by decide +kernel
theorem kd_Mo_lookAtLoop_267 : decode kc_Mo_lookAtLoop 267 = .ok (.i2l, 1) := by decide +kernel
theorem kd_Mo_lookAtLoop_268 : decode kc_Mo_lookAtLoop 268 = .ok (.aload_n 0, 1) := by decide +kernel
theorem kd_Mo_lookAtLoop_269 : decode kc_Mo_lookAtLoop 269 = .ok (.getfield 28, 3) := by decide +kernel
theorem kd_Mo_lookAtLoop_272 : decode kc_Mo_lookAtLoop 272 = .ok (.iload 4, 2) := by decide +kernel
theorem kd_Mo_lookAtLoop_274 : decode kc_Mo_lookAtLoop 274 = .ok (.iaload, 1) := by decide +kernel
theorem kd_Mo_lookAtLoop_275 : decode kc_Mo_lookAtLoop 275 = .ok (.i2l, 1) := by decide +kernel
theorem kd_Mo_lookAtLoop_276 : decode kc_Mo_lookAtLoop 276 = .ok (.lsub, 1) := by decide +kernel
theorem kd_Mo_lookAtLoop_277 : decode kc_Mo_lookAtLoop 277 = .ok (.lstore 8, 2) := by decide +kernel
theorem kd_Mo_lookAtLoop_279 : decode kc_Mo_lookAtLoop 279 = .ok (.iload_n 3, 1) := by decide +kernel
theorem kd_Mo_lookAtLoop_280 : decode kc_Mo_lookAtLoop 280 = .ok (.ifCond .ne 10, 3) := by decide +kernel
theorem kd_Mo_lookAtLoop_283 : decode kc_Mo_lookAtLoop 283 = .ok (.lload 6, 2) := by decide +kernel
theorem kd_Mo_lookAtLoop_285 : decode kc_Mo_lookAtLoop 285 = .ok (.lconst 0, 1) := by decide +kernel
theorem kd_Mo_lookAtLoop_286 : decode kc_Mo_lookAtLoop 286 = .ok (.lcmp, 1) := by decide +kernel
theorem kd_Mo_lookAtLoop_287 : decode kc_Mo_lookAtLoop 287 = .ok (.ifCond .ne 7, 3) := by decide +kernel
theorem kd_Mo_lookAtLoop_290 : decode kc_Mo_lookAtLoop 290 = .ok (.iconst 1, 1) := by decide +kernel
theorem kd_Mo_lookAtLoop_291 : decode kc_Mo_lookAtLoop 291 = .ok (.goto 4, 3) := by decide +kernel
theorem kd_Mo_lookAtLoop_294 : decode kc_Mo_lookAtLoop 294 = .ok (.iconst 0, 1) := by decide +kernel
theorem kd_Mo_lookAtLoop_295 : decode kc_Mo_lookAtLoop 295 = .ok (.istore_n 3, 1) := by decide +kernel
theorem kd_Mo_lookAtLoop_296 : decode kc_Mo_lookAtLoop 296 = .ok (.iload_n 3, 1) := by decide +kernel
theorem kd_Mo_lookAtLoop_297 : decode kc_Mo_lookAtLoop 297 = .ok (.ifCond .ne 37, 3) := by decide +kernel
theorem kd_Mo_lookAtLoop_300 : decode kc_Mo_lookAtLoop 300 = .ok (.lload 8, 2) := by decide +kernel
theorem kd_Mo_lookAtLoop_302 : decode kc_Mo_lookAtLoop 302 = .ok (.lconst 0, 1) := by decide +kernel
theorem kd_Mo_lookAtLoop_303 : decode kc_Mo_lookAtLoop 303 = .ok (.lcmp, 1) := by decide +kernel
theorem kd_Mo_lookAtLoop_304 : decode kc_Mo_lookAtLoop 304 = .ok (.ifCond .eq 34, 3) := by decide +kernel
theorem kd_Mo_lookAtLoop_307 : decode kc_Mo_lookAtLoop 307 = .ok (.lload 8, 2) := by decide +kernel
theorem kd_Mo_lookAtLoop_309 : decode kc_Mo_lookAtLoop 309 = .ok (.lconst 0, 1) := by decide +kernel
theorem kd_Mo_lookAtLoop_310 : decode kc_Mo_lookAtLoop 310 = .ok (.lcmp, 1) := by decide +kernel
theorem kd_Mo_lookAtLoop_311 : decode kc_Mo_lookAtLoop 311 = .ok (.ifCond .le 7, 3) := by decide +kernel
theorem kd_Mo_lookAtLoop_314 : decode kc_Mo_lookAtLoop 314 = .ok (.iconst 1, 1) := by decide +kernel
theorem kd_Mo_lookAtLoop_315 : decode kc_Mo_lookAtLoop 315 = .ok (.goto 4, 3) := by decide +kernel
theorem kd_Mo_lookAtLoop_318 : decode kc_Mo_lookAtLoop 318 = .ok (.iconst 0, 1) := by decide +kernel
theorem kd_Mo_lookAtLoop_319 : decode kc_Mo_lookAtLoop 319 = .ok (.lload 6, 2) := by decide +kernel
theorem kd_Mo_lookAtLoop_321 : decode kc_Mo_lookAtLoop 321 = .ok (.lconst 0, 1) := by decide +kernel
theorem kd_Mo_lookAtLoop_322 : decode kc_Mo_lookAtLoop 322 = .ok (.lcmp, 1) := by decide +kernel
theorem kd_Mo_lookAtLoop_323 : decode kc_Mo_lookAtLoop 323 = .ok (.ifCond .le 7, 3) := by decide +kernel
theorem kd_Mo_lookAtLoop_326 : decode kc_Mo_lookAtLoop 326 = .ok (.iconst 1, 1) := by decide +kernel
theorem kd_Mo_lookAtLoop_327 : decode kc_Mo_lookAtLoop 327 = .ok (.goto 4, 3) := by decide +kernel
theorem kd_Mo_lookAtLoop_330 : decode kc_Mo_lookAtLoop 330 = .ok (.iconst 0, 1) := by decide +kernel
theorem kd_Mo_lookAtLoop_331 : decode kc_Mo_lookAtLoop 331 = .ok (.if_icmp .eq 7, 3) := by decide +kernel
theorem kd_Mo_lookAtLoop_334 : decode kc_Mo_lookAtLoop 334 = .ok (.lconst 0, 1) := by decide +kernel
theorem kd_Mo_lookAtLoop_335 : decode kc_Mo_lookAtLoop 335 = .ok (.goto 10, 3) := by decide +kernel
theorem kd_Mo_lookAtLoop_338 : decode kc_Mo_lookAtLoop 338 = .ok (.lload 8, 2) := by decide +kernel
theorem kd_Mo_lookAtLoop_340 : decode kc_Mo_lookAtLoop 340 = .ok (.lload 6, 2) := by decide +kernel
theorem kd_Mo_lookAtLoop_342 : decode kc_Mo_lookAtLoop 342 = .ok (.ldiv, 1) := by decide +kernel
theorem kd_Mo_lookAtLoop_343 : decode kc_Mo_lookAtLoop 343 = .ok (.lconst 1, 1) := by decide +kernel
theorem kd_Mo_lookAtLoop_344 : decode kc_Mo_lookAtLoop 344 = .ok (.ladd, 1) := by decide +kernel
theorem kd_Mo_lookAtLoop_345 : decode kc_Mo_lookAtLoop 345 = .ok (.lstore 10, 2) := by decide +kernel
theorem kd_Mo_lookAtLoop_347 : decode kc_Mo_lookAtLoop 347 = .ok (.aload_n 0, 1) := by decide +kernel
theorem kd_Mo_lookAtLoop_348 : decode kc_Mo_lookAtLoop 348 = .ok (.iload_n 3, 1) := by decide +kernel
theorem kd_Mo_lookAtLoop_349 : decode kc_Mo_lookAtLoop 349 = .ok (.ifCond .ne 12, 3) := by decide +kernel
theorem kd_Mo_lookAtLoop_352 : decode kc_Mo_lookAtLoop 352 = .ok (.lload 10, 2) := by decide +kernel
theorem kd_Mo_lookAtLoop_354 : decode kc_Mo_lookAtLoop 354 = .ok (.ldc2_w 625, 3) := by decide +kernel
theorem kd_Mo_lookAtLoop_357 : decode kc_Mo_lookAtLoop 357 = .ok (.lcmp, 1) := by decide +kernel
theorem kd_Mo_lookAtLoop_358 : decode kc_Mo_lookAtLoop 358 = .ok (.ifCond .le 7, 3) := by decide +kernel
theorem kd_Mo_lookAtLoop_361 : decode kc_Mo_lookAtLoop 361 = .ok (.iconst 1, 1) := by decide +kernel
theorem kd_Mo_lookAtLoop_362 : decode kc_Mo_lookAtLoop 362 = .ok (.goto 4, 3) := by decide +kernel
theorem kd_Mo_lookAtLoop_365 : decode kc_Mo_lookAtLoop 365 = .ok (.iconst 0, 1) := by decide +kernel
theorem kd_Mo_lookAtLoop_366 : decode kc_Mo_lookAtLoop 366 = .ok (.bipush 36, 2) := by decide +kernel
theorem kd_Mo_lookAtLoop_368 : decode kc_Mo_lookAtLoop 368 = .ok (.iload_n 1, 1) := by decide +kernel
theorem kd_Mo_lookAtLoop_369 : decode kc_Mo_lookAtLoop 369 = .ok (.invokevirtual 540, 3) := by decide +kernel
theorem kd_Mo_lookAtLoop_372 : decode kc_Mo_lookAtLoop 372 = .ok (.return_, 1) := by decide +kernel
theorem kd_Mo_lookAtText_0 : decode kc_Mo_lookAtText 0 = .ok (.aload_n 0, 1) := by decide +kernel
theorem kd_Mo_lookAtText_1 : decode kc_Mo_lookAtText 1 = .ok (.aload_n 0, 1) := by decide +kernel
theorem kd_Mo_lookAtText_2 : decode kc_Mo_lookAtText 2 = .ok (.getfield 462, 3) := by decide +kernel
theorem kd_Mo_lookAtText_5 : decode kc_Mo_lookAtText 5 = .ok (.ifCond .eq 18, 3) := by decide +kernel
theorem kd_Mo_lookAtText_8 : decode kc_Mo_lookAtText 8 = .ok (.aload_n 0, 1) := by decide +kernel
theorem kd_Mo_lookAtText_9 : decode kc_Mo_lookAtText 9 = .ok (.getfield 64, 3) := by decide +kernel
theorem kd_Mo_lookAtText_12 : decode kc_Mo_lookAtText 12 = .ok (.aload_n 0, 1) := by decide +kernel
theorem kd_Mo_lookAtText_13 : decode kc_Mo_lookAtText 13 = .ok (.getfield 462, 3) := by decide +kernel
theorem kd_Mo_lookAtText_16 : decode kc_Mo_lookAtText 16 = .ok (.iconst 1, 1) := by decide +kernel
theorem kd_Mo_lookAtText_17 : decode kc_Mo_lookAtText 17 = .ok (.isub, 1) := by decide +kernel
theorem kd_Mo_lookAtText_18 : decode kc_Mo_lookAtText 18 = .ok (.iaload, 1) := by decide +kernel
theorem kd_Mo_lookAtText_19 : decode kc_Mo_lookAtText 19 = .ok (.iconst 3, 1) := by decide +kernel
theorem kd_Mo_lookAtText_20 : decode kc_Mo_lookAtText 20 = .ok (.if_icmp .eq 7, 3) := by decide +kernel
theorem kd_Mo_lookAtText_23 : decode kc_Mo_lookAtText 23 = .ok (.iconst 1, 1) := by decide +kernel
theorem kd_Mo_lookAtText_24 : decode kc_Mo_lookAtText 24 = .ok (.goto 4, 3) := by decide +kernel
theorem kd_Mo_lookAtText_27 : decode kc_Mo_lookAtText 27 = .ok (.iconst 0, 1) := by decide +kernel
theorem kd_Mo_lookAtText_28 : decode kc_Mo_lookAtText 28 = .ok (.bipush 10, 2) := by decide +kernel
theorem kd_Mo_lookAtText_30 : decode kc_Mo_lookAtText 30 = .ok (.iload_n 1, 1) := by decide +kernel
theorem kd_Mo_lookAtText_31 : decode kc_Mo_lookAtText 31 = .ok (.invokevirtual 540, 3) := by decide +kernel
theorem kd_Mo_lookAtText_34 : decode kc_Mo_lookAtText 34 = .ok (.aload_n 0, 1) := by decide +kernel
theorem kd_Mo_lookAtText_35 : decode kc_Mo_lookAtText 35 = .ok (.getfield 445, 3) := by decide +kernel
theorem kd_Mo_lookAtText_38 : decode kc_Mo_lookAtText 38 = .ok (.ifCond .ne 17, 3) := by decide +kernel
theorem kd_Mo_lookAtText_41 : decode kc_Mo_lookAtText 41 = .ok (.aload_n 0, 1) := by decide +kernel
theorem kd_Mo_lookAtText_42 : decode kc_Mo_lookAtText 42 = .ok (.getfield 70, 3) := by decide +kernel
theorem kd_Mo_lookAtText_45 : decode kc_Mo_lookAtText 45 = .ok (.aload_n 0, 1) := by decide +kernel
theorem kd_Mo_lookAtText_46 : decode kc_Mo_lookAtText 46 = .ok (.getfield 462, 3) := by decide +kernel
theorem kd_Mo_lookAtText_49 : decode kc_Mo_lookAtText 49 = .ok (.iconst 1, 1) := by decide +kernel
theorem kd_Mo_lookAtText_50 : decode kc_Mo_lookAtText 50 = .ok (.isub, 1) := by decide +kernel
theorem kd_Mo_lookAtText_51 : decode kc_Mo_lookAtText 51 = .ok (.iaload, 1) := by decide +kernel
theorem kd_Mo_lookAtText_52 : decode kc_Mo_lookAtText 52 = .ok (.goto 4, 3) := by decide +kernel
theorem kd_Mo_lookAtText_55 : decode kc_Mo_lookAtText 55 = .ok (.iconst 0, 1) := by decide +kernel
theorem kd_Mo_lookAtText_56 : decode kc_Mo_lookAtText 56 = .ok (.istore_n 2, 1) := by decide +kernel
theorem kd_Mo_lookAtText_57 : decode kc_Mo_lookAtText 57 = .ok (.iconst 0, 1) := by decide +kernel
theorem kd_Mo_lookAtText_58 : decode kc_Mo_lookAtText 58 = .ok (.istore_n 3, 1) := by decide +kernel
theorem kd_Mo_lookAtText_59 : decode kc_Mo_lookAtText 59 = .ok (.iload_n 3, 1) := by decide +kernel
theorem kd_Mo_lookAtText_60 : decode kc_Mo_lookAtText 60 = .ok (.aload_n 0, 1) := by decide +kernel
theorem kd_Mo_lookAtText_61 : decode kc_Mo_lookAtText 61 = .ok (.getfield 462, 3) := by decide +kernel
theorem kd_Mo_lookAtText_64 : decode kc_Mo_lookAtText 64 = .ok (.if_icmp .ge 42, 3) := by decide +kernel
theorem kd_Mo_lookAtText_67 : decode kc_Mo_lookAtText 67 = .ok (.aload_n 0, 1) := by decide +kernel
theorem kd_Mo_lookAtText_68 : decode kc_Mo_lookAtText 68 = .ok (.getfield 445, 3) := by decide +kernel
theorem kd_Mo_lookAtText_71 : decode kc_Mo_lookAtText 71 = .ok (.ifCond .ne 35, 3) := by decide +kernel
theorem kd_Mo_lookAtText_74 : decode kc_Mo_lookAtText 74 = .ok (.aload_n 0, 1) := by decide +kernel
theorem kd_Mo_lookAtText_75 : decode kc_Mo_lookAtText 75 = .ok (.getfield 64, 3) := by decide +kernel
theorem kd_Mo_lookAtText_78 : decode kc_Mo_lookAtText 78 = .ok (.iload_n 3, 1) := by decide +kernel
theorem kd_Mo_lookAtText_79 : decode kc_Mo_lookAtText 79 = .ok (.iaload, 1) := by decide +kernel
theorem kd_Mo_lookAtText_80 : decode kc_Mo_lookAtText 80 = .ok (.iconst 1, 1) := by decide +kernel
theorem kd_Mo_lookAtText_81 : decode kc_Mo_lookAtText 81 = .ok (.if_icmp .ne 19, 3) := by decide +kernel
theorem kd_Mo_lookAtText_84 : decode kc_Mo_lookAtText 84 = .ok (.aload_n 0, 1) := by decide +kernel
theorem kd_Mo_lookAtText_85 : decode kc_Mo_lookAtText 85 = .ok (.getfield 73, 3) := by decide +kernel
theorem kd_Mo_lookAtText_88 : decode kc_Mo_lookAtText 88 = .ok (.iload_n 3, 1) := by decide +kernel
theorem kd_Mo_lookAtText_89 : decode kc_Mo_lookAtText 89 = .ok (.iload_n 2, 1) := by decide +kernel
theorem kd_Mo_lookAtText_90 : decode kc_Mo_lookAtText 90 = .ok (.iastore, 1) := by decide +kernel
theorem kd_Mo_lookAtText_91 : decode kc_Mo_lookAtText 91 = .ok (.iload_n 2, 1) := by decide +kernel
theorem kd_Mo_lookAtText_92 : decode kc_Mo_lookAtText 92 = .ok (.aload_n 0, 1) := by decide +kernel
theorem kd_Mo_lookAtText_93 : decode kc_Mo_lookAtText 93 = .ok (.getfield 70, 3) := by decide +kernel
theorem kd_Mo_lookAtText_96 : decode kc_Mo_lookAtText 96 = .ok (.iload_n 3, 1) := by decide +kernel
theorem kd_Mo_lookAtText_97 : decode kc_Mo_lookAtText 97 = .ok (.iaload, 1) := by decide +kernel
theorem kd_Mo_lookAtText_98 : decode kc_Mo_lookAtText 98 = .ok (.iadd, 1) := by decide +kernel
theorem kd_Mo_lookAtText_99 : decode kc_Mo_lookAtText 99 = .ok (.istore_n 2, 1) := by decide +kernel
theorem kd_Mo_lookAtText_100 : decode kc_Mo_lookAtText 100 = .ok (.iinc 3 1, 3) := by decide +kernel
theorem kd_Mo_lookAtText_103 : decode kc_Mo_lookAtText 103 = .ok (.goto (-44), 3) := by decide +kernel
theorem kd_Mo_lookAtText_106 : decode kc_Mo_lookAtText 106 = .ok (.aload_n 0, 1) := by decide +kernel
theorem kd_Mo_lookAtText_107 : decode kc_Mo_lookAtText 107 = .ok (.iload_n 2, 1) := by decide +kernel
theorem kd_Mo_lookAtText_108 : decode kc_Mo_lookAtText 108 = .ok (.sipush 8192, 3) := by decide +kernel
theorem kd_Mo_lookAtText_111 : decode kc_Mo_lookAtText 111 = .ok (.if_icmp .le 7, 3) := by decide +kernel
theorem kd_Mo_lookAtText_114 : decode kc_Mo_lookAtText 114 = .ok (.iconst 1, 1) := by decide +kernel
theorem kd_Mo_lookAtText_115 : decode kc_Mo_lookAtText 115 = .ok (.goto 4, 3) := by decide +kernel
theorem kd_Mo_lookAtText_118 : decode kc_Mo_lookAtText 118 = .ok (.iconst 0, 1) := by decide +kernel
theorem kd_Mo_lookAtText_119 : decode kc_Mo_lookAtText 119 = .ok (.bipush 42, 2) := by decide +kernel
theorem kd_Mo_lookAtText_121 : decode kc_Mo_lookAtText 121 = .ok (.iload_n 1, 1) := by decide +kernel
theorem kd_Mo_lookAtText_122 : decode kc_Mo_lookAtText 122 = .ok (.invokevirtual 540, 3) := by decide +kernel
theorem kd_Mo_lookAtText_125 : decode kc_Mo_lookAtText 125 = .ok (.aload_n 0, 1) := by decide +kernel
theorem kd_Mo_lookAtText_126 : decode kc_Mo_lookAtText 126 = .ok (.getfield 462, 3) := by decide +kernel
theorem kd_Mo_lookAtText_129 : decode kc_Mo_lookAtText 129 = .ok (.ifCond .le 15, 3) := by decide +kernel
theorem kd_Mo_lookAtText_132 : decode kc_Mo_lookAtText 132 = .ok (.aload_n 0, 1) := by decide +kernel
theorem kd_Mo_lookAtText_133 : decode kc_Mo_lookAtText 133 = .ok (.getfield 73, 3) := by decide +kernel
theorem kd_Mo_lookAtText_136 : decode kc_Mo_lookAtText 136 = .ok (.aload_n 0, 1) := by decide +kernel
theorem kd_Mo_lookAtText_137 : decode kc_Mo_lookAtText 137 = .ok (.getfield 462, 3) := by decide +kernel
theorem kd_Mo_lookAtText_140 : decode kc_Mo_lookAtText 140 = .ok (.iconst 1, 1) := by decide +kernel
theorem kd_Mo_lookAtText_141 : decode kc_Mo_lookAtText 141 = .ok (.isub, 1) := by decide +kernel
theorem kd_Mo_lookAtText_142 : decode kc_Mo_lookAtText 142 = .ok (.iconst 0, 1) := by decide +kernel
theorem kd_Mo_lookAtText_143 : decode kc_Mo_lookAtText 143 = .ok (.iastore, 1) := by decide +kernel
theorem kd_Mo_lookAtText_144 : decode kc_Mo_lookAtText 144 = .ok (.aload_n 0, 1) := by decide +kernel
theorem kd_Mo_lookAtText_145 : decode kc_Mo_lookAtText 145 = .ok (.iload_n 2, 1) := by decide +kernel
theorem kd_Mo_lookAtText_146 : decode kc_Mo_lookAtText 146 = .ok (.putfield 590, 3) := by decide +kernel
theorem kd_Mo_lookAtText_149 : decode kc_Mo_lookAtText 149 = .ok (.return_, 1) := by decide +kernel
theorem kd_Mo_pinCell_0 : decode kc_Mo_pinCell 0 = .ok (.iload_n 1, 1) := by decide +kernel
theorem kd_Mo_pinCell_1 : decode kc_Mo_pinCell 1 = .ok (.ldc_w 498, 3) := by decide +kernel
theorem kd_Mo_pinCell_4 : decode kc_Mo_pinCell 4 = .ok (.if_icmp .ge 10, 3) := by decide +kernel
theorem kd_Mo_pinCell_7 : decode kc_Mo_pinCell 7 = .ok (.aload_n 0, 1) := by decide +kernel
theorem kd_Mo_pinCell_8 : decode kc_Mo_pinCell 8 = .ok (.getfield 88, 3) := by decide +kernel
theorem kd_Mo_pinCell_11 : decode kc_Mo_pinCell 11 = .ok (.iload_n 3, 1) := by decide +kernel
theorem kd_Mo_pinCell_12 : decode kc_Mo_pinCell 12 = .ok (.iaload, 1) := by decide +kernel
theorem kd_Mo_pinCell_13 : decode kc_Mo_pinCell 13 = .ok (.ireturn, 1) := by decide +kernel
theorem kd_Mo_pinCell_14 : decode kc_Mo_pinCell 14 = .ok (.iload_n 2, 1) := by decide +kernel
theorem kd_Mo_pinCell_15 : decode kc_Mo_pinCell 15 = .ok (.ifCond .eq 7, 3) := by decide +kernel
theorem kd_Mo_pinCell_18 : decode kc_Mo_pinCell 18 = .ok (.iload_n 3, 1) := by decide +kernel
theorem kd_Mo_pinCell_19 : decode kc_Mo_pinCell 19 = .ok (.goto 57, 3) := by decide +kernel
theorem kd_Mo_pinCell_22 : decode kc_Mo_pinCell 22 = .ok (.iload_n 3, 1) := by decide +kernel
theorem kd_Mo_pinCell_23 : decode kc_Mo_pinCell 23 = .ok (.iconst 1, 1) := by decide +kernel
theorem kd_Mo_pinCell_24 : decode kc_Mo_pinCell 24 = .ok (.if_icmp .ne 18, 3) := by decide +kernel
theorem kd_Mo_pinCell_27 : decode kc_Mo_pinCell 27 = .ok (.iload_n 1, 1) := by decide +kernel
theorem kd_Mo_pinCell_28 : decode kc_Mo_pinCell 28 = .ok (.ldc_w 468, 3) := by decide +kernel
theorem kd_Mo_pinCell_31 : decode kc_Mo_pinCell 31 = .ok (.if_icmp .ge 7, 3) := by decide +kernel
theorem kd_Mo_pinCell_34 : decode kc_Mo_pinCell 34 = .ok (.iconst 3, 1) := by decide +kernel
theorem kd_Mo_pinCell_35 : decode kc_Mo_pinCell 35 = .ok (.goto 41, 3) := by decide +kernel
theorem kd_Mo_pinCell_38 : decode kc_Mo_pinCell 38 = .ok (.iconst 4, 1) := by decide +kernel
theorem kd_Mo_pinCell_39 : decode kc_Mo_pinCell 39 = .ok (.goto 37, 3) := by decide +kernel
theorem kd_Mo_pinCell_42 : decode kc_Mo_pinCell 42 = .ok (.iload_n 1, 1) := by decide +kernel
theorem kd_Mo_pinCell_43 : decode kc_Mo_pinCell 43 = .ok (.ldc_w 468, 3) := by decide +kernel
theorem kd_Mo_pinCell_46 : decode kc_Mo_pinCell 46 = .ok (.if_icmp .ge 7, 3) := by decide +kernel
theorem kd_Mo_pinCell_49 : decode kc_Mo_pinCell 49 = .ok (.iconst 2, 1) := by decide +kernel
theorem kd_Mo_pinCell_50 : decode kc_Mo_pinCell 50 = .ok (.goto 26, 3) := by decide +kernel
theorem kd_Mo_pinCell_53 : decode kc_Mo_pinCell 53 = .ok (.iload_n 1, 1) := by decide +kernel
theorem kd_Mo_pinCell_54 : decode kc_Mo_pinCell 54 = .ok (.ldc_w 485, 3) := by decide +kernel
theorem kd_Mo_pinCell_57 : decode kc_Mo_pinCell 57 = .ok (.if_icmp .ge 7, 3) := by decide +kernel
theorem kd_Mo_pinCell_60 : decode kc_Mo_pinCell 60 = .ok (.iconst 3, 1) := by decide +kernel
theorem kd_Mo_pinCell_61 : decode kc_Mo_pinCell 61 = .ok (.goto 15, 3) := by decide +kernel
theorem kd_Mo_pinCell_64 : decode kc_Mo_pinCell 64 = .ok (.iload_n 1, 1) := by decide +kernel
theorem kd_Mo_pinCell_65 : decode kc_Mo_pinCell 65 = .ok (.ldc_w 476, 3) := by decide +kernel
theorem kd_Mo_pinCell_68 : decode kc_Mo_pinCell 68 = .ok (.if_icmp .ge 7, 3) := by decide +kernel
theorem kd_Mo_pinCell_71 : decode kc_Mo_pinCell 71 = .ok (.iconst 1, 1) := by decide +kernel
theorem kd_Mo_pinCell_72 : decode kc_Mo_pinCell 72 = .ok (.goto 4, 3) := by decide +kernel
theorem kd_Mo_pinCell_75 : decode kc_Mo_pinCell 75 = .ok (.iconst 2, 1) := by decide +kernel
theorem kd_Mo_pinCell_76 : decode kc_Mo_pinCell 76 = .ok (.ireturn, 1) := by decide +kernel
theorem kd_Mo_pinType_0 : decode kc_Mo_pinType 0 = .ok (.iload_n 1, 1) := by decide +kernel
theorem kd_Mo_pinType_1 : decode kc_Mo_pinType 1 = .ok (.ldc_w 498, 3) := by decide +kernel
theorem kd_Mo_pinType_4 : decode kc_Mo_pinType 4 = .ok (.if_icmp .ge 10, 3) := by decide +kernel
theorem kd_Mo_pinType_7 : decode kc_Mo_pinType 7 = .ok (.aload_n 0, 1) := by decide +kernel
theorem kd_Mo_pinType_8 : decode kc_Mo_pinType 8 = .ok (.getfield 85, 3) := by decide +kernel
theorem kd_Mo_pinType_11 : decode kc_Mo_pinType 11 = .ok (.iload_n 3, 1) := by decide +kernel
theorem kd_Mo_pinType_12 : decode kc_Mo_pinType 12 = .ok (.iaload, 1) := by decide +kernel
theorem kd_Mo_pinType_13 : decode kc_Mo_pinType 13 = .ok (.ireturn, 1) := by decide +kernel
theorem kd_Mo_pinType_14 : decode kc_Mo_pinType 14 = .ok (.iload_n 1, 1) := by decide +kernel
theorem kd_Mo_pinType_15 : decode kc_Mo_pinType 15 = .ok (.ldc_w 468, 3) := by decide +kernel
theorem kd_Mo_pinType_18 : decode kc_Mo_pinType 18 = .ok (.if_icmp .ge 7, 3) := by decide +kernel
theorem kd_Mo_pinType_21 : decode kc_Mo_pinType 21 = .ok (.iconst 1, 1) := by decide +kernel
theorem kd_Mo_pinType_22 : decode kc_Mo_pinType 22 = .ok (.goto 4, 3) := by decide +kernel
theorem kd_Mo_pinType_25 : decode kc_Mo_pinType 25 = .ok (.iconst 0, 1) := by decide +kernel
theorem kd_Mo_pinType_26 : decode kc_Mo_pinType 26 = .ok (.istore 4, 2) := by decide +kernel
theorem kd_Mo_pinType_28 : decode kc_Mo_pinType 28 = .ok (.iload_n 2, 1) := by decide +kernel
theorem kd_Mo_pinType_29 : decode kc_Mo_pinType 29 = .ok (.ifCond .eq 30, 3) := by decide +kernel
theorem kd_Mo_pinType_32 : decode kc_Mo_pinType 32 = .ok (.iload 4, 2) := by decide +kernel
theorem kd_Mo_pinType_34 : decode kc_Mo_pinType 34 = .ok (.ifCond .eq 12, 3) := by decide +kernel
theorem kd_Mo_pinType_37 : decode kc_Mo_pinType 37 = .ok (.iload_n 3, 1) := by decide +kernel
theorem kd_Mo_pinType_38 : decode kc_Mo_pinType 38 = .ok (.iconst 1, 1) := by decide +kernel
theorem kd_Mo_pinType_39 : decode kc_Mo_pinType 39 = .ok (.if_icmp .ne 7, 3) := by decide +kernel
theorem kd_Mo_pinType_42 : decode kc_Mo_pinType 42 = .ok (.iconst 2, 1) := by decide +kernel
theorem kd_Mo_pinType_43 : decode kc_Mo_pinType 43 = .ok (.goto 34, 3) := by decide +kernel
theorem kd_Mo_pinType_46 : decode kc_Mo_pinType 46 = .ok (.iload_n 3, 1) := by decide +kernel
theorem kd_Mo_pinType_47 : decode kc_Mo_pinType 47 = .ok (.iconst 2, 1) := by decide +kernel
theorem kd_Mo_pinType_48 : decode kc_Mo_pinType 48 = .ok (.if_icmp .ne 7, 3) := by decide +kernel
theorem kd_Mo_pinType_51 : decode kc_Mo_pinType 51 = .ok (.iconst 1, 1) := by decide +kernel
theorem kd_Mo_pinType_52 : decode kc_Mo_pinType 52 = .ok (.goto 25, 3) := by decide +kernel
theorem kd_Mo_pinType_55 : decode kc_Mo_pinType 55 = .ok (.iconst 0, 1) := by decide +kernel
theorem kd_Mo_pinType_56 : decode kc_Mo_pinType 56 = .ok (.goto 21, 3) := by decide +kernel
theorem kd_Mo_pinType_59 : decode kc_Mo_pinType 59 = .ok (.iload_n 3, 1) := by decide +kernel
theorem kd_Mo_pinType_60 : decode kc_Mo_pinType 60 = .ok (.ifCond .ne 7, 3) := by decide +kernel
theorem kd_Mo_pinType_63 : decode kc_Mo_pinType 63 = .ok (.iconst 0, 1) := by decide +kernel
theorem kd_Mo_pinType_64 : decode kc_Mo_pinType 64 = .ok (.goto 13, 3) := by decide +kernel
theorem kd_Mo_pinType_67 : decode kc_Mo_pinType 67 = .ok (.iload 4, 2) := by decide +kernel
theorem kd_Mo_pinType_69 : decode kc_Mo_pinType 69 = .ok (.ifCond .eq 7, 3) := by decide +kernel
theorem kd_Mo_pinType_72 : decode kc_Mo_pinType 72 = .ok (.iconst 2, 1) := by decide +kernel
theorem kd_Mo_pinType_73 : decode kc_Mo_pinType 73 = .ok (.goto 4, 3) := by decide +kernel
theorem kd_Mo_pinType_76 : decode kc_Mo_pinType 76 = .ok (.iconst 1, 1) := by decide +kernel
theorem kd_Mo_pinType_77 : decode kc_Mo_pinType 77 = .ok (.ireturn, 1) := by decide +kernel
set_option maxHeartbeats 4000000 in
set_option maxRecDepth 100000 in
theorem zb_Mo_lookAtText_100 {X : zkj_T} {S : zs_T} {P : ze_T} {l : Launch} {D : va_G} {sz0 : Nat} {rh : zs_H} (C : zk_C X km_Mo_lookAtText (zs_G S l D sz0) { frames := 2, cells := 0, slots := 0, locals := 45 } (ze_E P)) (hR : zkj_R X (zd_PV S rh) (none)) {k59 : zs_H → Int32 → Int32 → Int32 → (Option zs_H)} (hk59 : ∀ (h : zs_H) (x1 : Int32) (x2 : Int32) (x3 : Int32), k59 h x1 x2 x3 = some rh → zk_Ab X (zs_W S h) 0 0 59 [(0, .ref (S.1 68)), (1, .int x1), (2, .int x2), (3, .int x3)] []) (h : zs_H) (x1 : Int32) (x2 : Int32) (x3 : Int32) (e : f_Mo_lookAtText_100 k59 h x1 x2 x3 = some rh) : zk_Ab X (zs_W S h) 0 0 100 [(0, .ref (S.1 68)), (1, .int x1), (2, .int x2), (3, .int x3)] [] := by
  unfold f_Mo_lookAtText_100 at e
  refine zk_iinc (v := (x3 + 1)) (lv' := [(3, _), (0, _), (1, _), (2, _)]) C kd_Mo_lookAtText_100 3 rfl rfl (by decide) rfl rfl ?_
  refine zk_goto (tgt := 59) C kd_Mo_lookAtText_103 (by decide) ?_
  refine zk_lvs (lv' := [(0, .ref (S.1 68)), (1, .int x1), (2, .int x2), (3, .int (x3 + 1))]) [1, 2, 3, 0] rfl ?_
  exact hk59 h x1 x2 (x3 + 1) e
set_option maxHeartbeats 4000000 in
set_option maxRecDepth 100000 in
theorem zb_Mo_lookAtText_144 {X : zkj_T} {S : zs_T} {P : ze_T} {l : Launch} {D : va_G} {sz0 : Nat} {rh : zs_H} (C : zk_C X km_Mo_lookAtText (zs_G S l D sz0) { frames := 2, cells := 0, slots := 0, locals := 45 } (ze_E P)) (hR : zkj_R X (zd_PV S rh) (none)) (h : zs_H) (x2 : Int32) (e : f_Mo_lookAtText_144 h x2 = some rh) : zk_Ab X (zs_W S h) 0 0 144 [(0, .ref (S.1 68)), (2, .int x2)] [] := by
  unfold f_Mo_lookAtText_144 at e
  refine zk_aload_n C kd_Mo_lookAtText_144 rfl 0 rfl rfl ?_
  refine zk_iload_n C kd_Mo_lookAtText_145 rfl 1 rfl rfl ?_
  refine zs_put (ty := .int) C 68 55 x2 rfl rfl rfl rfl ki_Mo ky_Mo ko_Mo kn_Mo (by decide) kw1738 rfl rfl rfl rfl (by decide) kd_Mo_lookAtText_146 rfl ?_
  exact zk_vret C hR kd_Mo_lookAtText_149 rfl rfl (zd_rV e)
set_option maxHeartbeats 4000000 in
set_option maxRecDepth 100000 in
theorem zb_Mo_lookAtText_119 {X : zkj_T} {S : zs_T} {P : ze_T} {l : Launch} {D : va_G} {sz0 : Nat} {rh : zs_H} (C : zk_C X km_Mo_lookAtText (zs_G S l D sz0) { frames := 2, cells := 0, slots := 0, locals := 45 } (ze_E P)) (hR : zkj_R X (zd_PV S rh) (none)) (h : zs_H) (x1 : Int32) (x2 : Int32) (y0 : Int32) (e : f_Mo_lookAtText_119 h x1 x2 y0 = some rh) : zk_Ab X (zs_W S h) 0 0 119 [(0, .ref (S.1 68)), (1, .int x1), (2, .int x2)] [.int y0, .ref (S.1 68)] := by
  unfold f_Mo_lookAtText_119 at e
  refine zk_bipush (v := 42) C kd_Mo_lookAtText_119 (by decide) rfl ?_
  refine zk_iload_n C kd_Mo_lookAtText_121 rfl 1 rfl rfl ?_
  obtain ⟨h2, c1, e⟩ := zd_b e
  refine zs_callV (k := 68) (rn := { frames := 1, cells := 0, slots := 0, locals := 22 }) (As := [.int y0, .int 42, .int x1]) (rest := []) C (zc_Mo_rule h y0 42 x1 c1) ku_Mo_rule kw2260 kv_Mo_rule rfl ⟨by decide, by decide⟩ ⟨by decide, by decide⟩ rfl rfl rfl (Nat.le_of_ble_eq_true rfl) kd_Mo_lookAtText_122 rfl (c1 := 0) (s1 := 0) rfl rfl (fun v w hp => ?_)
  obtain ⟨rfl, rfl⟩ := hp
  refine zk_stk (r' := []) rfl ?_
  refine zk_aload_n C kd_Mo_lookAtText_125 rfl 0 rfl rfl ?_
  refine zs_get (v := .int (h2.1 68 33)) C 68 33 rfl rfl rfl rfl ki_Mo (by decide) kw1716 kd_Mo_lookAtText_126 rfl ?_
  refine zk_if_le (tgt := 144) C kd_Mo_lookAtText_129 (by decide) rfl (fun b3 => ?_) (fun b3 => ?_)
  · replace e := zd_pos b3 e
    refine zk_lvs (lv' := [(0, .ref (S.1 68)), (2, .int x2)]) [0, 2] rfl ?_
    exact zb_Mo_lookAtText_144 C hR h2 x2 e
  · replace e := zd_neg b3 e
    refine zk_aload_n C kd_Mo_lookAtText_132 rfl 0 rfl rfl ?_
    refine zs_get (v := .ref (S.1 89)) C 68 39 rfl rfl rfl rfl ki_Mo (by decide) kw1722 kd_Mo_lookAtText_133 rfl ?_
    refine zk_aload_n C kd_Mo_lookAtText_136 rfl 0 rfl rfl ?_
    refine zs_get (v := .int (h2.1 68 33)) C 68 33 rfl rfl rfl rfl ki_Mo (by decide) kw1716 kd_Mo_lookAtText_137 rfl ?_
    refine zk_iconst (v := 1) C kd_Mo_lookAtText_140 (by decide) rfl ?_
    refine zk_isub C kd_Mo_lookAtText_141 rfl ?_
    refine zk_iconst (v := 0) C kd_Mo_lookAtText_142 (by decide) rfl ?_
    obtain ⟨q4, e⟩ := zd_g e
    refine zs_iast C 89 rfl (zd_vp q4) kd_Mo_lookAtText_143 rfl ?_
    refine zk_lvs (lv' := [(0, .ref (S.1 68)), (2, .int x2)]) [0, 2] rfl ?_
    exact zb_Mo_lookAtText_144 C hR (zs_uM h2 89 ((h2.1 68 33) - 1).toNatClampNeg 0) x2 e
set_option maxHeartbeats 4000000 in
set_option maxRecDepth 100000 in
theorem zb_Mo_lookAtText_106 {X : zkj_T} {S : zs_T} {P : ze_T} {l : Launch} {D : va_G} {sz0 : Nat} {rh : zs_H} (C : zk_C X km_Mo_lookAtText (zs_G S l D sz0) { frames := 2, cells := 0, slots := 0, locals := 45 } (ze_E P)) (hR : zkj_R X (zd_PV S rh) (none)) (h : zs_H) (x1 : Int32) (x2 : Int32) (e : f_Mo_lookAtText_106 h x1 x2 = some rh) : zk_Ab X (zs_W S h) 0 0 106 [(0, .ref (S.1 68)), (1, .int x1), (2, .int x2)] [] := by
  unfold f_Mo_lookAtText_106 at e
  refine zk_aload_n C kd_Mo_lookAtText_106 rfl 0 rfl rfl ?_
  refine zk_iload_n C kd_Mo_lookAtText_107 rfl 2 rfl rfl ?_
  refine zk_sipush (v := 8192) C kd_Mo_lookAtText_108 (by decide) rfl ?_
  refine zk_icmp_le (tgt := 118) C kd_Mo_lookAtText_111 (by decide) rfl (fun b1 => ?_) (fun b1 => ?_)
  · replace e := zd_pos b1 e
    refine zk_iconst (v := 0) C kd_Mo_lookAtText_118 (by decide) rfl ?_
    refine zk_lvs (lv' := [(0, .ref (S.1 68)), (1, .int x1), (2, .int x2)]) [0, 1, 2] rfl ?_
    exact zb_Mo_lookAtText_119 C hR h x1 x2 0 e
  · replace e := zd_neg b1 e
    refine zk_iconst (v := 1) C kd_Mo_lookAtText_114 (by decide) rfl ?_
    refine zk_goto (tgt := 119) C kd_Mo_lookAtText_115 (by decide) ?_
    refine zk_lvs (lv' := [(0, .ref (S.1 68)), (1, .int x1), (2, .int x2)]) [0, 1, 2] rfl ?_
    exact zb_Mo_lookAtText_119 C hR h x1 x2 1 e
set_option maxHeartbeats 4000000 in
set_option maxRecDepth 100000 in
theorem zb_Mo_lookAtText_59 {X : zkj_T} {S : zs_T} {P : ze_T} {l : Launch} {D : va_G} {sz0 : Nat} {rh : zs_H} (C : zk_C X km_Mo_lookAtText (zs_G S l D sz0) { frames := 2, cells := 0, slots := 0, locals := 45 } (ze_E P)) (hR : zkj_R X (zd_PV S rh) (none)) {k59 : zs_H → Int32 → Int32 → Int32 → (Option zs_H)} (hk59 : ∀ (h : zs_H) (x1 : Int32) (x2 : Int32) (x3 : Int32), k59 h x1 x2 x3 = some rh → zk_Ab X (zs_W S h) 0 0 59 [(0, .ref (S.1 68)), (1, .int x1), (2, .int x2), (3, .int x3)] []) (h : zs_H) (x1 : Int32) (x2 : Int32) (x3 : Int32) (e : f_Mo_lookAtText_59 k59 h x1 x2 x3 = some rh) : zk_Ab X (zs_W S h) 0 0 59 [(0, .ref (S.1 68)), (1, .int x1), (2, .int x2), (3, .int x3)] [] := by
  unfold f_Mo_lookAtText_59 at e
  refine zk_iload_n C kd_Mo_lookAtText_59 rfl 3 rfl rfl ?_
  refine zk_aload_n C kd_Mo_lookAtText_60 rfl 0 rfl rfl ?_
  refine zs_get (v := .int (h.1 68 33)) C 68 33 rfl rfl rfl rfl ki_Mo (by decide) kw1716 kd_Mo_lookAtText_61 rfl ?_
  refine zk_icmp_ge (tgt := 106) C kd_Mo_lookAtText_64 (by decide) rfl (fun b1 => ?_) (fun b1 => ?_)
  · replace e := zd_pos b1 e
    refine zk_lvs (lv' := [(0, .ref (S.1 68)), (1, .int x1), (2, .int x2)]) [0, 1, 2] rfl ?_
    exact zb_Mo_lookAtText_106 C hR h x1 x2 e
  · replace e := zd_neg b1 e
    refine zk_aload_n C kd_Mo_lookAtText_67 rfl 0 rfl rfl ?_
    refine zs_get (v := .int (h.1 68 29)) C 68 29 rfl rfl rfl rfl ki_Mo (by decide) kw1712 kd_Mo_lookAtText_68 rfl ?_
    refine zk_if_ne (tgt := 106) C kd_Mo_lookAtText_71 (by decide) rfl (fun b2 => ?_) (fun b2 => ?_)
    · replace e := zd_neg b2 e
      refine zk_lvs (lv' := [(0, .ref (S.1 68)), (1, .int x1), (2, .int x2)]) [0, 1, 2] rfl ?_
      exact zb_Mo_lookAtText_106 C hR h x1 x2 e
    · replace e := zd_pos b2 e
      refine zk_aload_n C kd_Mo_lookAtText_74 rfl 0 rfl rfl ?_
      refine zs_get (v := .ref (S.1 86)) C 68 36 rfl rfl rfl rfl ki_Mo (by decide) kw1719 kd_Mo_lookAtText_75 rfl ?_
      refine zk_iload_n C kd_Mo_lookAtText_78 rfl 3 rfl rfl ?_
      obtain ⟨q3, e⟩ := zd_g e
      refine zs_iald C 86 rfl (zd_vp q3) kd_Mo_lookAtText_79 rfl ?_
      refine zk_iconst (v := 1) C kd_Mo_lookAtText_80 (by decide) rfl ?_
      refine zk_icmp_ne (tgt := 100) C kd_Mo_lookAtText_81 (by decide) rfl (fun b4 => ?_) (fun b4 => ?_)
      · replace e := zd_neg b4 e
        refine zk_lvs (lv' := [(0, .ref (S.1 68)), (1, .int x1), (2, .int x2), (3, .int x3)]) [0, 1, 2, 3] rfl ?_
        exact zb_Mo_lookAtText_100 C hR hk59 h x1 x2 x3 e
      · replace e := zd_pos b4 e
        refine zk_aload_n C kd_Mo_lookAtText_84 rfl 0 rfl rfl ?_
        refine zs_get (v := .ref (S.1 89)) C 68 39 rfl rfl rfl rfl ki_Mo (by decide) kw1722 kd_Mo_lookAtText_85 rfl ?_
        refine zk_iload_n C kd_Mo_lookAtText_88 rfl 3 rfl rfl ?_
        refine zk_iload_n C kd_Mo_lookAtText_89 rfl 2 rfl rfl ?_
        refine zs_iast C 89 rfl (zd_vp q3) kd_Mo_lookAtText_90 rfl ?_
        refine zk_iload_n C kd_Mo_lookAtText_91 rfl 2 rfl rfl ?_
        refine zk_aload_n C kd_Mo_lookAtText_92 rfl 0 rfl rfl ?_
        refine zs_get (v := .ref (S.1 88)) C 68 38 rfl rfl rfl rfl ki_Mo (by decide) kw1721 kd_Mo_lookAtText_93 rfl ?_
        refine zk_iload_n C kd_Mo_lookAtText_96 rfl 3 rfl rfl ?_
        refine zs_iald C 88 rfl (zd_vp q3) kd_Mo_lookAtText_97 rfl ?_
        refine zk_stk (r' := [.int (h.2.1 88 x3.toNatClampNeg), .int x2]) rfl ?_
        refine zk_iadd C kd_Mo_lookAtText_98 rfl ?_
        refine zk_istore_n (lv' := [(2, _), (0, _), (1, _), (3, _)]) C kd_Mo_lookAtText_99 rfl (by decide) rfl rfl ?_
        refine zk_lvs (lv' := [(0, .ref (S.1 68)), (1, .int x1), (2, .int (x2 + (h.2.1 88 x3.toNatClampNeg))), (3, .int x3)]) [1, 2, 0, 3] rfl ?_
        exact zb_Mo_lookAtText_100 C hR hk59 (zs_uM h 89 x3.toNatClampNeg x2) x1 (x2 + (h.2.1 88 x3.toNatClampNeg)) x3 e
theorem zl_Mo_lookAtText_59 {X : zkj_T} {S : zs_T} {P : ze_T} {l : Launch} {D : va_G} {sz0 : Nat} {rh : zs_H} (C : zk_C X km_Mo_lookAtText (zs_G S l D sz0) { frames := 2, cells := 0, slots := 0, locals := 45 } (ze_E P)) (hR : zkj_R X (zd_PV S rh) (none)) (n : Nat) : ∀ (h : zs_H) (x1 : Int32) (x2 : Int32) (x3 : Int32), f_Mo_lookAtText_L59 n h x1 x2 x3 = some rh → zk_Ab X (zs_W S h) 0 0 59 [(0, .ref (S.1 68)), (1, .int x1), (2, .int x2), (3, .int x3)] [] := by
  induction n with
  | zero => intro h x1 x2 x3 e; exact zd_no e
  | succ n ih => intro h x1 x2 x3 e; exact zb_Mo_lookAtText_59 (k59 := f_Mo_lookAtText_L59  n) C hR ih h x1 x2 x3 e
set_option maxHeartbeats 4000000 in
set_option maxRecDepth 100000 in
theorem zb_Mo_lookAtText_56 {X : zkj_T} {S : zs_T} {P : ze_T} {l : Launch} {D : va_G} {sz0 : Nat} {rh : zs_H} (C : zk_C X km_Mo_lookAtText (zs_G S l D sz0) { frames := 2, cells := 0, slots := 0, locals := 45 } (ze_E P)) (hR : zkj_R X (zd_PV S rh) (none)) (h : zs_H) (x1 : Int32) (y0 : Int32) (e : f_Mo_lookAtText_56 h x1 y0 = some rh) : zk_Ab X (zs_W S h) 0 0 56 [(0, .ref (S.1 68)), (1, .int x1)] [.int y0] := by
  unfold f_Mo_lookAtText_56 at e
  refine zk_istore_n (lv' := [(2, _), (0, _), (1, _)]) C kd_Mo_lookAtText_56 rfl (by decide) rfl rfl ?_
  refine zk_iconst (v := 0) C kd_Mo_lookAtText_57 (by decide) rfl ?_
  refine zk_istore_n (lv' := [(3, _), (2, _), (0, _), (1, _)]) C kd_Mo_lookAtText_58 rfl (by decide) rfl rfl ?_
  refine zk_lvs (lv' := [(0, .ref (S.1 68)), (1, .int x1), (2, .int y0), (3, .int 0)]) [2, 3, 1, 0] rfl ?_
  exact zl_Mo_lookAtText_59 C hR zF h x1 y0 0 e
set_option maxHeartbeats 4000000 in
set_option maxRecDepth 100000 in
theorem zb_Mo_lookAtText_28 {X : zkj_T} {S : zs_T} {P : ze_T} {l : Launch} {D : va_G} {sz0 : Nat} {rh : zs_H} (C : zk_C X km_Mo_lookAtText (zs_G S l D sz0) { frames := 2, cells := 0, slots := 0, locals := 45 } (ze_E P)) (hR : zkj_R X (zd_PV S rh) (none)) (h : zs_H) (x1 : Int32) (y0 : Int32) (e : f_Mo_lookAtText_28 h x1 y0 = some rh) : zk_Ab X (zs_W S h) 0 0 28 [(0, .ref (S.1 68)), (1, .int x1)] [.int y0, .ref (S.1 68)] := by
  unfold f_Mo_lookAtText_28 at e
  refine zk_bipush (v := 10) C kd_Mo_lookAtText_28 (by decide) rfl ?_
  refine zk_iload_n C kd_Mo_lookAtText_30 rfl 1 rfl rfl ?_
  obtain ⟨h2, c1, e⟩ := zd_b e
  refine zs_callV (k := 68) (rn := { frames := 1, cells := 0, slots := 0, locals := 22 }) (As := [.int y0, .int 10, .int x1]) (rest := []) C (zc_Mo_rule h y0 10 x1 c1) ku_Mo_rule kw2260 kv_Mo_rule rfl ⟨by decide, by decide⟩ ⟨by decide, by decide⟩ rfl rfl rfl (Nat.le_of_ble_eq_true rfl) kd_Mo_lookAtText_31 rfl (c1 := 0) (s1 := 0) rfl rfl (fun v w hp => ?_)
  obtain ⟨rfl, rfl⟩ := hp
  refine zk_stk (r' := []) rfl ?_
  refine zk_aload_n C kd_Mo_lookAtText_34 rfl 0 rfl rfl ?_
  refine zs_get (v := .int (h2.1 68 29)) C 68 29 rfl rfl rfl rfl ki_Mo (by decide) kw1712 kd_Mo_lookAtText_35 rfl ?_
  refine zk_if_ne (tgt := 55) C kd_Mo_lookAtText_38 (by decide) rfl (fun b3 => ?_) (fun b3 => ?_)
  · replace e := zd_neg b3 e
    refine zk_iconst (v := 0) C kd_Mo_lookAtText_55 (by decide) rfl ?_
    refine zk_lvs (lv' := [(0, .ref (S.1 68)), (1, .int x1)]) [0, 1] rfl ?_
    exact zb_Mo_lookAtText_56 C hR h2 x1 0 e
  · replace e := zd_pos b3 e
    refine zk_aload_n C kd_Mo_lookAtText_41 rfl 0 rfl rfl ?_
    refine zs_get (v := .ref (S.1 88)) C 68 38 rfl rfl rfl rfl ki_Mo (by decide) kw1721 kd_Mo_lookAtText_42 rfl ?_
    refine zk_aload_n C kd_Mo_lookAtText_45 rfl 0 rfl rfl ?_
    refine zs_get (v := .int (h2.1 68 33)) C 68 33 rfl rfl rfl rfl ki_Mo (by decide) kw1716 kd_Mo_lookAtText_46 rfl ?_
    refine zk_iconst (v := 1) C kd_Mo_lookAtText_49 (by decide) rfl ?_
    refine zk_isub C kd_Mo_lookAtText_50 rfl ?_
    obtain ⟨q4, e⟩ := zd_g e
    refine zs_iald C 88 rfl (zd_vp q4) kd_Mo_lookAtText_51 rfl ?_
    refine zk_goto (tgt := 56) C kd_Mo_lookAtText_52 (by decide) ?_
    refine zk_lvs (lv' := [(0, .ref (S.1 68)), (1, .int x1)]) [0, 1] rfl ?_
    exact zb_Mo_lookAtText_56 C hR h2 x1 (h2.2.1 88 ((h2.1 68 33) - 1).toNatClampNeg) e
set_option maxHeartbeats 4000000 in
set_option maxRecDepth 100000 in
theorem zb_Mo_lookAtText_23 {X : zkj_T} {S : zs_T} {P : ze_T} {l : Launch} {D : va_G} {sz0 : Nat} {rh : zs_H} (C : zk_C X km_Mo_lookAtText (zs_G S l D sz0) { frames := 2, cells := 0, slots := 0, locals := 45 } (ze_E P)) (hR : zkj_R X (zd_PV S rh) (none)) (h : zs_H) (x1 : Int32) (e : f_Mo_lookAtText_23 h x1 = some rh) : zk_Ab X (zs_W S h) 0 0 23 [(0, .ref (S.1 68)), (1, .int x1)] [.ref (S.1 68)] := by
  unfold f_Mo_lookAtText_23 at e
  refine zk_iconst (v := 1) C kd_Mo_lookAtText_23 (by decide) rfl ?_
  refine zk_goto (tgt := 28) C kd_Mo_lookAtText_24 (by decide) ?_
  refine zk_lvs (lv' := [(0, .ref (S.1 68)), (1, .int x1)]) [0, 1] rfl ?_
  exact zb_Mo_lookAtText_28 C hR h x1 1 e
set_option maxHeartbeats 4000000 in
set_option maxRecDepth 100000 in
theorem zc_Mo_lookAtText {l : Launch} {D : va_G} {sz0 : Nat} {S : zs_T} {P : ze_T} (h : zs_H) (x1 : Int32) {rh : zs_H} (e : f_Mo_lookAtText h x1 = some rh) : zk_Sp (zs_G S l D sz0) (ze_E P) km_Mo_lookAtText { frames := 2, cells := 0, slots := 0, locals := 45 } [.ref (S.1 68), .int x1] (zs_W S h) (zd_PV S rh) := by
  refine zk_met ku_Mo_lookAtText (Nat.le_of_ble_eq_true rfl) (ze_Em P) ?_
  intro X C hR
  refine zk_lvs (lv' := [(0, .ref (S.1 68)), (1, .int x1)]) [0, 1] rfl ?_
  unfold f_Mo_lookAtText at e
  refine zk_aload_n C kd_Mo_lookAtText_0 rfl 0 rfl rfl ?_
  refine zk_aload_n C kd_Mo_lookAtText_1 rfl 0 rfl rfl ?_
  refine zs_get (v := .int (h.1 68 33)) C 68 33 rfl rfl rfl rfl ki_Mo (by decide) kw1716 kd_Mo_lookAtText_2 rfl ?_
  refine zk_if_eq (tgt := 23) C kd_Mo_lookAtText_5 (by decide) rfl (fun b1 => ?_) (fun b1 => ?_)
  · replace e := zd_pos b1 e
    refine zk_lvs (lv' := [(0, .ref (S.1 68)), (1, .int x1)]) [0, 1] rfl ?_
    exact zb_Mo_lookAtText_23 C hR h x1 e
  · replace e := zd_neg b1 e
    refine zk_aload_n C kd_Mo_lookAtText_8 rfl 0 rfl rfl ?_
    refine zs_get (v := .ref (S.1 86)) C 68 36 rfl rfl rfl rfl ki_Mo (by decide) kw1719 kd_Mo_lookAtText_9 rfl ?_
    refine zk_aload_n C kd_Mo_lookAtText_12 rfl 0 rfl rfl ?_
    refine zs_get (v := .int (h.1 68 33)) C 68 33 rfl rfl rfl rfl ki_Mo (by decide) kw1716 kd_Mo_lookAtText_13 rfl ?_
    refine zk_iconst (v := 1) C kd_Mo_lookAtText_16 (by decide) rfl ?_
    refine zk_isub C kd_Mo_lookAtText_17 rfl ?_
    obtain ⟨q2, e⟩ := zd_g e
    refine zs_iald C 86 rfl (zd_vp q2) kd_Mo_lookAtText_18 rfl ?_
    refine zk_iconst (v := 3) C kd_Mo_lookAtText_19 (by decide) rfl ?_
    refine zk_icmp_eq (tgt := 27) C kd_Mo_lookAtText_20 (by decide) rfl (fun b3 => ?_) (fun b3 => ?_)
    · replace e := zd_pos b3 e
      refine zk_iconst (v := 0) C kd_Mo_lookAtText_27 (by decide) rfl ?_
      refine zk_lvs (lv' := [(0, .ref (S.1 68)), (1, .int x1)]) [0, 1] rfl ?_
      exact zb_Mo_lookAtText_28 C hR h x1 0 e
    · replace e := zd_neg b3 e
      refine zk_lvs (lv' := [(0, .ref (S.1 68)), (1, .int x1)]) [0, 1] rfl ?_
      exact zb_Mo_lookAtText_23 C hR h x1 e
set_option maxHeartbeats 4000000 in
set_option maxRecDepth 100000 in
theorem zb_Mo_lookAtBlocks_335 {X : zkj_T} {S : zs_T} {P : ze_T} {l : Launch} {D : va_G} {sz0 : Nat} {rh : zs_H} (C : zk_C X km_Mo_lookAtBlocks (zs_G S l D sz0) { frames := 403, cells := 0, slots := 0, locals := 10070 } (ze_E P)) (hR : zkj_R X (zd_PV S rh) (none)) (h : zs_H) (x1 : Int32) (y0 : Int32) (e : f_Mo_lookAtBlocks_335 h x1 y0 = some rh) : zk_Ab X (zs_W S h) 0 0 335 [(1, .int x1)] [.int y0, .ref (S.1 68)] := by
  unfold f_Mo_lookAtBlocks_335 at e
  refine zk_bipush (v := 17) C kd_Mo_lookAtBlocks_335 (by decide) rfl ?_
  refine zk_iload_n C kd_Mo_lookAtBlocks_337 rfl 0 rfl rfl ?_
  obtain ⟨h2, c1, e⟩ := zd_b e
  refine zs_callV (k := 68) (rn := { frames := 1, cells := 0, slots := 0, locals := 22 }) (As := [.int y0, .int 17, .int x1]) (rest := []) C (zc_Mo_rule h y0 17 x1 c1) ku_Mo_rule kw2260 kv_Mo_rule rfl ⟨by decide, by decide⟩ ⟨by decide, by decide⟩ rfl rfl rfl (Nat.le_of_ble_eq_true rfl) kd_Mo_lookAtBlocks_338 rfl (c1 := 0) (s1 := 0) rfl rfl (fun v w hp => ?_)
  obtain ⟨rfl, rfl⟩ := hp
  refine zk_stk (r' := []) rfl ?_
  exact zk_vret C hR kd_Mo_lookAtBlocks_341 rfl rfl (zd_rV e)
set_option maxHeartbeats 4000000 in
set_option maxRecDepth 100000 in
theorem zb_Mo_lookAtBlocks_330 {X : zkj_T} {S : zs_T} {P : ze_T} {l : Launch} {D : va_G} {sz0 : Nat} {rh : zs_H} (C : zk_C X km_Mo_lookAtBlocks (zs_G S l D sz0) { frames := 403, cells := 0, slots := 0, locals := 10070 } (ze_E P)) (hR : zkj_R X (zd_PV S rh) (none)) (h : zs_H) (x1 : Int32) (e : f_Mo_lookAtBlocks_330 h x1 = some rh) : zk_Ab X (zs_W S h) 0 0 330 [(1, .int x1)] [.ref (S.1 68)] := by
  unfold f_Mo_lookAtBlocks_330 at e
  refine zk_iconst (v := 1) C kd_Mo_lookAtBlocks_330 (by decide) rfl ?_
  refine zk_goto (tgt := 335) C kd_Mo_lookAtBlocks_331 (by decide) ?_
  refine zk_lvs (lv' := [(1, .int x1)]) [0] rfl ?_
  exact zb_Mo_lookAtBlocks_335 C hR h x1 1 e
set_option maxHeartbeats 4000000 in
set_option maxRecDepth 100000 in
theorem zb_Mo_lookAtBlocks_334 {X : zkj_T} {S : zs_T} {P : ze_T} {l : Launch} {D : va_G} {sz0 : Nat} {rh : zs_H} (C : zk_C X km_Mo_lookAtBlocks (zs_G S l D sz0) { frames := 403, cells := 0, slots := 0, locals := 10070 } (ze_E P)) (hR : zkj_R X (zd_PV S rh) (none)) (h : zs_H) (x1 : Int32) (e : f_Mo_lookAtBlocks_334 h x1 = some rh) : zk_Ab X (zs_W S h) 0 0 334 [(1, .int x1)] [.ref (S.1 68)] := by
  unfold f_Mo_lookAtBlocks_334 at e
  refine zk_iconst (v := 0) C kd_Mo_lookAtBlocks_334 (by decide) rfl ?_
  refine zk_lvs (lv' := [(1, .int x1)]) [0] rfl ?_
  exact zb_Mo_lookAtBlocks_335 C hR h x1 0 e
set_option maxHeartbeats 4000000 in
set_option maxRecDepth 100000 in
theorem zb_Mo_lookAtBlocks_239 {X : zkj_T} {S : zs_T} {P : ze_T} {l : Launch} {D : va_G} {sz0 : Nat} {rh : zs_H} (C : zk_C X km_Mo_lookAtBlocks (zs_G S l D sz0) { frames := 403, cells := 0, slots := 0, locals := 10070 } (ze_E P)) (hR : zkj_R X (zd_PV S rh) (none)) (h : zs_H) (x1 : Int32) (y0 : Int32) (e : f_Mo_lookAtBlocks_239 h x1 y0 = some rh) : zk_Ab X (zs_W S h) 0 0 239 [(1, .int x1)] [.int y0, .ref (S.1 68)] := by
  unfold f_Mo_lookAtBlocks_239 at e
  refine zk_bipush (v := 14) C kd_Mo_lookAtBlocks_239 (by decide) rfl ?_
  refine zk_iload_n C kd_Mo_lookAtBlocks_241 rfl 0 rfl rfl ?_
  obtain ⟨h2, c1, e⟩ := zd_b e
  refine zs_callV (k := 68) (rn := { frames := 1, cells := 0, slots := 0, locals := 22 }) (As := [.int y0, .int 14, .int x1]) (rest := []) C (zc_Mo_rule h y0 14 x1 c1) ku_Mo_rule kw2260 kv_Mo_rule rfl ⟨by decide, by decide⟩ ⟨by decide, by decide⟩ rfl rfl rfl (Nat.le_of_ble_eq_true rfl) kd_Mo_lookAtBlocks_242 rfl (c1 := 0) (s1 := 0) rfl rfl (fun v w hp => ?_)
  obtain ⟨rfl, rfl⟩ := hp
  refine zk_stk (r' := []) rfl ?_
  refine zk_goto (tgt := 341) C kd_Mo_lookAtBlocks_245 (by decide) ?_
  exact zk_vret C hR kd_Mo_lookAtBlocks_341 rfl rfl (zd_rV e)
set_option maxHeartbeats 4000000 in
set_option maxRecDepth 100000 in
theorem zb_Mo_lookAtBlocks_234 {X : zkj_T} {S : zs_T} {P : ze_T} {l : Launch} {D : va_G} {sz0 : Nat} {rh : zs_H} (C : zk_C X km_Mo_lookAtBlocks (zs_G S l D sz0) { frames := 403, cells := 0, slots := 0, locals := 10070 } (ze_E P)) (hR : zkj_R X (zd_PV S rh) (none)) (h : zs_H) (x1 : Int32) (e : f_Mo_lookAtBlocks_234 h x1 = some rh) : zk_Ab X (zs_W S h) 0 0 234 [(1, .int x1)] [.ref (S.1 68)] := by
  unfold f_Mo_lookAtBlocks_234 at e
  refine zk_iconst (v := 1) C kd_Mo_lookAtBlocks_234 (by decide) rfl ?_
  refine zk_goto (tgt := 239) C kd_Mo_lookAtBlocks_235 (by decide) ?_
  refine zk_lvs (lv' := [(1, .int x1)]) [0] rfl ?_
  exact zb_Mo_lookAtBlocks_239 C hR h x1 1 e
set_option maxHeartbeats 4000000 in
set_option maxRecDepth 100000 in
theorem zb_Mo_lookAtBlocks_162 {X : zkj_T} {S : zs_T} {P : ze_T} {l : Launch} {D : va_G} {sz0 : Nat} {rh : zs_H} (C : zk_C X km_Mo_lookAtBlocks (zs_G S l D sz0) { frames := 403, cells := 0, slots := 0, locals := 10070 } (ze_E P)) (hR : zkj_R X (zd_PV S rh) (none)) (h : zs_H) (x1 : Int32) (y0 : Int32) (e : f_Mo_lookAtBlocks_162 h x1 y0 = some rh) : zk_Ab X (zs_W S h) 0 0 162 [(1, .int x1)] [.int y0, .ref (S.1 68)] := by
  unfold f_Mo_lookAtBlocks_162 at e
  refine zk_bipush (v := 13) C kd_Mo_lookAtBlocks_162 (by decide) rfl ?_
  refine zk_iload_n C kd_Mo_lookAtBlocks_164 rfl 0 rfl rfl ?_
  obtain ⟨h2, c1, e⟩ := zd_b e
  refine zs_callV (k := 68) (rn := { frames := 1, cells := 0, slots := 0, locals := 22 }) (As := [.int y0, .int 13, .int x1]) (rest := []) C (zc_Mo_rule h y0 13 x1 c1) ku_Mo_rule kw2260 kv_Mo_rule rfl ⟨by decide, by decide⟩ ⟨by decide, by decide⟩ rfl rfl rfl (Nat.le_of_ble_eq_true rfl) kd_Mo_lookAtBlocks_165 rfl (c1 := 0) (s1 := 0) rfl rfl (fun v w hp => ?_)
  obtain ⟨rfl, rfl⟩ := hp
  refine zk_stk (r' := []) rfl ?_
  refine zk_goto (tgt := 341) C kd_Mo_lookAtBlocks_168 (by decide) ?_
  exact zk_vret C hR kd_Mo_lookAtBlocks_341 rfl rfl (zd_rV e)
set_option maxHeartbeats 4000000 in
set_option maxRecDepth 100000 in
theorem zb_Mo_lookAtBlocks_157 {X : zkj_T} {S : zs_T} {P : ze_T} {l : Launch} {D : va_G} {sz0 : Nat} {rh : zs_H} (C : zk_C X km_Mo_lookAtBlocks (zs_G S l D sz0) { frames := 403, cells := 0, slots := 0, locals := 10070 } (ze_E P)) (hR : zkj_R X (zd_PV S rh) (none)) (h : zs_H) (x1 : Int32) (e : f_Mo_lookAtBlocks_157 h x1 = some rh) : zk_Ab X (zs_W S h) 0 0 157 [(1, .int x1)] [.ref (S.1 68)] := by
  unfold f_Mo_lookAtBlocks_157 at e
  refine zk_iconst (v := 1) C kd_Mo_lookAtBlocks_157 (by decide) rfl ?_
  refine zk_goto (tgt := 162) C kd_Mo_lookAtBlocks_158 (by decide) ?_
  refine zk_lvs (lv' := [(1, .int x1)]) [0] rfl ?_
  exact zb_Mo_lookAtBlocks_162 C hR h x1 1 e
set_option maxHeartbeats 4000000 in
set_option maxRecDepth 100000 in
theorem zb_Mo_lookAtBlocks_161 {X : zkj_T} {S : zs_T} {P : ze_T} {l : Launch} {D : va_G} {sz0 : Nat} {rh : zs_H} (C : zk_C X km_Mo_lookAtBlocks (zs_G S l D sz0) { frames := 403, cells := 0, slots := 0, locals := 10070 } (ze_E P)) (hR : zkj_R X (zd_PV S rh) (none)) (h : zs_H) (x1 : Int32) (e : f_Mo_lookAtBlocks_161 h x1 = some rh) : zk_Ab X (zs_W S h) 0 0 161 [(1, .int x1)] [.ref (S.1 68)] := by
  unfold f_Mo_lookAtBlocks_161 at e
  refine zk_iconst (v := 0) C kd_Mo_lookAtBlocks_161 (by decide) rfl ?_
  refine zk_lvs (lv' := [(1, .int x1)]) [0] rfl ?_
  exact zb_Mo_lookAtBlocks_162 C hR h x1 0 e
set_option maxHeartbeats 4000000 in
set_option maxRecDepth 100000 in
theorem zb_Mo_lookAtBlocks_134 {X : zkj_T} {S : zs_T} {P : ze_T} {l : Launch} {D : va_G} {sz0 : Nat} {rh : zs_H} (C : zk_C X km_Mo_lookAtBlocks (zs_G S l D sz0) { frames := 403, cells := 0, slots := 0, locals := 10070 } (ze_E P)) (hR : zkj_R X (zd_PV S rh) (none)) (h : zs_H) (x1 : Int32) (e : f_Mo_lookAtBlocks_134 h x1 = some rh) : zk_Ab X (zs_W S h) 0 0 134 [(0, .ref (S.1 68)), (1, .int x1)] [.ref (S.1 68)] := by
  unfold f_Mo_lookAtBlocks_134 at e
  refine zk_aload_n C kd_Mo_lookAtBlocks_134 rfl 0 rfl rfl ?_
  refine zs_get (v := .ref (S.1 86)) C 68 36 rfl rfl rfl rfl ki_Mo (by decide) kw1719 kd_Mo_lookAtBlocks_135 rfl ?_
  refine zk_aload_n C kd_Mo_lookAtBlocks_138 rfl 0 rfl rfl ?_
  refine zs_get (v := .int (h.1 68 54)) C 68 54 rfl rfl rfl rfl ki_Mo (by decide) kw1737 kd_Mo_lookAtBlocks_139 rfl ?_
  obtain ⟨q1, e⟩ := zd_g e
  refine zs_iald C 86 rfl (zd_vp q1) kd_Mo_lookAtBlocks_142 rfl ?_
  refine zk_iconst (v := 1) C kd_Mo_lookAtBlocks_143 (by decide) rfl ?_
  refine zk_icmp_ne (tgt := 161) C kd_Mo_lookAtBlocks_144 (by decide) rfl (fun b2 => ?_) (fun b2 => ?_)
  · replace e := zd_neg b2 e
    refine zk_lvs (lv' := [(1, .int x1)]) [1] rfl ?_
    exact zb_Mo_lookAtBlocks_161 C hR h x1 e
  · replace e := zd_pos b2 e
    refine zk_aload_n C kd_Mo_lookAtBlocks_147 rfl 0 rfl rfl ?_
    refine zs_get (v := .ref (S.1 74)) C 68 17 rfl rfl rfl rfl ki_Mo (by decide) kw1700 kd_Mo_lookAtBlocks_148 rfl ?_
    refine zk_iload_n C kd_Mo_lookAtBlocks_151 rfl 1 rfl rfl ?_
    obtain ⟨q3, e⟩ := zd_g e
    refine zs_iald C 74 rfl (zd_vp q3) kd_Mo_lookAtBlocks_152 rfl ?_
    refine zk_iconst (v := 2) C kd_Mo_lookAtBlocks_153 (by decide) rfl ?_
    refine zk_icmp_ne (tgt := 161) C kd_Mo_lookAtBlocks_154 (by decide) rfl (fun b4 => ?_) (fun b4 => ?_)
    · replace e := zd_neg b4 e
      refine zk_lvs (lv' := [(1, .int x1)]) [1] rfl ?_
      exact zb_Mo_lookAtBlocks_161 C hR h x1 e
    · replace e := zd_pos b4 e
      refine zk_lvs (lv' := [(1, .int x1)]) [1] rfl ?_
      exact zb_Mo_lookAtBlocks_157 C hR h x1 e
set_option maxHeartbeats 4000000 in
set_option maxRecDepth 100000 in
theorem zb_Mo_lookAtBlocks_97 {X : zkj_T} {S : zs_T} {P : ze_T} {l : Launch} {D : va_G} {sz0 : Nat} {rh : zs_H} (C : zk_C X km_Mo_lookAtBlocks (zs_G S l D sz0) { frames := 403, cells := 0, slots := 0, locals := 10070 } (ze_E P)) (hR : zkj_R X (zd_PV S rh) (none)) (h : zs_H) (x1 : Int32) (y0 : Int32) (e : f_Mo_lookAtBlocks_97 h x1 y0 = some rh) : zk_Ab X (zs_W S h) 0 0 97 [(0, .ref (S.1 68)), (1, .int x1)] [.int y0, .ref (S.1 68)] := by
  unfold f_Mo_lookAtBlocks_97 at e
  refine zk_bipush (v := 44) C kd_Mo_lookAtBlocks_97 (by decide) rfl ?_
  refine zk_iload_n C kd_Mo_lookAtBlocks_99 rfl 1 rfl rfl ?_
  obtain ⟨h2, c1, e⟩ := zd_b e
  refine zs_callV (k := 68) (rn := { frames := 1, cells := 0, slots := 0, locals := 22 }) (As := [.int y0, .int 44, .int x1]) (rest := []) C (zc_Mo_rule h y0 44 x1 c1) ku_Mo_rule kw2260 kv_Mo_rule rfl ⟨by decide, by decide⟩ ⟨by decide, by decide⟩ rfl rfl rfl (Nat.le_of_ble_eq_true rfl) kd_Mo_lookAtBlocks_100 rfl (c1 := 0) (s1 := 0) rfl rfl (fun v w hp => ?_)
  obtain ⟨rfl, rfl⟩ := hp
  refine zk_stk (r' := []) rfl ?_
  refine zk_aload_n C kd_Mo_lookAtBlocks_103 rfl 0 rfl rfl ?_
  refine zk_iload_n C kd_Mo_lookAtBlocks_104 rfl 1 rfl rfl ?_
  obtain ⟨h4, c3, e⟩ := zd_b e
  refine zs_callV (k := 68) (rn := { frames := 402, cells := 0, slots := 0, locals := 10049 }) (As := [.int x1]) (rest := []) C (zc_Mo_endBlock h2 x1 c3) ku_Mo_endBlock kw2302 kv_Mo_endBlock rfl ⟨by decide, by decide⟩ ⟨by decide, by decide⟩ rfl rfl rfl (Nat.le_of_ble_eq_true rfl) kd_Mo_lookAtBlocks_105 rfl (c1 := 0) (s1 := 0) rfl rfl (fun v w hp => ?_)
  obtain ⟨rfl, rfl⟩ := hp
  refine zk_stk (r' := []) rfl ?_
  refine zk_goto (tgt := 341) C kd_Mo_lookAtBlocks_108 (by decide) ?_
  exact zk_vret C hR kd_Mo_lookAtBlocks_341 rfl rfl (zd_rV e)
set_option maxHeartbeats 4000000 in
set_option maxRecDepth 100000 in
theorem zb_Mo_lookAtBlocks_96 {X : zkj_T} {S : zs_T} {P : ze_T} {l : Launch} {D : va_G} {sz0 : Nat} {rh : zs_H} (C : zk_C X km_Mo_lookAtBlocks (zs_G S l D sz0) { frames := 403, cells := 0, slots := 0, locals := 10070 } (ze_E P)) (hR : zkj_R X (zd_PV S rh) (none)) (h : zs_H) (x1 : Int32) (e : f_Mo_lookAtBlocks_96 h x1 = some rh) : zk_Ab X (zs_W S h) 0 0 96 [(0, .ref (S.1 68)), (1, .int x1)] [.ref (S.1 68)] := by
  unfold f_Mo_lookAtBlocks_96 at e
  refine zk_iconst (v := 0) C kd_Mo_lookAtBlocks_96 (by decide) rfl ?_
  refine zk_lvs (lv' := [(0, .ref (S.1 68)), (1, .int x1)]) [0, 1] rfl ?_
  exact zb_Mo_lookAtBlocks_97 C hR h x1 0 e
set_option maxHeartbeats 4000000 in
set_option maxRecDepth 100000 in
theorem zc_Mo_lookAtBlocks {l : Launch} {D : va_G} {sz0 : Nat} {S : zs_T} {P : ze_T} (h : zs_H) (x1 : Int32) {rh : zs_H} (e : f_Mo_lookAtBlocks h x1 = some rh) : zk_Sp (zs_G S l D sz0) (ze_E P) km_Mo_lookAtBlocks { frames := 403, cells := 0, slots := 0, locals := 10070 } [.ref (S.1 68), .int x1] (zs_W S h) (zd_PV S rh) := by
  refine zk_met ku_Mo_lookAtBlocks (Nat.le_of_ble_eq_true rfl) (ze_Em P) ?_
  intro X C hR
  refine zk_lvs (lv' := [(0, .ref (S.1 68)), (1, .int x1)]) [0, 1] rfl ?_
  unfold f_Mo_lookAtBlocks at e
  refine zk_aload_n C kd_Mo_lookAtBlocks_0 rfl 0 rfl rfl ?_
  refine zs_get (v := .ref (S.1 72)) C 68 15 rfl rfl rfl rfl ki_Mo (by decide) kw1698 kd_Mo_lookAtBlocks_1 rfl ?_
  refine zk_iload_n C kd_Mo_lookAtBlocks_4 rfl 1 rfl rfl ?_
  obtain ⟨q1, e⟩ := zd_g e
  refine zs_iald C 72 rfl (zd_vp q1) kd_Mo_lookAtBlocks_5 rfl ?_
  by_cases b2 : (h.2.1 72 x1.toNatClampNeg) = 0
  · replace e := zd_pos b2 e
    refine zk_tableIn (tgt := 60) C kd_Mo_lookAtBlocks_6 (by rw [b2]; decide) (by rw [b2]; decide) (by rw [b2]; rfl) (by decide) ?_
    refine zk_aload_n C kd_Mo_lookAtBlocks_60 rfl 0 rfl rfl ?_
    refine zk_iload_n C kd_Mo_lookAtBlocks_61 rfl 1 rfl rfl ?_
    obtain ⟨h4, c3, e⟩ := zd_b e
    refine zs_callV (k := 68) (rn := { frames := 2, cells := 0, slots := 0, locals := 45 }) (As := [.int x1]) (rest := []) C (zc_Mo_lookAtText h x1 c3) ku_Mo_lookAtText kw2294 kv_Mo_lookAtText rfl ⟨by decide, by decide⟩ ⟨by decide, by decide⟩ rfl rfl rfl (Nat.le_of_ble_eq_true rfl) kd_Mo_lookAtBlocks_62 rfl (c1 := 0) (s1 := 0) rfl rfl (fun v w hp => ?_)
    obtain ⟨rfl, rfl⟩ := hp
    refine zk_stk (r' := []) rfl ?_
    refine zk_goto (tgt := 341) C kd_Mo_lookAtBlocks_65 (by decide) ?_
    exact zk_vret C hR kd_Mo_lookAtBlocks_341 rfl rfl (zd_rV e)
  replace e := zd_neg b2 e
  by_cases b5 : (h.2.1 72 x1.toNatClampNeg) = 1
  · replace e := zd_pos b5 e
    refine zk_tableIn (tgt := 68) C kd_Mo_lookAtBlocks_6 (by rw [b5]; decide) (by rw [b5]; decide) (by rw [b5]; rfl) (by decide) ?_
    refine zk_aload_n C kd_Mo_lookAtBlocks_68 rfl 0 rfl rfl ?_
    refine zk_aload_n C kd_Mo_lookAtBlocks_69 rfl 0 rfl rfl ?_
    refine zs_get (v := .ref (S.1 72)) C 68 15 rfl rfl rfl rfl ki_Mo (by decide) kw1698 kd_Mo_lookAtBlocks_70 rfl ?_
    refine zk_iload_n C kd_Mo_lookAtBlocks_73 rfl 1 rfl rfl ?_
    refine zs_iald C 72 rfl (zd_vp q1) kd_Mo_lookAtBlocks_74 rfl ?_
    refine zk_iconst (v := 1) C kd_Mo_lookAtBlocks_75 (by decide) rfl ?_
    refine zk_icmp_ne (tgt := 96) C kd_Mo_lookAtBlocks_76 (by decide) rfl (fun b6 => ?_) (fun b6 => ?_)
    · replace e := zd_neg b6 e
      refine zk_lvs (lv' := [(0, .ref (S.1 68)), (1, .int x1)]) [0, 1] rfl ?_
      exact zb_Mo_lookAtBlocks_96 C hR h x1 e
    · replace e := zd_pos b6 e
      refine zk_aload_n C kd_Mo_lookAtBlocks_79 rfl 0 rfl rfl ?_
      refine zk_aload_n C kd_Mo_lookAtBlocks_80 rfl 0 rfl rfl ?_
      refine zs_get (v := .int (h.1 68 54)) C 68 54 rfl rfl rfl rfl ki_Mo (by decide) kw1737 kd_Mo_lookAtBlocks_81 rfl ?_
      obtain ⟨v8, c7, e⟩ := zd_b e
      refine zs_callV (k := 68) (rn := { frames := 0, cells := 0, slots := 0, locals := 0 }) (As := [.int (h.1 68 54)]) (rest := [.ref (S.1 68)]) C (zc_Mo_inputs h (h.1 68 54) c7) ku_Mo_inputs kw2298 kv_Mo_inputs rfl ⟨by decide, by decide⟩ ⟨by decide, by decide⟩ rfl rfl rfl (Nat.le_of_ble_eq_true rfl) kd_Mo_lookAtBlocks_84 rfl (c1 := 0) (s1 := 0) rfl rfl (fun v w hp => ?_)
      obtain ⟨rfl, rfl⟩ := hp
      refine zk_stk (r' := [.int v8, .ref (S.1 68)]) rfl ?_
      refine zk_bipush (v := 8) C kd_Mo_lookAtBlocks_87 (by decide) rfl ?_
      refine zk_icmp_le (tgt := 96) C kd_Mo_lookAtBlocks_89 (by decide) rfl (fun b9 => ?_) (fun b9 => ?_)
      · replace e := zd_pos b9 e
        refine zk_lvs (lv' := [(0, .ref (S.1 68)), (1, .int x1)]) [0, 1] rfl ?_
        exact zb_Mo_lookAtBlocks_96 C hR h x1 e
      · replace e := zd_neg b9 e
        refine zk_iconst (v := 1) C kd_Mo_lookAtBlocks_92 (by decide) rfl ?_
        refine zk_goto (tgt := 97) C kd_Mo_lookAtBlocks_93 (by decide) ?_
        refine zk_lvs (lv' := [(0, .ref (S.1 68)), (1, .int x1)]) [0, 1] rfl ?_
        exact zb_Mo_lookAtBlocks_97 C hR h x1 1 e
  replace e := zd_neg b5 e
  by_cases b10 : (h.2.1 72 x1.toNatClampNeg) = 2
  · replace e := zd_pos b10 e
    refine zk_tableIn (tgt := 68) C kd_Mo_lookAtBlocks_6 (by rw [b10]; decide) (by rw [b10]; decide) (by rw [b10]; rfl) (by decide) ?_
    refine zk_aload_n C kd_Mo_lookAtBlocks_68 rfl 0 rfl rfl ?_
    refine zk_aload_n C kd_Mo_lookAtBlocks_69 rfl 0 rfl rfl ?_
    refine zs_get (v := .ref (S.1 72)) C 68 15 rfl rfl rfl rfl ki_Mo (by decide) kw1698 kd_Mo_lookAtBlocks_70 rfl ?_
    refine zk_iload_n C kd_Mo_lookAtBlocks_73 rfl 1 rfl rfl ?_
    refine zs_iald C 72 rfl (zd_vp q1) kd_Mo_lookAtBlocks_74 rfl ?_
    refine zk_iconst (v := 1) C kd_Mo_lookAtBlocks_75 (by decide) rfl ?_
    refine zk_icmp_ne (tgt := 96) C kd_Mo_lookAtBlocks_76 (by decide) rfl (fun b11 => ?_) (fun b11 => ?_)
    · replace e := zd_neg b11 e
      refine zk_lvs (lv' := [(0, .ref (S.1 68)), (1, .int x1)]) [0, 1] rfl ?_
      exact zb_Mo_lookAtBlocks_96 C hR h x1 e
    · replace e := zd_pos b11 e
      refine zk_aload_n C kd_Mo_lookAtBlocks_79 rfl 0 rfl rfl ?_
      refine zk_aload_n C kd_Mo_lookAtBlocks_80 rfl 0 rfl rfl ?_
      refine zs_get (v := .int (h.1 68 54)) C 68 54 rfl rfl rfl rfl ki_Mo (by decide) kw1737 kd_Mo_lookAtBlocks_81 rfl ?_
      obtain ⟨v13, c12, e⟩ := zd_b e
      refine zs_callV (k := 68) (rn := { frames := 0, cells := 0, slots := 0, locals := 0 }) (As := [.int (h.1 68 54)]) (rest := [.ref (S.1 68)]) C (zc_Mo_inputs h (h.1 68 54) c12) ku_Mo_inputs kw2298 kv_Mo_inputs rfl ⟨by decide, by decide⟩ ⟨by decide, by decide⟩ rfl rfl rfl (Nat.le_of_ble_eq_true rfl) kd_Mo_lookAtBlocks_84 rfl (c1 := 0) (s1 := 0) rfl rfl (fun v w hp => ?_)
      obtain ⟨rfl, rfl⟩ := hp
      refine zk_stk (r' := [.int v13, .ref (S.1 68)]) rfl ?_
      refine zk_bipush (v := 8) C kd_Mo_lookAtBlocks_87 (by decide) rfl ?_
      refine zk_icmp_le (tgt := 96) C kd_Mo_lookAtBlocks_89 (by decide) rfl (fun b14 => ?_) (fun b14 => ?_)
      · replace e := zd_pos b14 e
        refine zk_lvs (lv' := [(0, .ref (S.1 68)), (1, .int x1)]) [0, 1] rfl ?_
        exact zb_Mo_lookAtBlocks_96 C hR h x1 e
      · replace e := zd_neg b14 e
        refine zk_iconst (v := 1) C kd_Mo_lookAtBlocks_92 (by decide) rfl ?_
        refine zk_goto (tgt := 97) C kd_Mo_lookAtBlocks_93 (by decide) ?_
        refine zk_lvs (lv' := [(0, .ref (S.1 68)), (1, .int x1)]) [0, 1] rfl ?_
        exact zb_Mo_lookAtBlocks_97 C hR h x1 1 e
  replace e := zd_neg b10 e
  by_cases b15 : (h.2.1 72 x1.toNatClampNeg) = 3
  · replace e := zd_pos b15 e
    refine zk_tableIn (tgt := 68) C kd_Mo_lookAtBlocks_6 (by rw [b15]; decide) (by rw [b15]; decide) (by rw [b15]; rfl) (by decide) ?_
    refine zk_aload_n C kd_Mo_lookAtBlocks_68 rfl 0 rfl rfl ?_
    refine zk_aload_n C kd_Mo_lookAtBlocks_69 rfl 0 rfl rfl ?_
    refine zs_get (v := .ref (S.1 72)) C 68 15 rfl rfl rfl rfl ki_Mo (by decide) kw1698 kd_Mo_lookAtBlocks_70 rfl ?_
    refine zk_iload_n C kd_Mo_lookAtBlocks_73 rfl 1 rfl rfl ?_
    refine zs_iald C 72 rfl (zd_vp q1) kd_Mo_lookAtBlocks_74 rfl ?_
    refine zk_iconst (v := 1) C kd_Mo_lookAtBlocks_75 (by decide) rfl ?_
    refine zk_icmp_ne (tgt := 96) C kd_Mo_lookAtBlocks_76 (by decide) rfl (fun b16 => ?_) (fun b16 => ?_)
    · replace e := zd_neg b16 e
      refine zk_lvs (lv' := [(0, .ref (S.1 68)), (1, .int x1)]) [0, 1] rfl ?_
      exact zb_Mo_lookAtBlocks_96 C hR h x1 e
    · replace e := zd_pos b16 e
      refine zk_aload_n C kd_Mo_lookAtBlocks_79 rfl 0 rfl rfl ?_
      refine zk_aload_n C kd_Mo_lookAtBlocks_80 rfl 0 rfl rfl ?_
      refine zs_get (v := .int (h.1 68 54)) C 68 54 rfl rfl rfl rfl ki_Mo (by decide) kw1737 kd_Mo_lookAtBlocks_81 rfl ?_
      obtain ⟨v18, c17, e⟩ := zd_b e
      refine zs_callV (k := 68) (rn := { frames := 0, cells := 0, slots := 0, locals := 0 }) (As := [.int (h.1 68 54)]) (rest := [.ref (S.1 68)]) C (zc_Mo_inputs h (h.1 68 54) c17) ku_Mo_inputs kw2298 kv_Mo_inputs rfl ⟨by decide, by decide⟩ ⟨by decide, by decide⟩ rfl rfl rfl (Nat.le_of_ble_eq_true rfl) kd_Mo_lookAtBlocks_84 rfl (c1 := 0) (s1 := 0) rfl rfl (fun v w hp => ?_)
      obtain ⟨rfl, rfl⟩ := hp
      refine zk_stk (r' := [.int v18, .ref (S.1 68)]) rfl ?_
      refine zk_bipush (v := 8) C kd_Mo_lookAtBlocks_87 (by decide) rfl ?_
      refine zk_icmp_le (tgt := 96) C kd_Mo_lookAtBlocks_89 (by decide) rfl (fun b19 => ?_) (fun b19 => ?_)
      · replace e := zd_pos b19 e
        refine zk_lvs (lv' := [(0, .ref (S.1 68)), (1, .int x1)]) [0, 1] rfl ?_
        exact zb_Mo_lookAtBlocks_96 C hR h x1 e
      · replace e := zd_neg b19 e
        refine zk_iconst (v := 1) C kd_Mo_lookAtBlocks_92 (by decide) rfl ?_
        refine zk_goto (tgt := 97) C kd_Mo_lookAtBlocks_93 (by decide) ?_
        refine zk_lvs (lv' := [(0, .ref (S.1 68)), (1, .int x1)]) [0, 1] rfl ?_
        exact zb_Mo_lookAtBlocks_97 C hR h x1 1 e
  replace e := zd_neg b15 e
  by_cases b20 : (h.2.1 72 x1.toNatClampNeg) = 4
  · replace e := zd_pos b20 e
    refine zk_tableIn (tgt := 111) C kd_Mo_lookAtBlocks_6 (by rw [b20]; decide) (by rw [b20]; decide) (by rw [b20]; rfl) (by decide) ?_
    refine zk_aload_n C kd_Mo_lookAtBlocks_111 rfl 0 rfl rfl ?_
    refine zk_aload_n C kd_Mo_lookAtBlocks_112 rfl 0 rfl rfl ?_
    refine zs_get (v := .ref (S.1 86)) C 68 36 rfl rfl rfl rfl ki_Mo (by decide) kw1719 kd_Mo_lookAtBlocks_113 rfl ?_
    refine zk_aload_n C kd_Mo_lookAtBlocks_116 rfl 0 rfl rfl ?_
    refine zs_get (v := .int (h.1 68 54)) C 68 54 rfl rfl rfl rfl ki_Mo (by decide) kw1737 kd_Mo_lookAtBlocks_117 rfl ?_
    obtain ⟨q21, e⟩ := zd_g e
    refine zs_iald C 86 rfl (zd_vp q21) kd_Mo_lookAtBlocks_120 rfl ?_
    refine zk_iconst (v := 3) C kd_Mo_lookAtBlocks_121 (by decide) rfl ?_
    refine zk_icmp_ne (tgt := 134) C kd_Mo_lookAtBlocks_122 (by decide) rfl (fun b22 => ?_) (fun b22 => ?_)
    · replace e := zd_neg b22 e
      refine zk_lvs (lv' := [(0, .ref (S.1 68)), (1, .int x1)]) [0, 1] rfl ?_
      exact zb_Mo_lookAtBlocks_134 C hR h x1 e
    · replace e := zd_pos b22 e
      refine zk_aload_n C kd_Mo_lookAtBlocks_125 rfl 0 rfl rfl ?_
      refine zs_get (v := .ref (S.1 74)) C 68 17 rfl rfl rfl rfl ki_Mo (by decide) kw1700 kd_Mo_lookAtBlocks_126 rfl ?_
      refine zk_iload_n C kd_Mo_lookAtBlocks_129 rfl 1 rfl rfl ?_
      refine zs_iald C 74 rfl (zd_vp q1) kd_Mo_lookAtBlocks_130 rfl ?_
      refine zk_if_ne (tgt := 157) C kd_Mo_lookAtBlocks_131 (by decide) rfl (fun b23 => ?_) (fun b23 => ?_)
      · replace e := zd_neg b23 e
        refine zk_lvs (lv' := [(1, .int x1)]) [1] rfl ?_
        exact zb_Mo_lookAtBlocks_157 C hR h x1 e
      · replace e := zd_pos b23 e
        refine zk_lvs (lv' := [(0, .ref (S.1 68)), (1, .int x1)]) [0, 1] rfl ?_
        exact zb_Mo_lookAtBlocks_134 C hR h x1 e
  replace e := zd_neg b20 e
  by_cases b24 : (h.2.1 72 x1.toNatClampNeg) = 5
  · replace e := zd_pos b24 e
    refine zk_tableIn (tgt := 171) C kd_Mo_lookAtBlocks_6 (by rw [b24]; decide) (by rw [b24]; decide) (by rw [b24]; rfl) (by decide) ?_
    refine zk_aload_n C kd_Mo_lookAtBlocks_171 rfl 0 rfl rfl ?_
    refine zk_iload_n C kd_Mo_lookAtBlocks_172 rfl 1 rfl rfl ?_
    obtain ⟨h26, c25, e⟩ := zd_b e
    refine zs_callV (k := 68) (rn := { frames := 6, cells := 0, slots := 0, locals := 133 }) (As := [.int x1]) (rest := []) C (zc_Mo_lookAtDeclaration h x1 c25) ku_Mo_lookAtDeclaration kw2310 kv_Mo_lookAtDeclaration rfl ⟨by decide, by decide⟩ ⟨by decide, by decide⟩ rfl rfl rfl (Nat.le_of_ble_eq_true rfl) kd_Mo_lookAtBlocks_173 rfl (c1 := 0) (s1 := 0) rfl rfl (fun v w hp => ?_)
    obtain ⟨rfl, rfl⟩ := hp
    refine zk_stk (r' := []) rfl ?_
    refine zk_goto (tgt := 341) C kd_Mo_lookAtBlocks_176 (by decide) ?_
    exact zk_vret C hR kd_Mo_lookAtBlocks_341 rfl rfl (zd_rV e)
  replace e := zd_neg b24 e
  by_cases b27 : (h.2.1 72 x1.toNatClampNeg) = 6
  · replace e := zd_pos b27 e
    refine zk_tableIn (tgt := 179) C kd_Mo_lookAtBlocks_6 (by rw [b27]; decide) (by rw [b27]; decide) (by rw [b27]; rfl) (by decide) ?_
    refine zk_aload_n C kd_Mo_lookAtBlocks_179 rfl 0 rfl rfl ?_
    refine zk_iload_n C kd_Mo_lookAtBlocks_180 rfl 1 rfl rfl ?_
    obtain ⟨h29, c28, e⟩ := zd_b e
    refine zs_callV (k := 68) (rn := { frames := 6, cells := 0, slots := 0, locals := 132 }) (As := [.int x1]) (rest := []) C (zc_Mo_lookAtName h x1 c28) ku_Mo_lookAtName kw2323 kv_Mo_lookAtName rfl ⟨by decide, by decide⟩ ⟨by decide, by decide⟩ rfl rfl rfl (Nat.le_of_ble_eq_true rfl) kd_Mo_lookAtBlocks_181 rfl (c1 := 0) (s1 := 0) rfl rfl (fun v w hp => ?_)
    obtain ⟨rfl, rfl⟩ := hp
    refine zk_stk (r' := []) rfl ?_
    refine zk_goto (tgt := 341) C kd_Mo_lookAtBlocks_184 (by decide) ?_
    exact zk_vret C hR kd_Mo_lookAtBlocks_341 rfl rfl (zd_rV e)
  replace e := zd_neg b27 e
  by_cases b30 : (h.2.1 72 x1.toNatClampNeg) = 7
  · replace e := zd_pos b30 e
    refine zk_tableIn (tgt := 187) C kd_Mo_lookAtBlocks_6 (by rw [b30]; decide) (by rw [b30]; decide) (by rw [b30]; rfl) (by decide) ?_
    refine zk_aload_n C kd_Mo_lookAtBlocks_187 rfl 0 rfl rfl ?_
    refine zk_aload_n C kd_Mo_lookAtBlocks_188 rfl 0 rfl rfl ?_
    refine zs_get (v := .ref (S.1 86)) C 68 36 rfl rfl rfl rfl ki_Mo (by decide) kw1719 kd_Mo_lookAtBlocks_189 rfl ?_
    refine zk_aload_n C kd_Mo_lookAtBlocks_192 rfl 0 rfl rfl ?_
    refine zs_get (v := .int (h.1 68 54)) C 68 54 rfl rfl rfl rfl ki_Mo (by decide) kw1737 kd_Mo_lookAtBlocks_193 rfl ?_
    obtain ⟨q31, e⟩ := zd_g e
    refine zs_iald C 86 rfl (zd_vp q31) kd_Mo_lookAtBlocks_196 rfl ?_
    refine zk_iconst (v := 3) C kd_Mo_lookAtBlocks_197 (by decide) rfl ?_
    refine zk_icmp_ne (tgt := 234) C kd_Mo_lookAtBlocks_198 (by decide) rfl (fun b32 => ?_) (fun b32 => ?_)
    · replace e := zd_neg b32 e
      refine zk_lvs (lv' := [(1, .int x1)]) [1] rfl ?_
      exact zb_Mo_lookAtBlocks_234 C hR h x1 e
    · replace e := zd_pos b32 e
      refine zk_aload_n C kd_Mo_lookAtBlocks_201 rfl 0 rfl rfl ?_
      refine zs_get (v := .ref (S.1 78)) C 68 21 rfl rfl rfl rfl ki_Mo (by decide) kw1704 kd_Mo_lookAtBlocks_202 rfl ?_
      refine zk_aload_n C kd_Mo_lookAtBlocks_205 rfl 0 rfl rfl ?_
      refine zs_get (v := .ref (S.1 76)) C 68 19 rfl rfl rfl rfl ki_Mo (by decide) kw1702 kd_Mo_lookAtBlocks_206 rfl ?_
      refine zk_aload_n C kd_Mo_lookAtBlocks_209 rfl 0 rfl rfl ?_
      refine zs_get (v := .ref (S.1 75)) C 68 18 rfl rfl rfl rfl ki_Mo (by decide) kw1701 kd_Mo_lookAtBlocks_210 rfl ?_
      refine zk_iload_n C kd_Mo_lookAtBlocks_213 rfl 1 rfl rfl ?_
      refine zs_iald C 75 rfl (zd_vp q1) kd_Mo_lookAtBlocks_214 rfl ?_
      obtain ⟨q33, e⟩ := zd_g e
      refine zs_iald C 76 rfl (zd_vp q33) kd_Mo_lookAtBlocks_215 rfl ?_
      obtain ⟨q34, e⟩ := zd_g e
      refine zs_iald C 78 rfl (zd_vp q34) kd_Mo_lookAtBlocks_216 rfl ?_
      refine zk_iload_n C kd_Mo_lookAtBlocks_217 rfl 1 rfl rfl ?_
      refine zk_icmp_ne (tgt := 234) C kd_Mo_lookAtBlocks_218 (by decide) rfl (fun b35 => ?_) (fun b35 => ?_)
      · replace e := zd_neg b35 e
        refine zk_lvs (lv' := [(1, .int x1)]) [1] rfl ?_
        exact zb_Mo_lookAtBlocks_234 C hR h x1 e
      · replace e := zd_pos b35 e
        refine zk_aload_n C kd_Mo_lookAtBlocks_221 rfl 0 rfl rfl ?_
        refine zk_aload_n C kd_Mo_lookAtBlocks_222 rfl 0 rfl rfl ?_
        refine zs_get (v := .ref (S.1 74)) C 68 17 rfl rfl rfl rfl ki_Mo (by decide) kw1700 kd_Mo_lookAtBlocks_223 rfl ?_
        refine zk_iload_n C kd_Mo_lookAtBlocks_226 rfl 1 rfl rfl ?_
        refine zs_iald C 74 rfl (zd_vp q1) kd_Mo_lookAtBlocks_227 rfl ?_
        obtain ⟨v37, c36, e⟩ := zd_b e
        refine zs_callV (k := 68) (rn := { frames := 0, cells := 0, slots := 0, locals := 0 }) (As := [.int (h.2.1 74 x1.toNatClampNeg)]) (rest := [.ref (S.1 68)]) C (zc_Mo_isPlaceTaken h (h.2.1 74 x1.toNatClampNeg) c36) ku_Mo_isPlaceTaken kw2331 kv_Mo_isPlaceTaken rfl ⟨by decide, by decide⟩ ⟨by decide, by decide⟩ rfl rfl rfl (Nat.le_of_ble_eq_true rfl) kd_Mo_lookAtBlocks_228 rfl (c1 := 0) (s1 := 0) rfl rfl (fun v w hp => ?_)
        obtain ⟨rfl, rfl, z38⟩ := hp
        refine zk_stk (r' := [.int v37, .ref (S.1 68)]) rfl ?_
        refine zk_if_eq (tgt := 238) C kd_Mo_lookAtBlocks_231 (by decide) rfl (fun b39 => ?_) (fun b39 => ?_)
        · replace e := zd_pos b39 e
          refine zk_iconst (v := 0) C kd_Mo_lookAtBlocks_238 (by decide) rfl ?_
          refine zk_lvs (lv' := [(1, .int x1)]) [1] rfl ?_
          exact zb_Mo_lookAtBlocks_239 C hR h x1 0 e
        · replace e := zd_neg b39 e
          refine zk_lvs (lv' := [(1, .int x1)]) [1] rfl ?_
          exact zb_Mo_lookAtBlocks_234 C hR h x1 e
  replace e := zd_neg b30 e
  by_cases b40 : (h.2.1 72 x1.toNatClampNeg) = 8
  · replace e := zd_pos b40 e
    refine zk_tableIn (tgt := 248) C kd_Mo_lookAtBlocks_6 (by rw [b40]; decide) (by rw [b40]; decide) (by rw [b40]; rfl) (by decide) ?_
    refine zk_aload_n C kd_Mo_lookAtBlocks_248 rfl 0 rfl rfl ?_
    refine zs_get (v := .ref (S.1 100)) C 68 51 rfl rfl rfl rfl ki_Mo (by decide) kw1734 kd_Mo_lookAtBlocks_249 rfl ?_
    refine zk_iload_n C kd_Mo_lookAtBlocks_252 rfl 1 rfl rfl ?_
    refine zk_aload_n C kd_Mo_lookAtBlocks_253 rfl 0 rfl rfl ?_
    refine zs_get (v := .ref (S.1 74)) C 68 17 rfl rfl rfl rfl ki_Mo (by decide) kw1700 kd_Mo_lookAtBlocks_254 rfl ?_
    refine zk_iload_n C kd_Mo_lookAtBlocks_257 rfl 1 rfl rfl ?_
    refine zs_iald C 74 rfl (zd_vp q1) kd_Mo_lookAtBlocks_258 rfl ?_
    refine zs_iast C 100 rfl (zd_vp q1) kd_Mo_lookAtBlocks_259 rfl ?_
    refine zk_goto (tgt := 341) C kd_Mo_lookAtBlocks_260 (by decide) ?_
    exact zk_vret C hR kd_Mo_lookAtBlocks_341 rfl rfl (zd_rV e)
  replace e := zd_neg b40 e
  by_cases b41 : (h.2.1 72 x1.toNatClampNeg) = 9
  · replace e := zd_pos b41 e
    refine zk_tableIn (tgt := 263) C kd_Mo_lookAtBlocks_6 (by rw [b41]; decide) (by rw [b41]; decide) (by rw [b41]; rfl) (by decide) ?_
    refine zk_aload_n C kd_Mo_lookAtBlocks_263 rfl 0 rfl rfl ?_
    refine zk_iload_n C kd_Mo_lookAtBlocks_264 rfl 1 rfl rfl ?_
    obtain ⟨h43, c42, e⟩ := zd_b e
    refine zs_callV (k := 68) (rn := { frames := 2, cells := 0, slots := 0, locals := 45 }) (As := [.int x1]) (rest := []) C (zc_Mo_lookAtArray h x1 c42) ku_Mo_lookAtArray kw2335 kv_Mo_lookAtArray rfl ⟨by decide, by decide⟩ ⟨by decide, by decide⟩ rfl rfl rfl (Nat.le_of_ble_eq_true rfl) kd_Mo_lookAtBlocks_265 rfl (c1 := 0) (s1 := 0) rfl rfl (fun v w hp => ?_)
    obtain ⟨rfl, rfl⟩ := hp
    refine zk_stk (r' := []) rfl ?_
    refine zk_goto (tgt := 341) C kd_Mo_lookAtBlocks_268 (by decide) ?_
    exact zk_vret C hR kd_Mo_lookAtBlocks_341 rfl rfl (zd_rV e)
  replace e := zd_neg b41 e
  refine zk_tableOut (tgt := 271) C kd_Mo_lookAtBlocks_6 (by have := lv_neT b2 (a := 0) (by decide); have := lv_neT b5 (a := 1) (by decide); have := lv_neT b10 (a := 2) (by decide); have := lv_neT b15 (a := 3) (by decide); have := lv_neT b20 (a := 4) (by decide); have := lv_neT b24 (a := 5) (by decide); have := lv_neT b27 (a := 6) (by decide); have := lv_neT b30 (a := 7) (by decide); have := lv_neT b40 (a := 8) (by decide); have := lv_neT b41 (a := 9) (by decide); omega) (by decide) ?_
  refine zk_aload_n C kd_Mo_lookAtBlocks_271 rfl 0 rfl rfl ?_
  refine zk_aload_n C kd_Mo_lookAtBlocks_272 rfl 0 rfl rfl ?_
  refine zs_get (v := .ref (S.1 74)) C 68 17 rfl rfl rfl rfl ki_Mo (by decide) kw1700 kd_Mo_lookAtBlocks_273 rfl ?_
  refine zk_iload_n C kd_Mo_lookAtBlocks_276 rfl 1 rfl rfl ?_
  refine zs_iald C 74 rfl (zd_vp q1) kd_Mo_lookAtBlocks_277 rfl ?_
  refine zk_aload_n C kd_Mo_lookAtBlocks_278 rfl 0 rfl rfl ?_
  refine zs_get (v := .int (h.1 68 54)) C 68 54 rfl rfl rfl rfl ki_Mo (by decide) kw1737 kd_Mo_lookAtBlocks_279 rfl ?_
  obtain ⟨v45, c44, e⟩ := zd_b e
  refine zs_callV (k := 68) (rn := { frames := 0, cells := 0, slots := 0, locals := 0 }) (As := [.int (h.2.1 74 x1.toNatClampNeg), .int (h.1 68 54)]) (rest := []) C (zc_Mo_blockNamed h (h.2.1 74 x1.toNatClampNeg) (h.1 68 54) c44) ku_Mo_blockNamed kw2278 kv_Mo_blockNamed rfl ⟨by decide, by decide⟩ ⟨by decide, by decide⟩ rfl rfl rfl (Nat.le_of_ble_eq_true rfl) kd_Mo_lookAtBlocks_282 rfl (c1 := 0) (s1 := 0) rfl rfl (fun v w hp => ?_)
  obtain ⟨rfl, rfl⟩ := hp
  refine zk_stk (r' := [.int v45]) rfl ?_
  refine zk_istore_n (lv' := [(2, _), (0, _), (1, _)]) C kd_Mo_lookAtBlocks_285 rfl (by decide) rfl rfl ?_
  refine zk_aload_n C kd_Mo_lookAtBlocks_286 rfl 1 rfl rfl ?_
  refine zk_aload_n C kd_Mo_lookAtBlocks_287 rfl 1 rfl rfl ?_
  refine zs_get (v := .ref (S.1 86)) C 68 36 rfl rfl rfl rfl ki_Mo (by decide) kw1719 kd_Mo_lookAtBlocks_288 rfl ?_
  refine zk_aload_n C kd_Mo_lookAtBlocks_291 rfl 1 rfl rfl ?_
  refine zs_get (v := .int (h.1 68 54)) C 68 54 rfl rfl rfl rfl ki_Mo (by decide) kw1737 kd_Mo_lookAtBlocks_292 rfl ?_
  obtain ⟨q46, e⟩ := zd_g e
  refine zs_iald C 86 rfl (zd_vp q46) kd_Mo_lookAtBlocks_295 rfl ?_
  refine zk_iconst (v := 1) C kd_Mo_lookAtBlocks_296 (by decide) rfl ?_
  refine zk_icmp_eq (tgt := 330) C kd_Mo_lookAtBlocks_297 (by decide) rfl (fun b47 => ?_) (fun b47 => ?_)
  · replace e := zd_pos b47 e
    refine zk_lvs (lv' := [(1, .int x1)]) [2] rfl ?_
    exact zb_Mo_lookAtBlocks_330 C hR h x1 e
  · replace e := zd_neg b47 e
    refine zk_aload_n C kd_Mo_lookAtBlocks_300 rfl 1 rfl rfl ?_
    refine ze_ldcSw (i := 10) C (zd_str 10 rfl) kd_Mo_lookAtBlocks_301 rfl ?_
    refine zk_aload_n C kd_Mo_lookAtBlocks_304 rfl 1 rfl rfl ?_
    refine zs_get (v := .ref (S.1 74)) C 68 17 rfl rfl rfl rfl ki_Mo (by decide) kw1700 kd_Mo_lookAtBlocks_305 rfl ?_
    refine zk_iload_n C kd_Mo_lookAtBlocks_308 rfl 2 rfl rfl ?_
    refine zs_iald C 74 rfl (zd_vp q1) kd_Mo_lookAtBlocks_309 rfl ?_
    obtain ⟨v49, c48, e⟩ := zd_b e
    refine zs_callV (k := 68) (rn := { frames := 4, cells := 0, slots := 0, locals := 85 }) (As := [.ref (P.1 10), .int (h.2.1 74 x1.toNatClampNeg)]) (rest := [.ref (S.1 68)]) C (zc_Mo_wordOf_s10 h (h.2.1 74 x1.toNatClampNeg) c48) ku_Mo_wordOf kw2273 kv_Mo_wordOf rfl ⟨by decide, by decide⟩ ⟨by decide, by decide⟩ rfl rfl rfl (Nat.le_of_ble_eq_true rfl) kd_Mo_lookAtBlocks_310 rfl (c1 := 0) (s1 := 0) rfl rfl (fun v w hp => ?_)
    obtain ⟨rfl, rfl⟩ := hp
    refine zk_stk (r' := [.int v49, .ref (S.1 68)]) rfl ?_
    refine zk_if_ge (tgt := 334) C kd_Mo_lookAtBlocks_313 (by decide) rfl (fun b50 => ?_) (fun b50 => ?_)
    · replace e := zd_pos b50 e
      refine zk_lvs (lv' := [(1, .int x1)]) [2] rfl ?_
      exact zb_Mo_lookAtBlocks_334 C hR h x1 e
    · replace e := zd_neg b50 e
      refine zk_iload_n C kd_Mo_lookAtBlocks_316 rfl 0 rfl rfl ?_
      refine zk_if_lt (tgt := 330) C kd_Mo_lookAtBlocks_317 (by decide) rfl (fun b51 => ?_) (fun b51 => ?_)
      · replace e := zd_pos b51 e
        refine zk_lvs (lv' := [(1, .int x1)]) [2] rfl ?_
        exact zb_Mo_lookAtBlocks_330 C hR h x1 e
      · replace e := zd_neg b51 e
        refine zk_aload_n C kd_Mo_lookAtBlocks_320 rfl 1 rfl rfl ?_
        refine zs_get (v := .ref (S.1 86)) C 68 36 rfl rfl rfl rfl ki_Mo (by decide) kw1719 kd_Mo_lookAtBlocks_321 rfl ?_
        refine zk_iload_n C kd_Mo_lookAtBlocks_324 rfl 0 rfl rfl ?_
        obtain ⟨q52, e⟩ := zd_g e
        refine zs_iald C 86 rfl (zd_vp q52) kd_Mo_lookAtBlocks_325 rfl ?_
        refine zk_iconst (v := 2) C kd_Mo_lookAtBlocks_326 (by decide) rfl ?_
        refine zk_icmp_eq (tgt := 334) C kd_Mo_lookAtBlocks_327 (by decide) rfl (fun b53 => ?_) (fun b53 => ?_)
        · replace e := zd_pos b53 e
          refine zk_lvs (lv' := [(1, .int x1)]) [2] rfl ?_
          exact zb_Mo_lookAtBlocks_334 C hR h x1 e
        · replace e := zd_neg b53 e
          refine zk_lvs (lv' := [(1, .int x1)]) [2] rfl ?_
          exact zb_Mo_lookAtBlocks_330 C hR h x1 e
set_option maxHeartbeats 4000000 in
set_option maxRecDepth 100000 in
theorem zc_Mo_isNumber {l : Launch} {D : va_G} {sz0 : Nat} {S : zs_T} {P : ze_T} (h : zs_H) (x0 : Int32) : zk_Sp (zs_G S l D sz0) (ze_E P) km_Mo_isNumber { frames := 0, cells := 0, slots := 0, locals := 0 } [.int x0] (zs_W S h) (zd_PZ S (f_Mo_isNumber x0) h) := by
  obtain ⟨rv, e⟩ : ∃ rv, f_Mo_isNumber x0 = rv := ⟨_, rfl⟩
  rw [e]
  refine zk_met ku_Mo_isNumber (Nat.le_of_ble_eq_true rfl) (ze_Em P) ?_
  intro X C hR
  refine zk_lvs (lv' := [(0, .int x0)]) [0] rfl ?_
  unfold f_Mo_isNumber at e
  refine zk_iload_n C kd_Mo_isNumber_0 rfl 0 rfl rfl ?_
  refine zk_iconst (v := 1) C kd_Mo_isNumber_1 (by decide) rfl ?_
  refine zk_icmp_eq (tgt := 10) C kd_Mo_isNumber_2 (by decide) rfl (fun b1 => ?_) (fun b1 => ?_)
  · replace e := zd_pos b1 e
    refine zk_iconst (v := 1) C kd_Mo_isNumber_10 (by decide) rfl ?_
    refine zk_goto (tgt := 15) C kd_Mo_isNumber_11 (by decide) ?_
    exact zk_zret C hR (zd_nb (Or.inr rfl)) kd_Mo_isNumber_15 rfl rfl (zd_rZT (Or.inr rfl) e)
  · replace e := zd_neg b1 e
    refine zk_iload_n C kd_Mo_isNumber_5 rfl 0 rfl rfl ?_
    refine zk_iconst (v := 2) C kd_Mo_isNumber_6 (by decide) rfl ?_
    refine zk_icmp_ne (tgt := 14) C kd_Mo_isNumber_7 (by decide) rfl (fun b2 => ?_) (fun b2 => ?_)
    · replace e := zd_neg b2 e
      refine zk_iconst (v := 0) C kd_Mo_isNumber_14 (by decide) rfl ?_
      exact zk_zret C hR (zd_nb (Or.inl rfl)) kd_Mo_isNumber_15 rfl rfl (zd_rZT (Or.inl rfl) e)
    · replace e := zd_pos b2 e
      refine zk_iconst (v := 1) C kd_Mo_isNumber_10 (by decide) rfl ?_
      refine zk_goto (tgt := 15) C kd_Mo_isNumber_11 (by decide) ?_
      exact zk_zret C hR (zd_nb (Or.inr rfl)) kd_Mo_isNumber_15 rfl rfl (zd_rZT (Or.inr rfl) e)
set_option maxHeartbeats 4000000 in
set_option maxRecDepth 100000 in
theorem zb_Mo_isLoops_47 {X : zkj_T} {S : zs_T} {P : ze_T} {l : Launch} {D : va_G} {sz0 : Nat} {rv : Int32} {h : zs_H} (C : zk_C X km_Mo_isLoops (zs_G S l D sz0) { frames := 0, cells := 0, slots := 0, locals := 0 } (ze_E P)) (hR : zkj_R X (zd_PZ S rv h) (some .boolean)) {k10 : Int32 → Int32 → Int32 → (Option Int32)} (hk10 : ∀ (x1 : Int32) (x3 : Int32) (x4 : Int32), k10 x1 x3 x4 = some rv → zk_Ab X (zs_W S h) 0 0 10 [(0, .ref (S.1 68)), (1, .int x1), (3, .int x3), (4, .int x4)] []) (x1 : Int32) (x4 : Int32) (y0 : Int32) (e : f_Mo_isLoops_47 h k10 x1 x4 y0 = some rv) : zk_Ab X (zs_W S h) 0 0 47 [(0, .ref (S.1 68)), (1, .int x1), (4, .int x4)] [.int y0] := by
  unfold f_Mo_isLoops_47 at e
  refine zk_istore_n (lv' := [(3, _), (0, _), (1, _), (4, _)]) C kd_Mo_isLoops_47 rfl (by decide) rfl rfl ?_
  refine zk_aload_n C kd_Mo_isLoops_48 rfl 1 rfl rfl ?_
  refine zs_get (v := .ref (S.1 75)) C 68 18 rfl rfl rfl rfl ki_Mo (by decide) kw1701 kd_Mo_isLoops_49 rfl ?_
  refine zk_iload C kd_Mo_isLoops_52 3 rfl rfl ?_
  obtain ⟨q1, e⟩ := zd_g e
  refine zs_iald C 75 rfl (zd_vp q1) kd_Mo_isLoops_54 rfl ?_
  refine zk_istore (lv' := [(4, _), (3, _), (0, _), (1, _)]) C kd_Mo_isLoops_55 (by decide) rfl rfl ?_
  refine zk_goto (tgt := 10) C kd_Mo_isLoops_57 (by decide) ?_
  refine zk_lvs (lv' := [(0, .ref (S.1 68)), (1, .int x1), (3, .int y0), (4, .int (h.2.1 75 x4.toNatClampNeg))]) [2, 3, 1, 0] rfl ?_
  exact hk10 x1 y0 (h.2.1 75 x4.toNatClampNeg) e
set_option maxHeartbeats 4000000 in
set_option maxRecDepth 100000 in
theorem zb_Mo_isLoops_42 {X : zkj_T} {S : zs_T} {P : ze_T} {l : Launch} {D : va_G} {sz0 : Nat} {rv : Int32} {h : zs_H} (C : zk_C X km_Mo_isLoops (zs_G S l D sz0) { frames := 0, cells := 0, slots := 0, locals := 0 } (ze_E P)) (hR : zkj_R X (zd_PZ S rv h) (some .boolean)) {k10 : Int32 → Int32 → Int32 → (Option Int32)} (hk10 : ∀ (x1 : Int32) (x3 : Int32) (x4 : Int32), k10 x1 x3 x4 = some rv → zk_Ab X (zs_W S h) 0 0 10 [(0, .ref (S.1 68)), (1, .int x1), (3, .int x3), (4, .int x4)] []) (x1 : Int32) (x4 : Int32) (e : f_Mo_isLoops_42 h k10 x1 x4 = some rv) : zk_Ab X (zs_W S h) 0 0 42 [(0, .ref (S.1 68)), (1, .int x1), (4, .int x4)] [] := by
  unfold f_Mo_isLoops_42 at e
  refine zk_iconst (v := 1) C kd_Mo_isLoops_42 (by decide) rfl ?_
  refine zk_goto (tgt := 47) C kd_Mo_isLoops_43 (by decide) ?_
  refine zk_lvs (lv' := [(0, .ref (S.1 68)), (1, .int x1), (4, .int x4)]) [0, 1, 2] rfl ?_
  exact zb_Mo_isLoops_47 C hR hk10 x1 x4 1 e
set_option maxHeartbeats 4000000 in
set_option maxRecDepth 100000 in
theorem zb_Mo_isLoops_46 {X : zkj_T} {S : zs_T} {P : ze_T} {l : Launch} {D : va_G} {sz0 : Nat} {rv : Int32} {h : zs_H} (C : zk_C X km_Mo_isLoops (zs_G S l D sz0) { frames := 0, cells := 0, slots := 0, locals := 0 } (ze_E P)) (hR : zkj_R X (zd_PZ S rv h) (some .boolean)) {k10 : Int32 → Int32 → Int32 → (Option Int32)} (hk10 : ∀ (x1 : Int32) (x3 : Int32) (x4 : Int32), k10 x1 x3 x4 = some rv → zk_Ab X (zs_W S h) 0 0 10 [(0, .ref (S.1 68)), (1, .int x1), (3, .int x3), (4, .int x4)] []) (x1 : Int32) (x4 : Int32) (e : f_Mo_isLoops_46 h k10 x1 x4 = some rv) : zk_Ab X (zs_W S h) 0 0 46 [(0, .ref (S.1 68)), (1, .int x1), (4, .int x4)] [] := by
  unfold f_Mo_isLoops_46 at e
  refine zk_iconst (v := 0) C kd_Mo_isLoops_46 (by decide) rfl ?_
  refine zk_lvs (lv' := [(0, .ref (S.1 68)), (1, .int x1), (4, .int x4)]) [0, 1, 2] rfl ?_
  exact zb_Mo_isLoops_47 C hR hk10 x1 x4 0 e
set_option maxHeartbeats 4000000 in
set_option maxRecDepth 100000 in
theorem zb_Mo_isLoops_10 {X : zkj_T} {S : zs_T} {P : ze_T} {l : Launch} {D : va_G} {sz0 : Nat} {rv : Int32} {h : zs_H} (C : zk_C X km_Mo_isLoops (zs_G S l D sz0) { frames := 0, cells := 0, slots := 0, locals := 0 } (ze_E P)) (hR : zkj_R X (zd_PZ S rv h) (some .boolean)) {k10 : Int32 → Int32 → Int32 → (Option Int32)} (hk10 : ∀ (x1 : Int32) (x3 : Int32) (x4 : Int32), k10 x1 x3 x4 = some rv → zk_Ab X (zs_W S h) 0 0 10 [(0, .ref (S.1 68)), (1, .int x1), (3, .int x3), (4, .int x4)] []) (x1 : Int32) (x3 : Int32) (x4 : Int32) (e : f_Mo_isLoops_10 h k10 x1 x3 x4 = some rv) : zk_Ab X (zs_W S h) 0 0 10 [(0, .ref (S.1 68)), (1, .int x1), (3, .int x3), (4, .int x4)] [] := by
  unfold f_Mo_isLoops_10 at e
  refine zk_iload C kd_Mo_isLoops_10 3 rfl rfl ?_
  refine zk_if_lt (tgt := 60) C kd_Mo_isLoops_12 (by decide) rfl (fun b1 => ?_) (fun b1 => ?_)
  · replace e := zd_pos b1 e
    refine zk_iload_n C kd_Mo_isLoops_60 rfl 2 rfl rfl ?_
    obtain ⟨q2, e⟩ := zd_g e
    exact zk_zret C hR (zd_nb q2) kd_Mo_isLoops_61 rfl rfl (zd_rZO q2 e)
  · replace e := zd_neg b1 e
    refine zk_iload_n C kd_Mo_isLoops_15 rfl 2 rfl rfl ?_
    refine zk_if_ne (tgt := 42) C kd_Mo_isLoops_16 (by decide) rfl (fun b3 => ?_) (fun b3 => ?_)
    · replace e := zd_neg b3 e
      refine zk_lvs (lv' := [(0, .ref (S.1 68)), (1, .int x1), (4, .int x4)]) [0, 1, 3] rfl ?_
      exact zb_Mo_isLoops_42 C hR hk10 x1 x4 e
    · replace e := zd_pos b3 e
      refine zk_aload_n C kd_Mo_isLoops_19 rfl 0 rfl rfl ?_
      refine zs_get (v := .ref (S.1 72)) C 68 15 rfl rfl rfl rfl ki_Mo (by decide) kw1698 kd_Mo_isLoops_20 rfl ?_
      refine zk_iload C kd_Mo_isLoops_23 3 rfl rfl ?_
      obtain ⟨q4, e⟩ := zd_g e
      refine zs_iald C 72 rfl (zd_vp q4) kd_Mo_isLoops_25 rfl ?_
      refine zk_bipush (v := 19) C kd_Mo_isLoops_26 (by decide) rfl ?_
      refine zk_icmp_ne (tgt := 46) C kd_Mo_isLoops_28 (by decide) rfl (fun b5 => ?_) (fun b5 => ?_)
      · replace e := zd_neg b5 e
        refine zk_lvs (lv' := [(0, .ref (S.1 68)), (1, .int x1), (4, .int x4)]) [0, 1, 3] rfl ?_
        exact zb_Mo_isLoops_46 C hR hk10 x1 x4 e
      · replace e := zd_pos b5 e
        refine zk_aload_n C kd_Mo_isLoops_31 rfl 0 rfl rfl ?_
        refine zs_get (v := .ref (S.1 74)) C 68 17 rfl rfl rfl rfl ki_Mo (by decide) kw1700 kd_Mo_isLoops_32 rfl ?_
        refine zk_iload C kd_Mo_isLoops_35 3 rfl rfl ?_
        refine zs_iald C 74 rfl (zd_vp q4) kd_Mo_isLoops_37 rfl ?_
        refine zk_iload_n C kd_Mo_isLoops_38 rfl 1 rfl rfl ?_
        refine zk_icmp_ne (tgt := 46) C kd_Mo_isLoops_39 (by decide) rfl (fun b6 => ?_) (fun b6 => ?_)
        · replace e := zd_neg b6 e
          refine zk_lvs (lv' := [(0, .ref (S.1 68)), (1, .int x1), (4, .int x4)]) [0, 1, 3] rfl ?_
          exact zb_Mo_isLoops_46 C hR hk10 x1 x4 e
        · replace e := zd_pos b6 e
          refine zk_lvs (lv' := [(0, .ref (S.1 68)), (1, .int x1), (4, .int x4)]) [0, 1, 3] rfl ?_
          exact zb_Mo_isLoops_42 C hR hk10 x1 x4 e
theorem zl_Mo_isLoops_10 {X : zkj_T} {S : zs_T} {P : ze_T} {l : Launch} {D : va_G} {sz0 : Nat} {rv : Int32} {h : zs_H} (C : zk_C X km_Mo_isLoops (zs_G S l D sz0) { frames := 0, cells := 0, slots := 0, locals := 0 } (ze_E P)) (hR : zkj_R X (zd_PZ S rv h) (some .boolean)) (n : Nat) : ∀ (x1 : Int32) (x3 : Int32) (x4 : Int32), f_Mo_isLoops_L10 h n x1 x3 x4 = some rv → zk_Ab X (zs_W S h) 0 0 10 [(0, .ref (S.1 68)), (1, .int x1), (3, .int x3), (4, .int x4)] [] := by
  induction n with
  | zero => intro x1 x3 x4 e; exact zd_no e
  | succ n ih => intro x1 x3 x4 e; exact zb_Mo_isLoops_10 (k10 := f_Mo_isLoops_L10 h n) C hR ih x1 x3 x4 e
set_option maxHeartbeats 4000000 in
set_option maxRecDepth 100000 in
theorem zc_Mo_isLoops {l : Launch} {D : va_G} {sz0 : Nat} {S : zs_T} {P : ze_T} (h : zs_H) (x1 : Int32) (x2 : Int32) {rv : Int32} (e : f_Mo_isLoops h x1 x2 = some rv) : zk_Sp (zs_G S l D sz0) (ze_E P) km_Mo_isLoops { frames := 0, cells := 0, slots := 0, locals := 0 } [.ref (S.1 68), .int x1, .int x2] (zs_W S h) (zd_PZ S rv h) := by
  refine zk_met ku_Mo_isLoops (Nat.le_of_ble_eq_true rfl) (ze_Em P) ?_
  intro X C hR
  refine zk_lvs (lv' := [(0, .ref (S.1 68)), (1, .int x1), (2, .int x2)]) [0, 1, 2] rfl ?_
  unfold f_Mo_isLoops at e
  refine zk_iconst (v := 0) C kd_Mo_isLoops_0 (by decide) rfl ?_
  refine zk_istore_n (lv' := [(3, _), (0, _), (1, _), (2, _)]) C kd_Mo_isLoops_1 rfl (by decide) rfl rfl ?_
  refine zk_aload_n C kd_Mo_isLoops_2 rfl 1 rfl rfl ?_
  refine zs_get (v := .ref (S.1 75)) C 68 18 rfl rfl rfl rfl ki_Mo (by decide) kw1701 kd_Mo_isLoops_3 rfl ?_
  refine zk_iload_n C kd_Mo_isLoops_6 rfl 3 rfl rfl ?_
  obtain ⟨q1, e⟩ := zd_g e
  refine zs_iald C 75 rfl (zd_vp q1) kd_Mo_isLoops_7 rfl ?_
  refine zk_istore (lv' := [(4, _), (3, _), (0, _), (1, _), (2, _)]) C kd_Mo_isLoops_8 (by decide) rfl rfl ?_
  refine zk_lvs (lv' := [(0, .ref (S.1 68)), (1, .int x1), (3, .int 0), (4, .int (h.2.1 75 x2.toNatClampNeg))]) [2, 3, 1, 0] rfl ?_
  exact zl_Mo_isLoops_10 C hR zF x1 0 (h.2.1 75 x2.toNatClampNeg) e
set_option maxHeartbeats 4000000 in
set_option maxRecDepth 100000 in
theorem zb_Mo_lookAtAssigned_70 {X : zkj_T} {S : zs_T} {P : ze_T} {l : Launch} {D : va_G} {sz0 : Nat} {rh : zs_H} (C : zk_C X km_Mo_lookAtAssigned (zs_G S l D sz0) { frames := 2, cells := 0, slots := 0, locals := 45 } (ze_E P)) (hR : zkj_R X (zd_PV S rh) (none)) (h : zs_H) (x1 : Int32) (x2 : Int32) (y0 : Int32) (e : f_Mo_lookAtAssigned_70 h x1 x2 y0 = some rh) : zk_Ab X (zs_W S h) 0 0 70 [(0, .ref (S.1 68)), (1, .int x1), (2, .int x2)] [.int y0, .ref (S.1 68)] := by
  unfold f_Mo_lookAtAssigned_70 at e
  refine zk_bipush (v := 29) C kd_Mo_lookAtAssigned_70 (by decide) rfl ?_
  refine zk_iload_n C kd_Mo_lookAtAssigned_72 rfl 2 rfl rfl ?_
  obtain ⟨h2, c1, e⟩ := zd_b e
  refine zs_callV (k := 68) (rn := { frames := 1, cells := 0, slots := 0, locals := 22 }) (As := [.int y0, .int 29, .int x2]) (rest := []) C (zc_Mo_rule h y0 29 x2 c1) ku_Mo_rule kw2260 kv_Mo_rule rfl ⟨by decide, by decide⟩ ⟨by decide, by decide⟩ rfl rfl rfl (Nat.le_of_ble_eq_true rfl) kd_Mo_lookAtAssigned_73 rfl (c1 := 0) (s1 := 0) rfl rfl (fun v w hp => ?_)
  obtain ⟨rfl, rfl⟩ := hp
  refine zk_stk (r' := []) rfl ?_
  refine zk_aload_n C kd_Mo_lookAtAssigned_76 rfl 0 rfl rfl ?_
  refine zk_aload_n C kd_Mo_lookAtAssigned_77 rfl 0 rfl rfl ?_
  refine zk_iload_n C kd_Mo_lookAtAssigned_78 rfl 1 rfl rfl ?_
  refine zk_iload_n C kd_Mo_lookAtAssigned_79 rfl 2 rfl rfl ?_
  obtain ⟨v4, c3, e⟩ := zd_b e
  refine zs_callV (k := 68) (rn := { frames := 0, cells := 0, slots := 0, locals := 0 }) (As := [.int x1, .int x2]) (rest := [.ref (S.1 68)]) C (zc_Mo_isLoops h2 x1 x2 c3) ku_Mo_isLoops kw2347 kv_Mo_isLoops rfl ⟨by decide, by decide⟩ ⟨by decide, by decide⟩ rfl rfl rfl (Nat.le_of_ble_eq_true rfl) kd_Mo_lookAtAssigned_80 rfl (c1 := 0) (s1 := 0) rfl rfl (fun v w hp => ?_)
  obtain ⟨rfl, rfl, z5⟩ := hp
  refine zk_stk (r' := [.int v4, .ref (S.1 68)]) rfl ?_
  refine zk_bipush (v := 30) C kd_Mo_lookAtAssigned_83 (by decide) rfl ?_
  refine zk_iload_n C kd_Mo_lookAtAssigned_85 rfl 2 rfl rfl ?_
  obtain ⟨h7, c6, e⟩ := zd_b e
  refine zs_callV (k := 68) (rn := { frames := 1, cells := 0, slots := 0, locals := 22 }) (As := [.int v4, .int 30, .int x2]) (rest := []) C (zc_Mo_rule h2 v4 30 x2 c6) ku_Mo_rule kw2260 kv_Mo_rule rfl ⟨by decide, by decide⟩ ⟨by decide, by decide⟩ rfl rfl rfl (Nat.le_of_ble_eq_true rfl) kd_Mo_lookAtAssigned_86 rfl (c1 := 0) (s1 := 0) rfl rfl (fun v w hp => ?_)
  obtain ⟨rfl, rfl⟩ := hp
  refine zk_stk (r' := []) rfl ?_
  exact zk_vret C hR kd_Mo_lookAtAssigned_89 rfl rfl (zd_rV e)
set_option maxHeartbeats 4000000 in
set_option maxRecDepth 100000 in
theorem zb_Mo_lookAtAssigned_65 {X : zkj_T} {S : zs_T} {P : ze_T} {l : Launch} {D : va_G} {sz0 : Nat} {rh : zs_H} (C : zk_C X km_Mo_lookAtAssigned (zs_G S l D sz0) { frames := 2, cells := 0, slots := 0, locals := 45 } (ze_E P)) (hR : zkj_R X (zd_PV S rh) (none)) (h : zs_H) (x1 : Int32) (x2 : Int32) (e : f_Mo_lookAtAssigned_65 h x1 x2 = some rh) : zk_Ab X (zs_W S h) 0 0 65 [(0, .ref (S.1 68)), (1, .int x1), (2, .int x2)] [.ref (S.1 68)] := by
  unfold f_Mo_lookAtAssigned_65 at e
  refine zk_iconst (v := 1) C kd_Mo_lookAtAssigned_65 (by decide) rfl ?_
  refine zk_goto (tgt := 70) C kd_Mo_lookAtAssigned_66 (by decide) ?_
  refine zk_lvs (lv' := [(0, .ref (S.1 68)), (1, .int x1), (2, .int x2)]) [0, 1, 2] rfl ?_
  exact zb_Mo_lookAtAssigned_70 C hR h x1 x2 1 e
set_option maxHeartbeats 4000000 in
set_option maxRecDepth 100000 in
theorem zb_Mo_lookAtAssigned_69 {X : zkj_T} {S : zs_T} {P : ze_T} {l : Launch} {D : va_G} {sz0 : Nat} {rh : zs_H} (C : zk_C X km_Mo_lookAtAssigned (zs_G S l D sz0) { frames := 2, cells := 0, slots := 0, locals := 45 } (ze_E P)) (hR : zkj_R X (zd_PV S rh) (none)) (h : zs_H) (x1 : Int32) (x2 : Int32) (e : f_Mo_lookAtAssigned_69 h x1 x2 = some rh) : zk_Ab X (zs_W S h) 0 0 69 [(0, .ref (S.1 68)), (1, .int x1), (2, .int x2)] [.ref (S.1 68)] := by
  unfold f_Mo_lookAtAssigned_69 at e
  refine zk_iconst (v := 0) C kd_Mo_lookAtAssigned_69 (by decide) rfl ?_
  refine zk_lvs (lv' := [(0, .ref (S.1 68)), (1, .int x1), (2, .int x2)]) [0, 1, 2] rfl ?_
  exact zb_Mo_lookAtAssigned_70 C hR h x1 x2 0 e
set_option maxHeartbeats 4000000 in
set_option maxRecDepth 100000 in
theorem zb_Mo_lookAtAssigned_24 {X : zkj_T} {S : zs_T} {P : ze_T} {l : Launch} {D : va_G} {sz0 : Nat} {rh : zs_H} (C : zk_C X km_Mo_lookAtAssigned (zs_G S l D sz0) { frames := 2, cells := 0, slots := 0, locals := 45 } (ze_E P)) (hR : zkj_R X (zd_PV S rh) (none)) (h : zs_H) (x1 : Int32) (x2 : Int32) (x3 : Int32) (y0 : Int32) (e : f_Mo_lookAtAssigned_24 h x1 x2 x3 y0 = some rh) : zk_Ab X (zs_W S h) 0 0 24 [(0, .ref (S.1 68)), (1, .int x1), (2, .int x2), (3, .int x3)] [.int y0] := by
  unfold f_Mo_lookAtAssigned_24 at e
  refine zk_istore (lv' := [(4, _), (0, _), (1, _), (2, _), (3, _)]) C kd_Mo_lookAtAssigned_24 (by decide) rfl rfl ?_
  refine zk_aload_n C kd_Mo_lookAtAssigned_26 rfl 1 rfl rfl ?_
  refine zk_iload_n C kd_Mo_lookAtAssigned_27 rfl 4 rfl rfl ?_
  refine zk_if_lt (tgt := 69) C kd_Mo_lookAtAssigned_28 (by decide) rfl (fun b1 => ?_) (fun b1 => ?_)
  · replace e := zd_pos b1 e
    refine zk_lvs (lv' := [(0, .ref (S.1 68)), (1, .int x1), (2, .int x2)]) [1, 2, 3] rfl ?_
    exact zb_Mo_lookAtAssigned_69 C hR h x1 x2 e
  · replace e := zd_neg b1 e
    refine zk_aload_n C kd_Mo_lookAtAssigned_31 rfl 1 rfl rfl ?_
    refine zs_get (v := .ref (S.1 95)) C 68 46 rfl rfl rfl rfl ki_Mo (by decide) kw1729 kd_Mo_lookAtAssigned_32 rfl ?_
    refine zk_iload_n C kd_Mo_lookAtAssigned_35 rfl 4 rfl rfl ?_
    obtain ⟨q2, e⟩ := zd_g e
    refine zs_iald C 95 rfl (zd_vp q2) kd_Mo_lookAtAssigned_36 rfl ?_
    refine zk_iconst (v := 1) C kd_Mo_lookAtAssigned_37 (by decide) rfl ?_
    refine zk_icmp_eq (tgt := 65) C kd_Mo_lookAtAssigned_38 (by decide) rfl (fun b3 => ?_) (fun b3 => ?_)
    · replace e := zd_pos b3 e
      refine zk_lvs (lv' := [(0, .ref (S.1 68)), (1, .int x1), (2, .int x2)]) [1, 2, 3] rfl ?_
      exact zb_Mo_lookAtAssigned_65 C hR h x1 x2 e
    · replace e := zd_neg b3 e
      refine zk_iload C kd_Mo_lookAtAssigned_41 0 rfl rfl ?_
      refine zk_if_lt (tgt := 69) C kd_Mo_lookAtAssigned_43 (by decide) rfl (fun b4 => ?_) (fun b4 => ?_)
      · replace e := zd_pos b4 e
        refine zk_lvs (lv' := [(0, .ref (S.1 68)), (1, .int x1), (2, .int x2)]) [1, 2, 3] rfl ?_
        exact zb_Mo_lookAtAssigned_69 C hR h x1 x2 e
      · replace e := zd_neg b4 e
        refine zk_iload C kd_Mo_lookAtAssigned_46 0 rfl rfl ?_
        refine zk_sipush (v := 256) C kd_Mo_lookAtAssigned_48 (by decide) rfl ?_
        refine zk_idiv C kd_Mo_lookAtAssigned_51 (by decide) rfl ?_
        refine zk_if_eq (tgt := 65) C kd_Mo_lookAtAssigned_52 (by decide) rfl (fun b5 => ?_) (fun b5 => ?_)
        · replace e := zd_pos b5 e
          refine zk_lvs (lv' := [(0, .ref (S.1 68)), (1, .int x1), (2, .int x2)]) [1, 2, 3] rfl ?_
          exact zb_Mo_lookAtAssigned_65 C hR h x1 x2 e
        · replace e := zd_neg b5 e
          refine zk_iload C kd_Mo_lookAtAssigned_55 0 rfl rfl ?_
          refine zk_sipush (v := 256) C kd_Mo_lookAtAssigned_57 (by decide) rfl ?_
          refine zk_idiv C kd_Mo_lookAtAssigned_60 (by decide) rfl ?_
          refine zk_iconst (v := 3) C kd_Mo_lookAtAssigned_61 (by decide) rfl ?_
          refine zk_icmp_ne (tgt := 69) C kd_Mo_lookAtAssigned_62 (by decide) rfl (fun b6 => ?_) (fun b6 => ?_)
          · replace e := zd_neg b6 e
            refine zk_lvs (lv' := [(0, .ref (S.1 68)), (1, .int x1), (2, .int x2)]) [1, 2, 3] rfl ?_
            exact zb_Mo_lookAtAssigned_69 C hR h x1 x2 e
          · replace e := zd_pos b6 e
            refine zk_lvs (lv' := [(0, .ref (S.1 68)), (1, .int x1), (2, .int x2)]) [1, 2, 3] rfl ?_
            exact zb_Mo_lookAtAssigned_65 C hR h x1 x2 e
set_option maxHeartbeats 4000000 in
set_option maxRecDepth 100000 in
theorem zc_Mo_lookAtAssigned {l : Launch} {D : va_G} {sz0 : Nat} {S : zs_T} {P : ze_T} (h : zs_H) (x1 : Int32) (x2 : Int32) {rh : zs_H} (e : f_Mo_lookAtAssigned h x1 x2 = some rh) : zk_Sp (zs_G S l D sz0) (ze_E P) km_Mo_lookAtAssigned { frames := 2, cells := 0, slots := 0, locals := 45 } [.ref (S.1 68), .int x1, .int x2] (zs_W S h) (zd_PV S rh) := by
  refine zk_met ku_Mo_lookAtAssigned (Nat.le_of_ble_eq_true rfl) (ze_Em P) ?_
  intro X C hR
  refine zk_lvs (lv' := [(0, .ref (S.1 68)), (1, .int x1), (2, .int x2)]) [0, 1, 2] rfl ?_
  unfold f_Mo_lookAtAssigned at e
  refine zk_aload_n C kd_Mo_lookAtAssigned_0 rfl 0 rfl rfl ?_
  refine zk_aload_n C kd_Mo_lookAtAssigned_1 rfl 0 rfl rfl ?_
  refine zs_get (v := .int (h.1 68 54)) C 68 54 rfl rfl rfl rfl ki_Mo (by decide) kw1737 kd_Mo_lookAtAssigned_2 rfl ?_
  refine zk_iload_n C kd_Mo_lookAtAssigned_5 rfl 1 rfl rfl ?_
  obtain ⟨v2, c1, e⟩ := zd_b e
  refine zs_callV (k := 68) (rn := { frames := 0, cells := 0, slots := 0, locals := 0 }) (As := [.int (h.1 68 54), .int x1]) (rest := []) C (zc_Mo_variable h (h.1 68 54) x1 c1) ku_Mo_variable kw2327 kv_Mo_variable rfl ⟨by decide, by decide⟩ ⟨by decide, by decide⟩ rfl rfl rfl (Nat.le_of_ble_eq_true rfl) kd_Mo_lookAtAssigned_6 rfl (c1 := 0) (s1 := 0) rfl rfl (fun v w hp => ?_)
  obtain ⟨rfl, rfl⟩ := hp
  refine zk_stk (r' := [.int v2]) rfl ?_
  refine zk_istore_n (lv' := [(3, _), (0, _), (1, _), (2, _)]) C kd_Mo_lookAtAssigned_9 rfl (by decide) rfl rfl ?_
  refine zk_iload_n C kd_Mo_lookAtAssigned_10 rfl 0 rfl rfl ?_
  refine zk_if_ge (tgt := 18) C kd_Mo_lookAtAssigned_11 (by decide) rfl (fun b3 => ?_) (fun b3 => ?_)
  · replace e := zd_pos b3 e
    refine zk_aload_n C kd_Mo_lookAtAssigned_18 rfl 1 rfl rfl ?_
    refine zs_get (v := .ref (S.1 96)) C 68 47 rfl rfl rfl rfl ki_Mo (by decide) kw1730 kd_Mo_lookAtAssigned_19 rfl ?_
    refine zk_iload_n C kd_Mo_lookAtAssigned_22 rfl 0 rfl rfl ?_
    obtain ⟨q4, e⟩ := zd_g e
    refine zs_iald C 96 rfl (zd_vp q4) kd_Mo_lookAtAssigned_23 rfl ?_
    refine zk_lvs (lv' := [(0, .ref (S.1 68)), (1, .int x1), (2, .int x2), (3, .int v2)]) [1, 2, 3, 0] rfl ?_
    exact zb_Mo_lookAtAssigned_24 C hR h x1 x2 v2 (h.2.1 96 v2.toNatClampNeg) e
  · replace e := zd_neg b3 e
    refine zk_iconst (v := (-1)) C kd_Mo_lookAtAssigned_14 (by decide) rfl ?_
    refine zk_goto (tgt := 24) C kd_Mo_lookAtAssigned_15 (by decide) ?_
    refine zk_lvs (lv' := [(0, .ref (S.1 68)), (1, .int x1), (2, .int x2), (3, .int v2)]) [1, 2, 3, 0] rfl ?_
    exact zb_Mo_lookAtAssigned_24 C hR h x1 x2 v2 (-1) e
set_option maxHeartbeats 4000000 in
set_option maxRecDepth 100000 in
theorem zb_Mo_lookAtLoop_194 {X : zkj_T} {S : zs_T} {P : ze_T} {l : Launch} {D : va_G} {sz0 : Nat} {rh : zs_H} (C : zk_C X km_Mo_lookAtLoop (zs_G S l D sz0) { frames := 3, cells := 0, slots := 0, locals := 69 } (ze_E P)) (hR : zkj_R X (zd_PV S rh) (none)) {k125 : zs_H → Int32 → Int32 → Int32 → Int32 → (Option zs_H)} (hk125 : ∀ (h : zs_H) (x1 : Int32) (x2 : Int32) (x3 : Int32) (x4 : Int32), k125 h x1 x2 x3 x4 = some rh → zk_Ab X (zs_W S h) 0 0 125 [(0, .ref (S.1 68)), (1, .int x1), (2, .int x2), (3, .int x3), (4, .int x4)] []) (h : zs_H) (x1 : Int32) (x2 : Int32) (x4 : Int32) (y0 : Int32) (e : f_Mo_lookAtLoop_194 k125 h x1 x2 x4 y0 = some rh) : zk_Ab X (zs_W S h) 0 0 194 [(0, .ref (S.1 68)), (1, .int x1), (2, .int x2), (4, .int x4)] [.int y0] := by
  unfold f_Mo_lookAtLoop_194 at e
  refine zk_istore_n (lv' := [(3, _), (0, _), (1, _), (2, _), (4, _)]) C kd_Mo_lookAtLoop_194 rfl (by decide) rfl rfl ?_
  refine zk_aload_n C kd_Mo_lookAtLoop_195 rfl 1 rfl rfl ?_
  refine zs_get (v := .ref (S.1 78)) C 68 21 rfl rfl rfl rfl ki_Mo (by decide) kw1704 kd_Mo_lookAtLoop_196 rfl ?_
  refine zk_iload C kd_Mo_lookAtLoop_199 4 rfl rfl ?_
  obtain ⟨q1, e⟩ := zd_g e
  refine zs_iald C 78 rfl (zd_vp q1) kd_Mo_lookAtLoop_201 rfl ?_
  refine zk_istore (lv' := [(4, _), (3, _), (0, _), (1, _), (2, _)]) C kd_Mo_lookAtLoop_202 (by decide) rfl rfl ?_
  refine zk_goto (tgt := 125) C kd_Mo_lookAtLoop_204 (by decide) ?_
  refine zk_lvs (lv' := [(0, .ref (S.1 68)), (1, .int x1), (2, .int x2), (3, .int y0), (4, .int (h.2.1 78 x4.toNatClampNeg))]) [2, 3, 4, 1, 0] rfl ?_
  exact hk125 h x1 x2 y0 (h.2.1 78 x4.toNatClampNeg) e
set_option maxHeartbeats 4000000 in
set_option maxRecDepth 100000 in
theorem zb_Mo_lookAtLoop_189 {X : zkj_T} {S : zs_T} {P : ze_T} {l : Launch} {D : va_G} {sz0 : Nat} {rh : zs_H} (C : zk_C X km_Mo_lookAtLoop (zs_G S l D sz0) { frames := 3, cells := 0, slots := 0, locals := 69 } (ze_E P)) (hR : zkj_R X (zd_PV S rh) (none)) {k125 : zs_H → Int32 → Int32 → Int32 → Int32 → (Option zs_H)} (hk125 : ∀ (h : zs_H) (x1 : Int32) (x2 : Int32) (x3 : Int32) (x4 : Int32), k125 h x1 x2 x3 x4 = some rh → zk_Ab X (zs_W S h) 0 0 125 [(0, .ref (S.1 68)), (1, .int x1), (2, .int x2), (3, .int x3), (4, .int x4)] []) (h : zs_H) (x1 : Int32) (x2 : Int32) (x4 : Int32) (e : f_Mo_lookAtLoop_189 k125 h x1 x2 x4 = some rh) : zk_Ab X (zs_W S h) 0 0 189 [(0, .ref (S.1 68)), (1, .int x1), (2, .int x2), (4, .int x4)] [] := by
  unfold f_Mo_lookAtLoop_189 at e
  refine zk_iconst (v := 1) C kd_Mo_lookAtLoop_189 (by decide) rfl ?_
  refine zk_goto (tgt := 194) C kd_Mo_lookAtLoop_190 (by decide) ?_
  refine zk_lvs (lv' := [(0, .ref (S.1 68)), (1, .int x1), (2, .int x2), (4, .int x4)]) [0, 1, 2, 3] rfl ?_
  exact zb_Mo_lookAtLoop_194 C hR hk125 h x1 x2 x4 1 e
set_option maxHeartbeats 4000000 in
set_option maxRecDepth 100000 in
theorem zb_Mo_lookAtLoop_193 {X : zkj_T} {S : zs_T} {P : ze_T} {l : Launch} {D : va_G} {sz0 : Nat} {rh : zs_H} (C : zk_C X km_Mo_lookAtLoop (zs_G S l D sz0) { frames := 3, cells := 0, slots := 0, locals := 69 } (ze_E P)) (hR : zkj_R X (zd_PV S rh) (none)) {k125 : zs_H → Int32 → Int32 → Int32 → Int32 → (Option zs_H)} (hk125 : ∀ (h : zs_H) (x1 : Int32) (x2 : Int32) (x3 : Int32) (x4 : Int32), k125 h x1 x2 x3 x4 = some rh → zk_Ab X (zs_W S h) 0 0 125 [(0, .ref (S.1 68)), (1, .int x1), (2, .int x2), (3, .int x3), (4, .int x4)] []) (h : zs_H) (x1 : Int32) (x2 : Int32) (x4 : Int32) (e : f_Mo_lookAtLoop_193 k125 h x1 x2 x4 = some rh) : zk_Ab X (zs_W S h) 0 0 193 [(0, .ref (S.1 68)), (1, .int x1), (2, .int x2), (4, .int x4)] [] := by
  unfold f_Mo_lookAtLoop_193 at e
  refine zk_iconst (v := 0) C kd_Mo_lookAtLoop_193 (by decide) rfl ?_
  refine zk_lvs (lv' := [(0, .ref (S.1 68)), (1, .int x1), (2, .int x2), (4, .int x4)]) [0, 1, 2, 3] rfl ?_
  exact zb_Mo_lookAtLoop_194 C hR hk125 h x1 x2 x4 0 e
set_option maxHeartbeats 4000000 in
set_option maxRecDepth 100000 in
theorem zb_Mo_lookAtLoop_366 {X : zkj_T} {S : zs_T} {P : ze_T} {l : Launch} {D : va_G} {sz0 : Nat} {rh : zs_H} (C : zk_C X km_Mo_lookAtLoop (zs_G S l D sz0) { frames := 3, cells := 0, slots := 0, locals := 69 } (ze_E P)) (hR : zkj_R X (zd_PV S rh) (none)) (h : zs_H) (x1 : Int32) (y0 : Int32) (e : f_Mo_lookAtLoop_366 h x1 y0 = some rh) : zk_Ab X (zs_W S h) 0 0 366 [(1, .int x1)] [.int y0, .ref (S.1 68)] := by
  unfold f_Mo_lookAtLoop_366 at e
  refine zk_bipush (v := 36) C kd_Mo_lookAtLoop_366 (by decide) rfl ?_
  refine zk_iload_n C kd_Mo_lookAtLoop_368 rfl 0 rfl rfl ?_
  obtain ⟨h2, c1, e⟩ := zd_b e
  refine zs_callV (k := 68) (rn := { frames := 1, cells := 0, slots := 0, locals := 22 }) (As := [.int y0, .int 36, .int x1]) (rest := []) C (zc_Mo_rule h y0 36 x1 c1) ku_Mo_rule kw2260 kv_Mo_rule rfl ⟨by decide, by decide⟩ ⟨by decide, by decide⟩ rfl rfl rfl (Nat.le_of_ble_eq_true rfl) kd_Mo_lookAtLoop_369 rfl (c1 := 0) (s1 := 0) rfl rfl (fun v w hp => ?_)
  obtain ⟨rfl, rfl⟩ := hp
  refine zk_stk (r' := []) rfl ?_
  exact zk_vret C hR kd_Mo_lookAtLoop_372 rfl rfl (zd_rV e)
set_option maxHeartbeats 4000000 in
set_option maxRecDepth 100000 in
theorem zb_Mo_lookAtLoop_361 {X : zkj_T} {S : zs_T} {P : ze_T} {l : Launch} {D : va_G} {sz0 : Nat} {rh : zs_H} (C : zk_C X km_Mo_lookAtLoop (zs_G S l D sz0) { frames := 3, cells := 0, slots := 0, locals := 69 } (ze_E P)) (hR : zkj_R X (zd_PV S rh) (none)) (h : zs_H) (x1 : Int32) (e : f_Mo_lookAtLoop_361 h x1 = some rh) : zk_Ab X (zs_W S h) 0 0 361 [(1, .int x1)] [.ref (S.1 68)] := by
  unfold f_Mo_lookAtLoop_361 at e
  refine zk_iconst (v := 1) C kd_Mo_lookAtLoop_361 (by decide) rfl ?_
  refine zk_goto (tgt := 366) C kd_Mo_lookAtLoop_362 (by decide) ?_
  refine zk_lvs (lv' := [(1, .int x1)]) [0] rfl ?_
  exact zb_Mo_lookAtLoop_366 C hR h x1 1 e
set_option maxHeartbeats 4000000 in
set_option maxRecDepth 100000 in
theorem zb_Mo_lookAtLoop_345 {X : zkj_T} {S : zs_T} {P : ze_T} {l : Launch} {D : va_G} {sz0 : Nat} {rh : zs_H} (C : zk_C X km_Mo_lookAtLoop (zs_G S l D sz0) { frames := 3, cells := 0, slots := 0, locals := 69 } (ze_E P)) (hR : zkj_R X (zd_PV S rh) (none)) (h : zs_H) (x1 : Int32) (x3 : Int32) (y0 : Int64) (e : f_Mo_lookAtLoop_345 h x1 x3 y0 = some rh) : zk_Ab X (zs_W S h) 0 0 345 [(0, .ref (S.1 68)), (1, .int x1), (3, .int x3)] [.long y0] := by
  unfold f_Mo_lookAtLoop_345 at e
  refine zk_lstore (lv' := [(10, _), (0, _), (1, _), (3, _)]) C kd_Mo_lookAtLoop_345 (by decide) rfl rfl ?_
  refine zk_aload_n C kd_Mo_lookAtLoop_347 rfl 1 rfl rfl ?_
  refine zk_iload_n C kd_Mo_lookAtLoop_348 rfl 3 rfl rfl ?_
  refine zk_if_ne (tgt := 361) C kd_Mo_lookAtLoop_349 (by decide) rfl (fun b1 => ?_) (fun b1 => ?_)
  · replace e := zd_neg b1 e
    refine zk_lvs (lv' := [(1, .int x1)]) [2] rfl ?_
    exact zb_Mo_lookAtLoop_361 C hR h x1 e
  · replace e := zd_pos b1 e
    refine zk_lload C kd_Mo_lookAtLoop_352 0 rfl rfl ?_
    refine zk_ldc2 (v := 1000000) C kw2476 kd_Mo_lookAtLoop_354 rfl ?_
    refine zk_lcmp C kd_Mo_lookAtLoop_357 rfl ?_
    refine zk_if_le (tgt := 365) C kd_Mo_lookAtLoop_358 (by decide) rfl (fun b2 => ?_) (fun b2 => ?_)
    · replace e := zd_pos (zd_cle.mp b2) e
      refine zk_iconst (v := 0) C kd_Mo_lookAtLoop_365 (by decide) rfl ?_
      refine zk_lvs (lv' := [(1, .int x1)]) [2] rfl ?_
      exact zb_Mo_lookAtLoop_366 C hR h x1 0 e
    · replace e := zd_neg (fun z => b2 (zd_cle.mpr z)) e
      refine zk_lvs (lv' := [(1, .int x1)]) [2] rfl ?_
      exact zb_Mo_lookAtLoop_361 C hR h x1 e
set_option maxHeartbeats 4000000 in
set_option maxRecDepth 100000 in
theorem zb_Mo_lookAtLoop_334 {X : zkj_T} {S : zs_T} {P : ze_T} {l : Launch} {D : va_G} {sz0 : Nat} {rh : zs_H} (C : zk_C X km_Mo_lookAtLoop (zs_G S l D sz0) { frames := 3, cells := 0, slots := 0, locals := 69 } (ze_E P)) (hR : zkj_R X (zd_PV S rh) (none)) (h : zs_H) (x1 : Int32) (x3 : Int32) (e : f_Mo_lookAtLoop_334 h x1 x3 = some rh) : zk_Ab X (zs_W S h) 0 0 334 [(0, .ref (S.1 68)), (1, .int x1), (3, .int x3)] [] := by
  unfold f_Mo_lookAtLoop_334 at e
  refine zk_lconst (v := 0) C kd_Mo_lookAtLoop_334 (by decide) rfl ?_
  refine zk_goto (tgt := 345) C kd_Mo_lookAtLoop_335 (by decide) ?_
  refine zk_lvs (lv' := [(0, .ref (S.1 68)), (1, .int x1), (3, .int x3)]) [0, 1, 2] rfl ?_
  exact zb_Mo_lookAtLoop_345 C hR h x1 x3 (0 : Int64) e
set_option maxHeartbeats 4000000 in
set_option maxRecDepth 100000 in
theorem zb_Mo_lookAtLoop_338 {X : zkj_T} {S : zs_T} {P : ze_T} {l : Launch} {D : va_G} {sz0 : Nat} {rh : zs_H} (C : zk_C X km_Mo_lookAtLoop (zs_G S l D sz0) { frames := 3, cells := 0, slots := 0, locals := 69 } (ze_E P)) (hR : zkj_R X (zd_PV S rh) (none)) (h : zs_H) (x1 : Int32) (x3 : Int32) (x6 : Int64) (x8 : Int64) (e : f_Mo_lookAtLoop_338 h x1 x3 x6 x8 = some rh) : zk_Ab X (zs_W S h) 0 0 338 [(0, .ref (S.1 68)), (1, .int x1), (3, .int x3), (6, .long x6), (8, .long x8)] [] := by
  unfold f_Mo_lookAtLoop_338 at e
  refine zk_lload C kd_Mo_lookAtLoop_338 4 rfl rfl ?_
  refine zk_lload C kd_Mo_lookAtLoop_340 3 rfl rfl ?_
  obtain ⟨q1, e⟩ := zd_gn e
  refine zk_ldiv C kd_Mo_lookAtLoop_342 q1 rfl ?_
  refine zk_lconst (v := 1) C kd_Mo_lookAtLoop_343 (by decide) rfl ?_
  refine zk_ladd C kd_Mo_lookAtLoop_344 rfl ?_
  refine zk_lvs (lv' := [(0, .ref (S.1 68)), (1, .int x1), (3, .int x3)]) [0, 1, 2] rfl ?_
  exact zb_Mo_lookAtLoop_345 C hR h x1 x3 ((x8 / x6) + (1 : Int64)) e
set_option maxHeartbeats 4000000 in
set_option maxRecDepth 100000 in
theorem zb_Mo_lookAtLoop_331 {X : zkj_T} {S : zs_T} {P : ze_T} {l : Launch} {D : va_G} {sz0 : Nat} {rh : zs_H} (C : zk_C X km_Mo_lookAtLoop (zs_G S l D sz0) { frames := 3, cells := 0, slots := 0, locals := 69 } (ze_E P)) (hR : zkj_R X (zd_PV S rh) (none)) (h : zs_H) (x1 : Int32) (x3 : Int32) (x6 : Int64) (x8 : Int64) (y0 : Int32) (y1 : Int32) (e : f_Mo_lookAtLoop_331 h x1 x3 x6 x8 y0 y1 = some rh) : zk_Ab X (zs_W S h) 0 0 331 [(0, .ref (S.1 68)), (1, .int x1), (3, .int x3), (6, .long x6), (8, .long x8)] [.int y0, .int y1] := by
  unfold f_Mo_lookAtLoop_331 at e
  refine zk_icmp_eq (tgt := 338) C kd_Mo_lookAtLoop_331 (by decide) rfl (fun b1 => ?_) (fun b1 => ?_)
  · replace e := zd_pos b1 e
    refine zk_lvs (lv' := [(0, .ref (S.1 68)), (1, .int x1), (3, .int x3), (6, .long x6), (8, .long x8)]) [0, 1, 2, 3, 4] rfl ?_
    exact zb_Mo_lookAtLoop_338 C hR h x1 x3 x6 x8 e
  · replace e := zd_neg b1 e
    refine zk_lvs (lv' := [(0, .ref (S.1 68)), (1, .int x1), (3, .int x3)]) [0, 1, 2] rfl ?_
    exact zb_Mo_lookAtLoop_334 C hR h x1 x3 e
set_option maxHeartbeats 4000000 in
set_option maxRecDepth 100000 in
theorem zb_Mo_lookAtLoop_319 {X : zkj_T} {S : zs_T} {P : ze_T} {l : Launch} {D : va_G} {sz0 : Nat} {rh : zs_H} (C : zk_C X km_Mo_lookAtLoop (zs_G S l D sz0) { frames := 3, cells := 0, slots := 0, locals := 69 } (ze_E P)) (hR : zkj_R X (zd_PV S rh) (none)) (h : zs_H) (x1 : Int32) (x3 : Int32) (x6 : Int64) (x8 : Int64) (y0 : Int32) (e : f_Mo_lookAtLoop_319 h x1 x3 x6 x8 y0 = some rh) : zk_Ab X (zs_W S h) 0 0 319 [(0, .ref (S.1 68)), (1, .int x1), (3, .int x3), (6, .long x6), (8, .long x8)] [.int y0] := by
  unfold f_Mo_lookAtLoop_319 at e
  refine zk_lload C kd_Mo_lookAtLoop_319 3 rfl rfl ?_
  refine zk_lconst (v := 0) C kd_Mo_lookAtLoop_321 (by decide) rfl ?_
  refine zk_lcmp C kd_Mo_lookAtLoop_322 rfl ?_
  refine zk_if_le (tgt := 330) C kd_Mo_lookAtLoop_323 (by decide) rfl (fun b1 => ?_) (fun b1 => ?_)
  · replace e := zd_pos (zd_cle.mp b1) e
    refine zk_iconst (v := 0) C kd_Mo_lookAtLoop_330 (by decide) rfl ?_
    refine zk_lvs (lv' := [(0, .ref (S.1 68)), (1, .int x1), (3, .int x3), (6, .long x6), (8, .long x8)]) [0, 1, 2, 3, 4] rfl ?_
    exact zb_Mo_lookAtLoop_331 C hR h x1 x3 x6 x8 0 y0 e
  · replace e := zd_neg (fun z => b1 (zd_cle.mpr z)) e
    refine zk_iconst (v := 1) C kd_Mo_lookAtLoop_326 (by decide) rfl ?_
    refine zk_goto (tgt := 331) C kd_Mo_lookAtLoop_327 (by decide) ?_
    refine zk_lvs (lv' := [(0, .ref (S.1 68)), (1, .int x1), (3, .int x3), (6, .long x6), (8, .long x8)]) [0, 1, 2, 3, 4] rfl ?_
    exact zb_Mo_lookAtLoop_331 C hR h x1 x3 x6 x8 1 y0 e
set_option maxHeartbeats 4000000 in
set_option maxRecDepth 100000 in
theorem zb_Mo_lookAtLoop_295 {X : zkj_T} {S : zs_T} {P : ze_T} {l : Launch} {D : va_G} {sz0 : Nat} {rh : zs_H} (C : zk_C X km_Mo_lookAtLoop (zs_G S l D sz0) { frames := 3, cells := 0, slots := 0, locals := 69 } (ze_E P)) (hR : zkj_R X (zd_PV S rh) (none)) (h : zs_H) (x1 : Int32) (x6 : Int64) (x8 : Int64) (y0 : Int32) (e : f_Mo_lookAtLoop_295 h x1 x6 x8 y0 = some rh) : zk_Ab X (zs_W S h) 0 0 295 [(0, .ref (S.1 68)), (1, .int x1), (6, .long x6), (8, .long x8)] [.int y0] := by
  unfold f_Mo_lookAtLoop_295 at e
  refine zk_istore_n (lv' := [(3, _), (0, _), (1, _), (6, _), (8, _)]) C kd_Mo_lookAtLoop_295 rfl (by decide) rfl rfl ?_
  refine zk_iload_n C kd_Mo_lookAtLoop_296 rfl 0 rfl rfl ?_
  refine zk_if_ne (tgt := 334) C kd_Mo_lookAtLoop_297 (by decide) rfl (fun b1 => ?_) (fun b1 => ?_)
  · replace e := zd_neg b1 e
    refine zk_lvs (lv' := [(0, .ref (S.1 68)), (1, .int x1), (3, .int y0)]) [1, 2, 0] rfl ?_
    exact zb_Mo_lookAtLoop_334 C hR h x1 y0 e
  · replace e := zd_pos b1 e
    refine zk_lload C kd_Mo_lookAtLoop_300 4 rfl rfl ?_
    refine zk_lconst (v := 0) C kd_Mo_lookAtLoop_302 (by decide) rfl ?_
    refine zk_lcmp C kd_Mo_lookAtLoop_303 rfl ?_
    refine zk_if_eq (tgt := 338) C kd_Mo_lookAtLoop_304 (by decide) rfl (fun b2 => ?_) (fun b2 => ?_)
    · replace e := zd_pos (zd_ceq.mp b2) e
      refine zk_lvs (lv' := [(0, .ref (S.1 68)), (1, .int x1), (3, .int y0), (6, .long x6), (8, .long x8)]) [1, 2, 0, 3, 4] rfl ?_
      exact zb_Mo_lookAtLoop_338 C hR h x1 y0 x6 x8 e
    · replace e := zd_neg (fun z => b2 (zd_ceq.mpr z)) e
      refine zk_lload C kd_Mo_lookAtLoop_307 4 rfl rfl ?_
      refine zk_lconst (v := 0) C kd_Mo_lookAtLoop_309 (by decide) rfl ?_
      refine zk_lcmp C kd_Mo_lookAtLoop_310 rfl ?_
      refine zk_if_le (tgt := 318) C kd_Mo_lookAtLoop_311 (by decide) rfl (fun b3 => ?_) (fun b3 => ?_)
      · replace e := zd_pos (zd_cle.mp b3) e
        refine zk_iconst (v := 0) C kd_Mo_lookAtLoop_318 (by decide) rfl ?_
        refine zk_lvs (lv' := [(0, .ref (S.1 68)), (1, .int x1), (3, .int y0), (6, .long x6), (8, .long x8)]) [1, 2, 0, 3, 4] rfl ?_
        exact zb_Mo_lookAtLoop_319 C hR h x1 y0 x6 x8 0 e
      · replace e := zd_neg (fun z => b3 (zd_cle.mpr z)) e
        refine zk_iconst (v := 1) C kd_Mo_lookAtLoop_314 (by decide) rfl ?_
        refine zk_goto (tgt := 319) C kd_Mo_lookAtLoop_315 (by decide) ?_
        refine zk_lvs (lv' := [(0, .ref (S.1 68)), (1, .int x1), (3, .int y0), (6, .long x6), (8, .long x8)]) [1, 2, 0, 3, 4] rfl ?_
        exact zb_Mo_lookAtLoop_319 C hR h x1 y0 x6 x8 1 e
set_option maxHeartbeats 4000000 in
set_option maxRecDepth 100000 in
theorem zb_Mo_lookAtLoop_290 {X : zkj_T} {S : zs_T} {P : ze_T} {l : Launch} {D : va_G} {sz0 : Nat} {rh : zs_H} (C : zk_C X km_Mo_lookAtLoop (zs_G S l D sz0) { frames := 3, cells := 0, slots := 0, locals := 69 } (ze_E P)) (hR : zkj_R X (zd_PV S rh) (none)) (h : zs_H) (x1 : Int32) (x6 : Int64) (x8 : Int64) (e : f_Mo_lookAtLoop_290 h x1 x6 x8 = some rh) : zk_Ab X (zs_W S h) 0 0 290 [(0, .ref (S.1 68)), (1, .int x1), (6, .long x6), (8, .long x8)] [] := by
  unfold f_Mo_lookAtLoop_290 at e
  refine zk_iconst (v := 1) C kd_Mo_lookAtLoop_290 (by decide) rfl ?_
  refine zk_goto (tgt := 295) C kd_Mo_lookAtLoop_291 (by decide) ?_
  refine zk_lvs (lv' := [(0, .ref (S.1 68)), (1, .int x1), (6, .long x6), (8, .long x8)]) [0, 1, 2, 3] rfl ?_
  exact zb_Mo_lookAtLoop_295 C hR h x1 x6 x8 1 e
set_option maxHeartbeats 4000000 in
set_option maxRecDepth 100000 in
theorem zb_Mo_lookAtLoop_258 {X : zkj_T} {S : zs_T} {P : ze_T} {l : Launch} {D : va_G} {sz0 : Nat} {rh : zs_H} (C : zk_C X km_Mo_lookAtLoop (zs_G S l D sz0) { frames := 3, cells := 0, slots := 0, locals := 69 } (ze_E P)) (hR : zkj_R X (zd_PV S rh) (none)) (h : zs_H) (x1 : Int32) (x3 : Int32) (x4 : Int32) (x5 : Int32) (y0 : Int64) (e : f_Mo_lookAtLoop_258 h x1 x3 x4 x5 y0 = some rh) : zk_Ab X (zs_W S h) 0 0 258 [(0, .ref (S.1 68)), (1, .int x1), (3, .int x3), (4, .int x4), (5, .int x5)] [.long y0] := by
  unfold f_Mo_lookAtLoop_258 at e
  refine zk_lstore (lv' := [(6, _), (0, _), (1, _), (3, _), (4, _), (5, _)]) C kd_Mo_lookAtLoop_258 (by decide) rfl rfl ?_
  refine zk_aload_n C kd_Mo_lookAtLoop_260 rfl 1 rfl rfl ?_
  refine zs_get (v := .ref (S.1 74)) C 68 17 rfl rfl rfl rfl ki_Mo (by decide) kw1700 kd_Mo_lookAtLoop_261 rfl ?_
  refine zk_iload C kd_Mo_lookAtLoop_264 5 rfl rfl ?_
  obtain ⟨q1, e⟩ := zd_g e
  refine zs_iald C 74 rfl (zd_vp q1) kd_Mo_lookAtLoop_266 rfl ?_
  refine zk_i2l C kd_Mo_lookAtLoop_267 rfl ?_
  refine zk_aload_n C kd_Mo_lookAtLoop_268 rfl 1 rfl rfl ?_
  refine zs_get (v := .ref (S.1 74)) C 68 17 rfl rfl rfl rfl ki_Mo (by decide) kw1700 kd_Mo_lookAtLoop_269 rfl ?_
  refine zk_iload C kd_Mo_lookAtLoop_272 4 rfl rfl ?_
  obtain ⟨q2, e⟩ := zd_g e
  refine zs_iald C 74 rfl (zd_vp q2) kd_Mo_lookAtLoop_274 rfl ?_
  refine zk_i2l C kd_Mo_lookAtLoop_275 rfl ?_
  refine zk_lsub C kd_Mo_lookAtLoop_276 rfl ?_
  refine zk_lstore (lv' := [(8, _), (6, _), (0, _), (1, _), (3, _), (4, _), (5, _)]) C kd_Mo_lookAtLoop_277 (by decide) rfl rfl ?_
  refine zk_iload_n C kd_Mo_lookAtLoop_279 rfl 4 rfl rfl ?_
  refine zk_if_ne (tgt := 290) C kd_Mo_lookAtLoop_280 (by decide) rfl (fun b3 => ?_) (fun b3 => ?_)
  · replace e := zd_neg b3 e
    refine zk_lvs (lv' := [(0, .ref (S.1 68)), (1, .int x1), (6, .long y0), (8, .long (((h.2.1 74 x5.toNatClampNeg).toInt64) - ((h.2.1 74 x4.toNatClampNeg).toInt64)))]) [2, 3, 1, 0] rfl ?_
    exact zb_Mo_lookAtLoop_290 C hR h x1 y0 (((h.2.1 74 x5.toNatClampNeg).toInt64) - ((h.2.1 74 x4.toNatClampNeg).toInt64)) e
  · replace e := zd_pos b3 e
    refine zk_lload C kd_Mo_lookAtLoop_283 1 rfl rfl ?_
    refine zk_lconst (v := 0) C kd_Mo_lookAtLoop_285 (by decide) rfl ?_
    refine zk_lcmp C kd_Mo_lookAtLoop_286 rfl ?_
    refine zk_if_ne (tgt := 294) C kd_Mo_lookAtLoop_287 (by decide) rfl (fun b4 => ?_) (fun b4 => ?_)
    · replace e := zd_neg (fun w => b4 (zd_ceq.mpr w)) e
      refine zk_iconst (v := 0) C kd_Mo_lookAtLoop_294 (by decide) rfl ?_
      refine zk_lvs (lv' := [(0, .ref (S.1 68)), (1, .int x1), (6, .long y0), (8, .long (((h.2.1 74 x5.toNatClampNeg).toInt64) - ((h.2.1 74 x4.toNatClampNeg).toInt64)))]) [2, 3, 1, 0] rfl ?_
      exact zb_Mo_lookAtLoop_295 C hR h x1 y0 (((h.2.1 74 x5.toNatClampNeg).toInt64) - ((h.2.1 74 x4.toNatClampNeg).toInt64)) 0 e
    · replace e := zd_pos (zd_ceq.mp b4) e
      refine zk_lvs (lv' := [(0, .ref (S.1 68)), (1, .int x1), (6, .long y0), (8, .long (((h.2.1 74 x5.toNatClampNeg).toInt64) - ((h.2.1 74 x4.toNatClampNeg).toInt64)))]) [2, 3, 1, 0] rfl ?_
      exact zb_Mo_lookAtLoop_290 C hR h x1 y0 (((h.2.1 74 x5.toNatClampNeg).toInt64) - ((h.2.1 74 x4.toNatClampNeg).toInt64)) e
set_option maxHeartbeats 4000000 in
set_option maxRecDepth 100000 in
theorem zb_Mo_lookAtLoop_125 {X : zkj_T} {S : zs_T} {P : ze_T} {l : Launch} {D : va_G} {sz0 : Nat} {rh : zs_H} (C : zk_C X km_Mo_lookAtLoop (zs_G S l D sz0) { frames := 3, cells := 0, slots := 0, locals := 69 } (ze_E P)) (hR : zkj_R X (zd_PV S rh) (none)) {k125 : zs_H → Int32 → Int32 → Int32 → Int32 → (Option zs_H)} (hk125 : ∀ (h : zs_H) (x1 : Int32) (x2 : Int32) (x3 : Int32) (x4 : Int32), k125 h x1 x2 x3 x4 = some rh → zk_Ab X (zs_W S h) 0 0 125 [(0, .ref (S.1 68)), (1, .int x1), (2, .int x2), (3, .int x3), (4, .int x4)] []) (h : zs_H) (x1 : Int32) (x2 : Int32) (x3 : Int32) (x4 : Int32) (e : f_Mo_lookAtLoop_125 k125 h x1 x2 x3 x4 = some rh) : zk_Ab X (zs_W S h) 0 0 125 [(0, .ref (S.1 68)), (1, .int x1), (2, .int x2), (3, .int x3), (4, .int x4)] [] := by
  unfold f_Mo_lookAtLoop_125 at e
  refine zk_aload_n C kd_Mo_lookAtLoop_125 rfl 0 rfl rfl ?_
  refine zs_get (v := .ref (S.1 72)) C 68 15 rfl rfl rfl rfl ki_Mo (by decide) kw1698 kd_Mo_lookAtLoop_126 rfl ?_
  refine zk_iload C kd_Mo_lookAtLoop_129 4 rfl rfl ?_
  obtain ⟨q1, e⟩ := zd_g e
  refine zs_iald C 72 rfl (zd_vp q1) kd_Mo_lookAtLoop_131 rfl ?_
  refine zk_bipush (v := 29) C kd_Mo_lookAtLoop_132 (by decide) rfl ?_
  refine zk_icmp_le (tgt := 207) C kd_Mo_lookAtLoop_134 (by decide) rfl (fun b2 => ?_) (fun b2 => ?_)
  · replace e := zd_pos b2 e
    refine zk_aload_n C kd_Mo_lookAtLoop_207 rfl 0 rfl rfl ?_
    refine zs_get (v := .ref (S.1 76)) C 68 19 rfl rfl rfl rfl ki_Mo (by decide) kw1702 kd_Mo_lookAtLoop_208 rfl ?_
    refine zk_iload_n C kd_Mo_lookAtLoop_211 rfl 1 rfl rfl ?_
    obtain ⟨q3, e⟩ := zd_g e
    refine zs_iald C 76 rfl (zd_vp q3) kd_Mo_lookAtLoop_212 rfl ?_
    refine zk_istore (lv' := [(4, _), (0, _), (1, _), (2, _), (3, _)]) C kd_Mo_lookAtLoop_213 (by decide) rfl rfl ?_
    refine zk_aload_n C kd_Mo_lookAtLoop_215 rfl 1 rfl rfl ?_
    refine zs_get (v := .ref (S.1 78)) C 68 21 rfl rfl rfl rfl ki_Mo (by decide) kw1704 kd_Mo_lookAtLoop_216 rfl ?_
    refine zk_iload C kd_Mo_lookAtLoop_219 0 rfl rfl ?_
    obtain ⟨q4, e⟩ := zd_g e
    refine zs_iald C 78 rfl (zd_vp q4) kd_Mo_lookAtLoop_221 rfl ?_
    refine zk_istore (lv' := [(5, _), (4, _), (0, _), (1, _), (2, _), (3, _)]) C kd_Mo_lookAtLoop_222 (by decide) rfl rfl ?_
    refine zk_aload_n C kd_Mo_lookAtLoop_224 rfl 2 rfl rfl ?_
    refine zs_get (v := .ref (S.1 72)) C 68 15 rfl rfl rfl rfl ki_Mo (by decide) kw1698 kd_Mo_lookAtLoop_225 rfl ?_
    refine zk_aload_n C kd_Mo_lookAtLoop_228 rfl 2 rfl rfl ?_
    refine zs_get (v := .ref (S.1 78)) C 68 21 rfl rfl rfl rfl ki_Mo (by decide) kw1704 kd_Mo_lookAtLoop_229 rfl ?_
    refine zk_iload C kd_Mo_lookAtLoop_232 0 rfl rfl ?_
    obtain ⟨q5, e⟩ := zd_g e
    refine zs_iald C 78 rfl (zd_vp q5) kd_Mo_lookAtLoop_234 rfl ?_
    obtain ⟨q6, e⟩ := zd_g e
    refine zs_iald C 72 rfl (zd_vp q6) kd_Mo_lookAtLoop_235 rfl ?_
    refine zk_bipush (v := 11) C kd_Mo_lookAtLoop_236 (by decide) rfl ?_
    refine zk_icmp_ne (tgt := 245) C kd_Mo_lookAtLoop_238 (by decide) rfl (fun b7 => ?_) (fun b7 => ?_)
    · replace e := zd_neg b7 e
      refine zk_aload_n C kd_Mo_lookAtLoop_245 rfl 2 rfl rfl ?_
      refine zs_get (v := .ref (S.1 74)) C 68 17 rfl rfl rfl rfl ki_Mo (by decide) kw1700 kd_Mo_lookAtLoop_246 rfl ?_
      refine zk_aload_n C kd_Mo_lookAtLoop_249 rfl 2 rfl rfl ?_
      refine zs_get (v := .ref (S.1 78)) C 68 21 rfl rfl rfl rfl ki_Mo (by decide) kw1704 kd_Mo_lookAtLoop_250 rfl ?_
      refine zk_iload C kd_Mo_lookAtLoop_253 0 rfl rfl ?_
      refine zs_iald C 78 rfl (zd_vp q5) kd_Mo_lookAtLoop_255 rfl ?_
      refine zs_iald C 74 rfl (zd_vp q6) kd_Mo_lookAtLoop_256 rfl ?_
      refine zk_i2l C kd_Mo_lookAtLoop_257 rfl ?_
      refine zk_lvs (lv' := [(0, .ref (S.1 68)), (1, .int x1), (3, .int x3), (4, .int (h.2.1 76 x1.toNatClampNeg)), (5, .int (h.2.1 78 (h.2.1 76 x1.toNatClampNeg).toNatClampNeg))]) [2, 3, 5, 1, 0] rfl ?_
      exact zb_Mo_lookAtLoop_258 C hR h x1 x3 (h.2.1 76 x1.toNatClampNeg) (h.2.1 78 (h.2.1 76 x1.toNatClampNeg).toNatClampNeg) ((h.2.1 74 (h.2.1 78 (h.2.1 78 (h.2.1 76 x1.toNatClampNeg).toNatClampNeg).toNatClampNeg).toNatClampNeg).toInt64) e
    · replace e := zd_pos b7 e
      refine zk_lconst (v := 1) C kd_Mo_lookAtLoop_241 (by decide) rfl ?_
      refine zk_goto (tgt := 258) C kd_Mo_lookAtLoop_242 (by decide) ?_
      refine zk_lvs (lv' := [(0, .ref (S.1 68)), (1, .int x1), (3, .int x3), (4, .int (h.2.1 76 x1.toNatClampNeg)), (5, .int (h.2.1 78 (h.2.1 76 x1.toNatClampNeg).toNatClampNeg))]) [2, 3, 5, 1, 0] rfl ?_
      exact zb_Mo_lookAtLoop_258 C hR h x1 x3 (h.2.1 76 x1.toNatClampNeg) (h.2.1 78 (h.2.1 76 x1.toNatClampNeg).toNatClampNeg) (1 : Int64) e
  · replace e := zd_neg b2 e
    refine zk_iload_n C kd_Mo_lookAtLoop_137 rfl 3 rfl rfl ?_
    refine zk_if_ne (tgt := 189) C kd_Mo_lookAtLoop_138 (by decide) rfl (fun b8 => ?_) (fun b8 => ?_)
    · replace e := zd_neg b8 e
      refine zk_lvs (lv' := [(0, .ref (S.1 68)), (1, .int x1), (2, .int x2), (4, .int x4)]) [0, 1, 2, 4] rfl ?_
      exact zb_Mo_lookAtLoop_189 C hR hk125 h x1 x2 x4 e
    · replace e := zd_pos b8 e
      refine zk_aload_n C kd_Mo_lookAtLoop_141 rfl 0 rfl rfl ?_
      refine zs_get (v := .ref (S.1 72)) C 68 15 rfl rfl rfl rfl ki_Mo (by decide) kw1698 kd_Mo_lookAtLoop_142 rfl ?_
      refine zk_iload C kd_Mo_lookAtLoop_145 4 rfl rfl ?_
      refine zs_iald C 72 rfl (zd_vp q1) kd_Mo_lookAtLoop_147 rfl ?_
      refine zk_bipush (v := 31) C kd_Mo_lookAtLoop_148 (by decide) rfl ?_
      refine zk_icmp_eq (tgt := 189) C kd_Mo_lookAtLoop_150 (by decide) rfl (fun b9 => ?_) (fun b9 => ?_)
      · replace e := zd_pos b9 e
        refine zk_lvs (lv' := [(0, .ref (S.1 68)), (1, .int x1), (2, .int x2), (4, .int x4)]) [0, 1, 2, 4] rfl ?_
        exact zb_Mo_lookAtLoop_189 C hR hk125 h x1 x2 x4 e
      · replace e := zd_neg b9 e
        refine zk_aload_n C kd_Mo_lookAtLoop_153 rfl 0 rfl rfl ?_
        refine zs_get (v := .ref (S.1 93)) C 68 44 rfl rfl rfl rfl ki_Mo (by decide) kw1727 kd_Mo_lookAtLoop_154 rfl ?_
        refine zk_iload_n C kd_Mo_lookAtLoop_157 rfl 2 rfl rfl ?_
        obtain ⟨q10, e⟩ := zd_g e
        refine zs_iald C 93 rfl (zd_vp q10) kd_Mo_lookAtLoop_158 rfl ?_
        refine zk_iconst (v := 1) C kd_Mo_lookAtLoop_159 (by decide) rfl ?_
        refine zk_icmp_ne (tgt := 193) C kd_Mo_lookAtLoop_160 (by decide) rfl (fun b11 => ?_) (fun b11 => ?_)
        · replace e := zd_neg b11 e
          refine zk_lvs (lv' := [(0, .ref (S.1 68)), (1, .int x1), (2, .int x2), (4, .int x4)]) [0, 1, 2, 4] rfl ?_
          exact zb_Mo_lookAtLoop_193 C hR hk125 h x1 x2 x4 e
        · replace e := zd_pos b11 e
          refine zk_aload_n C kd_Mo_lookAtLoop_163 rfl 0 rfl rfl ?_
          refine zs_get (v := .ref (S.1 74)) C 68 17 rfl rfl rfl rfl ki_Mo (by decide) kw1700 kd_Mo_lookAtLoop_164 rfl ?_
          refine zk_iload C kd_Mo_lookAtLoop_167 4 rfl rfl ?_
          refine zs_iald C 74 rfl (zd_vp q1) kd_Mo_lookAtLoop_169 rfl ?_
          refine zk_sipush (v := (-32768)) C kd_Mo_lookAtLoop_170 (by decide) rfl ?_
          refine zk_icmp_lt (tgt := 189) C kd_Mo_lookAtLoop_173 (by decide) rfl (fun b12 => ?_) (fun b12 => ?_)
          · replace e := zd_pos b12 e
            refine zk_lvs (lv' := [(0, .ref (S.1 68)), (1, .int x1), (2, .int x2), (4, .int x4)]) [0, 1, 2, 4] rfl ?_
            exact zb_Mo_lookAtLoop_189 C hR hk125 h x1 x2 x4 e
          · replace e := zd_neg b12 e
            refine zk_aload_n C kd_Mo_lookAtLoop_176 rfl 0 rfl rfl ?_
            refine zs_get (v := .ref (S.1 74)) C 68 17 rfl rfl rfl rfl ki_Mo (by decide) kw1700 kd_Mo_lookAtLoop_177 rfl ?_
            refine zk_iload C kd_Mo_lookAtLoop_180 4 rfl rfl ?_
            refine zs_iald C 74 rfl (zd_vp q1) kd_Mo_lookAtLoop_182 rfl ?_
            refine zk_sipush (v := 32767) C kd_Mo_lookAtLoop_183 (by decide) rfl ?_
            refine zk_icmp_le (tgt := 193) C kd_Mo_lookAtLoop_186 (by decide) rfl (fun b13 => ?_) (fun b13 => ?_)
            · replace e := zd_pos b13 e
              refine zk_lvs (lv' := [(0, .ref (S.1 68)), (1, .int x1), (2, .int x2), (4, .int x4)]) [0, 1, 2, 4] rfl ?_
              exact zb_Mo_lookAtLoop_193 C hR hk125 h x1 x2 x4 e
            · replace e := zd_neg b13 e
              refine zk_lvs (lv' := [(0, .ref (S.1 68)), (1, .int x1), (2, .int x2), (4, .int x4)]) [0, 1, 2, 4] rfl ?_
              exact zb_Mo_lookAtLoop_189 C hR hk125 h x1 x2 x4 e
theorem zl_Mo_lookAtLoop_125 {X : zkj_T} {S : zs_T} {P : ze_T} {l : Launch} {D : va_G} {sz0 : Nat} {rh : zs_H} (C : zk_C X km_Mo_lookAtLoop (zs_G S l D sz0) { frames := 3, cells := 0, slots := 0, locals := 69 } (ze_E P)) (hR : zkj_R X (zd_PV S rh) (none)) (n : Nat) : ∀ (h : zs_H) (x1 : Int32) (x2 : Int32) (x3 : Int32) (x4 : Int32), f_Mo_lookAtLoop_L125 n h x1 x2 x3 x4 = some rh → zk_Ab X (zs_W S h) 0 0 125 [(0, .ref (S.1 68)), (1, .int x1), (2, .int x2), (3, .int x3), (4, .int x4)] [] := by
  induction n with
  | zero => intro h x1 x2 x3 x4 e; exact zd_no e
  | succ n ih => intro h x1 x2 x3 x4 e; exact zb_Mo_lookAtLoop_125 (k125 := f_Mo_lookAtLoop_L125  n) C hR ih h x1 x2 x3 x4 e
set_option maxHeartbeats 4000000 in
set_option maxRecDepth 100000 in
theorem zb_Mo_lookAtLoop_78 {X : zkj_T} {S : zs_T} {P : ze_T} {l : Launch} {D : va_G} {sz0 : Nat} {rh : zs_H} (C : zk_C X km_Mo_lookAtLoop (zs_G S l D sz0) { frames := 3, cells := 0, slots := 0, locals := 69 } (ze_E P)) (hR : zkj_R X (zd_PV S rh) (none)) (h : zs_H) (x1 : Int32) (x2 : Int32) (y0 : Int32) (e : f_Mo_lookAtLoop_78 h x1 x2 y0 = some rh) : zk_Ab X (zs_W S h) 0 0 78 [(0, .ref (S.1 68)), (1, .int x1), (2, .int x2)] [.int y0, .ref (S.1 68)] := by
  unfold f_Mo_lookAtLoop_78 at e
  refine zk_bipush (v := 22) C kd_Mo_lookAtLoop_78 (by decide) rfl ?_
  refine zk_iload_n C kd_Mo_lookAtLoop_80 rfl 1 rfl rfl ?_
  obtain ⟨h2, c1, e⟩ := zd_b e
  refine zs_callV (k := 68) (rn := { frames := 1, cells := 0, slots := 0, locals := 22 }) (As := [.int y0, .int 22, .int x1]) (rest := []) C (zc_Mo_rule h y0 22 x1 c1) ku_Mo_rule kw2260 kv_Mo_rule rfl ⟨by decide, by decide⟩ ⟨by decide, by decide⟩ rfl rfl rfl (Nat.le_of_ble_eq_true rfl) kd_Mo_lookAtLoop_81 rfl (c1 := 0) (s1 := 0) rfl rfl (fun v w hp => ?_)
  obtain ⟨rfl, rfl⟩ := hp
  refine zk_stk (r' := []) rfl ?_
  refine zk_aload_n C kd_Mo_lookAtLoop_84 rfl 0 rfl rfl ?_
  refine zk_aload_n C kd_Mo_lookAtLoop_85 rfl 0 rfl rfl ?_
  refine zs_get (v := .ref (S.1 74)) C 68 17 rfl rfl rfl rfl ki_Mo (by decide) kw1700 kd_Mo_lookAtLoop_86 rfl ?_
  refine zk_iload_n C kd_Mo_lookAtLoop_89 rfl 1 rfl rfl ?_
  obtain ⟨q3, e⟩ := zd_g e
  refine zs_iald C 74 rfl (zd_vp q3) kd_Mo_lookAtLoop_90 rfl ?_
  refine zk_iload_n C kd_Mo_lookAtLoop_91 rfl 1 rfl rfl ?_
  obtain ⟨h5, c4, e⟩ := zd_b e
  refine zs_callV (k := 68) (rn := { frames := 2, cells := 0, slots := 0, locals := 45 }) (As := [.int (h2.2.1 74 x1.toNatClampNeg), .int x1]) (rest := []) C (zc_Mo_lookAtAssigned h2 (h2.2.1 74 x1.toNatClampNeg) x1 c4) ku_Mo_lookAtAssigned kw2343 kv_Mo_lookAtAssigned rfl ⟨by decide, by decide⟩ ⟨by decide, by decide⟩ rfl rfl rfl (Nat.le_of_ble_eq_true rfl) kd_Mo_lookAtLoop_92 rfl (c1 := 0) (s1 := 0) rfl rfl (fun v w hp => ?_)
  obtain ⟨rfl, rfl⟩ := hp
  refine zk_stk (r' := []) rfl ?_
  refine zk_aload_n C kd_Mo_lookAtLoop_95 rfl 0 rfl rfl ?_
  refine zs_get (v := .int (h5.1 68 29)) C 68 29 rfl rfl rfl rfl ki_Mo (by decide) kw1712 kd_Mo_lookAtLoop_96 rfl ?_
  refine zk_if_le (tgt := 103) C kd_Mo_lookAtLoop_99 (by decide) rfl (fun b6 => ?_) (fun b6 => ?_)
  · replace e := zd_pos b6 e
    refine zk_aload_n C kd_Mo_lookAtLoop_103 rfl 0 rfl rfl ?_
    refine zs_get (v := .ref (S.1 101)) C 68 52 rfl rfl rfl rfl ki_Mo (by decide) kw1735 kd_Mo_lookAtLoop_104 rfl ?_
    refine zk_iload_n C kd_Mo_lookAtLoop_107 rfl 1 rfl rfl ?_
    refine zk_aload_n C kd_Mo_lookAtLoop_108 rfl 0 rfl rfl ?_
    refine zs_get (v := .ref (S.1 94)) C 68 45 rfl rfl rfl rfl ki_Mo (by decide) kw1728 kd_Mo_lookAtLoop_109 rfl ?_
    refine zk_iload_n C kd_Mo_lookAtLoop_112 rfl 2 rfl rfl ?_
    obtain ⟨q7, e⟩ := zd_g e
    refine zs_iald C 94 rfl (zd_vp q7) kd_Mo_lookAtLoop_113 rfl ?_
    obtain ⟨q8, e⟩ := zd_g e
    refine zs_iast C 101 rfl (zd_vp q8) kd_Mo_lookAtLoop_114 rfl ?_
    refine zk_iconst (v := 0) C kd_Mo_lookAtLoop_115 (by decide) rfl ?_
    refine zk_istore_n (lv' := [(3, _), (0, _), (1, _), (2, _)]) C kd_Mo_lookAtLoop_116 rfl (by decide) rfl rfl ?_
    refine zk_aload_n C kd_Mo_lookAtLoop_117 rfl 1 rfl rfl ?_
    refine zs_get (v := .ref (S.1 76)) C 68 19 rfl rfl rfl rfl ki_Mo (by decide) kw1702 kd_Mo_lookAtLoop_118 rfl ?_
    refine zk_iload_n C kd_Mo_lookAtLoop_121 rfl 2 rfl rfl ?_
    refine zs_iald C 76 rfl (zd_vp q8) kd_Mo_lookAtLoop_122 rfl ?_
    refine zk_stk (r' := [.int (h5.2.1 76 x1.toNatClampNeg)]) rfl ?_
    refine zk_istore (lv' := [(4, _), (3, _), (0, _), (1, _), (2, _)]) C kd_Mo_lookAtLoop_123 (by decide) rfl rfl ?_
    refine zk_lvs (lv' := [(0, .ref (S.1 68)), (1, .int x1), (2, .int x2), (3, .int 0), (4, .int (h5.2.1 76 x1.toNatClampNeg))]) [2, 3, 4, 1, 0] rfl ?_
    exact zl_Mo_lookAtLoop_125 C hR zF (zs_uM h5 101 x1.toNatClampNeg (h5.2.1 94 x2.toNatClampNeg)) x1 x2 0 (h5.2.1 76 x1.toNatClampNeg) e
  · replace e := zd_neg b6 e
    exact zk_vret C hR kd_Mo_lookAtLoop_102 rfl rfl (zd_rV e)
set_option maxHeartbeats 4000000 in
set_option maxRecDepth 100000 in
theorem zb_Mo_lookAtLoop_77 {X : zkj_T} {S : zs_T} {P : ze_T} {l : Launch} {D : va_G} {sz0 : Nat} {rh : zs_H} (C : zk_C X km_Mo_lookAtLoop (zs_G S l D sz0) { frames := 3, cells := 0, slots := 0, locals := 69 } (ze_E P)) (hR : zkj_R X (zd_PV S rh) (none)) (h : zs_H) (x1 : Int32) (x2 : Int32) (e : f_Mo_lookAtLoop_77 h x1 x2 = some rh) : zk_Ab X (zs_W S h) 0 0 77 [(0, .ref (S.1 68)), (1, .int x1), (2, .int x2)] [.ref (S.1 68)] := by
  unfold f_Mo_lookAtLoop_77 at e
  refine zk_iconst (v := 0) C kd_Mo_lookAtLoop_77 (by decide) rfl ?_
  refine zk_lvs (lv' := [(0, .ref (S.1 68)), (1, .int x1), (2, .int x2)]) [0, 1, 2] rfl ?_
  exact zb_Mo_lookAtLoop_78 C hR h x1 x2 0 e
set_option maxHeartbeats 4000000 in
set_option maxRecDepth 100000 in
theorem zb_Mo_lookAtLoop_50 {X : zkj_T} {S : zs_T} {P : ze_T} {l : Launch} {D : va_G} {sz0 : Nat} {rh : zs_H} (C : zk_C X km_Mo_lookAtLoop (zs_G S l D sz0) { frames := 3, cells := 0, slots := 0, locals := 69 } (ze_E P)) (hR : zkj_R X (zd_PV S rh) (none)) (h : zs_H) (x1 : Int32) (x2 : Int32) (y0 : Int32) (e : f_Mo_lookAtLoop_50 h x1 x2 y0 = some rh) : zk_Ab X (zs_W S h) 0 0 50 [(0, .ref (S.1 68)), (1, .int x1), (2, .int x2)] [.int y0, .ref (S.1 68)] := by
  unfold f_Mo_lookAtLoop_50 at e
  refine zk_bipush (v := 21) C kd_Mo_lookAtLoop_50 (by decide) rfl ?_
  refine zk_iload_n C kd_Mo_lookAtLoop_52 rfl 1 rfl rfl ?_
  obtain ⟨h2, c1, e⟩ := zd_b e
  refine zs_callV (k := 68) (rn := { frames := 1, cells := 0, slots := 0, locals := 22 }) (As := [.int y0, .int 21, .int x1]) (rest := []) C (zc_Mo_rule h y0 21 x1 c1) ku_Mo_rule kw2260 kv_Mo_rule rfl ⟨by decide, by decide⟩ ⟨by decide, by decide⟩ rfl rfl rfl (Nat.le_of_ble_eq_true rfl) kd_Mo_lookAtLoop_53 rfl (c1 := 0) (s1 := 0) rfl rfl (fun v w hp => ?_)
  obtain ⟨rfl, rfl⟩ := hp
  refine zk_stk (r' := []) rfl ?_
  refine zk_aload_n C kd_Mo_lookAtLoop_56 rfl 0 rfl rfl ?_
  refine zk_iload_n C kd_Mo_lookAtLoop_57 rfl 2 rfl rfl ?_
  refine zk_if_lt (tgt := 77) C kd_Mo_lookAtLoop_58 (by decide) rfl (fun b3 => ?_) (fun b3 => ?_)
  · replace e := zd_pos b3 e
    refine zk_lvs (lv' := [(0, .ref (S.1 68)), (1, .int x1), (2, .int x2)]) [0, 1, 2] rfl ?_
    exact zb_Mo_lookAtLoop_77 C hR h2 x1 x2 e
  · replace e := zd_neg b3 e
    refine zk_aload_n C kd_Mo_lookAtLoop_61 rfl 0 rfl rfl ?_
    refine zs_get (v := .ref (S.1 93)) C 68 44 rfl rfl rfl rfl ki_Mo (by decide) kw1727 kd_Mo_lookAtLoop_62 rfl ?_
    refine zk_iload_n C kd_Mo_lookAtLoop_65 rfl 2 rfl rfl ?_
    obtain ⟨q4, e⟩ := zd_g e
    refine zs_iald C 93 rfl (zd_vp q4) kd_Mo_lookAtLoop_66 rfl ?_
    refine zk_callS (rn := { frames := 0, cells := 0, slots := 0, locals := 0 }) (As := [.int (h2.2.1 93 x2.toNatClampNeg)]) (rest := [.ref (S.1 68)]) C (zc_Mo_isNumber h2 (h2.2.1 93 x2.toNatClampNeg)) ku_Mo_isNumber kw2469 ks_Mo_isNumber rfl ⟨by decide, by decide⟩ ⟨by decide, by decide⟩ rfl (Nat.le_of_ble_eq_true rfl) kd_Mo_lookAtLoop_67 rfl (c1 := 0) (s1 := 0) rfl rfl (fun v w hp => ?_)
    obtain ⟨rfl, rfl, z5⟩ := hp
    refine zk_stk (r' := [.int (f_Mo_isNumber (h2.2.1 93 x2.toNatClampNeg)), .ref (S.1 68)]) rfl ?_
    refine zk_if_ne (tgt := 77) C kd_Mo_lookAtLoop_70 (by decide) rfl (fun b6 => ?_) (fun b6 => ?_)
    · replace e := zd_neg b6 e
      refine zk_lvs (lv' := [(0, .ref (S.1 68)), (1, .int x1), (2, .int x2)]) [0, 1, 2] rfl ?_
      exact zb_Mo_lookAtLoop_77 C hR h2 x1 x2 e
    · replace e := zd_pos b6 e
      refine zk_iconst (v := 1) C kd_Mo_lookAtLoop_73 (by decide) rfl ?_
      refine zk_goto (tgt := 78) C kd_Mo_lookAtLoop_74 (by decide) ?_
      refine zk_lvs (lv' := [(0, .ref (S.1 68)), (1, .int x1), (2, .int x2)]) [0, 1, 2] rfl ?_
      exact zb_Mo_lookAtLoop_78 C hR h2 x1 x2 1 e
set_option maxHeartbeats 4000000 in
set_option maxRecDepth 100000 in
theorem zb_Mo_lookAtLoop_49 {X : zkj_T} {S : zs_T} {P : ze_T} {l : Launch} {D : va_G} {sz0 : Nat} {rh : zs_H} (C : zk_C X km_Mo_lookAtLoop (zs_G S l D sz0) { frames := 3, cells := 0, slots := 0, locals := 69 } (ze_E P)) (hR : zkj_R X (zd_PV S rh) (none)) (h : zs_H) (x1 : Int32) (x2 : Int32) (e : f_Mo_lookAtLoop_49 h x1 x2 = some rh) : zk_Ab X (zs_W S h) 0 0 49 [(0, .ref (S.1 68)), (1, .int x1), (2, .int x2)] [.ref (S.1 68)] := by
  unfold f_Mo_lookAtLoop_49 at e
  refine zk_iconst (v := 0) C kd_Mo_lookAtLoop_49 (by decide) rfl ?_
  refine zk_lvs (lv' := [(0, .ref (S.1 68)), (1, .int x1), (2, .int x2)]) [0, 1, 2] rfl ?_
  exact zb_Mo_lookAtLoop_50 C hR h x1 x2 0 e
set_option maxHeartbeats 4000000 in
set_option maxRecDepth 100000 in
theorem zb_Mo_lookAtLoop_25 {X : zkj_T} {S : zs_T} {P : ze_T} {l : Launch} {D : va_G} {sz0 : Nat} {rh : zs_H} (C : zk_C X km_Mo_lookAtLoop (zs_G S l D sz0) { frames := 3, cells := 0, slots := 0, locals := 69 } (ze_E P)) (hR : zkj_R X (zd_PV S rh) (none)) (h : zs_H) (x1 : Int32) (x2 : Int32) (y0 : Int32) (e : f_Mo_lookAtLoop_25 h x1 x2 y0 = some rh) : zk_Ab X (zs_W S h) 0 0 25 [(0, .ref (S.1 68)), (1, .int x1), (2, .int x2)] [.int y0, .ref (S.1 68)] := by
  unfold f_Mo_lookAtLoop_25 at e
  refine zk_bipush (v := 20) C kd_Mo_lookAtLoop_25 (by decide) rfl ?_
  refine zk_iload_n C kd_Mo_lookAtLoop_27 rfl 1 rfl rfl ?_
  obtain ⟨h2, c1, e⟩ := zd_b e
  refine zs_callV (k := 68) (rn := { frames := 1, cells := 0, slots := 0, locals := 22 }) (As := [.int y0, .int 20, .int x1]) (rest := []) C (zc_Mo_rule h y0 20 x1 c1) ku_Mo_rule kw2260 kv_Mo_rule rfl ⟨by decide, by decide⟩ ⟨by decide, by decide⟩ rfl rfl rfl (Nat.le_of_ble_eq_true rfl) kd_Mo_lookAtLoop_28 rfl (c1 := 0) (s1 := 0) rfl rfl (fun v w hp => ?_)
  obtain ⟨rfl, rfl⟩ := hp
  refine zk_stk (r' := []) rfl ?_
  refine zk_aload_n C kd_Mo_lookAtLoop_31 rfl 0 rfl rfl ?_
  refine zk_iload_n C kd_Mo_lookAtLoop_32 rfl 2 rfl rfl ?_
  refine zk_if_lt (tgt := 49) C kd_Mo_lookAtLoop_33 (by decide) rfl (fun b3 => ?_) (fun b3 => ?_)
  · replace e := zd_pos b3 e
    refine zk_lvs (lv' := [(0, .ref (S.1 68)), (1, .int x1), (2, .int x2)]) [0, 1, 2] rfl ?_
    exact zb_Mo_lookAtLoop_49 C hR h2 x1 x2 e
  · replace e := zd_neg b3 e
    refine zk_aload_n C kd_Mo_lookAtLoop_36 rfl 0 rfl rfl ?_
    refine zs_get (v := .ref (S.1 92)) C 68 43 rfl rfl rfl rfl ki_Mo (by decide) kw1726 kd_Mo_lookAtLoop_37 rfl ?_
    refine zk_iload_n C kd_Mo_lookAtLoop_40 rfl 2 rfl rfl ?_
    obtain ⟨q4, e⟩ := zd_g e
    refine zs_iald C 92 rfl (zd_vp q4) kd_Mo_lookAtLoop_41 rfl ?_
    refine zk_if_eq (tgt := 49) C kd_Mo_lookAtLoop_42 (by decide) rfl (fun b5 => ?_) (fun b5 => ?_)
    · replace e := zd_pos b5 e
      refine zk_lvs (lv' := [(0, .ref (S.1 68)), (1, .int x1), (2, .int x2)]) [0, 1, 2] rfl ?_
      exact zb_Mo_lookAtLoop_49 C hR h2 x1 x2 e
    · replace e := zd_neg b5 e
      refine zk_iconst (v := 1) C kd_Mo_lookAtLoop_45 (by decide) rfl ?_
      refine zk_goto (tgt := 50) C kd_Mo_lookAtLoop_46 (by decide) ?_
      refine zk_lvs (lv' := [(0, .ref (S.1 68)), (1, .int x1), (2, .int x2)]) [0, 1, 2] rfl ?_
      exact zb_Mo_lookAtLoop_50 C hR h2 x1 x2 1 e
set_option maxHeartbeats 4000000 in
set_option maxRecDepth 100000 in
theorem zc_Mo_lookAtLoop {l : Launch} {D : va_G} {sz0 : Nat} {S : zs_T} {P : ze_T} (h : zs_H) (x1 : Int32) {rh : zs_H} (e : f_Mo_lookAtLoop h x1 = some rh) : zk_Sp (zs_G S l D sz0) (ze_E P) km_Mo_lookAtLoop { frames := 3, cells := 0, slots := 0, locals := 69 } [.ref (S.1 68), .int x1] (zs_W S h) (zd_PV S rh) := by
  refine zk_met ku_Mo_lookAtLoop (Nat.le_of_ble_eq_true rfl) (ze_Em P) ?_
  intro X C hR
  refine zk_lvs (lv' := [(0, .ref (S.1 68)), (1, .int x1)]) [0, 1] rfl ?_
  unfold f_Mo_lookAtLoop at e
  refine zk_aload_n C kd_Mo_lookAtLoop_0 rfl 0 rfl rfl ?_
  refine zk_aload_n C kd_Mo_lookAtLoop_1 rfl 0 rfl rfl ?_
  refine zs_get (v := .int (h.1 68 54)) C 68 54 rfl rfl rfl rfl ki_Mo (by decide) kw1737 kd_Mo_lookAtLoop_2 rfl ?_
  refine zk_aload_n C kd_Mo_lookAtLoop_5 rfl 0 rfl rfl ?_
  refine zs_get (v := .ref (S.1 74)) C 68 17 rfl rfl rfl rfl ki_Mo (by decide) kw1700 kd_Mo_lookAtLoop_6 rfl ?_
  refine zk_iload_n C kd_Mo_lookAtLoop_9 rfl 1 rfl rfl ?_
  obtain ⟨q1, e⟩ := zd_g e
  refine zs_iald C 74 rfl (zd_vp q1) kd_Mo_lookAtLoop_10 rfl ?_
  obtain ⟨v3, c2, e⟩ := zd_b e
  refine zs_callV (k := 68) (rn := { frames := 0, cells := 0, slots := 0, locals := 0 }) (As := [.int (h.1 68 54), .int (h.2.1 74 x1.toNatClampNeg)]) (rest := []) C (zc_Mo_variable h (h.1 68 54) (h.2.1 74 x1.toNatClampNeg) c2) ku_Mo_variable kw2327 kv_Mo_variable rfl ⟨by decide, by decide⟩ ⟨by decide, by decide⟩ rfl rfl rfl (Nat.le_of_ble_eq_true rfl) kd_Mo_lookAtLoop_11 rfl (c1 := 0) (s1 := 0) rfl rfl (fun v w hp => ?_)
  obtain ⟨rfl, rfl⟩ := hp
  refine zk_stk (r' := [.int v3]) rfl ?_
  refine zk_istore_n (lv' := [(2, _), (0, _), (1, _)]) C kd_Mo_lookAtLoop_14 rfl (by decide) rfl rfl ?_
  refine zk_aload_n C kd_Mo_lookAtLoop_15 rfl 1 rfl rfl ?_
  refine zk_iload_n C kd_Mo_lookAtLoop_16 rfl 0 rfl rfl ?_
  refine zk_if_ge (tgt := 24) C kd_Mo_lookAtLoop_17 (by decide) rfl (fun b4 => ?_) (fun b4 => ?_)
  · replace e := zd_pos b4 e
    refine zk_iconst (v := 0) C kd_Mo_lookAtLoop_24 (by decide) rfl ?_
    refine zk_lvs (lv' := [(0, .ref (S.1 68)), (1, .int x1), (2, .int v3)]) [1, 2, 0] rfl ?_
    exact zb_Mo_lookAtLoop_25 C hR h x1 v3 0 e
  · replace e := zd_neg b4 e
    refine zk_iconst (v := 1) C kd_Mo_lookAtLoop_20 (by decide) rfl ?_
    refine zk_goto (tgt := 25) C kd_Mo_lookAtLoop_21 (by decide) ?_
    refine zk_lvs (lv' := [(0, .ref (S.1 68)), (1, .int x1), (2, .int v3)]) [1, 2, 0] rfl ?_
    exact zb_Mo_lookAtLoop_25 C hR h x1 v3 1 e
set_option maxHeartbeats 4000000 in
set_option maxRecDepth 100000 in
theorem zb_Mo_pinType_46 {X : zkj_T} {S : zs_T} {P : ze_T} {l : Launch} {D : va_G} {sz0 : Nat} {rv : Int32} {h : zs_H} (C : zk_C X km_Mo_pinType (zs_G S l D sz0) { frames := 0, cells := 0, slots := 0, locals := 0 } (ze_E P)) (hR : zkj_R X (zd_PI S rv h) (some .int)) (x3 : Int32) (e : f_Mo_pinType_46 h x3 = some rv) : zk_Ab X (zs_W S h) 0 0 46 [(3, .int x3)] [] := by
  unfold f_Mo_pinType_46 at e
  refine zk_iload_n C kd_Mo_pinType_46 rfl 0 rfl rfl ?_
  refine zk_iconst (v := 2) C kd_Mo_pinType_47 (by decide) rfl ?_
  refine zk_icmp_ne (tgt := 55) C kd_Mo_pinType_48 (by decide) rfl (fun b1 => ?_) (fun b1 => ?_)
  · replace e := zd_neg b1 e
    refine zk_iconst (v := 0) C kd_Mo_pinType_55 (by decide) rfl ?_
    refine zk_goto (tgt := 77) C kd_Mo_pinType_56 (by decide) ?_
    exact zk_iret C hR kd_Mo_pinType_77 rfl rfl (zd_rIO e)
  · replace e := zd_pos b1 e
    refine zk_iconst (v := 1) C kd_Mo_pinType_51 (by decide) rfl ?_
    refine zk_goto (tgt := 77) C kd_Mo_pinType_52 (by decide) ?_
    exact zk_iret C hR kd_Mo_pinType_77 rfl rfl (zd_rIO e)
set_option maxHeartbeats 4000000 in
set_option maxRecDepth 100000 in
theorem zb_Mo_pinType_26 {X : zkj_T} {S : zs_T} {P : ze_T} {l : Launch} {D : va_G} {sz0 : Nat} {rv : Int32} {h : zs_H} (C : zk_C X km_Mo_pinType (zs_G S l D sz0) { frames := 0, cells := 0, slots := 0, locals := 0 } (ze_E P)) (hR : zkj_R X (zd_PI S rv h) (some .int)) (x2 : Int32) (x3 : Int32) (y0 : Int32) (e : f_Mo_pinType_26 h x2 x3 y0 = some rv) : zk_Ab X (zs_W S h) 0 0 26 [(2, .int x2), (3, .int x3)] [.int y0] := by
  unfold f_Mo_pinType_26 at e
  refine zk_istore (lv' := [(4, _), (2, _), (3, _)]) C kd_Mo_pinType_26 (by decide) rfl rfl ?_
  refine zk_iload_n C kd_Mo_pinType_28 rfl 1 rfl rfl ?_
  refine zk_if_eq (tgt := 59) C kd_Mo_pinType_29 (by decide) rfl (fun b1 => ?_) (fun b1 => ?_)
  · replace e := zd_pos b1 e
    refine zk_iload_n C kd_Mo_pinType_59 rfl 2 rfl rfl ?_
    refine zk_if_ne (tgt := 67) C kd_Mo_pinType_60 (by decide) rfl (fun b2 => ?_) (fun b2 => ?_)
    · replace e := zd_neg b2 e
      refine zk_iload C kd_Mo_pinType_67 0 rfl rfl ?_
      refine zk_if_eq (tgt := 76) C kd_Mo_pinType_69 (by decide) rfl (fun b3 => ?_) (fun b3 => ?_)
      · replace e := zd_pos b3 e
        refine zk_iconst (v := 1) C kd_Mo_pinType_76 (by decide) rfl ?_
        exact zk_iret C hR kd_Mo_pinType_77 rfl rfl (zd_rIO e)
      · replace e := zd_neg b3 e
        refine zk_iconst (v := 2) C kd_Mo_pinType_72 (by decide) rfl ?_
        refine zk_goto (tgt := 77) C kd_Mo_pinType_73 (by decide) ?_
        exact zk_iret C hR kd_Mo_pinType_77 rfl rfl (zd_rIO e)
    · replace e := zd_pos b2 e
      refine zk_iconst (v := 0) C kd_Mo_pinType_63 (by decide) rfl ?_
      refine zk_goto (tgt := 77) C kd_Mo_pinType_64 (by decide) ?_
      exact zk_iret C hR kd_Mo_pinType_77 rfl rfl (zd_rIO e)
  · replace e := zd_neg b1 e
    refine zk_iload C kd_Mo_pinType_32 0 rfl rfl ?_
    refine zk_if_eq (tgt := 46) C kd_Mo_pinType_34 (by decide) rfl (fun b4 => ?_) (fun b4 => ?_)
    · replace e := zd_pos b4 e
      refine zk_lvs (lv' := [(3, .int x3)]) [2] rfl ?_
      exact zb_Mo_pinType_46 C hR x3 e
    · replace e := zd_neg b4 e
      refine zk_iload_n C kd_Mo_pinType_37 rfl 2 rfl rfl ?_
      refine zk_iconst (v := 1) C kd_Mo_pinType_38 (by decide) rfl ?_
      refine zk_icmp_ne (tgt := 46) C kd_Mo_pinType_39 (by decide) rfl (fun b5 => ?_) (fun b5 => ?_)
      · replace e := zd_neg b5 e
        refine zk_lvs (lv' := [(3, .int x3)]) [2] rfl ?_
        exact zb_Mo_pinType_46 C hR x3 e
      · replace e := zd_pos b5 e
        refine zk_iconst (v := 2) C kd_Mo_pinType_42 (by decide) rfl ?_
        refine zk_goto (tgt := 77) C kd_Mo_pinType_43 (by decide) ?_
        exact zk_iret C hR kd_Mo_pinType_77 rfl rfl (zd_rIO e)
set_option maxHeartbeats 4000000 in
set_option maxRecDepth 100000 in
theorem zc_Mo_pinType {l : Launch} {D : va_G} {sz0 : Nat} {S : zs_T} {P : ze_T} (h : zs_H) (x1 : Int32) (x2 : Int32) (x3 : Int32) {rv : Int32} (e : f_Mo_pinType h x1 x2 x3 = some rv) : zk_Sp (zs_G S l D sz0) (ze_E P) km_Mo_pinType { frames := 0, cells := 0, slots := 0, locals := 0 } [.ref (S.1 68), .int x1, .int x2, .int x3] (zs_W S h) (zd_PI S rv h) := by
  refine zk_met ku_Mo_pinType (Nat.le_of_ble_eq_true rfl) (ze_Em P) ?_
  intro X C hR
  refine zk_lvs (lv' := [(0, .ref (S.1 68)), (1, .int x1), (2, .int x2), (3, .int x3)]) [0, 1, 2, 3] rfl ?_
  unfold f_Mo_pinType at e
  refine zk_iload_n C kd_Mo_pinType_0 rfl 1 rfl rfl ?_
  refine zk_ldcw (v := 100000) C kw1988 kd_Mo_pinType_1 rfl ?_
  refine zk_icmp_ge (tgt := 14) C kd_Mo_pinType_4 (by decide) rfl (fun b1 => ?_) (fun b1 => ?_)
  · replace e := zd_pos b1 e
    refine zk_iload_n C kd_Mo_pinType_14 rfl 1 rfl rfl ?_
    refine zk_ldcw (v := 100003) C kw2369 kd_Mo_pinType_15 rfl ?_
    refine zk_icmp_ge (tgt := 25) C kd_Mo_pinType_18 (by decide) rfl (fun b2 => ?_) (fun b2 => ?_)
    · replace e := zd_pos b2 e
      refine zk_iconst (v := 0) C kd_Mo_pinType_25 (by decide) rfl ?_
      refine zk_lvs (lv' := [(2, .int x2), (3, .int x3)]) [2, 3] rfl ?_
      exact zb_Mo_pinType_26 C hR x2 x3 0 e
    · replace e := zd_neg b2 e
      refine zk_iconst (v := 1) C kd_Mo_pinType_21 (by decide) rfl ?_
      refine zk_goto (tgt := 26) C kd_Mo_pinType_22 (by decide) ?_
      refine zk_lvs (lv' := [(2, .int x2), (3, .int x3)]) [2, 3] rfl ?_
      exact zb_Mo_pinType_26 C hR x2 x3 1 e
  · replace e := zd_neg b1 e
    refine zk_aload_n C kd_Mo_pinType_7 rfl 0 rfl rfl ?_
    refine zs_get (v := .ref (S.1 93)) C 68 44 rfl rfl rfl rfl ki_Mo (by decide) kw1727 kd_Mo_pinType_8 rfl ?_
    refine zk_iload_n C kd_Mo_pinType_11 rfl 3 rfl rfl ?_
    obtain ⟨q3, e⟩ := zd_g e
    refine zs_iald C 93 rfl (zd_vp q3) kd_Mo_pinType_12 rfl ?_
    exact zk_iret C hR kd_Mo_pinType_13 rfl rfl (zd_rIO e)
set_option maxHeartbeats 4000000 in
set_option maxRecDepth 100000 in
theorem zc_Mo_fits {l : Launch} {D : va_G} {sz0 : Nat} {S : zs_T} {P : ze_T} (h : zs_H) (x0 : Int32) (x1 : Int32) : zk_Sp (zs_G S l D sz0) (ze_E P) km_Mo_fits { frames := 0, cells := 0, slots := 0, locals := 0 } [.int x0, .int x1] (zs_W S h) (zd_PZ S (f_Mo_fits x0 x1) h) := by
  obtain ⟨rv, e⟩ : ∃ rv, f_Mo_fits x0 x1 = rv := ⟨_, rfl⟩
  rw [e]
  refine zk_met ku_Mo_fits (Nat.le_of_ble_eq_true rfl) (ze_Em P) ?_
  intro X C hR
  refine zk_lvs (lv' := [(0, .int x0), (1, .int x1)]) [0, 1] rfl ?_
  unfold f_Mo_fits at e
  refine zk_iload_n C kd_Mo_fits_0 rfl 0 rfl rfl ?_
  refine zk_iload_n C kd_Mo_fits_1 rfl 1 rfl rfl ?_
  refine zk_icmp_eq (tgt := 15) C kd_Mo_fits_2 (by decide) rfl (fun b1 => ?_) (fun b1 => ?_)
  · replace e := zd_pos b1 e
    refine zk_iconst (v := 1) C kd_Mo_fits_15 (by decide) rfl ?_
    refine zk_goto (tgt := 20) C kd_Mo_fits_16 (by decide) ?_
    exact zk_zret C hR (zd_nb (Or.inr rfl)) kd_Mo_fits_20 rfl rfl (zd_rZT (Or.inr rfl) e)
  · replace e := zd_neg b1 e
    refine zk_iload_n C kd_Mo_fits_5 rfl 0 rfl rfl ?_
    refine zk_iconst (v := 1) C kd_Mo_fits_6 (by decide) rfl ?_
    refine zk_icmp_ne (tgt := 19) C kd_Mo_fits_7 (by decide) rfl (fun b2 => ?_) (fun b2 => ?_)
    · replace e := zd_neg b2 e
      refine zk_iconst (v := 0) C kd_Mo_fits_19 (by decide) rfl ?_
      exact zk_zret C hR (zd_nb (Or.inl rfl)) kd_Mo_fits_20 rfl rfl (zd_rZT (Or.inl rfl) e)
    · replace e := zd_pos b2 e
      refine zk_iload_n C kd_Mo_fits_10 rfl 1 rfl rfl ?_
      refine zk_iconst (v := 2) C kd_Mo_fits_11 (by decide) rfl ?_
      refine zk_icmp_ne (tgt := 19) C kd_Mo_fits_12 (by decide) rfl (fun b3 => ?_) (fun b3 => ?_)
      · replace e := zd_neg b3 e
        refine zk_iconst (v := 0) C kd_Mo_fits_19 (by decide) rfl ?_
        exact zk_zret C hR (zd_nb (Or.inl rfl)) kd_Mo_fits_20 rfl rfl (zd_rZT (Or.inl rfl) e)
      · replace e := zd_pos b3 e
        refine zk_iconst (v := 1) C kd_Mo_fits_15 (by decide) rfl ?_
        refine zk_goto (tgt := 20) C kd_Mo_fits_16 (by decide) ?_
        exact zk_zret C hR (zd_nb (Or.inr rfl)) kd_Mo_fits_20 rfl rfl (zd_rZT (Or.inr rfl) e)
set_option maxHeartbeats 4000000 in
set_option maxRecDepth 100000 in
theorem zc_Mo_pinCell {l : Launch} {D : va_G} {sz0 : Nat} {S : zs_T} {P : ze_T} (h : zs_H) (x1 : Int32) (x2 : Int32) (x3 : Int32) {rv : Int32} (e : f_Mo_pinCell h x1 x2 x3 = some rv) : zk_Sp (zs_G S l D sz0) (ze_E P) km_Mo_pinCell { frames := 0, cells := 0, slots := 0, locals := 0 } [.ref (S.1 68), .int x1, .int x2, .int x3] (zs_W S h) (zd_PI S rv h) := by
  refine zk_met ku_Mo_pinCell (Nat.le_of_ble_eq_true rfl) (ze_Em P) ?_
  intro X C hR
  refine zk_lvs (lv' := [(0, .ref (S.1 68)), (1, .int x1), (2, .int x2), (3, .int x3)]) [0, 1, 2, 3] rfl ?_
  unfold f_Mo_pinCell at e
  refine zk_iload_n C kd_Mo_pinCell_0 rfl 1 rfl rfl ?_
  refine zk_ldcw (v := 100000) C kw1988 kd_Mo_pinCell_1 rfl ?_
  refine zk_icmp_ge (tgt := 14) C kd_Mo_pinCell_4 (by decide) rfl (fun b1 => ?_) (fun b1 => ?_)
  · replace e := zd_pos b1 e
    refine zk_iload_n C kd_Mo_pinCell_14 rfl 2 rfl rfl ?_
    refine zk_if_eq (tgt := 22) C kd_Mo_pinCell_15 (by decide) rfl (fun b2 => ?_) (fun b2 => ?_)
    · replace e := zd_pos b2 e
      refine zk_iload_n C kd_Mo_pinCell_22 rfl 3 rfl rfl ?_
      refine zk_iconst (v := 1) C kd_Mo_pinCell_23 (by decide) rfl ?_
      refine zk_icmp_ne (tgt := 42) C kd_Mo_pinCell_24 (by decide) rfl (fun b3 => ?_) (fun b3 => ?_)
      · replace e := zd_neg b3 e
        refine zk_iload_n C kd_Mo_pinCell_42 rfl 1 rfl rfl ?_
        refine zk_ldcw (v := 100003) C kw2369 kd_Mo_pinCell_43 rfl ?_
        refine zk_icmp_ge (tgt := 53) C kd_Mo_pinCell_46 (by decide) rfl (fun b4 => ?_) (fun b4 => ?_)
        · replace e := zd_pos b4 e
          refine zk_iload_n C kd_Mo_pinCell_53 rfl 1 rfl rfl ?_
          refine zk_ldcw (v := 100005) C kw2322 kd_Mo_pinCell_54 rfl ?_
          refine zk_icmp_ge (tgt := 64) C kd_Mo_pinCell_57 (by decide) rfl (fun b5 => ?_) (fun b5 => ?_)
          · replace e := zd_pos b5 e
            refine zk_iload_n C kd_Mo_pinCell_64 rfl 1 rfl rfl ?_
            refine zk_ldcw (v := 100007) C kw2374 kd_Mo_pinCell_65 rfl ?_
            refine zk_icmp_ge (tgt := 75) C kd_Mo_pinCell_68 (by decide) rfl (fun b6 => ?_) (fun b6 => ?_)
            · replace e := zd_pos b6 e
              refine zk_iconst (v := 2) C kd_Mo_pinCell_75 (by decide) rfl ?_
              exact zk_iret C hR kd_Mo_pinCell_76 rfl rfl (zd_rIO e)
            · replace e := zd_neg b6 e
              refine zk_iconst (v := 1) C kd_Mo_pinCell_71 (by decide) rfl ?_
              refine zk_goto (tgt := 76) C kd_Mo_pinCell_72 (by decide) ?_
              exact zk_iret C hR kd_Mo_pinCell_76 rfl rfl (zd_rIO e)
          · replace e := zd_neg b5 e
            refine zk_iconst (v := 3) C kd_Mo_pinCell_60 (by decide) rfl ?_
            refine zk_goto (tgt := 76) C kd_Mo_pinCell_61 (by decide) ?_
            exact zk_iret C hR kd_Mo_pinCell_76 rfl rfl (zd_rIO e)
        · replace e := zd_neg b4 e
          refine zk_iconst (v := 2) C kd_Mo_pinCell_49 (by decide) rfl ?_
          refine zk_goto (tgt := 76) C kd_Mo_pinCell_50 (by decide) ?_
          exact zk_iret C hR kd_Mo_pinCell_76 rfl rfl (zd_rIO e)
      · replace e := zd_pos b3 e
        refine zk_iload_n C kd_Mo_pinCell_27 rfl 1 rfl rfl ?_
        refine zk_ldcw (v := 100003) C kw2369 kd_Mo_pinCell_28 rfl ?_
        refine zk_icmp_ge (tgt := 38) C kd_Mo_pinCell_31 (by decide) rfl (fun b7 => ?_) (fun b7 => ?_)
        · replace e := zd_pos b7 e
          refine zk_iconst (v := 4) C kd_Mo_pinCell_38 (by decide) rfl ?_
          refine zk_goto (tgt := 76) C kd_Mo_pinCell_39 (by decide) ?_
          exact zk_iret C hR kd_Mo_pinCell_76 rfl rfl (zd_rIO e)
        · replace e := zd_neg b7 e
          refine zk_iconst (v := 3) C kd_Mo_pinCell_34 (by decide) rfl ?_
          refine zk_goto (tgt := 76) C kd_Mo_pinCell_35 (by decide) ?_
          exact zk_iret C hR kd_Mo_pinCell_76 rfl rfl (zd_rIO e)
    · replace e := zd_neg b2 e
      refine zk_iload_n C kd_Mo_pinCell_18 rfl 3 rfl rfl ?_
      refine zk_goto (tgt := 76) C kd_Mo_pinCell_19 (by decide) ?_
      exact zk_iret C hR kd_Mo_pinCell_76 rfl rfl (zd_rIO e)
  · replace e := zd_neg b1 e
    refine zk_aload_n C kd_Mo_pinCell_7 rfl 0 rfl rfl ?_
    refine zs_get (v := .ref (S.1 94)) C 68 45 rfl rfl rfl rfl ki_Mo (by decide) kw1728 kd_Mo_pinCell_8 rfl ?_
    refine zk_iload_n C kd_Mo_pinCell_11 rfl 3 rfl rfl ?_
    obtain ⟨q8, e⟩ := zd_g e
    refine zs_iald C 94 rfl (zd_vp q8) kd_Mo_pinCell_12 rfl ?_
    exact zk_iret C hR kd_Mo_pinCell_13 rfl rfl (zd_rIO e)
