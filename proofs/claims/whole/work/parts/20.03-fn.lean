theorem kw1758 : Jvm.Cond.fieldLink "PlantKeeperModel" (814 : Nat) "PlantKeeperModel" "stopped" "I" ∈ zk_BW := zk_inT 1758 (by decide +kernel) rfl
theorem kw1988 : Jvm.Cond.constant "PlantKeeperModel" (498 : Nat) (100000 : Int32) ∈ zk_BW := zk_inT 1988 (by decide +kernel) rfl
theorem kw2564 : Jvm.Cond.methodLink "PlantKeeperModel" (729 : Nat) ({ cls := "PlantKeeperModel", name := "one", desc := "(II)I" } : Jvm.MethodName) ∈ zk_BW := zk_inT 2564 (by decide +kernel) rfl
theorem kw2576 : Jvm.Cond.methodLink "PlantKeeperModel" (723 : Nat) ({ cls := "PlantKeeperModel", name := "two", desc := "(III)I" } : Jvm.MethodName) ∈ zk_BW := zk_inT 2576 (by decide +kernel) rfl
theorem kw2668 : Jvm.Cond.methodLink "PlantKeeperModel" (768 : Nat) ({ cls := "PlantKeeperModel", name := "sizeOf", desc := "(I)I" } : Jvm.MethodName) ∈ zk_BW := zk_inT 2668 (by decide +kernel) rfl
theorem kw2672 : Jvm.Cond.fieldLink "PlantKeeperModel" (771 : Nat) "PlantKeeperModel" "TAKEN" "[I" ∈ zk_BW := zk_inT 2672 (by decide +kernel) rfl
theorem kw2707 : Jvm.Cond.methodLink "PlantKeeperModel" (808 : Nat) ({ cls := "PlantKeeperModel", name := "fill", desc := "(II)V" } : Jvm.MethodName) ∈ zk_BW := zk_inT 2707 (by decide +kernel) rfl
theorem kw2709 : Jvm.Cond.instanceMethod ({ cls := "PlantKeeperModel", name := "fill", desc := "(II)V" } : Jvm.MethodName) ∈ zk_BW := zk_inT 2709 (by decide +kernel) rfl
theorem kw2710 : Jvm.Cond.code ({ cls := "PlantKeeperModel", name := "fill", desc := "(II)V" } : Jvm.MethodName) prog_14_method_152_code (6 : Nat) (Option.none : Option FieldType) ∈ zk_BW := zk_inT 2710 (by decide +kernel) rfl
theorem kw2711 : Jvm.Cond.methodLink "PlantKeeperModel" (889 : Nat) ({ cls := "PlantKeeperModel", name := "publishSafe", desc := "()V" } : Jvm.MethodName) ∈ zk_BW := zk_inT 2711 (by decide +kernel) rfl
theorem kw2713 : Jvm.Cond.instanceMethod ({ cls := "PlantKeeperModel", name := "publishSafe", desc := "()V" } : Jvm.MethodName) ∈ zk_BW := zk_inT 2713 (by decide +kernel) rfl
theorem kw2714 : Jvm.Cond.code ({ cls := "PlantKeeperModel", name := "publishSafe", desc := "()V" } : Jvm.MethodName) prog_14_method_168_code (2 : Nat) (Option.none : Option FieldType) ∈ zk_BW := zk_inT 2714 (by decide +kernel) rfl
theorem kw2720 : Jvm.Cond.instanceMethod ({ cls := "PlantKeeperModel", name := "put", desc := "(III)I" } : Jvm.MethodName) ∈ zk_BW := zk_inT 2720 (by decide +kernel) rfl
theorem kw2721 : Jvm.Cond.selects "PlantKeeperModel" ({ cls := "PlantKeeperModel", name := "put", desc := "(III)I" } : Jvm.MethodName) ({ cls := "PlantKeeperModel", name := "put", desc := "(III)I" } : Jvm.MethodName) ∈ zk_BW := zk_inT 2721 (by decide +kernel) rfl
theorem kw2722 : Jvm.Cond.code ({ cls := "PlantKeeperModel", name := "put", desc := "(III)I" } : Jvm.MethodName) prog_14_method_173_code (4 : Nat) (Option.some FieldType.int) ∈ zk_BW := zk_inT 2722 (by decide +kernel) rfl
theorem kw2723 : Jvm.Cond.methodLink "PlantKeeperModel" (895 : Nat) ({ cls := "PlantKeeperModel", name := "noPlace", desc := "(II)Z" } : Jvm.MethodName) ∈ zk_BW := zk_inT 2723 (by decide +kernel) rfl
theorem kw2724 : Jvm.Cond.static ({ cls := "PlantKeeperModel", name := "noPlace", desc := "(II)Z" } : Jvm.MethodName) ∈ zk_BW := zk_inT 2724 (by decide +kernel) rfl
theorem kw2725 : Jvm.Cond.code ({ cls := "PlantKeeperModel", name := "noPlace", desc := "(II)Z" } : Jvm.MethodName) prog_14_method_170_code (2 : Nat) (Option.some FieldType.boolean) ∈ zk_BW := zk_inT 2725 (by decide +kernel) rfl
theorem kw2726 : Jvm.Cond.methodLink "PlantKeeperModel" (898 : Nat) ({ cls := "PlantKeeperModel", name := "noValue", desc := "(II)Z" } : Jvm.MethodName) ∈ zk_BW := zk_inT 2726 (by decide +kernel) rfl
theorem kw2727 : Jvm.Cond.static ({ cls := "PlantKeeperModel", name := "noValue", desc := "(II)Z" } : Jvm.MethodName) ∈ zk_BW := zk_inT 2727 (by decide +kernel) rfl
theorem kw2728 : Jvm.Cond.code ({ cls := "PlantKeeperModel", name := "noValue", desc := "(II)Z" } : Jvm.MethodName) prog_14_method_171_code (2 : Nat) (Option.some FieldType.boolean) ∈ zk_BW := zk_inT 2728 (by decide +kernel) rfl
theorem kw2729 : Jvm.Cond.methodLink "PlantKeeperModel" (901 : Nat) ({ cls := "PlantKeeperModel", name := "spot", desc := "(II)I" } : Jvm.MethodName) ∈ zk_BW := zk_inT 2729 (by decide +kernel) rfl
theorem kw2730 : Jvm.Cond.static ({ cls := "PlantKeeperModel", name := "spot", desc := "(II)I" } : Jvm.MethodName) ∈ zk_BW := zk_inT 2730 (by decide +kernel) rfl
theorem kw2731 : Jvm.Cond.code ({ cls := "PlantKeeperModel", name := "spot", desc := "(II)I" } : Jvm.MethodName) prog_14_method_172_code (2 : Nat) (Option.some FieldType.int) ∈ zk_BW := zk_inT 2731 (by decide +kernel) rfl
theorem kw2733 : Jvm.Cond.instanceMethod ({ cls := "PlantKeeperModel", name := "get", desc := "(II)I" } : Jvm.MethodName) ∈ zk_BW := zk_inT 2733 (by decide +kernel) rfl
theorem kw2734 : Jvm.Cond.selects "PlantKeeperModel" ({ cls := "PlantKeeperModel", name := "get", desc := "(II)I" } : Jvm.MethodName) ({ cls := "PlantKeeperModel", name := "get", desc := "(II)I" } : Jvm.MethodName) ∈ zk_BW := zk_inT 2734 (by decide +kernel) rfl
theorem kw2735 : Jvm.Cond.code ({ cls := "PlantKeeperModel", name := "get", desc := "(II)I" } : Jvm.MethodName) prog_14_method_174_code (3 : Nat) (Option.some FieldType.int) ∈ zk_BW := zk_inT 2735 (by decide +kernel) rfl
theorem kw2737 : Jvm.Cond.instanceMethod ({ cls := "PlantKeeperModel", name := "safe", desc := "(III)I" } : Jvm.MethodName) ∈ zk_BW := zk_inT 2737 (by decide +kernel) rfl
theorem kw2738 : Jvm.Cond.selects "PlantKeeperModel" ({ cls := "PlantKeeperModel", name := "safe", desc := "(III)I" } : Jvm.MethodName) ({ cls := "PlantKeeperModel", name := "safe", desc := "(III)I" } : Jvm.MethodName) ∈ zk_BW := zk_inT 2738 (by decide +kernel) rfl
theorem kw2739 : Jvm.Cond.code ({ cls := "PlantKeeperModel", name := "safe", desc := "(III)I" } : Jvm.MethodName) prog_14_method_175_code (4 : Nat) (Option.some FieldType.int) ∈ zk_BW := zk_inT 2739 (by decide +kernel) rfl
theorem kw2741 : Jvm.Cond.instanceMethod ({ cls := "PlantKeeperModel", name := "scan", desc := "(I)I" } : Jvm.MethodName) ∈ zk_BW := zk_inT 2741 (by decide +kernel) rfl
theorem kw2742 : Jvm.Cond.selects "PlantKeeperModel" ({ cls := "PlantKeeperModel", name := "scan", desc := "(I)I" } : Jvm.MethodName) ({ cls := "PlantKeeperModel", name := "scan", desc := "(I)I" } : Jvm.MethodName) ∈ zk_BW := zk_inT 2742 (by decide +kernel) rfl
theorem kw2743 : Jvm.Cond.code ({ cls := "PlantKeeperModel", name := "scan", desc := "(I)I" } : Jvm.MethodName) prog_14_method_176_code (3 : Nat) (Option.some FieldType.int) ∈ zk_BW := zk_inT 2743 (by decide +kernel) rfl
theorem kw2744 : Jvm.Cond.methodLink "PlantKeeperModel" (826 : Nat) ({ cls := "PlantKeeperModel", name := "go", desc := "(II)V" } : Jvm.MethodName) ∈ zk_BW := zk_inT 2744 (by decide +kernel) rfl
theorem kw2746 : Jvm.Cond.instanceMethod ({ cls := "PlantKeeperModel", name := "go", desc := "(II)V" } : Jvm.MethodName) ∈ zk_BW := zk_inT 2746 (by decide +kernel) rfl
theorem kw2747 : Jvm.Cond.code ({ cls := "PlantKeeperModel", name := "go", desc := "(II)V" } : Jvm.MethodName) prog_14_method_155_code (4 : Nat) (Option.none : Option FieldType) ∈ zk_BW := zk_inT 2747 (by decide +kernel) rfl
theorem kw2748 : Jvm.Cond.methodLink "PlantKeeperModel" (820 : Nat) ({ cls := "PlantKeeperModel", name := "step", desc := "(III)I" } : Jvm.MethodName) ∈ zk_BW := zk_inT 2748 (by decide +kernel) rfl
theorem kw2750 : Jvm.Cond.instanceMethod ({ cls := "PlantKeeperModel", name := "step", desc := "(III)I" } : Jvm.MethodName) ∈ zk_BW := zk_inT 2750 (by decide +kernel) rfl
theorem kw2751 : Jvm.Cond.code ({ cls := "PlantKeeperModel", name := "step", desc := "(III)I" } : Jvm.MethodName) prog_14_method_156_code (11 : Nat) (Option.some FieldType.int) ∈ zk_BW := zk_inT 2751 (by decide +kernel) rfl
theorem kw2752 : Jvm.Cond.methodLink "PlantKeeperModel" (823 : Nat) ({ cls := "PlantKeeperModel", name := "lay", desc := "(I)V" } : Jvm.MethodName) ∈ zk_BW := zk_inT 2752 (by decide +kernel) rfl
theorem kw2756 : Jvm.Cond.methodLink "PlantKeeperModel" (829 : Nat) ({ cls := "PlantKeeperModel", name := "timers", desc := "(II)V" } : Jvm.MethodName) ∈ zk_BW := zk_inT 2756 (by decide +kernel) rfl
abbrev kc_Mo_fill : ByteArray := prog_14_method_152_code
def km_Mo_fill : zk_MT := (⟨"PlantKeeperModel", "fill", "(II)V"⟩, kc_Mo_fill, 6, none, 2)
theorem ku_Mo_fill : zk_My km_Mo_fill := ⟨kw2710, kw17, by decide, by decide, by decide, by decide +kernel⟩
theorem kv_Mo_fill : zk_Mv km_Mo_fill := ⟨kw2709, zk_inS 288 (q := (⟨"PlantKeeperModel", "fill", "(II)V"⟩, 96)) (by decide +kernel)⟩
abbrev kc_Mo_get : ByteArray := prog_14_method_174_code
def km_Mo_get : zk_MT := (⟨"PlantKeeperModel", "get", "(II)I"⟩, kc_Mo_get, 3, some .int, 2)
theorem ku_Mo_get : zk_My km_Mo_get := ⟨kw2735, kw17, by decide, by decide, by decide, by decide +kernel⟩
theorem kv_Mo_get : zk_Mv km_Mo_get := ⟨kw2733, kw2734⟩
abbrev kc_Mo_go : ByteArray := prog_14_method_155_code
def km_Mo_go : zk_MT := (⟨"PlantKeeperModel", "go", "(II)V"⟩, kc_Mo_go, 4, none, 2)
theorem ku_Mo_go : zk_My km_Mo_go := ⟨kw2747, kw17, by decide, by decide, by decide, by decide +kernel⟩
theorem kv_Mo_go : zk_Mv km_Mo_go := ⟨kw2746, zk_inS 290 (q := (⟨"PlantKeeperModel", "go", "(II)V"⟩, 96)) (by decide +kernel)⟩
abbrev kc_Mo_noPlace : ByteArray := prog_14_method_170_code
def km_Mo_noPlace : zk_MT := (⟨"PlantKeeperModel", "noPlace", "(II)Z"⟩, kc_Mo_noPlace, 2, some .boolean, 2)
theorem ku_Mo_noPlace : zk_My km_Mo_noPlace := ⟨kw2725, kw17, by decide, by decide, by decide, by decide +kernel⟩
theorem ks_Mo_noPlace : Cond.static km_Mo_noPlace.1 ∈ zk_BW := kw2724
abbrev kc_Mo_noValue : ByteArray := prog_14_method_171_code
def km_Mo_noValue : zk_MT := (⟨"PlantKeeperModel", "noValue", "(II)Z"⟩, kc_Mo_noValue, 2, some .boolean, 2)
theorem ku_Mo_noValue : zk_My km_Mo_noValue := ⟨kw2728, kw17, by decide, by decide, by decide, by decide +kernel⟩
theorem ks_Mo_noValue : Cond.static km_Mo_noValue.1 ∈ zk_BW := kw2727
abbrev kc_Mo_publishSafe : ByteArray := prog_14_method_168_code
def km_Mo_publishSafe : zk_MT := (⟨"PlantKeeperModel", "publishSafe", "()V"⟩, kc_Mo_publishSafe, 2, none, 0)
theorem ku_Mo_publishSafe : zk_My km_Mo_publishSafe := ⟨kw2714, kw17, by decide, by decide, by decide, by decide +kernel⟩
theorem kv_Mo_publishSafe : zk_Mv km_Mo_publishSafe := ⟨kw2713, zk_inS 289 (q := (⟨"PlantKeeperModel", "publishSafe", "()V"⟩, 96)) (by decide +kernel)⟩
abbrev kc_Mo_put : ByteArray := prog_14_method_173_code
def km_Mo_put : zk_MT := (⟨"PlantKeeperModel", "put", "(III)I"⟩, kc_Mo_put, 4, some .int, 3)
theorem ku_Mo_put : zk_My km_Mo_put := ⟨kw2722, kw17, by decide, by decide, by decide, by decide +kernel⟩
theorem kv_Mo_put : zk_Mv km_Mo_put := ⟨kw2720, kw2721⟩
abbrev kc_Mo_safe : ByteArray := prog_14_method_175_code
def km_Mo_safe : zk_MT := (⟨"PlantKeeperModel", "safe", "(III)I"⟩, kc_Mo_safe, 4, some .int, 3)
theorem ku_Mo_safe : zk_My km_Mo_safe := ⟨kw2739, kw17, by decide, by decide, by decide, by decide +kernel⟩
theorem kv_Mo_safe : zk_Mv km_Mo_safe := ⟨kw2737, kw2738⟩
abbrev kc_Mo_scan : ByteArray := prog_14_method_176_code
def km_Mo_scan : zk_MT := (⟨"PlantKeeperModel", "scan", "(I)I"⟩, kc_Mo_scan, 3, some .int, 1)
theorem ku_Mo_scan : zk_My km_Mo_scan := ⟨kw2743, kw17, by decide, by decide, by decide, by decide +kernel⟩
theorem kv_Mo_scan : zk_Mv km_Mo_scan := ⟨kw2741, kw2742⟩
abbrev kc_Mo_spot : ByteArray := prog_14_method_172_code
def km_Mo_spot : zk_MT := (⟨"PlantKeeperModel", "spot", "(II)I"⟩, kc_Mo_spot, 2, some .int, 2)
theorem ku_Mo_spot : zk_My km_Mo_spot := ⟨kw2731, kw17, by decide, by decide, by decide, by decide +kernel⟩
theorem ks_Mo_spot : Cond.static km_Mo_spot.1 ∈ zk_BW := kw2730
abbrev kc_Mo_step : ByteArray := prog_14_method_156_code
def km_Mo_step : zk_MT := (⟨"PlantKeeperModel", "step", "(III)I"⟩, kc_Mo_step, 11, some .int, 3)
theorem ku_Mo_step : zk_My km_Mo_step := ⟨kw2751, kw17, by decide, by decide, by decide, by decide +kernel⟩
theorem kv_Mo_step : zk_Mv km_Mo_step := ⟨kw2750, zk_inS 291 (q := (⟨"PlantKeeperModel", "step", "(III)I"⟩, 96)) (by decide +kernel)⟩
theorem kd_Mo_fill_0 : decode kc_Mo_fill 0 = .ok (.aload_n 0, 1) := by decide +kernel
theorem kd_Mo_fill_1 : decode kc_Mo_fill 1 = .ok (.getfield 76, 3) := by decide +kernel
theorem kd_Mo_fill_4 : decode kc_Mo_fill 4 = .ok (.iload_n 1, 1) := by decide +kernel
theorem kd_Mo_fill_5 : decode kc_Mo_fill 5 = .ok (.iaload, 1) := by decide +kernel
theorem kd_Mo_fill_6 : decode kc_Mo_fill 6 = .ok (.istore_n 3, 1) := by decide +kernel
theorem kd_Mo_fill_7 : decode kc_Mo_fill 7 = .ok (.iload_n 3, 1) := by decide +kernel
theorem kd_Mo_fill_8 : decode kc_Mo_fill 8 = .ok (.aload_n 0, 1) := by decide +kernel
theorem kd_Mo_fill_9 : decode kc_Mo_fill 9 = .ok (.iload_n 1, 1) := by decide +kernel
theorem kd_Mo_fill_10 : decode kc_Mo_fill 10 = .ok (.invokevirtual 673, 3) := by decide +kernel
theorem kd_Mo_fill_13 : decode kc_Mo_fill 13 = .ok (.if_icmp .ge 102, 3) := by decide +kernel
theorem kd_Mo_fill_16 : decode kc_Mo_fill 16 = .ok (.iload_n 2, 1) := by decide +kernel
theorem kd_Mo_fill_17 : decode kc_Mo_fill 17 = .ok (.aload_n 0, 1) := by decide +kernel
theorem kd_Mo_fill_18 : decode kc_Mo_fill 18 = .ok (.getfield 88, 3) := by decide +kernel
theorem kd_Mo_fill_21 : decode kc_Mo_fill 21 = .ok (.iload_n 3, 1) := by decide +kernel
theorem kd_Mo_fill_22 : decode kc_Mo_fill 22 = .ok (.iaload, 1) := by decide +kernel
theorem kd_Mo_fill_23 : decode kc_Mo_fill 23 = .ok (.iadd, 1) := by decide +kernel
theorem kd_Mo_fill_24 : decode kc_Mo_fill 24 = .ok (.istore 4, 2) := by decide +kernel
theorem kd_Mo_fill_26 : decode kc_Mo_fill 26 = .ok (.aload_n 0, 1) := by decide +kernel
theorem kd_Mo_fill_27 : decode kc_Mo_fill 27 = .ok (.getfield 82, 3) := by decide +kernel
theorem kd_Mo_fill_30 : decode kc_Mo_fill 30 = .ok (.iload_n 3, 1) := by decide +kernel
theorem kd_Mo_fill_31 : decode kc_Mo_fill 31 = .ok (.iaload, 1) := by decide +kernel
theorem kd_Mo_fill_32 : decode kc_Mo_fill 32 = .ok (.iconst 2, 1) := by decide +kernel
theorem kd_Mo_fill_33 : decode kc_Mo_fill 33 = .ok (.if_icmp .ne 30, 3) := by decide +kernel
theorem kd_Mo_fill_36 : decode kc_Mo_fill 36 = .ok (.aload_n 0, 1) := by decide +kernel
theorem kd_Mo_fill_37 : decode kc_Mo_fill 37 = .ok (.getfield 85, 3) := by decide +kernel
theorem kd_Mo_fill_40 : decode kc_Mo_fill 40 = .ok (.iload_n 3, 1) := by decide +kernel
theorem kd_Mo_fill_41 : decode kc_Mo_fill 41 = .ok (.iaload, 1) := by decide +kernel
theorem kd_Mo_fill_42 : decode kc_Mo_fill 42 = .ok (.ldc_w 498, 3) := by decide +kernel
theorem kd_Mo_fill_45 : decode kc_Mo_fill 45 = .ok (.if_icmp .ge 18, 3) := by decide +kernel
theorem kd_Mo_fill_48 : decode kc_Mo_fill 48 = .ok (.aload_n 0, 1) := by decide +kernel
theorem kd_Mo_fill_49 : decode kc_Mo_fill 49 = .ok (.aload_n 0, 1) := by decide +kernel
theorem kd_Mo_fill_50 : decode kc_Mo_fill 50 = .ok (.getfield 85, 3) := by decide +kernel
theorem kd_Mo_fill_53 : decode kc_Mo_fill 53 = .ok (.iload_n 3, 1) := by decide +kernel
theorem kd_Mo_fill_54 : decode kc_Mo_fill 54 = .ok (.iaload, 1) := by decide +kernel
theorem kd_Mo_fill_55 : decode kc_Mo_fill 55 = .ok (.iload 4, 2) := by decide +kernel
theorem kd_Mo_fill_57 : decode kc_Mo_fill 57 = .ok (.invokevirtual 808, 3) := by decide +kernel
theorem kd_Mo_fill_60 : decode kc_Mo_fill 60 = .ok (.goto 49, 3) := by decide +kernel
theorem kd_Mo_fill_63 : decode kc_Mo_fill 63 = .ok (.aload_n 0, 1) := by decide +kernel
theorem kd_Mo_fill_64 : decode kc_Mo_fill 64 = .ok (.getfield 82, 3) := by decide +kernel
theorem kd_Mo_fill_67 : decode kc_Mo_fill 67 = .ok (.iload_n 3, 1) := by decide +kernel
theorem kd_Mo_fill_68 : decode kc_Mo_fill 68 = .ok (.iaload, 1) := by decide +kernel
theorem kd_Mo_fill_69 : decode kc_Mo_fill 69 = .ok (.iconst 2, 1) := by decide +kernel
theorem kd_Mo_fill_70 : decode kc_Mo_fill 70 = .ok (.if_icmp .eq 39, 3) := by decide +kernel
theorem kd_Mo_fill_73 : decode kc_Mo_fill 73 = .ok (.iconst 0, 1) := by decide +kernel
theorem kd_Mo_fill_74 : decode kc_Mo_fill 74 = .ok (.istore 5, 2) := by decide +kernel
theorem kd_Mo_fill_76 : decode kc_Mo_fill 76 = .ok (.iload 5, 2) := by decide +kernel
theorem kd_Mo_fill_78 : decode kc_Mo_fill 78 = .ok (.aload_n 0, 1) := by decide +kernel
theorem kd_Mo_fill_79 : decode kc_Mo_fill 79 = .ok (.getfield 100, 3) := by decide +kernel
theorem kd_Mo_fill_82 : decode kc_Mo_fill 82 = .ok (.iload_n 3, 1) := by decide +kernel
theorem kd_Mo_fill_83 : decode kc_Mo_fill 83 = .ok (.iaload, 1) := by decide +kernel
theorem kd_Mo_fill_84 : decode kc_Mo_fill 84 = .ok (.if_icmp .ge 25, 3) := by decide +kernel
theorem kd_Mo_fill_87 : decode kc_Mo_fill 87 = .ok (.aload_n 0, 1) := by decide +kernel
theorem kd_Mo_fill_88 : decode kc_Mo_fill 88 = .ok (.getfield 150, 3) := by decide +kernel
theorem kd_Mo_fill_91 : decode kc_Mo_fill 91 = .ok (.iload 4, 2) := by decide +kernel
theorem kd_Mo_fill_93 : decode kc_Mo_fill 93 = .ok (.iload 5, 2) := by decide +kernel
theorem kd_Mo_fill_95 : decode kc_Mo_fill 95 = .ok (.iadd, 1) := by decide +kernel
theorem kd_Mo_fill_96 : decode kc_Mo_fill 96 = .ok (.aload_n 0, 1) := by decide +kernel
theorem kd_Mo_fill_97 : decode kc_Mo_fill 97 = .ok (.getfield 103, 3) := by decide +kernel
theorem kd_Mo_fill_100 : decode kc_Mo_fill 100 = .ok (.iload_n 3, 1) := by decide +kernel
theorem kd_Mo_fill_101 : decode kc_Mo_fill 101 = .ok (.iaload, 1) := by decide +kernel
theorem kd_Mo_fill_102 : decode kc_Mo_fill 102 = .ok (.iastore, 1) := by decide +kernel
theorem kd_Mo_fill_103 : decode kc_Mo_fill 103 = .ok (.iinc 5 1, 3) := by decide +kernel
theorem kd_Mo_fill_106 : decode kc_Mo_fill 106 = .ok (.goto (-30), 3) := by decide +kernel
theorem kd_Mo_fill_109 : decode kc_Mo_fill 109 = .ok (.iinc 3 1, 3) := by decide +kernel
theorem kd_Mo_fill_112 : decode kc_Mo_fill 112 = .ok (.goto (-105), 3) := by decide +kernel
theorem kd_Mo_fill_115 : decode kc_Mo_fill 115 = .ok (.return_, 1) := by decide +kernel
theorem kd_Mo_get_0 : decode kc_Mo_get 0 = .ok (.iload_n 1, 1) := by decide +kernel
theorem kd_Mo_get_1 : decode kc_Mo_get 1 = .ok (.iload_n 2, 1) := by decide +kernel
theorem kd_Mo_get_2 : decode kc_Mo_get 2 = .ok (.invokestatic 895, 3) := by decide +kernel
theorem kd_Mo_get_5 : decode kc_Mo_get 5 = .ok (.ifCond .eq 5, 3) := by decide +kernel
theorem kd_Mo_get_8 : decode kc_Mo_get 8 = .ok (.iconst (-1), 1) := by decide +kernel
theorem kd_Mo_get_9 : decode kc_Mo_get 9 = .ok (.ireturn, 1) := by decide +kernel
theorem kd_Mo_get_10 : decode kc_Mo_get 10 = .ok (.iload_n 1, 1) := by decide +kernel
theorem kd_Mo_get_11 : decode kc_Mo_get 11 = .ok (.ifCond .eq 8, 3) := by decide +kernel
theorem kd_Mo_get_14 : decode kc_Mo_get 14 = .ok (.iload_n 1, 1) := by decide +kernel
theorem kd_Mo_get_15 : decode kc_Mo_get 15 = .ok (.iconst 3, 1) := by decide +kernel
theorem kd_Mo_get_16 : decode kc_Mo_get 16 = .ok (.if_icmp .ne 14, 3) := by decide +kernel
theorem kd_Mo_get_19 : decode kc_Mo_get 19 = .ok (.aload_n 0, 1) := by decide +kernel
theorem kd_Mo_get_20 : decode kc_Mo_get 20 = .ok (.getfield 169, 3) := by decide +kernel
theorem kd_Mo_get_23 : decode kc_Mo_get 23 = .ok (.iload_n 1, 1) := by decide +kernel
theorem kd_Mo_get_24 : decode kc_Mo_get 24 = .ok (.iload_n 2, 1) := by decide +kernel
theorem kd_Mo_get_25 : decode kc_Mo_get 25 = .ok (.invokestatic 901, 3) := by decide +kernel
theorem kd_Mo_get_28 : decode kc_Mo_get 28 = .ok (.iaload, 1) := by decide +kernel
theorem kd_Mo_get_29 : decode kc_Mo_get 29 = .ok (.ireturn, 1) := by decide +kernel
theorem kd_Mo_get_30 : decode kc_Mo_get 30 = .ok (.aload_n 0, 1) := by decide +kernel
theorem kd_Mo_get_31 : decode kc_Mo_get 31 = .ok (.getfield 874, 3) := by decide +kernel
theorem kd_Mo_get_34 : decode kc_Mo_get 34 = .ok (.ifCond .ne 6, 3) := by decide +kernel
theorem kd_Mo_get_37 : decode kc_Mo_get 37 = .ok (.bipush (-5), 2) := by decide +kernel
theorem kd_Mo_get_39 : decode kc_Mo_get 39 = .ok (.ireturn, 1) := by decide +kernel
theorem kd_Mo_get_40 : decode kc_Mo_get 40 = .ok (.iload_n 1, 1) := by decide +kernel
theorem kd_Mo_get_41 : decode kc_Mo_get 41 = .ok (.iconst 1, 1) := by decide +kernel
theorem kd_Mo_get_42 : decode kc_Mo_get 42 = .ok (.if_icmp .eq 8, 3) := by decide +kernel
theorem kd_Mo_get_45 : decode kc_Mo_get 45 = .ok (.iload_n 1, 1) := by decide +kernel
theorem kd_Mo_get_46 : decode kc_Mo_get 46 = .ok (.iconst 4, 1) := by decide +kernel
theorem kd_Mo_get_47 : decode kc_Mo_get 47 = .ok (.if_icmp .ne 16, 3) := by decide +kernel
theorem kd_Mo_get_50 : decode kc_Mo_get 50 = .ok (.aload_n 0, 1) := by decide +kernel
theorem kd_Mo_get_51 : decode kc_Mo_get 51 = .ok (.getfield 172, 3) := by decide +kernel
theorem kd_Mo_get_54 : decode kc_Mo_get 54 = .ok (.iload_n 1, 1) := by decide +kernel
theorem kd_Mo_get_55 : decode kc_Mo_get 55 = .ok (.iload_n 2, 1) := by decide +kernel
theorem kd_Mo_get_56 : decode kc_Mo_get 56 = .ok (.invokestatic 901, 3) := by decide +kernel
theorem kd_Mo_get_59 : decode kc_Mo_get 59 = .ok (.iaload, 1) := by decide +kernel
theorem kd_Mo_get_60 : decode kc_Mo_get 60 = .ok (.goto 26, 3) := by decide +kernel
theorem kd_Mo_get_63 : decode kc_Mo_get 63 = .ok (.aload_n 0, 1) := by decide +kernel
theorem kd_Mo_get_64 : decode kc_Mo_get 64 = .ok (.getfield 150, 3) := by decide +kernel
theorem kd_Mo_get_67 : decode kc_Mo_get 67 = .ok (.iload_n 1, 1) := by decide +kernel
theorem kd_Mo_get_68 : decode kc_Mo_get 68 = .ok (.iconst 2, 1) := by decide +kernel
theorem kd_Mo_get_69 : decode kc_Mo_get 69 = .ok (.if_icmp .ne 11, 3) := by decide +kernel
theorem kd_Mo_get_72 : decode kc_Mo_get 72 = .ok (.sipush 512, 3) := by decide +kernel
theorem kd_Mo_get_75 : decode kc_Mo_get 75 = .ok (.iload_n 2, 1) := by decide +kernel
theorem kd_Mo_get_76 : decode kc_Mo_get 76 = .ok (.iadd, 1) := by decide +kernel
theorem kd_Mo_get_77 : decode kc_Mo_get 77 = .ok (.goto 8, 3) := by decide +kernel
theorem kd_Mo_get_80 : decode kc_Mo_get 80 = .ok (.sipush 896, 3) := by decide +kernel
theorem kd_Mo_get_83 : decode kc_Mo_get 83 = .ok (.iload_n 2, 1) := by decide +kernel
theorem kd_Mo_get_84 : decode kc_Mo_get 84 = .ok (.iadd, 1) := by decide +kernel
theorem kd_Mo_get_85 : decode kc_Mo_get 85 = .ok (.iaload, 1) := by decide +kernel
theorem kd_Mo_get_86 : decode kc_Mo_get 86 = .ok (.ireturn, 1) := by decide +kernel
theorem kd_Mo_go_0 : decode kc_Mo_go 0 = .ok (.iconst 0, 1) := by decide +kernel
theorem kd_Mo_go_1 : decode kc_Mo_go 1 = .ok (.istore_n 3, 1) := by decide +kernel
theorem kd_Mo_go_2 : decode kc_Mo_go 2 = .ok (.iload_n 3, 1) := by decide +kernel
theorem kd_Mo_go_3 : decode kc_Mo_go 3 = .ok (.aload_n 0, 1) := by decide +kernel
theorem kd_Mo_go_4 : decode kc_Mo_go 4 = .ok (.iload_n 1, 1) := by decide +kernel
theorem kd_Mo_go_5 : decode kc_Mo_go 5 = .ok (.invokevirtual 768, 3) := by decide +kernel
theorem kd_Mo_go_8 : decode kc_Mo_go 8 = .ok (.if_icmp .ge 57, 3) := by decide +kernel
theorem kd_Mo_go_11 : decode kc_Mo_go 11 = .ok (.aload_n 0, 1) := by decide +kernel
theorem kd_Mo_go_12 : decode kc_Mo_go 12 = .ok (.getfield 814, 3) := by decide +kernel
theorem kd_Mo_go_15 : decode kc_Mo_go 15 = .ok (.ifCond .ne 50, 3) := by decide +kernel
theorem kd_Mo_go_18 : decode kc_Mo_go 18 = .ok (.aload_n 0, 1) := by decide +kernel
theorem kd_Mo_go_19 : decode kc_Mo_go 19 = .ok (.dup, 1) := by decide +kernel
theorem kd_Mo_go_20 : decode kc_Mo_go 20 = .ok (.getfield 817, 3) := by decide +kernel
theorem kd_Mo_go_23 : decode kc_Mo_go 23 = .ok (.iconst 1, 1) := by decide +kernel
theorem kd_Mo_go_24 : decode kc_Mo_go 24 = .ok (.iadd, 1) := by decide +kernel
theorem kd_Mo_go_25 : decode kc_Mo_go 25 = .ok (.putfield 817, 3) := by decide +kernel
theorem kd_Mo_go_28 : decode kc_Mo_go 28 = .ok (.aload_n 0, 1) := by decide +kernel
theorem kd_Mo_go_29 : decode kc_Mo_go 29 = .ok (.dup, 1) := by decide +kernel
theorem kd_Mo_go_30 : decode kc_Mo_go 30 = .ok (.getfield 811, 3) := by decide +kernel
theorem kd_Mo_go_33 : decode kc_Mo_go 33 = .ok (.getstatic 771, 3) := by decide +kernel
theorem kd_Mo_go_36 : decode kc_Mo_go 36 = .ok (.aload_n 0, 1) := by decide +kernel
theorem kd_Mo_go_37 : decode kc_Mo_go 37 = .ok (.getfield 118, 3) := by decide +kernel
theorem kd_Mo_go_40 : decode kc_Mo_go 40 = .ok (.aload_n 0, 1) := by decide +kernel
theorem kd_Mo_go_41 : decode kc_Mo_go 41 = .ok (.getfield 115, 3) := by decide +kernel
theorem kd_Mo_go_44 : decode kc_Mo_go 44 = .ok (.iload_n 1, 1) := by decide +kernel
theorem kd_Mo_go_45 : decode kc_Mo_go 45 = .ok (.iaload, 1) := by decide +kernel
theorem kd_Mo_go_46 : decode kc_Mo_go 46 = .ok (.iload_n 3, 1) := by decide +kernel
theorem kd_Mo_go_47 : decode kc_Mo_go 47 = .ok (.iadd, 1) := by decide +kernel
theorem kd_Mo_go_48 : decode kc_Mo_go 48 = .ok (.iaload, 1) := by decide +kernel
theorem kd_Mo_go_49 : decode kc_Mo_go 49 = .ok (.iaload, 1) := by decide +kernel
theorem kd_Mo_go_50 : decode kc_Mo_go 50 = .ok (.isub, 1) := by decide +kernel
theorem kd_Mo_go_51 : decode kc_Mo_go 51 = .ok (.putfield 811, 3) := by decide +kernel
theorem kd_Mo_go_54 : decode kc_Mo_go 54 = .ok (.aload_n 0, 1) := by decide +kernel
theorem kd_Mo_go_55 : decode kc_Mo_go 55 = .ok (.iload_n 1, 1) := by decide +kernel
theorem kd_Mo_go_56 : decode kc_Mo_go 56 = .ok (.iload_n 3, 1) := by decide +kernel
theorem kd_Mo_go_57 : decode kc_Mo_go 57 = .ok (.iload_n 2, 1) := by decide +kernel
theorem kd_Mo_go_58 : decode kc_Mo_go 58 = .ok (.invokevirtual 820, 3) := by decide +kernel
theorem kd_Mo_go_61 : decode kc_Mo_go 61 = .ok (.istore_n 3, 1) := by decide +kernel
theorem kd_Mo_go_62 : decode kc_Mo_go 62 = .ok (.goto (-60), 3) := by decide +kernel
theorem kd_Mo_go_65 : decode kc_Mo_go 65 = .ok (.return_, 1) := by decide +kernel
theorem kd_Mo_noPlace_0 : decode kc_Mo_noPlace 0 = .ok (.iload_n 0, 1) := by decide +kernel
theorem kd_Mo_noPlace_1 : decode kc_Mo_noPlace 1 = .ok (.ifCond .lt 29, 3) := by decide +kernel
theorem kd_Mo_noPlace_4 : decode kc_Mo_noPlace 4 = .ok (.iload_n 0, 1) := by decide +kernel
theorem kd_Mo_noPlace_5 : decode kc_Mo_noPlace 5 = .ok (.iconst 5, 1) := by decide +kernel
theorem kd_Mo_noPlace_6 : decode kc_Mo_noPlace 6 = .ok (.if_icmp .gt 24, 3) := by decide +kernel
theorem kd_Mo_noPlace_9 : decode kc_Mo_noPlace 9 = .ok (.iload_n 1, 1) := by decide +kernel
theorem kd_Mo_noPlace_10 : decode kc_Mo_noPlace 10 = .ok (.ifCond .lt 20, 3) := by decide +kernel
theorem kd_Mo_noPlace_13 : decode kc_Mo_noPlace 13 = .ok (.iload_n 1, 1) := by decide +kernel
theorem kd_Mo_noPlace_14 : decode kc_Mo_noPlace 14 = .ok (.iload_n 0, 1) := by decide +kernel
theorem kd_Mo_noPlace_15 : decode kc_Mo_noPlace 15 = .ok (.iconst 3, 1) := by decide +kernel
theorem kd_Mo_noPlace_16 : decode kc_Mo_noPlace 16 = .ok (.if_icmp .ge 9, 3) := by decide +kernel
theorem kd_Mo_noPlace_19 : decode kc_Mo_noPlace 19 = .ok (.sipush 256, 3) := by decide +kernel
theorem kd_Mo_noPlace_22 : decode kc_Mo_noPlace 22 = .ok (.goto 5, 3) := by decide +kernel
theorem kd_Mo_noPlace_25 : decode kc_Mo_noPlace 25 = .ok (.bipush 64, 2) := by decide +kernel
theorem kd_Mo_noPlace_27 : decode kc_Mo_noPlace 27 = .ok (.if_icmp .lt 7, 3) := by decide +kernel
theorem kd_Mo_noPlace_30 : decode kc_Mo_noPlace 30 = .ok (.iconst 1, 1) := by decide +kernel
theorem kd_Mo_noPlace_31 : decode kc_Mo_noPlace 31 = .ok (.goto 4, 3) := by decide +kernel
theorem kd_Mo_noPlace_34 : decode kc_Mo_noPlace 34 = .ok (.iconst 0, 1) := by decide +kernel
theorem kd_Mo_noPlace_35 : decode kc_Mo_noPlace 35 = .ok (.ireturn, 1) := by decide +kernel
theorem kd_Mo_noValue_0 : decode kc_Mo_noValue 0 = .ok (.iload_n 0, 1) := by decide +kernel
theorem kd_Mo_noValue_1 : decode kc_Mo_noValue 1 = .ok (.iconst 3, 1) := by decide +kernel
theorem kd_Mo_noValue_2 : decode kc_Mo_noValue 2 = .ok (.if_icmp .ge 20, 3) := by decide +kernel
theorem kd_Mo_noValue_5 : decode kc_Mo_noValue 5 = .ok (.iload_n 1, 1) := by decide +kernel
theorem kd_Mo_noValue_6 : decode kc_Mo_noValue 6 = .ok (.ifCond .lt 8, 3) := by decide +kernel
theorem kd_Mo_noValue_9 : decode kc_Mo_noValue 9 = .ok (.iload_n 1, 1) := by decide +kernel
theorem kd_Mo_noValue_10 : decode kc_Mo_noValue 10 = .ok (.iconst 1, 1) := by decide +kernel
theorem kd_Mo_noValue_11 : decode kc_Mo_noValue 11 = .ok (.if_icmp .le 7, 3) := by decide +kernel
theorem kd_Mo_noValue_14 : decode kc_Mo_noValue 14 = .ok (.iconst 1, 1) := by decide +kernel
theorem kd_Mo_noValue_15 : decode kc_Mo_noValue 15 = .ok (.goto 26, 3) := by decide +kernel
theorem kd_Mo_noValue_18 : decode kc_Mo_noValue 18 = .ok (.iconst 0, 1) := by decide +kernel
theorem kd_Mo_noValue_19 : decode kc_Mo_noValue 19 = .ok (.goto 22, 3) := by decide +kernel
theorem kd_Mo_noValue_22 : decode kc_Mo_noValue 22 = .ok (.iload_n 1, 1) := by decide +kernel
theorem kd_Mo_noValue_23 : decode kc_Mo_noValue 23 = .ok (.sipush (-32768), 3) := by decide +kernel
theorem kd_Mo_noValue_26 : decode kc_Mo_noValue 26 = .ok (.if_icmp .lt 10, 3) := by decide +kernel
theorem kd_Mo_noValue_29 : decode kc_Mo_noValue 29 = .ok (.iload_n 1, 1) := by decide +kernel
theorem kd_Mo_noValue_30 : decode kc_Mo_noValue 30 = .ok (.sipush 32767, 3) := by decide +kernel
theorem kd_Mo_noValue_33 : decode kc_Mo_noValue 33 = .ok (.if_icmp .le 7, 3) := by decide +kernel
theorem kd_Mo_noValue_36 : decode kc_Mo_noValue 36 = .ok (.iconst 1, 1) := by decide +kernel
theorem kd_Mo_noValue_37 : decode kc_Mo_noValue 37 = .ok (.goto 4, 3) := by decide +kernel
theorem kd_Mo_noValue_40 : decode kc_Mo_noValue 40 = .ok (.iconst 0, 1) := by decide +kernel
theorem kd_Mo_noValue_41 : decode kc_Mo_noValue 41 = .ok (.ireturn, 1) := by decide +kernel
theorem kd_Mo_publishSafe_0 : decode kc_Mo_publishSafe 0 = .ok (.iconst 0, 1) := by decide +kernel
theorem kd_Mo_publishSafe_1 : decode kc_Mo_publishSafe 1 = .ok (.istore_n 1, 1) := by decide +kernel
theorem kd_Mo_publishSafe_2 : decode kc_Mo_publishSafe 2 = .ok (.iload_n 1, 1) := by decide +kernel
theorem kd_Mo_publishSafe_3 : decode kc_Mo_publishSafe 3 = .ok (.sipush 320, 3) := by decide +kernel
theorem kd_Mo_publishSafe_6 : decode kc_Mo_publishSafe 6 = .ok (.if_icmp .ge 21, 3) := by decide +kernel
theorem kd_Mo_publishSafe_9 : decode kc_Mo_publishSafe 9 = .ok (.aload_n 0, 1) := by decide +kernel
theorem kd_Mo_publishSafe_10 : decode kc_Mo_publishSafe 10 = .ok (.getfield 172, 3) := by decide +kernel
theorem kd_Mo_publishSafe_13 : decode kc_Mo_publishSafe 13 = .ok (.iload_n 1, 1) := by decide +kernel
theorem kd_Mo_publishSafe_14 : decode kc_Mo_publishSafe 14 = .ok (.aload_n 0, 1) := by decide +kernel
theorem kd_Mo_publishSafe_15 : decode kc_Mo_publishSafe 15 = .ok (.getfield 175, 3) := by decide +kernel
theorem kd_Mo_publishSafe_18 : decode kc_Mo_publishSafe 18 = .ok (.iload_n 1, 1) := by decide +kernel
theorem kd_Mo_publishSafe_19 : decode kc_Mo_publishSafe 19 = .ok (.iaload, 1) := by decide +kernel
theorem kd_Mo_publishSafe_20 : decode kc_Mo_publishSafe 20 = .ok (.iastore, 1) := by decide +kernel
theorem kd_Mo_publishSafe_21 : decode kc_Mo_publishSafe 21 = .ok (.iinc 1 1, 3) := by decide +kernel
theorem kd_Mo_publishSafe_24 : decode kc_Mo_publishSafe 24 = .ok (.goto (-22), 3) := by decide +kernel
theorem kd_Mo_publishSafe_27 : decode kc_Mo_publishSafe 27 = .ok (.return_, 1) := by decide +kernel
theorem kd_Mo_put_0 : decode kc_Mo_put 0 = .ok (.iload_n 1, 1) := by decide +kernel
theorem kd_Mo_put_1 : decode kc_Mo_put 1 = .ok (.iload_n 2, 1) := by decide +kernel
theorem kd_Mo_put_2 : decode kc_Mo_put 2 = .ok (.invokestatic 895, 3) := by decide +kernel
theorem kd_Mo_put_5 : decode kc_Mo_put 5 = .ok (.ifCond .ne 21, 3) := by decide +kernel
theorem kd_Mo_put_8 : decode kc_Mo_put 8 = .ok (.iload_n 1, 1) := by decide +kernel
theorem kd_Mo_put_9 : decode kc_Mo_put 9 = .ok (.iload_n 3, 1) := by decide +kernel
theorem kd_Mo_put_10 : decode kc_Mo_put 10 = .ok (.invokestatic 898, 3) := by decide +kernel
theorem kd_Mo_put_13 : decode kc_Mo_put 13 = .ok (.ifCond .ne 13, 3) := by decide +kernel
theorem kd_Mo_put_16 : decode kc_Mo_put 16 = .ok (.iload_n 1, 1) := by decide +kernel
theorem kd_Mo_put_17 : decode kc_Mo_put 17 = .ok (.iconst 1, 1) := by decide +kernel
theorem kd_Mo_put_18 : decode kc_Mo_put 18 = .ok (.if_icmp .eq 8, 3) := by decide +kernel
theorem kd_Mo_put_21 : decode kc_Mo_put 21 = .ok (.iload_n 1, 1) := by decide +kernel
theorem kd_Mo_put_22 : decode kc_Mo_put 22 = .ok (.iconst 4, 1) := by decide +kernel
theorem kd_Mo_put_23 : decode kc_Mo_put 23 = .ok (.if_icmp .ne 5, 3) := by decide +kernel
theorem kd_Mo_put_26 : decode kc_Mo_put 26 = .ok (.iconst (-1), 1) := by decide +kernel
theorem kd_Mo_put_27 : decode kc_Mo_put 27 = .ok (.ireturn, 1) := by decide +kernel
theorem kd_Mo_put_28 : decode kc_Mo_put 28 = .ok (.iload_n 1, 1) := by decide +kernel
theorem kd_Mo_put_29 : decode kc_Mo_put 29 = .ok (.ifCond .eq 8, 3) := by decide +kernel
theorem kd_Mo_put_32 : decode kc_Mo_put 32 = .ok (.iload_n 1, 1) := by decide +kernel
theorem kd_Mo_put_33 : decode kc_Mo_put 33 = .ok (.iconst 3, 1) := by decide +kernel
theorem kd_Mo_put_34 : decode kc_Mo_put 34 = .ok (.if_icmp .ne 16, 3) := by decide +kernel
theorem kd_Mo_put_37 : decode kc_Mo_put 37 = .ok (.aload_n 0, 1) := by decide +kernel
theorem kd_Mo_put_38 : decode kc_Mo_put 38 = .ok (.getfield 169, 3) := by decide +kernel
theorem kd_Mo_put_41 : decode kc_Mo_put 41 = .ok (.iload_n 1, 1) := by decide +kernel
theorem kd_Mo_put_42 : decode kc_Mo_put 42 = .ok (.iload_n 2, 1) := by decide +kernel
theorem kd_Mo_put_43 : decode kc_Mo_put 43 = .ok (.invokestatic 901, 3) := by decide +kernel
theorem kd_Mo_put_46 : decode kc_Mo_put 46 = .ok (.iload_n 3, 1) := by decide +kernel
theorem kd_Mo_put_47 : decode kc_Mo_put 47 = .ok (.iastore, 1) := by decide +kernel
theorem kd_Mo_put_48 : decode kc_Mo_put 48 = .ok (.iconst 0, 1) := by decide +kernel
theorem kd_Mo_put_49 : decode kc_Mo_put 49 = .ok (.ireturn, 1) := by decide +kernel
theorem kd_Mo_put_50 : decode kc_Mo_put 50 = .ok (.aload_n 0, 1) := by decide +kernel
theorem kd_Mo_put_51 : decode kc_Mo_put 51 = .ok (.getfield 874, 3) := by decide +kernel
theorem kd_Mo_put_54 : decode kc_Mo_put 54 = .ok (.ifCond .ne 6, 3) := by decide +kernel
theorem kd_Mo_put_57 : decode kc_Mo_put 57 = .ok (.bipush (-5), 2) := by decide +kernel
theorem kd_Mo_put_59 : decode kc_Mo_put 59 = .ok (.ireturn, 1) := by decide +kernel
theorem kd_Mo_put_60 : decode kc_Mo_put 60 = .ok (.aload_n 0, 1) := by decide +kernel
theorem kd_Mo_put_61 : decode kc_Mo_put 61 = .ok (.getfield 150, 3) := by decide +kernel
theorem kd_Mo_put_64 : decode kc_Mo_put 64 = .ok (.iload_n 1, 1) := by decide +kernel
theorem kd_Mo_put_65 : decode kc_Mo_put 65 = .ok (.iconst 2, 1) := by decide +kernel
theorem kd_Mo_put_66 : decode kc_Mo_put 66 = .ok (.if_icmp .ne 11, 3) := by decide +kernel
theorem kd_Mo_put_69 : decode kc_Mo_put 69 = .ok (.sipush 512, 3) := by decide +kernel
theorem kd_Mo_put_72 : decode kc_Mo_put 72 = .ok (.iload_n 2, 1) := by decide +kernel
theorem kd_Mo_put_73 : decode kc_Mo_put 73 = .ok (.iadd, 1) := by decide +kernel
theorem kd_Mo_put_74 : decode kc_Mo_put 74 = .ok (.goto 8, 3) := by decide +kernel
theorem kd_Mo_put_77 : decode kc_Mo_put 77 = .ok (.sipush 896, 3) := by decide +kernel
theorem kd_Mo_put_80 : decode kc_Mo_put 80 = .ok (.iload_n 2, 1) := by decide +kernel
theorem kd_Mo_put_81 : decode kc_Mo_put 81 = .ok (.iadd, 1) := by decide +kernel
theorem kd_Mo_put_82 : decode kc_Mo_put 82 = .ok (.iload_n 3, 1) := by decide +kernel
theorem kd_Mo_put_83 : decode kc_Mo_put 83 = .ok (.iastore, 1) := by decide +kernel
theorem kd_Mo_put_84 : decode kc_Mo_put 84 = .ok (.iconst 0, 1) := by decide +kernel
theorem kd_Mo_put_85 : decode kc_Mo_put 85 = .ok (.ireturn, 1) := by decide +kernel
theorem kd_Mo_safe_0 : decode kc_Mo_safe 0 = .ok (.iload_n 1, 1) := by decide +kernel
theorem kd_Mo_safe_1 : decode kc_Mo_safe 1 = .ok (.iconst 1, 1) := by decide +kernel
theorem kd_Mo_safe_2 : decode kc_Mo_safe 2 = .ok (.if_icmp .eq 8, 3) := by decide +kernel
theorem kd_Mo_safe_5 : decode kc_Mo_safe 5 = .ok (.iload_n 1, 1) := by decide +kernel
theorem kd_Mo_safe_6 : decode kc_Mo_safe 6 = .ok (.iconst 4, 1) := by decide +kernel
theorem kd_Mo_safe_7 : decode kc_Mo_safe 7 = .ok (.if_icmp .ne 19, 3) := by decide +kernel
theorem kd_Mo_safe_10 : decode kc_Mo_safe 10 = .ok (.iload_n 1, 1) := by decide +kernel
theorem kd_Mo_safe_11 : decode kc_Mo_safe 11 = .ok (.iload_n 2, 1) := by decide +kernel
theorem kd_Mo_safe_12 : decode kc_Mo_safe 12 = .ok (.invokestatic 895, 3) := by decide +kernel
theorem kd_Mo_safe_15 : decode kc_Mo_safe 15 = .ok (.ifCond .ne 11, 3) := by decide +kernel
theorem kd_Mo_safe_18 : decode kc_Mo_safe 18 = .ok (.iload_n 1, 1) := by decide +kernel
theorem kd_Mo_safe_19 : decode kc_Mo_safe 19 = .ok (.iload_n 3, 1) := by decide +kernel
theorem kd_Mo_safe_20 : decode kc_Mo_safe 20 = .ok (.invokestatic 898, 3) := by decide +kernel
theorem kd_Mo_safe_23 : decode kc_Mo_safe 23 = .ok (.ifCond .eq 5, 3) := by decide +kernel
theorem kd_Mo_safe_26 : decode kc_Mo_safe 26 = .ok (.iconst (-1), 1) := by decide +kernel
theorem kd_Mo_safe_27 : decode kc_Mo_safe 27 = .ok (.ireturn, 1) := by decide +kernel
theorem kd_Mo_safe_28 : decode kc_Mo_safe 28 = .ok (.aload_n 0, 1) := by decide +kernel
theorem kd_Mo_safe_29 : decode kc_Mo_safe 29 = .ok (.getfield 175, 3) := by decide +kernel
theorem kd_Mo_safe_32 : decode kc_Mo_safe 32 = .ok (.iload_n 1, 1) := by decide +kernel
theorem kd_Mo_safe_33 : decode kc_Mo_safe 33 = .ok (.iload_n 2, 1) := by decide +kernel
theorem kd_Mo_safe_34 : decode kc_Mo_safe 34 = .ok (.invokestatic 901, 3) := by decide +kernel
theorem kd_Mo_safe_37 : decode kc_Mo_safe 37 = .ok (.iload_n 3, 1) := by decide +kernel
theorem kd_Mo_safe_38 : decode kc_Mo_safe 38 = .ok (.iastore, 1) := by decide +kernel
theorem kd_Mo_safe_39 : decode kc_Mo_safe 39 = .ok (.iconst 0, 1) := by decide +kernel
theorem kd_Mo_safe_40 : decode kc_Mo_safe 40 = .ok (.ireturn, 1) := by decide +kernel
theorem kd_Mo_scan_0 : decode kc_Mo_scan 0 = .ok (.iload_n 1, 1) := by decide +kernel
theorem kd_Mo_scan_1 : decode kc_Mo_scan 1 = .ok (.ifCond .lt 10, 3) := by decide +kernel
theorem kd_Mo_scan_4 : decode kc_Mo_scan 4 = .ok (.iload_n 1, 1) := by decide +kernel
theorem kd_Mo_scan_5 : decode kc_Mo_scan 5 = .ok (.ldc_w 498, 3) := by decide +kernel
theorem kd_Mo_scan_8 : decode kc_Mo_scan 8 = .ok (.if_icmp .le 5, 3) := by decide +kernel
theorem kd_Mo_scan_11 : decode kc_Mo_scan 11 = .ok (.iconst (-1), 1) := by decide +kernel
theorem kd_Mo_scan_12 : decode kc_Mo_scan 12 = .ok (.ireturn, 1) := by decide +kernel
theorem kd_Mo_scan_13 : decode kc_Mo_scan 13 = .ok (.aload_n 0, 1) := by decide +kernel
theorem kd_Mo_scan_14 : decode kc_Mo_scan 14 = .ok (.getfield 874, 3) := by decide +kernel
theorem kd_Mo_scan_17 : decode kc_Mo_scan 17 = .ok (.ifCond .ne 6, 3) := by decide +kernel
theorem kd_Mo_scan_20 : decode kc_Mo_scan 20 = .ok (.bipush (-5), 2) := by decide +kernel
theorem kd_Mo_scan_22 : decode kc_Mo_scan 22 = .ok (.ireturn, 1) := by decide +kernel
theorem kd_Mo_scan_23 : decode kc_Mo_scan 23 = .ok (.aload_n 0, 1) := by decide +kernel
theorem kd_Mo_scan_24 : decode kc_Mo_scan 24 = .ok (.getfield 892, 3) := by decide +kernel
theorem kd_Mo_scan_27 : decode kc_Mo_scan 27 = .ok (.ifCond .eq 6, 3) := by decide +kernel
theorem kd_Mo_scan_30 : decode kc_Mo_scan 30 = .ok (.bipush (-2), 2) := by decide +kernel
theorem kd_Mo_scan_32 : decode kc_Mo_scan 32 = .ok (.ireturn, 1) := by decide +kernel
theorem kd_Mo_scan_33 : decode kc_Mo_scan 33 = .ok (.aload_n 0, 1) := by decide +kernel
theorem kd_Mo_scan_34 : decode kc_Mo_scan 34 = .ok (.dup, 1) := by decide +kernel
theorem kd_Mo_scan_35 : decode kc_Mo_scan 35 = .ok (.getfield 832, 3) := by decide +kernel
theorem kd_Mo_scan_38 : decode kc_Mo_scan 38 = .ok (.iload_n 1, 1) := by decide +kernel
theorem kd_Mo_scan_39 : decode kc_Mo_scan 39 = .ok (.iadd, 1) := by decide +kernel
theorem kd_Mo_scan_40 : decode kc_Mo_scan 40 = .ok (.putfield 832, 3) := by decide +kernel
theorem kd_Mo_scan_43 : decode kc_Mo_scan 43 = .ok (.iconst 0, 1) := by decide +kernel
theorem kd_Mo_scan_44 : decode kc_Mo_scan 44 = .ok (.istore_n 2, 1) := by decide +kernel
theorem kd_Mo_scan_45 : decode kc_Mo_scan 45 = .ok (.iload_n 2, 1) := by decide +kernel
theorem kd_Mo_scan_46 : decode kc_Mo_scan 46 = .ok (.sipush 320, 3) := by decide +kernel
theorem kd_Mo_scan_49 : decode kc_Mo_scan 49 = .ok (.if_icmp .ge 40, 3) := by decide +kernel
theorem kd_Mo_scan_52 : decode kc_Mo_scan 52 = .ok (.aload_n 0, 1) := by decide +kernel
theorem kd_Mo_scan_53 : decode kc_Mo_scan 53 = .ok (.getfield 150, 3) := by decide +kernel
theorem kd_Mo_scan_56 : decode kc_Mo_scan 56 = .ok (.iload_n 2, 1) := by decide +kernel
theorem kd_Mo_scan_57 : decode kc_Mo_scan 57 = .ok (.sipush 256, 3) := by decide +kernel
theorem kd_Mo_scan_60 : decode kc_Mo_scan 60 = .ok (.if_icmp .ge 7, 3) := by decide +kernel
theorem kd_Mo_scan_63 : decode kc_Mo_scan 63 = .ok (.iload_n 2, 1) := by decide +kernel
theorem kd_Mo_scan_64 : decode kc_Mo_scan 64 = .ok (.goto 12, 3) := by decide +kernel
theorem kd_Mo_scan_67 : decode kc_Mo_scan 67 = .ok (.sipush 768, 3) := by decide +kernel
theorem kd_Mo_scan_70 : decode kc_Mo_scan 70 = .ok (.iload_n 2, 1) := by decide +kernel
theorem kd_Mo_scan_71 : decode kc_Mo_scan 71 = .ok (.iadd, 1) := by decide +kernel
theorem kd_Mo_scan_72 : decode kc_Mo_scan 72 = .ok (.sipush 256, 3) := by decide +kernel
theorem kd_Mo_scan_75 : decode kc_Mo_scan 75 = .ok (.isub, 1) := by decide +kernel
theorem kd_Mo_scan_76 : decode kc_Mo_scan 76 = .ok (.aload_n 0, 1) := by decide +kernel
theorem kd_Mo_scan_77 : decode kc_Mo_scan 77 = .ok (.getfield 169, 3) := by decide +kernel
theorem kd_Mo_scan_80 : decode kc_Mo_scan 80 = .ok (.iload_n 2, 1) := by decide +kernel
theorem kd_Mo_scan_81 : decode kc_Mo_scan 81 = .ok (.iaload, 1) := by decide +kernel
theorem kd_Mo_scan_82 : decode kc_Mo_scan 82 = .ok (.iastore, 1) := by decide +kernel
theorem kd_Mo_scan_83 : decode kc_Mo_scan 83 = .ok (.iinc 2 1, 3) := by decide +kernel
theorem kd_Mo_scan_86 : decode kc_Mo_scan 86 = .ok (.goto (-41), 3) := by decide +kernel
theorem kd_Mo_scan_89 : decode kc_Mo_scan 89 = .ok (.aload_n 0, 1) := by decide +kernel
theorem kd_Mo_scan_90 : decode kc_Mo_scan 90 = .ok (.dup, 1) := by decide +kernel
theorem kd_Mo_scan_91 : decode kc_Mo_scan 91 = .ok (.getfield 877, 3) := by decide +kernel
theorem kd_Mo_scan_94 : decode kc_Mo_scan 94 = .ok (.iconst 1, 1) := by decide +kernel
theorem kd_Mo_scan_95 : decode kc_Mo_scan 95 = .ok (.iadd, 1) := by decide +kernel
theorem kd_Mo_scan_96 : decode kc_Mo_scan 96 = .ok (.putfield 877, 3) := by decide +kernel
theorem kd_Mo_scan_99 : decode kc_Mo_scan 99 = .ok (.aload_n 0, 1) := by decide +kernel
theorem kd_Mo_scan_100 : decode kc_Mo_scan 100 = .ok (.iconst 0, 1) := by decide +kernel
theorem kd_Mo_scan_101 : decode kc_Mo_scan 101 = .ok (.putfield 817, 3) := by decide +kernel
theorem kd_Mo_scan_104 : decode kc_Mo_scan 104 = .ok (.aload_n 0, 1) := by decide +kernel
theorem kd_Mo_scan_105 : decode kc_Mo_scan 105 = .ok (.iconst 0, 1) := by decide +kernel
theorem kd_Mo_scan_106 : decode kc_Mo_scan 106 = .ok (.putfield 814, 3) := by decide +kernel
theorem kd_Mo_scan_109 : decode kc_Mo_scan 109 = .ok (.aload_n 0, 1) := by decide +kernel
theorem kd_Mo_scan_110 : decode kc_Mo_scan 110 = .ok (.iconst 0, 1) := by decide +kernel
theorem kd_Mo_scan_111 : decode kc_Mo_scan 111 = .ok (.putfield 811, 3) := by decide +kernel
theorem kd_Mo_scan_114 : decode kc_Mo_scan 114 = .ok (.aload_n 0, 1) := by decide +kernel
theorem kd_Mo_scan_115 : decode kc_Mo_scan 115 = .ok (.aload_n 0, 1) := by decide +kernel
theorem kd_Mo_scan_116 : decode kc_Mo_scan 116 = .ok (.getfield 462, 3) := by decide +kernel
theorem kd_Mo_scan_119 : decode kc_Mo_scan 119 = .ok (.iconst 1, 1) := by decide +kernel
theorem kd_Mo_scan_120 : decode kc_Mo_scan 120 = .ok (.isub, 1) := by decide +kernel
theorem kd_Mo_scan_121 : decode kc_Mo_scan 121 = .ok (.iconst 0, 1) := by decide +kernel
theorem kd_Mo_scan_122 : decode kc_Mo_scan 122 = .ok (.invokevirtual 826, 3) := by decide +kernel
theorem kd_Mo_scan_125 : decode kc_Mo_scan 125 = .ok (.aload_n 0, 1) := by decide +kernel
theorem kd_Mo_scan_126 : decode kc_Mo_scan 126 = .ok (.dup, 1) := by decide +kernel
theorem kd_Mo_scan_127 : decode kc_Mo_scan 127 = .ok (.getfield 880, 3) := by decide +kernel
theorem kd_Mo_scan_130 : decode kc_Mo_scan 130 = .ok (.aload_n 0, 1) := by decide +kernel
theorem kd_Mo_scan_131 : decode kc_Mo_scan 131 = .ok (.getfield 817, 3) := by decide +kernel
theorem kd_Mo_scan_134 : decode kc_Mo_scan 134 = .ok (.i2l, 1) := by decide +kernel
theorem kd_Mo_scan_135 : decode kc_Mo_scan 135 = .ok (.aload_n 0, 1) := by decide +kernel
theorem kd_Mo_scan_136 : decode kc_Mo_scan 136 = .ok (.getfield 133, 3) := by decide +kernel
theorem kd_Mo_scan_139 : decode kc_Mo_scan 139 = .ok (.aload_n 0, 1) := by decide +kernel
theorem kd_Mo_scan_140 : decode kc_Mo_scan 140 = .ok (.getfield 462, 3) := by decide +kernel
theorem kd_Mo_scan_143 : decode kc_Mo_scan 143 = .ok (.iconst 1, 1) := by decide +kernel
theorem kd_Mo_scan_144 : decode kc_Mo_scan 144 = .ok (.isub, 1) := by decide +kernel
theorem kd_Mo_scan_145 : decode kc_Mo_scan 145 = .ok (.laload, 1) := by decide +kernel
theorem kd_Mo_scan_146 : decode kc_Mo_scan 146 = .ok (.lcmp, 1) := by decide +kernel
theorem kd_Mo_scan_147 : decode kc_Mo_scan 147 = .ok (.ifCond .le 7, 3) := by decide +kernel
theorem kd_Mo_scan_150 : decode kc_Mo_scan 150 = .ok (.iconst 1, 1) := by decide +kernel
theorem kd_Mo_scan_151 : decode kc_Mo_scan 151 = .ok (.goto 4, 3) := by decide +kernel
theorem kd_Mo_scan_154 : decode kc_Mo_scan 154 = .ok (.iconst 0, 1) := by decide +kernel
theorem kd_Mo_scan_155 : decode kc_Mo_scan 155 = .ok (.iadd, 1) := by decide +kernel
theorem kd_Mo_scan_156 : decode kc_Mo_scan 156 = .ok (.putfield 880, 3) := by decide +kernel
theorem kd_Mo_scan_159 : decode kc_Mo_scan 159 = .ok (.aload_n 0, 1) := by decide +kernel
theorem kd_Mo_scan_160 : decode kc_Mo_scan 160 = .ok (.getfield 814, 3) := by decide +kernel
theorem kd_Mo_scan_163 : decode kc_Mo_scan 163 = .ok (.ifCond .eq 17, 3) := by decide +kernel
theorem kd_Mo_scan_166 : decode kc_Mo_scan 166 = .ok (.aload_n 0, 1) := by decide +kernel
theorem kd_Mo_scan_167 : decode kc_Mo_scan 167 = .ok (.iconst 1, 1) := by decide +kernel
theorem kd_Mo_scan_168 : decode kc_Mo_scan 168 = .ok (.putfield 892, 3) := by decide +kernel
theorem kd_Mo_scan_171 : decode kc_Mo_scan 171 = .ok (.aload_n 0, 1) := by decide +kernel
theorem kd_Mo_scan_172 : decode kc_Mo_scan 172 = .ok (.invokevirtual 889, 3) := by decide +kernel
theorem kd_Mo_scan_175 : decode kc_Mo_scan 175 = .ok (.aload_n 0, 1) := by decide +kernel
theorem kd_Mo_scan_176 : decode kc_Mo_scan 176 = .ok (.getfield 814, 3) := by decide +kernel
theorem kd_Mo_scan_179 : decode kc_Mo_scan 179 = .ok (.ireturn, 1) := by decide +kernel
theorem kd_Mo_scan_180 : decode kc_Mo_scan 180 = .ok (.iconst 0, 1) := by decide +kernel
theorem kd_Mo_scan_181 : decode kc_Mo_scan 181 = .ok (.istore_n 2, 1) := by decide +kernel
theorem kd_Mo_scan_182 : decode kc_Mo_scan 182 = .ok (.iload_n 2, 1) := by decide +kernel
theorem kd_Mo_scan_183 : decode kc_Mo_scan 183 = .ok (.sipush 320, 3) := by decide +kernel
theorem kd_Mo_scan_186 : decode kc_Mo_scan 186 = .ok (.if_icmp .ge 44, 3) := by decide +kernel
theorem kd_Mo_scan_189 : decode kc_Mo_scan 189 = .ok (.aload_n 0, 1) := by decide +kernel
theorem kd_Mo_scan_190 : decode kc_Mo_scan 190 = .ok (.getfield 172, 3) := by decide +kernel
theorem kd_Mo_scan_193 : decode kc_Mo_scan 193 = .ok (.iload_n 2, 1) := by decide +kernel
theorem kd_Mo_scan_194 : decode kc_Mo_scan 194 = .ok (.aload_n 0, 1) := by decide +kernel
theorem kd_Mo_scan_195 : decode kc_Mo_scan 195 = .ok (.getfield 150, 3) := by decide +kernel
theorem kd_Mo_scan_198 : decode kc_Mo_scan 198 = .ok (.iload_n 2, 1) := by decide +kernel
theorem kd_Mo_scan_199 : decode kc_Mo_scan 199 = .ok (.sipush 256, 3) := by decide +kernel
theorem kd_Mo_scan_202 : decode kc_Mo_scan 202 = .ok (.if_icmp .ge 11, 3) := by decide +kernel
theorem kd_Mo_scan_205 : decode kc_Mo_scan 205 = .ok (.sipush 256, 3) := by decide +kernel
theorem kd_Mo_scan_208 : decode kc_Mo_scan 208 = .ok (.iload_n 2, 1) := by decide +kernel
theorem kd_Mo_scan_209 : decode kc_Mo_scan 209 = .ok (.iadd, 1) := by decide +kernel
theorem kd_Mo_scan_210 : decode kc_Mo_scan 210 = .ok (.goto 12, 3) := by decide +kernel
theorem kd_Mo_scan_213 : decode kc_Mo_scan 213 = .ok (.sipush 832, 3) := by decide +kernel
theorem kd_Mo_scan_216 : decode kc_Mo_scan 216 = .ok (.iload_n 2, 1) := by decide +kernel
theorem kd_Mo_scan_217 : decode kc_Mo_scan 217 = .ok (.iadd, 1) := by decide +kernel
theorem kd_Mo_scan_218 : decode kc_Mo_scan 218 = .ok (.sipush 256, 3) := by decide +kernel
theorem kd_Mo_scan_221 : decode kc_Mo_scan 221 = .ok (.isub, 1) := by decide +kernel
theorem kd_Mo_scan_222 : decode kc_Mo_scan 222 = .ok (.iaload, 1) := by decide +kernel
theorem kd_Mo_scan_223 : decode kc_Mo_scan 223 = .ok (.iastore, 1) := by decide +kernel
theorem kd_Mo_scan_224 : decode kc_Mo_scan 224 = .ok (.iinc 2 1, 3) := by decide +kernel
theorem kd_Mo_scan_227 : decode kc_Mo_scan 227 = .ok (.goto (-45), 3) := by decide +kernel
theorem kd_Mo_scan_230 : decode kc_Mo_scan 230 = .ok (.aload_n 0, 1) := by decide +kernel
theorem kd_Mo_scan_231 : decode kc_Mo_scan 231 = .ok (.getfield 817, 3) := by decide +kernel
theorem kd_Mo_scan_234 : decode kc_Mo_scan 234 = .ok (.ireturn, 1) := by decide +kernel
theorem kd_Mo_spot_0 : decode kc_Mo_spot 0 = .ok (.iload_n 0, 1) := by decide +kernel
theorem kd_Mo_spot_1 : decode kc_Mo_spot 1 = .ok (.iconst 3, 1) := by decide +kernel
theorem kd_Mo_spot_2 : decode kc_Mo_spot 2 = .ok (.if_icmp .ge 7, 3) := by decide +kernel
theorem kd_Mo_spot_5 : decode kc_Mo_spot 5 = .ok (.iload_n 1, 1) := by decide +kernel
theorem kd_Mo_spot_6 : decode kc_Mo_spot 6 = .ok (.goto 8, 3) := by decide +kernel
theorem kd_Mo_spot_9 : decode kc_Mo_spot 9 = .ok (.sipush 256, 3) := by decide +kernel
theorem kd_Mo_spot_12 : decode kc_Mo_spot 12 = .ok (.iload_n 1, 1) := by decide +kernel
theorem kd_Mo_spot_13 : decode kc_Mo_spot 13 = .ok (.iadd, 1) := by decide +kernel
theorem kd_Mo_spot_14 : decode kc_Mo_spot 14 = .ok (.ireturn, 1) := by decide +kernel
theorem kd_Mo_step_0 : decode kc_Mo_step 0 = .ok (.aload_n 0, 1) := by decide +kernel
theorem kd_Mo_step_1 : decode kc_Mo_step 1 = .ok (.getfield 115, 3) := by decide +kernel
theorem kd_Mo_step_4 : decode kc_Mo_step 4 = .ok (.iload_n 1, 1) := by decide +kernel
theorem kd_Mo_step_5 : decode kc_Mo_step 5 = .ok (.iaload, 1) := by decide +kernel
theorem kd_Mo_step_6 : decode kc_Mo_step 6 = .ok (.iload_n 2, 1) := by decide +kernel
theorem kd_Mo_step_7 : decode kc_Mo_step 7 = .ok (.iadd, 1) := by decide +kernel
theorem kd_Mo_step_8 : decode kc_Mo_step 8 = .ok (.istore 4, 2) := by decide +kernel
theorem kd_Mo_step_10 : decode kc_Mo_step 10 = .ok (.aload_n 0, 1) := by decide +kernel
theorem kd_Mo_step_11 : decode kc_Mo_step 11 = .ok (.getfield 121, 3) := by decide +kernel
theorem kd_Mo_step_14 : decode kc_Mo_step 14 = .ok (.iload 4, 2) := by decide +kernel
theorem kd_Mo_step_16 : decode kc_Mo_step 16 = .ok (.iaload, 1) := by decide +kernel
theorem kd_Mo_step_17 : decode kc_Mo_step 17 = .ok (.istore 5, 2) := by decide +kernel
theorem kd_Mo_step_19 : decode kc_Mo_step 19 = .ok (.aload_n 0, 1) := by decide +kernel
theorem kd_Mo_step_20 : decode kc_Mo_step 20 = .ok (.getfield 153, 3) := by decide +kernel
theorem kd_Mo_step_23 : decode kc_Mo_step 23 = .ok (.aload_n 0, 1) := by decide +kernel
theorem kd_Mo_step_24 : decode kc_Mo_step 24 = .ok (.getfield 811, 3) := by decide +kernel
theorem kd_Mo_step_27 : decode kc_Mo_step 27 = .ok (.iaload, 1) := by decide +kernel
theorem kd_Mo_step_28 : decode kc_Mo_step 28 = .ok (.istore 6, 2) := by decide +kernel
theorem kd_Mo_step_30 : decode kc_Mo_step 30 = .ok (.aload_n 0, 1) := by decide +kernel
theorem kd_Mo_step_31 : decode kc_Mo_step 31 = .ok (.getfield 153, 3) := by decide +kernel
theorem kd_Mo_step_34 : decode kc_Mo_step 34 = .ok (.aload_n 0, 1) := by decide +kernel
theorem kd_Mo_step_35 : decode kc_Mo_step 35 = .ok (.getfield 811, 3) := by decide +kernel
theorem kd_Mo_step_38 : decode kc_Mo_step 38 = .ok (.iconst 1, 1) := by decide +kernel
theorem kd_Mo_step_39 : decode kc_Mo_step 39 = .ok (.iadd, 1) := by decide +kernel
theorem kd_Mo_step_40 : decode kc_Mo_step 40 = .ok (.iaload, 1) := by decide +kernel
theorem kd_Mo_step_41 : decode kc_Mo_step 41 = .ok (.istore 7, 2) := by decide +kernel
theorem kd_Mo_step_43 : decode kc_Mo_step 43 = .ok (.aload_n 0, 1) := by decide +kernel
theorem kd_Mo_step_44 : decode kc_Mo_step 44 = .ok (.getfield 153, 3) := by decide +kernel
theorem kd_Mo_step_47 : decode kc_Mo_step 47 = .ok (.aload_n 0, 1) := by decide +kernel
theorem kd_Mo_step_48 : decode kc_Mo_step 48 = .ok (.getfield 811, 3) := by decide +kernel
theorem kd_Mo_step_51 : decode kc_Mo_step 51 = .ok (.iconst 2, 1) := by decide +kernel
theorem kd_Mo_step_52 : decode kc_Mo_step 52 = .ok (.iadd, 1) := by decide +kernel
theorem kd_Mo_step_53 : decode kc_Mo_step 53 = .ok (.iaload, 1) := by decide +kernel
theorem kd_Mo_step_54 : decode kc_Mo_step 54 = .ok (.istore 8, 2) := by decide +kernel
theorem kd_Mo_step_56 : decode kc_Mo_step 56 = .ok (.aload_n 0, 1) := by decide +kernel
theorem kd_Mo_step_57 : decode kc_Mo_step 57 = .ok (.getfield 118, 3) := by decide +kernel
theorem kd_Mo_step_60 : decode kc_Mo_step 60 = .ok (.iload 4, 2) := by decide +kernel
theorem kd_Mo_step_62 : decode kc_Mo_step 62 = .ok (.iaload, 1) := by decide +kernel
theorem kd_Mo_step_63 : decode kc_Mo_step 63 = .ok (.tableswitch 482 0 17 #[85, 94, 110, 124, 124, 217, 244, 269, 325, 339, 358, 361, 375, 394, 358, 430, 448, 464], 85) := by decide +kernel
theorem kd_Mo_step_148 : decode kc_Mo_step 148 = .ok (.aload_n 0, 1) := by decide +kernel
theorem kd_Mo_step_149 : decode kc_Mo_step 149 = .ok (.iload 5, 2) := by decide +kernel
theorem kd_Mo_step_151 : decode kc_Mo_step 151 = .ok (.invokevirtual 823, 3) := by decide +kernel
theorem kd_Mo_step_154 : decode kc_Mo_step 154 = .ok (.goto 397, 3) := by decide +kernel
theorem kd_Mo_step_157 : decode kc_Mo_step 157 = .ok (.aload_n 0, 1) := by decide +kernel
theorem kd_Mo_step_158 : decode kc_Mo_step 158 = .ok (.aload_n 0, 1) := by decide +kernel
theorem kd_Mo_step_159 : decode kc_Mo_step 159 = .ok (.getfield 150, 3) := by decide +kernel
theorem kd_Mo_step_162 : decode kc_Mo_step 162 = .ok (.iload_n 3, 1) := by decide +kernel
theorem kd_Mo_step_163 : decode kc_Mo_step 163 = .ok (.iload 5, 2) := by decide +kernel
theorem kd_Mo_step_165 : decode kc_Mo_step 165 = .ok (.iadd, 1) := by decide +kernel
theorem kd_Mo_step_166 : decode kc_Mo_step 166 = .ok (.iaload, 1) := by decide +kernel
theorem kd_Mo_step_167 : decode kc_Mo_step 167 = .ok (.invokevirtual 823, 3) := by decide +kernel
theorem kd_Mo_step_170 : decode kc_Mo_step 170 = .ok (.goto 381, 3) := by decide +kernel
theorem kd_Mo_step_173 : decode kc_Mo_step 173 = .ok (.aload_n 0, 1) := by decide +kernel
theorem kd_Mo_step_174 : decode kc_Mo_step 174 = .ok (.getfield 150, 3) := by decide +kernel
theorem kd_Mo_step_177 : decode kc_Mo_step 177 = .ok (.iload_n 3, 1) := by decide +kernel
theorem kd_Mo_step_178 : decode kc_Mo_step 178 = .ok (.iload 5, 2) := by decide +kernel
theorem kd_Mo_step_180 : decode kc_Mo_step 180 = .ok (.iadd, 1) := by decide +kernel
theorem kd_Mo_step_181 : decode kc_Mo_step 181 = .ok (.iload 6, 2) := by decide +kernel
theorem kd_Mo_step_183 : decode kc_Mo_step 183 = .ok (.iastore, 1) := by decide +kernel
theorem kd_Mo_step_184 : decode kc_Mo_step 184 = .ok (.goto 367, 3) := by decide +kernel
theorem kd_Mo_step_187 : decode kc_Mo_step 187 = .ok (.iload 6, 2) := by decide +kernel
theorem kd_Mo_step_189 : decode kc_Mo_step 189 = .ok (.i2l, 1) := by decide +kernel
theorem kd_Mo_step_190 : decode kc_Mo_step 190 = .ok (.aload_n 0, 1) := by decide +kernel
theorem kd_Mo_step_191 : decode kc_Mo_step 191 = .ok (.getfield 124, 3) := by decide +kernel
theorem kd_Mo_step_194 : decode kc_Mo_step 194 = .ok (.iload 4, 2) := by decide +kernel
theorem kd_Mo_step_196 : decode kc_Mo_step 196 = .ok (.iaload, 1) := by decide +kernel
theorem kd_Mo_step_197 : decode kc_Mo_step 197 = .ok (.i2l, 1) := by decide +kernel
theorem kd_Mo_step_198 : decode kc_Mo_step 198 = .ok (.lsub, 1) := by decide +kernel
theorem kd_Mo_step_199 : decode kc_Mo_step 199 = .ok (.lstore 9, 2) := by decide +kernel
theorem kd_Mo_step_201 : decode kc_Mo_step 201 = .ok (.lload 9, 2) := by decide +kernel
theorem kd_Mo_step_203 : decode kc_Mo_step 203 = .ok (.lconst 0, 1) := by decide +kernel
theorem kd_Mo_step_204 : decode kc_Mo_step 204 = .ok (.lcmp, 1) := by decide +kernel
theorem kd_Mo_step_205 : decode kc_Mo_step 205 = .ok (.ifCond .lt 17, 3) := by decide +kernel
theorem kd_Mo_step_208 : decode kc_Mo_step 208 = .ok (.lload 9, 2) := by decide +kernel
theorem kd_Mo_step_210 : decode kc_Mo_step 210 = .ok (.aload_n 0, 1) := by decide +kernel
theorem kd_Mo_step_211 : decode kc_Mo_step 211 = .ok (.getfield 127, 3) := by decide +kernel
theorem kd_Mo_step_214 : decode kc_Mo_step 214 = .ok (.iload 4, 2) := by decide +kernel
theorem kd_Mo_step_216 : decode kc_Mo_step 216 = .ok (.iaload, 1) := by decide +kernel
theorem kd_Mo_step_217 : decode kc_Mo_step 217 = .ok (.i2l, 1) := by decide +kernel
theorem kd_Mo_step_218 : decode kc_Mo_step 218 = .ok (.lcmp, 1) := by decide +kernel
theorem kd_Mo_step_219 : decode kc_Mo_step 219 = .ok (.ifCond .lt 12, 3) := by decide +kernel
theorem kd_Mo_step_222 : decode kc_Mo_step 222 = .ok (.aload_n 0, 1) := by decide +kernel
theorem kd_Mo_step_223 : decode kc_Mo_step 223 = .ok (.bipush (-4), 2) := by decide +kernel
theorem kd_Mo_step_225 : decode kc_Mo_step 225 = .ok (.putfield 814, 3) := by decide +kernel
theorem kd_Mo_step_228 : decode kc_Mo_step 228 = .ok (.goto 323, 3) := by decide +kernel
theorem kd_Mo_step_231 : decode kc_Mo_step 231 = .ok (.aload_n 0, 1) := by decide +kernel
theorem kd_Mo_step_232 : decode kc_Mo_step 232 = .ok (.getfield 118, 3) := by decide +kernel
theorem kd_Mo_step_235 : decode kc_Mo_step 235 = .ok (.iload 4, 2) := by decide +kernel
theorem kd_Mo_step_237 : decode kc_Mo_step 237 = .ok (.iaload, 1) := by decide +kernel
theorem kd_Mo_step_238 : decode kc_Mo_step 238 = .ok (.iconst 3, 1) := by decide +kernel
theorem kd_Mo_step_239 : decode kc_Mo_step 239 = .ok (.if_icmp .ne 23, 3) := by decide +kernel
theorem kd_Mo_step_242 : decode kc_Mo_step 242 = .ok (.aload_n 0, 1) := by decide +kernel
theorem kd_Mo_step_243 : decode kc_Mo_step 243 = .ok (.aload_n 0, 1) := by decide +kernel
theorem kd_Mo_step_244 : decode kc_Mo_step 244 = .ok (.getfield 150, 3) := by decide +kernel
theorem kd_Mo_step_247 : decode kc_Mo_step 247 = .ok (.iload_n 3, 1) := by decide +kernel
theorem kd_Mo_step_248 : decode kc_Mo_step 248 = .ok (.iload 5, 2) := by decide +kernel
theorem kd_Mo_step_250 : decode kc_Mo_step 250 = .ok (.iadd, 1) := by decide +kernel
theorem kd_Mo_step_251 : decode kc_Mo_step 251 = .ok (.lload 9, 2) := by decide +kernel
theorem kd_Mo_step_253 : decode kc_Mo_step 253 = .ok (.l2i, 1) := by decide +kernel
theorem kd_Mo_step_254 : decode kc_Mo_step 254 = .ok (.iadd, 1) := by decide +kernel
theorem kd_Mo_step_255 : decode kc_Mo_step 255 = .ok (.iaload, 1) := by decide +kernel
theorem kd_Mo_step_256 : decode kc_Mo_step 256 = .ok (.invokevirtual 823, 3) := by decide +kernel
theorem kd_Mo_step_259 : decode kc_Mo_step 259 = .ok (.goto 292, 3) := by decide +kernel
theorem kd_Mo_step_262 : decode kc_Mo_step 262 = .ok (.aload_n 0, 1) := by decide +kernel
theorem kd_Mo_step_263 : decode kc_Mo_step 263 = .ok (.getfield 150, 3) := by decide +kernel
theorem kd_Mo_step_266 : decode kc_Mo_step 266 = .ok (.iload_n 3, 1) := by decide +kernel
theorem kd_Mo_step_267 : decode kc_Mo_step 267 = .ok (.iload 5, 2) := by decide +kernel
theorem kd_Mo_step_269 : decode kc_Mo_step 269 = .ok (.iadd, 1) := by decide +kernel
theorem kd_Mo_step_270 : decode kc_Mo_step 270 = .ok (.lload 9, 2) := by decide +kernel
theorem kd_Mo_step_272 : decode kc_Mo_step 272 = .ok (.l2i, 1) := by decide +kernel
theorem kd_Mo_step_273 : decode kc_Mo_step 273 = .ok (.iadd, 1) := by decide +kernel
theorem kd_Mo_step_274 : decode kc_Mo_step 274 = .ok (.iload 7, 2) := by decide +kernel
theorem kd_Mo_step_276 : decode kc_Mo_step 276 = .ok (.iastore, 1) := by decide +kernel
theorem kd_Mo_step_277 : decode kc_Mo_step 277 = .ok (.goto 274, 3) := by decide +kernel
theorem kd_Mo_step_280 : decode kc_Mo_step 280 = .ok (.aload_n 0, 1) := by decide +kernel
theorem kd_Mo_step_281 : decode kc_Mo_step 281 = .ok (.aload_n 0, 1) := by decide +kernel
theorem kd_Mo_step_282 : decode kc_Mo_step 282 = .ok (.getfield 150, 3) := by decide +kernel
theorem kd_Mo_step_285 : decode kc_Mo_step 285 = .ok (.aload_n 0, 1) := by decide +kernel
theorem kd_Mo_step_286 : decode kc_Mo_step 286 = .ok (.getfield 73, 3) := by decide +kernel
theorem kd_Mo_step_289 : decode kc_Mo_step 289 = .ok (.iload 5, 2) := by decide +kernel
theorem kd_Mo_step_291 : decode kc_Mo_step 291 = .ok (.iaload, 1) := by decide +kernel
theorem kd_Mo_step_292 : decode kc_Mo_step 292 = .ok (.aload_n 0, 1) := by decide +kernel
theorem kd_Mo_step_293 : decode kc_Mo_step 293 = .ok (.getfield 124, 3) := by decide +kernel
theorem kd_Mo_step_296 : decode kc_Mo_step 296 = .ok (.iload 4, 2) := by decide +kernel
theorem kd_Mo_step_298 : decode kc_Mo_step 298 = .ok (.iaload, 1) := by decide +kernel
theorem kd_Mo_step_299 : decode kc_Mo_step 299 = .ok (.iadd, 1) := by decide +kernel
theorem kd_Mo_step_300 : decode kc_Mo_step 300 = .ok (.iaload, 1) := by decide +kernel
theorem kd_Mo_step_301 : decode kc_Mo_step 301 = .ok (.invokevirtual 823, 3) := by decide +kernel
theorem kd_Mo_step_304 : decode kc_Mo_step 304 = .ok (.goto 247, 3) := by decide +kernel
theorem kd_Mo_step_307 : decode kc_Mo_step 307 = .ok (.aload_n 0, 1) := by decide +kernel
theorem kd_Mo_step_308 : decode kc_Mo_step 308 = .ok (.getfield 150, 3) := by decide +kernel
theorem kd_Mo_step_311 : decode kc_Mo_step 311 = .ok (.aload_n 0, 1) := by decide +kernel
theorem kd_Mo_step_312 : decode kc_Mo_step 312 = .ok (.getfield 73, 3) := by decide +kernel
theorem kd_Mo_step_315 : decode kc_Mo_step 315 = .ok (.iload 5, 2) := by decide +kernel
theorem kd_Mo_step_317 : decode kc_Mo_step 317 = .ok (.iaload, 1) := by decide +kernel
theorem kd_Mo_step_318 : decode kc_Mo_step 318 = .ok (.aload_n 0, 1) := by decide +kernel
theorem kd_Mo_step_319 : decode kc_Mo_step 319 = .ok (.getfield 124, 3) := by decide +kernel
theorem kd_Mo_step_322 : decode kc_Mo_step 322 = .ok (.iload 4, 2) := by decide +kernel
theorem kd_Mo_step_324 : decode kc_Mo_step 324 = .ok (.iaload, 1) := by decide +kernel
theorem kd_Mo_step_325 : decode kc_Mo_step 325 = .ok (.iadd, 1) := by decide +kernel
theorem kd_Mo_step_326 : decode kc_Mo_step 326 = .ok (.iload 6, 2) := by decide +kernel
theorem kd_Mo_step_328 : decode kc_Mo_step 328 = .ok (.iastore, 1) := by decide +kernel
theorem kd_Mo_step_329 : decode kc_Mo_step 329 = .ok (.goto 222, 3) := by decide +kernel
theorem kd_Mo_step_332 : decode kc_Mo_step 332 = .ok (.iload 7, 2) := by decide +kernel
theorem kd_Mo_step_334 : decode kc_Mo_step 334 = .ok (.ifCond .ne 38, 3) := by decide +kernel
theorem kd_Mo_step_337 : decode kc_Mo_step 337 = .ok (.iload 5, 2) := by decide +kernel
theorem kd_Mo_step_339 : decode kc_Mo_step 339 = .ok (.iconst 3, 1) := by decide +kernel
theorem kd_Mo_step_340 : decode kc_Mo_step 340 = .ok (.if_icmp .eq 23, 3) := by decide +kernel
theorem kd_Mo_step_343 : decode kc_Mo_step 343 = .ok (.iload 5, 2) := by decide +kernel
theorem kd_Mo_step_345 : decode kc_Mo_step 345 = .ok (.iconst 4, 1) := by decide +kernel
theorem kd_Mo_step_346 : decode kc_Mo_step 346 = .ok (.if_icmp .eq 17, 3) := by decide +kernel
theorem kd_Mo_step_349 : decode kc_Mo_step 349 = .ok (.iload 5, 2) := by decide +kernel
theorem kd_Mo_step_351 : decode kc_Mo_step 351 = .ok (.bipush 8, 2) := by decide +kernel
theorem kd_Mo_step_353 : decode kc_Mo_step 353 = .ok (.if_icmp .eq 10, 3) := by decide +kernel
theorem kd_Mo_step_356 : decode kc_Mo_step 356 = .ok (.iload 5, 2) := by decide +kernel
theorem kd_Mo_step_358 : decode kc_Mo_step 358 = .ok (.bipush 9, 2) := by decide +kernel
theorem kd_Mo_step_360 : decode kc_Mo_step 360 = .ok (.if_icmp .ne 12, 3) := by decide +kernel
theorem kd_Mo_step_363 : decode kc_Mo_step 363 = .ok (.aload_n 0, 1) := by decide +kernel
theorem kd_Mo_step_364 : decode kc_Mo_step 364 = .ok (.bipush (-3), 2) := by decide +kernel
theorem kd_Mo_step_366 : decode kc_Mo_step 366 = .ok (.putfield 814, 3) := by decide +kernel
theorem kd_Mo_step_369 : decode kc_Mo_step 369 = .ok (.goto 182, 3) := by decide +kernel
theorem kd_Mo_step_372 : decode kc_Mo_step 372 = .ok (.aload_n 0, 1) := by decide +kernel
theorem kd_Mo_step_373 : decode kc_Mo_step 373 = .ok (.iload 5, 2) := by decide +kernel
theorem kd_Mo_step_375 : decode kc_Mo_step 375 = .ok (.iload 6, 2) := by decide +kernel
theorem kd_Mo_step_377 : decode kc_Mo_step 377 = .ok (.iload 7, 2) := by decide +kernel
theorem kd_Mo_step_379 : decode kc_Mo_step 379 = .ok (.invokestatic 723, 3) := by decide +kernel
theorem kd_Mo_step_382 : decode kc_Mo_step 382 = .ok (.invokevirtual 823, 3) := by decide +kernel
theorem kd_Mo_step_385 : decode kc_Mo_step 385 = .ok (.goto 166, 3) := by decide +kernel
theorem kd_Mo_step_388 : decode kc_Mo_step 388 = .ok (.aload_n 0, 1) := by decide +kernel
theorem kd_Mo_step_389 : decode kc_Mo_step 389 = .ok (.iload 5, 2) := by decide +kernel
theorem kd_Mo_step_391 : decode kc_Mo_step 391 = .ok (.iload 6, 2) := by decide +kernel
theorem kd_Mo_step_393 : decode kc_Mo_step 393 = .ok (.invokestatic 729, 3) := by decide +kernel
theorem kd_Mo_step_396 : decode kc_Mo_step 396 = .ok (.invokevirtual 823, 3) := by decide +kernel
theorem kd_Mo_step_399 : decode kc_Mo_step 399 = .ok (.goto 152, 3) := by decide +kernel
theorem kd_Mo_step_402 : decode kc_Mo_step 402 = .ok (.aload_n 0, 1) := by decide +kernel
theorem kd_Mo_step_403 : decode kc_Mo_step 403 = .ok (.iload 6, 2) := by decide +kernel
theorem kd_Mo_step_405 : decode kc_Mo_step 405 = .ok (.ifCond .eq 8, 3) := by decide +kernel
theorem kd_Mo_step_408 : decode kc_Mo_step 408 = .ok (.iload 8, 2) := by decide +kernel
theorem kd_Mo_step_410 : decode kc_Mo_step 410 = .ok (.goto 5, 3) := by decide +kernel
theorem kd_Mo_step_413 : decode kc_Mo_step 413 = .ok (.iload 7, 2) := by decide +kernel
theorem kd_Mo_step_415 : decode kc_Mo_step 415 = .ok (.invokevirtual 823, 3) := by decide +kernel
theorem kd_Mo_step_418 : decode kc_Mo_step 418 = .ok (.goto 133, 3) := by decide +kernel
theorem kd_Mo_step_421 : decode kc_Mo_step 421 = .ok (.iload 5, 2) := by decide +kernel
theorem kd_Mo_step_423 : decode kc_Mo_step 423 = .ok (.ireturn, 1) := by decide +kernel
theorem kd_Mo_step_424 : decode kc_Mo_step 424 = .ok (.iload 6, 2) := by decide +kernel
theorem kd_Mo_step_426 : decode kc_Mo_step 426 = .ok (.ifCond .ne 8, 3) := by decide +kernel
theorem kd_Mo_step_429 : decode kc_Mo_step 429 = .ok (.iload 5, 2) := by decide +kernel
theorem kd_Mo_step_431 : decode kc_Mo_step 431 = .ok (.goto 6, 3) := by decide +kernel
theorem kd_Mo_step_434 : decode kc_Mo_step 434 = .ok (.iload_n 2, 1) := by decide +kernel
theorem kd_Mo_step_435 : decode kc_Mo_step 435 = .ok (.iconst 1, 1) := by decide +kernel
theorem kd_Mo_step_436 : decode kc_Mo_step 436 = .ok (.iadd, 1) := by decide +kernel
theorem kd_Mo_step_437 : decode kc_Mo_step 437 = .ok (.ireturn, 1) := by decide +kernel
theorem kd_Mo_step_438 : decode kc_Mo_step 438 = .ok (.aload_n 0, 1) := by decide +kernel
theorem kd_Mo_step_439 : decode kc_Mo_step 439 = .ok (.getfield 150, 3) := by decide +kernel
theorem kd_Mo_step_442 : decode kc_Mo_step 442 = .ok (.iload_n 3, 1) := by decide +kernel
theorem kd_Mo_step_443 : decode kc_Mo_step 443 = .ok (.iload 5, 2) := by decide +kernel
theorem kd_Mo_step_445 : decode kc_Mo_step 445 = .ok (.iadd, 1) := by decide +kernel
theorem kd_Mo_step_446 : decode kc_Mo_step 446 = .ok (.aload_n 0, 1) := by decide +kernel
theorem kd_Mo_step_447 : decode kc_Mo_step 447 = .ok (.getfield 124, 3) := by decide +kernel
theorem kd_Mo_step_450 : decode kc_Mo_step 450 = .ok (.iload 4, 2) := by decide +kernel
theorem kd_Mo_step_452 : decode kc_Mo_step 452 = .ok (.iaload, 1) := by decide +kernel
theorem kd_Mo_step_453 : decode kc_Mo_step 453 = .ok (.iastore, 1) := by decide +kernel
theorem kd_Mo_step_454 : decode kc_Mo_step 454 = .ok (.goto 97, 3) := by decide +kernel
theorem kd_Mo_step_457 : decode kc_Mo_step 457 = .ok (.aload_n 0, 1) := by decide +kernel
theorem kd_Mo_step_458 : decode kc_Mo_step 458 = .ok (.getfield 150, 3) := by decide +kernel
theorem kd_Mo_step_461 : decode kc_Mo_step 461 = .ok (.iload_n 3, 1) := by decide +kernel
theorem kd_Mo_step_462 : decode kc_Mo_step 462 = .ok (.iload 5, 2) := by decide +kernel
theorem kd_Mo_step_464 : decode kc_Mo_step 464 = .ok (.iadd, 1) := by decide +kernel
theorem kd_Mo_step_465 : decode kc_Mo_step 465 = .ok (.iaload, 1) := by decide +kernel
theorem kd_Mo_step_466 : decode kc_Mo_step 466 = .ok (.ifCond .ne 11, 3) := by decide +kernel
theorem kd_Mo_step_469 : decode kc_Mo_step 469 = .ok (.aload_n 0, 1) := by decide +kernel
theorem kd_Mo_step_470 : decode kc_Mo_step 470 = .ok (.getfield 124, 3) := by decide +kernel
theorem kd_Mo_step_473 : decode kc_Mo_step 473 = .ok (.iload 4, 2) := by decide +kernel
theorem kd_Mo_step_475 : decode kc_Mo_step 475 = .ok (.iaload, 1) := by decide +kernel
theorem kd_Mo_step_476 : decode kc_Mo_step 476 = .ok (.ireturn, 1) := by decide +kernel
theorem kd_Mo_step_477 : decode kc_Mo_step 477 = .ok (.aload_n 0, 1) := by decide +kernel
theorem kd_Mo_step_478 : decode kc_Mo_step 478 = .ok (.getfield 150, 3) := by decide +kernel
theorem kd_Mo_step_481 : decode kc_Mo_step 481 = .ok (.iload_n 3, 1) := by decide +kernel
theorem kd_Mo_step_482 : decode kc_Mo_step 482 = .ok (.iload 5, 2) := by decide +kernel
theorem kd_Mo_step_484 : decode kc_Mo_step 484 = .ok (.iadd, 1) := by decide +kernel
theorem kd_Mo_step_485 : decode kc_Mo_step 485 = .ok (.dup2, 1) := by decide +kernel
theorem kd_Mo_step_486 : decode kc_Mo_step 486 = .ok (.iaload, 1) := by decide +kernel
theorem kd_Mo_step_487 : decode kc_Mo_step 487 = .ok (.iconst 1, 1) := by decide +kernel
theorem kd_Mo_step_488 : decode kc_Mo_step 488 = .ok (.isub, 1) := by decide +kernel
theorem kd_Mo_step_489 : decode kc_Mo_step 489 = .ok (.iastore, 1) := by decide +kernel
theorem kd_Mo_step_490 : decode kc_Mo_step 490 = .ok (.goto 61, 3) := by decide +kernel
theorem kd_Mo_step_493 : decode kc_Mo_step 493 = .ok (.aload_n 0, 1) := by decide +kernel
theorem kd_Mo_step_494 : decode kc_Mo_step 494 = .ok (.iload 5, 2) := by decide +kernel
theorem kd_Mo_step_496 : decode kc_Mo_step 496 = .ok (.iload_n 3, 1) := by decide +kernel
theorem kd_Mo_step_497 : decode kc_Mo_step 497 = .ok (.aload_n 0, 1) := by decide +kernel
theorem kd_Mo_step_498 : decode kc_Mo_step 498 = .ok (.getfield 124, 3) := by decide +kernel
theorem kd_Mo_step_501 : decode kc_Mo_step 501 = .ok (.iload 4, 2) := by decide +kernel
theorem kd_Mo_step_503 : decode kc_Mo_step 503 = .ok (.iaload, 1) := by decide +kernel
theorem kd_Mo_step_504 : decode kc_Mo_step 504 = .ok (.iadd, 1) := by decide +kernel
theorem kd_Mo_step_505 : decode kc_Mo_step 505 = .ok (.invokevirtual 826, 3) := by decide +kernel
theorem kd_Mo_step_508 : decode kc_Mo_step 508 = .ok (.goto 43, 3) := by decide +kernel
theorem kd_Mo_step_511 : decode kc_Mo_step 511 = .ok (.aload_n 0, 1) := by decide +kernel
theorem kd_Mo_step_512 : decode kc_Mo_step 512 = .ok (.iload 5, 2) := by decide +kernel
theorem kd_Mo_step_514 : decode kc_Mo_step 514 = .ok (.aload_n 0, 1) := by decide +kernel
theorem kd_Mo_step_515 : decode kc_Mo_step 515 = .ok (.getfield 73, 3) := by decide +kernel
theorem kd_Mo_step_518 : decode kc_Mo_step 518 = .ok (.iload 5, 2) := by decide +kernel
theorem kd_Mo_step_520 : decode kc_Mo_step 520 = .ok (.iaload, 1) := by decide +kernel
theorem kd_Mo_step_521 : decode kc_Mo_step 521 = .ok (.invokevirtual 826, 3) := by decide +kernel
theorem kd_Mo_step_524 : decode kc_Mo_step 524 = .ok (.goto 27, 3) := by decide +kernel
theorem kd_Mo_step_527 : decode kc_Mo_step 527 = .ok (.aload_n 0, 1) := by decide +kernel
theorem kd_Mo_step_528 : decode kc_Mo_step 528 = .ok (.iload 5, 2) := by decide +kernel
theorem kd_Mo_step_530 : decode kc_Mo_step 530 = .ok (.iload_n 3, 1) := by decide +kernel
theorem kd_Mo_step_531 : decode kc_Mo_step 531 = .ok (.aload_n 0, 1) := by decide +kernel
theorem kd_Mo_step_532 : decode kc_Mo_step 532 = .ok (.getfield 124, 3) := by decide +kernel
theorem kd_Mo_step_535 : decode kc_Mo_step 535 = .ok (.iload 4, 2) := by decide +kernel
theorem kd_Mo_step_537 : decode kc_Mo_step 537 = .ok (.iaload, 1) := by decide +kernel
theorem kd_Mo_step_538 : decode kc_Mo_step 538 = .ok (.iadd, 1) := by decide +kernel
theorem kd_Mo_step_539 : decode kc_Mo_step 539 = .ok (.invokevirtual 829, 3) := by decide +kernel
theorem kd_Mo_step_542 : decode kc_Mo_step 542 = .ok (.goto 9, 3) := by decide +kernel
theorem kd_Mo_step_545 : decode kc_Mo_step 545 = .ok (.aload_n 0, 1) := by decide +kernel
theorem kd_Mo_step_546 : decode kc_Mo_step 546 = .ok (.iload_n 1, 1) := by decide +kernel
theorem kd_Mo_step_547 : decode kc_Mo_step 547 = .ok (.invokevirtual 768, 3) := by decide +kernel
theorem kd_Mo_step_550 : decode kc_Mo_step 550 = .ok (.ireturn, 1) := by decide +kernel
theorem kd_Mo_step_551 : decode kc_Mo_step 551 = .ok (.iload_n 2, 1) := by decide +kernel
theorem kd_Mo_step_552 : decode kc_Mo_step 552 = .ok (.iconst 1, 1) := by decide +kernel
theorem kd_Mo_step_553 : decode kc_Mo_step 553 = .ok (.iadd, 1) := by decide +kernel
theorem kd_Mo_step_554 : decode kc_Mo_step 554 = .ok (.ireturn, 1) := by decide +kernel
set_option maxHeartbeats 4000000 in
set_option maxRecDepth 100000 in
theorem zb_Mo_go_2 {X : zkj_T} {S : zs_T} {P : ze_T} {l : Launch} {D : va_G} {sz0 : Nat} {d : Nat} {rh : zs_H} (C : zk_C X km_Mo_go (zs_G S l D sz0) { frames := 2 + (d + 1), cells := 0, slots := 0, locals := 50 + 30 * (d + 1) } (ze_E P)) (hR : zkj_R X (zd_PV S rh) (none)) {r_Mo_step : zs_H → Int32 → Int32 → Int32 → (Option (Int32 × zs_H))} (hr_Mo_step : ∀ (h : zs_H) (x0 : Int32) (x1 : Int32) (x2 : Int32) {rv : Int32} {rh : zs_H}, r_Mo_step h x0 x1 x2 = some (rv, rh) → zk_Sp (zs_G S l D sz0) (ze_E P) km_Mo_step { frames := 2 + d, cells := 0, slots := 0, locals := 50 + 30 * d } [.ref (S.1 68), .int x0, .int x1, .int x2] (zs_W S h) (zd_PI S rv rh)) {k2 : zs_H → Int32 → Int32 → Int32 → (Option zs_H)} (hk2 : ∀ (h : zs_H) (x1 : Int32) (x2 : Int32) (x3 : Int32), k2 h x1 x2 x3 = some rh → zk_Ab X (zs_W S h) 0 0 2 [(0, .ref (S.1 68)), (1, .int x1), (2, .int x2), (3, .int x3)] []) (h : zs_H) (x1 : Int32) (x2 : Int32) (x3 : Int32) (e : f_Mo_go_2 r_Mo_step k2 h x1 x2 x3 = some rh) : zk_Ab X (zs_W S h) 0 0 2 [(0, .ref (S.1 68)), (1, .int x1), (2, .int x2), (3, .int x3)] [] := by
  unfold f_Mo_go_2 at e
  refine zk_iload_n C kd_Mo_go_2 rfl 3 rfl rfl ?_
  refine zk_aload_n C kd_Mo_go_3 rfl 0 rfl rfl ?_
  refine zk_iload_n C kd_Mo_go_4 rfl 1 rfl rfl ?_
  obtain ⟨v2, c1, e⟩ := zd_b e
  refine zs_callV (k := 68) (rn := { frames := 0, cells := 0, slots := 0, locals := 0 }) (As := [.int x1]) (rest := [.int x3]) C (zc_Mo_sizeOf h x1 c1) ku_Mo_sizeOf kw2668 kv_Mo_sizeOf rfl (zd_rmO (by decide) (by decide)) ⟨Nat.le_refl _, Nat.le_refl _⟩ rfl rfl rfl (Nat.le_of_ble_eq_true rfl) kd_Mo_go_5 rfl (c1 := 0) (s1 := 0) rfl rfl (fun v w hp => ?_)
  obtain ⟨rfl, rfl⟩ := hp
  refine zk_stk (r' := [.int v2, .int x3]) rfl ?_
  refine zk_icmp_ge (tgt := 65) C kd_Mo_go_8 (by decide) rfl (fun b3 => ?_) (fun b3 => ?_)
  · replace e := zd_pos b3 e
    exact zk_vret C hR kd_Mo_go_65 rfl rfl (zd_rV e)
  · replace e := zd_neg b3 e
    refine zk_aload_n C kd_Mo_go_11 rfl 0 rfl rfl ?_
    refine zs_get (v := .int (h.1 68 75)) C 68 75 rfl rfl rfl rfl ki_Mo (by decide) kw1758 kd_Mo_go_12 rfl ?_
    refine zk_if_ne (tgt := 65) C kd_Mo_go_15 (by decide) rfl (fun b4 => ?_) (fun b4 => ?_)
    · replace e := zd_neg b4 e
      exact zk_vret C hR kd_Mo_go_65 rfl rfl (zd_rV e)
    · replace e := zd_pos b4 e
      refine zk_aload_n C kd_Mo_go_18 rfl 0 rfl rfl ?_
      refine zk_dup C kd_Mo_go_19 rfl rfl ?_
      refine zs_get (v := .int (h.1 68 74)) C 68 74 rfl rfl rfl rfl ki_Mo (by decide) kw1757 kd_Mo_go_20 rfl ?_
      refine zk_iconst (v := 1) C kd_Mo_go_23 (by decide) rfl ?_
      refine zk_iadd C kd_Mo_go_24 rfl ?_
      refine zs_put (ty := .int) C 68 74 ((h.1 68 74) + 1) rfl rfl rfl rfl ki_Mo ky_Mo ko_Mo kn_Mo (by decide) kw1757 rfl rfl rfl rfl (by decide) kd_Mo_go_25 rfl ?_
      refine zk_aload_n C kd_Mo_go_28 rfl 0 rfl rfl ?_
      refine zk_dup C kd_Mo_go_29 rfl rfl ?_
      refine zs_get (v := .int (h.1 68 76)) C 68 76 rfl rfl rfl rfl ki_Mo (by decide) kw1759 kd_Mo_go_30 rfl ?_
      refine ze_gets (j := 6) C rfl kw2672 kd_Mo_go_33 rfl ?_
      refine zk_aload_n C kd_Mo_go_36 rfl 0 rfl rfl ?_
      refine zs_get (v := .ref (S.1 104)) C 68 59 rfl rfl rfl rfl ki_Mo (by decide) kw1742 kd_Mo_go_37 rfl ?_
      refine zk_aload_n C kd_Mo_go_40 rfl 0 rfl rfl ?_
      refine zs_get (v := .ref (S.1 103)) C 68 57 rfl rfl rfl rfl ki_Mo (by decide) kw1740 kd_Mo_go_41 rfl ?_
      refine zk_iload_n C kd_Mo_go_44 rfl 1 rfl rfl ?_
      obtain ⟨q5, e⟩ := zd_g e
      refine zs_iald C 103 rfl (zd_vp q5) kd_Mo_go_45 rfl ?_
      refine zk_stk (r' := [.int (h.2.1 103 x1.toNatClampNeg), .ref (S.1 104), .ref (P.2.2 6), .int (h.1 68 76), .ref (S.1 68)]) rfl ?_
      refine zk_iload_n C kd_Mo_go_46 rfl 3 rfl rfl ?_
      refine zk_iadd C kd_Mo_go_47 rfl ?_
      obtain ⟨q6, e⟩ := zd_g e
      refine zs_iald C 104 rfl (zd_vp q6) kd_Mo_go_48 rfl ?_
      refine zk_stk (r' := [.int (h.2.1 104 ((h.2.1 103 x1.toNatClampNeg) + x3).toNatClampNeg), .ref (P.2.2 6), .int (h.1 68 76), .ref (S.1 68)]) rfl ?_
      obtain ⟨q7, e⟩ := zd_g e
      refine ze_ti C rfl (zd_vp q7) kd_Mo_go_49 rfl ?_
      refine zk_stk (r' := [.int (zt_6.getD (h.2.1 104 ((h.2.1 103 x1.toNatClampNeg) + x3).toNatClampNeg).toNatClampNeg 0), .int (h.1 68 76), .ref (S.1 68)]) rfl ?_
      refine zk_isub C kd_Mo_go_50 rfl ?_
      refine zs_put (ty := .int) C 68 76 ((h.1 68 76) - (zt_6.getD (h.2.1 104 ((h.2.1 103 x1.toNatClampNeg) + x3).toNatClampNeg).toNatClampNeg 0)) rfl rfl rfl rfl ki_Mo ky_Mo ko_Mo kn_Mo (by decide) kw1759 rfl rfl rfl rfl (by decide) kd_Mo_go_51 rfl ?_
      refine zk_aload_n C kd_Mo_go_54 rfl 0 rfl rfl ?_
      refine zk_iload_n C kd_Mo_go_55 rfl 1 rfl rfl ?_
      refine zk_iload_n C kd_Mo_go_56 rfl 3 rfl rfl ?_
      refine zk_iload_n C kd_Mo_go_57 rfl 2 rfl rfl ?_
      obtain ⟨v9, h10, c8, e⟩ := zd_Be e
      refine zs_callV (k := 68) (rn := { frames := 2 + d, cells := 0, slots := 0, locals := 50 + 30 * d }) (As := [.int x1, .int x3, .int x2]) (rest := []) C (hr_Mo_step (zs_uF (zs_uF h 68 74 ((h.1 68 74) + 1)) 68 76 ((h.1 68 76) - (zt_6.getD (h.2.1 104 ((h.2.1 103 x1.toNatClampNeg) + x3).toNatClampNeg).toNatClampNeg 0))) x1 x3 x2 c8) ku_Mo_step kw2748 kv_Mo_step rfl (zd_rmI (by decide)) ⟨Nat.le_refl _, Nat.le_refl _⟩ rfl rfl rfl (Nat.le_of_ble_eq_true rfl) kd_Mo_go_58 rfl (c1 := 0) (s1 := 0) rfl rfl (fun v w hp => ?_)
      obtain ⟨rfl, rfl⟩ := hp
      refine zk_stk (r' := [.int v9]) rfl ?_
      refine zk_istore_n (lv' := [(3, _), (0, _), (1, _), (2, _)]) C kd_Mo_go_61 rfl (by decide) rfl rfl ?_
      refine zk_goto (tgt := 2) C kd_Mo_go_62 (by decide) ?_
      refine zk_lvs (lv' := [(0, .ref (S.1 68)), (1, .int x1), (2, .int x2), (3, .int v9)]) [1, 2, 3, 0] rfl ?_
      exact hk2 h10 x1 x2 v9 e
theorem zl_Mo_go_2 {X : zkj_T} {S : zs_T} {P : ze_T} {l : Launch} {D : va_G} {sz0 : Nat} {d : Nat} {rh : zs_H} (C : zk_C X km_Mo_go (zs_G S l D sz0) { frames := 2 + (d + 1), cells := 0, slots := 0, locals := 50 + 30 * (d + 1) } (ze_E P)) (hR : zkj_R X (zd_PV S rh) (none)) {r_Mo_step : zs_H → Int32 → Int32 → Int32 → (Option (Int32 × zs_H))} (hr_Mo_step : ∀ (h : zs_H) (x0 : Int32) (x1 : Int32) (x2 : Int32) {rv : Int32} {rh : zs_H}, r_Mo_step h x0 x1 x2 = some (rv, rh) → zk_Sp (zs_G S l D sz0) (ze_E P) km_Mo_step { frames := 2 + d, cells := 0, slots := 0, locals := 50 + 30 * d } [.ref (S.1 68), .int x0, .int x1, .int x2] (zs_W S h) (zd_PI S rv rh)) (n : Nat) : ∀ (h : zs_H) (x1 : Int32) (x2 : Int32) (x3 : Int32), f_Mo_go_L2 r_Mo_step n h x1 x2 x3 = some rh → zk_Ab X (zs_W S h) 0 0 2 [(0, .ref (S.1 68)), (1, .int x1), (2, .int x2), (3, .int x3)] [] := by
  induction n with
  | zero => intro h x1 x2 x3 e; exact zd_no e
  | succ n ih => intro h x1 x2 x3 e; exact zb_Mo_go_2 (k2 := f_Mo_go_L2 r_Mo_step n) C hR hr_Mo_step ih h x1 x2 x3 e
set_option maxHeartbeats 4000000 in
set_option maxRecDepth 100000 in
theorem zg_Mo_go {l : Launch} {D : va_G} {sz0 : Nat} {S : zs_T} {P : ze_T} {d : Nat} {r_Mo_step : zs_H → Int32 → Int32 → Int32 → (Option (Int32 × zs_H))} (hr_Mo_step : ∀ (h : zs_H) (x0 : Int32) (x1 : Int32) (x2 : Int32) {rv : Int32} {rh : zs_H}, r_Mo_step h x0 x1 x2 = some (rv, rh) → zk_Sp (zs_G S l D sz0) (ze_E P) km_Mo_step { frames := 2 + d, cells := 0, slots := 0, locals := 50 + 30 * d } [.ref (S.1 68), .int x0, .int x1, .int x2] (zs_W S h) (zd_PI S rv rh)) (h : zs_H) (x1 : Int32) (x2 : Int32) {rh : zs_H} (e : g_Mo_go r_Mo_step h x1 x2 = some rh) : zk_Sp (zs_G S l D sz0) (ze_E P) km_Mo_go { frames := 2 + (d + 1), cells := 0, slots := 0, locals := 50 + 30 * (d + 1) } [.ref (S.1 68), .int x1, .int x2] (zs_W S h) (zd_PV S rh) := by
  refine zk_met ku_Mo_go (Nat.le_of_ble_eq_true rfl) (ze_Em P) ?_
  intro X C hR
  refine zk_lvs (lv' := [(0, .ref (S.1 68)), (1, .int x1), (2, .int x2)]) [0, 1, 2] rfl ?_
  unfold g_Mo_go at e
  refine zk_iconst (v := 0) C kd_Mo_go_0 (by decide) rfl ?_
  refine zk_istore_n (lv' := [(3, _), (0, _), (1, _), (2, _)]) C kd_Mo_go_1 rfl (by decide) rfl rfl ?_
  refine zk_lvs (lv' := [(0, .ref (S.1 68)), (1, .int x1), (2, .int x2), (3, .int 0)]) [1, 2, 3, 0] rfl ?_
  exact zl_Mo_go_2 C hR hr_Mo_step zF h x1 x2 0 e
set_option maxHeartbeats 4000000 in
set_option maxRecDepth 100000 in
theorem zb_Mo_step_551 {X : zkj_T} {S : zs_T} {P : ze_T} {l : Launch} {D : va_G} {sz0 : Nat} {d : Nat} {rv : Int32} {rh : zs_H} (C : zk_C X km_Mo_step (zs_G S l D sz0) { frames := 2 + (d + 1), cells := 0, slots := 0, locals := 50 + 30 * (d + 1) } (ze_E P)) (hR : zkj_R X (zd_PI S rv rh) (some .int)) (h : zs_H) (x2 : Int32) (e : f_Mo_step_551 h x2 = some (rv, rh)) : zk_Ab X (zs_W S h) 0 0 551 [(2, .int x2)] [] := by
  unfold f_Mo_step_551 at e
  refine zk_iload_n C kd_Mo_step_551 rfl 0 rfl rfl ?_
  refine zk_iconst (v := 1) C kd_Mo_step_552 (by decide) rfl ?_
  refine zk_iadd C kd_Mo_step_553 rfl ?_
  exact zk_iret C hR kd_Mo_step_554 rfl rfl (zd_rIS e)
set_option maxHeartbeats 4000000 in
set_option maxRecDepth 100000 in
theorem zb_Mo_step_415 {X : zkj_T} {S : zs_T} {P : ze_T} {l : Launch} {D : va_G} {sz0 : Nat} {d : Nat} {rv : Int32} {rh : zs_H} (C : zk_C X km_Mo_step (zs_G S l D sz0) { frames := 2 + (d + 1), cells := 0, slots := 0, locals := 50 + 30 * (d + 1) } (ze_E P)) (hR : zkj_R X (zd_PI S rv rh) (some .int)) (h : zs_H) (x2 : Int32) (y0 : Int32) (e : f_Mo_step_415 h x2 y0 = some (rv, rh)) : zk_Ab X (zs_W S h) 0 0 415 [(2, .int x2)] [.int y0, .ref (S.1 68)] := by
  unfold f_Mo_step_415 at e
  obtain ⟨h2, c1, e⟩ := zd_b e
  refine zs_callV (k := 68) (rn := { frames := 0, cells := 0, slots := 0, locals := 0 }) (As := [.int y0]) (rest := []) C (zc_Mo_lay h y0 c1) ku_Mo_lay kw2752 kv_Mo_lay rfl (zd_rmO (by decide) (by decide)) ⟨Nat.le_refl _, Nat.le_refl _⟩ rfl rfl rfl (Nat.le_of_ble_eq_true rfl) kd_Mo_step_415 rfl (c1 := 0) (s1 := 0) rfl rfl (fun v w hp => ?_)
  obtain ⟨rfl, rfl⟩ := hp
  refine zk_stk (r' := []) rfl ?_
  refine zk_goto (tgt := 551) C kd_Mo_step_418 (by decide) ?_
  refine zk_lvs (lv' := [(2, .int x2)]) [0] rfl ?_
  exact zb_Mo_step_551 C hR h2 x2 e
set_option maxHeartbeats 4000000 in
set_option maxRecDepth 100000 in
theorem zb_Mo_step_363 {X : zkj_T} {S : zs_T} {P : ze_T} {l : Launch} {D : va_G} {sz0 : Nat} {d : Nat} {rv : Int32} {rh : zs_H} (C : zk_C X km_Mo_step (zs_G S l D sz0) { frames := 2 + (d + 1), cells := 0, slots := 0, locals := 50 + 30 * (d + 1) } (ze_E P)) (hR : zkj_R X (zd_PI S rv rh) (some .int)) (h : zs_H) (x2 : Int32) (e : f_Mo_step_363 h x2 = some (rv, rh)) : zk_Ab X (zs_W S h) 0 0 363 [(0, .ref (S.1 68)), (2, .int x2)] [] := by
  unfold f_Mo_step_363 at e
  refine zk_aload_n C kd_Mo_step_363 rfl 0 rfl rfl ?_
  refine zk_bipush (v := (-3)) C kd_Mo_step_364 (by decide) rfl ?_
  refine zs_put (ty := .int) C 68 75 (-3) rfl rfl rfl rfl ki_Mo ky_Mo ko_Mo kn_Mo (by decide) kw1758 rfl rfl rfl rfl (by decide) kd_Mo_step_366 rfl ?_
  refine zk_goto (tgt := 551) C kd_Mo_step_369 (by decide) ?_
  refine zk_lvs (lv' := [(2, .int x2)]) [1] rfl ?_
  exact zb_Mo_step_551 C hR (zs_uF h 68 75 (-3)) x2 e
set_option maxHeartbeats 4000000 in
set_option maxRecDepth 100000 in
theorem zb_Mo_step_372 {X : zkj_T} {S : zs_T} {P : ze_T} {l : Launch} {D : va_G} {sz0 : Nat} {d : Nat} {rv : Int32} {rh : zs_H} (C : zk_C X km_Mo_step (zs_G S l D sz0) { frames := 2 + (d + 1), cells := 0, slots := 0, locals := 50 + 30 * (d + 1) } (ze_E P)) (hR : zkj_R X (zd_PI S rv rh) (some .int)) (h : zs_H) (x2 : Int32) (x5 : Int32) (x6 : Int32) (x7 : Int32) (e : f_Mo_step_372 h x2 x5 x6 x7 = some (rv, rh)) : zk_Ab X (zs_W S h) 0 0 372 [(0, .ref (S.1 68)), (2, .int x2), (5, .int x5), (6, .int x6), (7, .int x7)] [] := by
  unfold f_Mo_step_372 at e
  refine zk_aload_n C kd_Mo_step_372 rfl 0 rfl rfl ?_
  refine zk_iload C kd_Mo_step_373 2 rfl rfl ?_
  refine zk_iload C kd_Mo_step_375 3 rfl rfl ?_
  refine zk_iload C kd_Mo_step_377 4 rfl rfl ?_
  obtain ⟨v2, c1, e⟩ := zd_b e
  refine zk_callS (rn := { frames := 1, cells := 0, slots := 0, locals := 21 }) (As := [.int x5, .int x6, .int x7]) (rest := [.ref (S.1 68)]) C (zc_Mo_two h x5 x6 x7 c1) ku_Mo_two kw2576 ks_Mo_two rfl (zd_rmO (by decide) (by decide)) ⟨Nat.le_refl _, Nat.le_refl _⟩ rfl (Nat.le_of_ble_eq_true rfl) kd_Mo_step_379 rfl (c1 := 0) (s1 := 0) rfl rfl (fun v w hp => ?_)
  obtain ⟨rfl, rfl⟩ := hp
  refine zk_stk (r' := [.int v2, .ref (S.1 68)]) rfl ?_
  obtain ⟨h4, c3, e⟩ := zd_b e
  refine zs_callV (k := 68) (rn := { frames := 0, cells := 0, slots := 0, locals := 0 }) (As := [.int v2]) (rest := []) C (zc_Mo_lay h v2 c3) ku_Mo_lay kw2752 kv_Mo_lay rfl (zd_rmO (by decide) (by decide)) ⟨Nat.le_refl _, Nat.le_refl _⟩ rfl rfl rfl (Nat.le_of_ble_eq_true rfl) kd_Mo_step_382 rfl (c1 := 0) (s1 := 0) rfl rfl (fun v w hp => ?_)
  obtain ⟨rfl, rfl⟩ := hp
  refine zk_stk (r' := []) rfl ?_
  refine zk_goto (tgt := 551) C kd_Mo_step_385 (by decide) ?_
  refine zk_lvs (lv' := [(2, .int x2)]) [1] rfl ?_
  exact zb_Mo_step_551 C hR h4 x2 e
set_option maxHeartbeats 4000000 in
set_option maxRecDepth 100000 in
theorem zb_Mo_step_222 {X : zkj_T} {S : zs_T} {P : ze_T} {l : Launch} {D : va_G} {sz0 : Nat} {d : Nat} {rv : Int32} {rh : zs_H} (C : zk_C X km_Mo_step (zs_G S l D sz0) { frames := 2 + (d + 1), cells := 0, slots := 0, locals := 50 + 30 * (d + 1) } (ze_E P)) (hR : zkj_R X (zd_PI S rv rh) (some .int)) (h : zs_H) (x2 : Int32) (e : f_Mo_step_222 h x2 = some (rv, rh)) : zk_Ab X (zs_W S h) 0 0 222 [(0, .ref (S.1 68)), (2, .int x2)] [] := by
  unfold f_Mo_step_222 at e
  refine zk_aload_n C kd_Mo_step_222 rfl 0 rfl rfl ?_
  refine zk_bipush (v := (-4)) C kd_Mo_step_223 (by decide) rfl ?_
  refine zs_put (ty := .int) C 68 75 (-4) rfl rfl rfl rfl ki_Mo ky_Mo ko_Mo kn_Mo (by decide) kw1758 rfl rfl rfl rfl (by decide) kd_Mo_step_225 rfl ?_
  refine zk_goto (tgt := 551) C kd_Mo_step_228 (by decide) ?_
  refine zk_lvs (lv' := [(2, .int x2)]) [1] rfl ?_
  exact zb_Mo_step_551 C hR (zs_uF h 68 75 (-4)) x2 e
set_option maxHeartbeats 4000000 in
set_option maxRecDepth 100000 in
theorem zg_Mo_step {l : Launch} {D : va_G} {sz0 : Nat} {S : zs_T} {P : ze_T} {d : Nat} {r_Mo_go : zs_H → Int32 → Int32 → (Option zs_H)} (hr_Mo_go : ∀ (h : zs_H) (x0 : Int32) (x1 : Int32) {rh : zs_H}, r_Mo_go h x0 x1 = some rh → zk_Sp (zs_G S l D sz0) (ze_E P) km_Mo_go { frames := 2 + d, cells := 0, slots := 0, locals := 50 + 30 * d } [.ref (S.1 68), .int x0, .int x1] (zs_W S h) (zd_PV S rh)) (h : zs_H) (x1 : Int32) (x2 : Int32) (x3 : Int32) {rv : Int32} {rh : zs_H} (e : g_Mo_step r_Mo_go h x1 x2 x3 = some (rv, rh)) : zk_Sp (zs_G S l D sz0) (ze_E P) km_Mo_step { frames := 2 + (d + 1), cells := 0, slots := 0, locals := 50 + 30 * (d + 1) } [.ref (S.1 68), .int x1, .int x2, .int x3] (zs_W S h) (zd_PI S rv rh) := by
  refine zk_met ku_Mo_step (Nat.le_of_ble_eq_true rfl) (ze_Em P) ?_
  intro X C hR
  refine zk_lvs (lv' := [(0, .ref (S.1 68)), (1, .int x1), (2, .int x2), (3, .int x3)]) [0, 1, 2, 3] rfl ?_
  unfold g_Mo_step at e
  refine zk_aload_n C kd_Mo_step_0 rfl 0 rfl rfl ?_
  refine zs_get (v := .ref (S.1 103)) C 68 57 rfl rfl rfl rfl ki_Mo (by decide) kw1740 kd_Mo_step_1 rfl ?_
  refine zk_iload_n C kd_Mo_step_4 rfl 1 rfl rfl ?_
  obtain ⟨q1, e⟩ := zd_g e
  refine zs_iald C 103 rfl (zd_vp q1) kd_Mo_step_5 rfl ?_
  refine zk_iload_n C kd_Mo_step_6 rfl 2 rfl rfl ?_
  refine zk_iadd C kd_Mo_step_7 rfl ?_
  refine zk_istore (lv' := [(4, _), (0, _), (1, _), (2, _), (3, _)]) C kd_Mo_step_8 (by decide) rfl rfl ?_
  refine zk_aload_n C kd_Mo_step_10 rfl 1 rfl rfl ?_
  refine zs_get (v := .ref (S.1 105)) C 68 60 rfl rfl rfl rfl ki_Mo (by decide) kw1743 kd_Mo_step_11 rfl ?_
  refine zk_iload C kd_Mo_step_14 0 rfl rfl ?_
  obtain ⟨q2, e⟩ := zd_g e
  refine zs_iald C 105 rfl (zd_vp q2) kd_Mo_step_16 rfl ?_
  refine zk_istore (lv' := [(5, _), (4, _), (0, _), (1, _), (2, _), (3, _)]) C kd_Mo_step_17 (by decide) rfl rfl ?_
  refine zk_aload_n C kd_Mo_step_19 rfl 2 rfl rfl ?_
  refine zs_get (v := .ref (S.1 115)) C 68 77 rfl rfl rfl rfl ki_Mo (by decide) kw1760 kd_Mo_step_20 rfl ?_
  refine zk_aload_n C kd_Mo_step_23 rfl 2 rfl rfl ?_
  refine zs_get (v := .int (h.1 68 76)) C 68 76 rfl rfl rfl rfl ki_Mo (by decide) kw1759 kd_Mo_step_24 rfl ?_
  obtain ⟨q3, e⟩ := zd_g e
  refine zs_iald C 115 rfl (zd_vp q3) kd_Mo_step_27 rfl ?_
  refine zk_istore (lv' := [(6, _), (5, _), (4, _), (0, _), (1, _), (2, _), (3, _)]) C kd_Mo_step_28 (by decide) rfl rfl ?_
  refine zk_aload_n C kd_Mo_step_30 rfl 3 rfl rfl ?_
  refine zs_get (v := .ref (S.1 115)) C 68 77 rfl rfl rfl rfl ki_Mo (by decide) kw1760 kd_Mo_step_31 rfl ?_
  refine zk_aload_n C kd_Mo_step_34 rfl 3 rfl rfl ?_
  refine zs_get (v := .int (h.1 68 76)) C 68 76 rfl rfl rfl rfl ki_Mo (by decide) kw1759 kd_Mo_step_35 rfl ?_
  refine zk_iconst (v := 1) C kd_Mo_step_38 (by decide) rfl ?_
  refine zk_iadd C kd_Mo_step_39 rfl ?_
  obtain ⟨q4, e⟩ := zd_g e
  refine zs_iald C 115 rfl (zd_vp q4) kd_Mo_step_40 rfl ?_
  refine zk_istore (lv' := [(7, _), (6, _), (5, _), (4, _), (0, _), (1, _), (2, _), (3, _)]) C kd_Mo_step_41 (by decide) rfl rfl ?_
  refine zk_aload_n C kd_Mo_step_43 rfl 4 rfl rfl ?_
  refine zs_get (v := .ref (S.1 115)) C 68 77 rfl rfl rfl rfl ki_Mo (by decide) kw1760 kd_Mo_step_44 rfl ?_
  refine zk_aload_n C kd_Mo_step_47 rfl 4 rfl rfl ?_
  refine zs_get (v := .int (h.1 68 76)) C 68 76 rfl rfl rfl rfl ki_Mo (by decide) kw1759 kd_Mo_step_48 rfl ?_
  refine zk_iconst (v := 2) C kd_Mo_step_51 (by decide) rfl ?_
  refine zk_iadd C kd_Mo_step_52 rfl ?_
  obtain ⟨q5, e⟩ := zd_g e
  refine zs_iald C 115 rfl (zd_vp q5) kd_Mo_step_53 rfl ?_
  refine zk_istore (lv' := [(8, _), (7, _), (6, _), (5, _), (4, _), (0, _), (1, _), (2, _), (3, _)]) C kd_Mo_step_54 (by decide) rfl rfl ?_
  refine zk_aload_n C kd_Mo_step_56 rfl 5 rfl rfl ?_
  refine zs_get (v := .ref (S.1 104)) C 68 59 rfl rfl rfl rfl ki_Mo (by decide) kw1742 kd_Mo_step_57 rfl ?_
  refine zk_iload C kd_Mo_step_60 4 rfl rfl ?_
  refine zs_iald C 104 rfl (zd_vp q2) kd_Mo_step_62 rfl ?_
  by_cases b6 : (h.2.1 104 ((h.2.1 103 x1.toNatClampNeg) + x2).toNatClampNeg) = 0
  · replace e := zd_pos b6 e
    refine zk_tableIn (tgt := 148) C kd_Mo_step_63 (by rw [b6]; decide) (by rw [b6]; decide) (by rw [b6]; rfl) (by decide) ?_
    refine zk_aload_n C kd_Mo_step_148 rfl 5 rfl rfl ?_
    refine zk_iload C kd_Mo_step_149 3 rfl rfl ?_
    obtain ⟨h8, c7, e⟩ := zd_b e
    refine zs_callV (k := 68) (rn := { frames := 0, cells := 0, slots := 0, locals := 0 }) (As := [.int (h.2.1 105 ((h.2.1 103 x1.toNatClampNeg) + x2).toNatClampNeg)]) (rest := []) C (zc_Mo_lay h (h.2.1 105 ((h.2.1 103 x1.toNatClampNeg) + x2).toNatClampNeg) c7) ku_Mo_lay kw2752 kv_Mo_lay rfl (zd_rmO (by decide) (by decide)) ⟨Nat.le_refl _, Nat.le_refl _⟩ rfl rfl rfl (Nat.le_of_ble_eq_true rfl) kd_Mo_step_151 rfl (c1 := 0) (s1 := 0) rfl rfl (fun v w hp => ?_)
    obtain ⟨rfl, rfl⟩ := hp
    refine zk_stk (r' := []) rfl ?_
    refine zk_goto (tgt := 551) C kd_Mo_step_154 (by decide) ?_
    refine zk_lvs (lv' := [(2, .int x2)]) [7] rfl ?_
    exact zb_Mo_step_551 C hR h8 x2 e
  replace e := zd_neg b6 e
  by_cases b9 : (h.2.1 104 ((h.2.1 103 x1.toNatClampNeg) + x2).toNatClampNeg) = 1
  · replace e := zd_pos b9 e
    refine zk_tableIn (tgt := 157) C kd_Mo_step_63 (by rw [b9]; decide) (by rw [b9]; decide) (by rw [b9]; rfl) (by decide) ?_
    refine zk_aload_n C kd_Mo_step_157 rfl 5 rfl rfl ?_
    refine zk_aload_n C kd_Mo_step_158 rfl 5 rfl rfl ?_
    refine zs_get (v := .ref (S.1 114)) C 68 72 rfl rfl rfl rfl ki_Mo (by decide) kw1755 kd_Mo_step_159 rfl ?_
    refine zk_iload_n C kd_Mo_step_162 rfl 8 rfl rfl ?_
    refine zk_iload C kd_Mo_step_163 3 rfl rfl ?_
    refine zk_iadd C kd_Mo_step_165 rfl ?_
    obtain ⟨q10, e⟩ := zd_g e
    refine zs_iald C 114 rfl (zd_vp q10) kd_Mo_step_166 rfl ?_
    obtain ⟨h12, c11, e⟩ := zd_b e
    refine zs_callV (k := 68) (rn := { frames := 0, cells := 0, slots := 0, locals := 0 }) (As := [.int (h.2.1 114 (x3 + (h.2.1 105 ((h.2.1 103 x1.toNatClampNeg) + x2).toNatClampNeg)).toNatClampNeg)]) (rest := []) C (zc_Mo_lay h (h.2.1 114 (x3 + (h.2.1 105 ((h.2.1 103 x1.toNatClampNeg) + x2).toNatClampNeg)).toNatClampNeg) c11) ku_Mo_lay kw2752 kv_Mo_lay rfl (zd_rmO (by decide) (by decide)) ⟨Nat.le_refl _, Nat.le_refl _⟩ rfl rfl rfl (Nat.le_of_ble_eq_true rfl) kd_Mo_step_167 rfl (c1 := 0) (s1 := 0) rfl rfl (fun v w hp => ?_)
    obtain ⟨rfl, rfl⟩ := hp
    refine zk_stk (r' := []) rfl ?_
    refine zk_goto (tgt := 551) C kd_Mo_step_170 (by decide) ?_
    refine zk_lvs (lv' := [(2, .int x2)]) [7] rfl ?_
    exact zb_Mo_step_551 C hR h12 x2 e
  replace e := zd_neg b9 e
  by_cases b13 : (h.2.1 104 ((h.2.1 103 x1.toNatClampNeg) + x2).toNatClampNeg) = 2
  · replace e := zd_pos b13 e
    refine zk_tableIn (tgt := 173) C kd_Mo_step_63 (by rw [b13]; decide) (by rw [b13]; decide) (by rw [b13]; rfl) (by decide) ?_
    refine zk_aload_n C kd_Mo_step_173 rfl 5 rfl rfl ?_
    refine zs_get (v := .ref (S.1 114)) C 68 72 rfl rfl rfl rfl ki_Mo (by decide) kw1755 kd_Mo_step_174 rfl ?_
    refine zk_iload_n C kd_Mo_step_177 rfl 8 rfl rfl ?_
    refine zk_iload C kd_Mo_step_178 3 rfl rfl ?_
    refine zk_iadd C kd_Mo_step_180 rfl ?_
    refine zk_iload C kd_Mo_step_181 2 rfl rfl ?_
    obtain ⟨q14, e⟩ := zd_g e
    refine zs_iast C 114 rfl (zd_vp q14) kd_Mo_step_183 rfl ?_
    refine zk_goto (tgt := 551) C kd_Mo_step_184 (by decide) ?_
    refine zk_lvs (lv' := [(2, .int x2)]) [7] rfl ?_
    exact zb_Mo_step_551 C hR (zs_uM h 114 (x3 + (h.2.1 105 ((h.2.1 103 x1.toNatClampNeg) + x2).toNatClampNeg)).toNatClampNeg (h.2.1 115 (h.1 68 76).toNatClampNeg)) x2 e
  replace e := zd_neg b13 e
  by_cases b15 : (h.2.1 104 ((h.2.1 103 x1.toNatClampNeg) + x2).toNatClampNeg) = 3
  · replace e := zd_pos b15 e
    refine zk_tableIn (tgt := 187) C kd_Mo_step_63 (by rw [b15]; decide) (by rw [b15]; decide) (by rw [b15]; rfl) (by decide) ?_
    refine zk_iload C kd_Mo_step_187 2 rfl rfl ?_
    refine zk_i2l C kd_Mo_step_189 rfl ?_
    refine zk_aload_n C kd_Mo_step_190 rfl 5 rfl rfl ?_
    refine zs_get (v := .ref (S.1 106)) C 68 61 rfl rfl rfl rfl ki_Mo (by decide) kw1744 kd_Mo_step_191 rfl ?_
    refine zk_iload C kd_Mo_step_194 4 rfl rfl ?_
    refine zs_iald C 106 rfl (zd_vp q2) kd_Mo_step_196 rfl ?_
    refine zk_i2l C kd_Mo_step_197 rfl ?_
    refine zk_lsub C kd_Mo_step_198 rfl ?_
    refine zk_lstore (lv' := [(9, _), (8, _), (7, _), (6, _), (5, _), (4, _), (0, _), (1, _), (2, _), (3, _)]) C kd_Mo_step_199 (by decide) rfl rfl ?_
    refine zk_lload C kd_Mo_step_201 0 rfl rfl ?_
    refine zk_lconst (v := 0) C kd_Mo_step_203 (by decide) rfl ?_
    refine zk_lcmp C kd_Mo_step_204 rfl ?_
    refine zk_if_lt (tgt := 222) C kd_Mo_step_205 (by decide) rfl (fun b16 => ?_) (fun b16 => ?_)
    · replace e := zd_pos (zd_clt.mp b16) e
      refine zk_lvs (lv' := [(0, .ref (S.1 68)), (2, .int x2)]) [6, 8] rfl ?_
      exact zb_Mo_step_222 C hR h x2 e
    · replace e := zd_neg (fun z => b16 (zd_clt.mpr z)) e
      refine zk_lload C kd_Mo_step_208 0 rfl rfl ?_
      refine zk_aload_n C kd_Mo_step_210 rfl 6 rfl rfl ?_
      refine zs_get (v := .ref (S.1 107)) C 68 62 rfl rfl rfl rfl ki_Mo (by decide) kw1745 kd_Mo_step_211 rfl ?_
      refine zk_iload C kd_Mo_step_214 5 rfl rfl ?_
      refine zs_iald C 107 rfl (zd_vp q2) kd_Mo_step_216 rfl ?_
      refine zk_i2l C kd_Mo_step_217 rfl ?_
      refine zk_lcmp C kd_Mo_step_218 rfl ?_
      refine zk_if_lt (tgt := 231) C kd_Mo_step_219 (by decide) rfl (fun b17 => ?_) (fun b17 => ?_)
      · replace e := zd_pos (zd_clt.mp b17) e
        refine zk_aload_n C kd_Mo_step_231 rfl 6 rfl rfl ?_
        refine zs_get (v := .ref (S.1 104)) C 68 59 rfl rfl rfl rfl ki_Mo (by decide) kw1742 kd_Mo_step_232 rfl ?_
        refine zk_iload C kd_Mo_step_235 5 rfl rfl ?_
        refine zs_iald C 104 rfl (zd_vp q2) kd_Mo_step_237 rfl ?_
        refine zk_iconst (v := 3) C kd_Mo_step_238 (by decide) rfl ?_
        refine zk_icmp_ne (tgt := 262) C kd_Mo_step_239 (by decide) rfl (fun b18 => ?_) (fun b18 => ?_)
        · replace e := zd_neg b18 e
          refine zk_aload_n C kd_Mo_step_262 rfl 6 rfl rfl ?_
          refine zs_get (v := .ref (S.1 114)) C 68 72 rfl rfl rfl rfl ki_Mo (by decide) kw1755 kd_Mo_step_263 rfl ?_
          refine zk_iload_n C kd_Mo_step_266 rfl 9 rfl rfl ?_
          refine zk_iload C kd_Mo_step_267 4 rfl rfl ?_
          refine zk_iadd C kd_Mo_step_269 rfl ?_
          refine zk_lload C kd_Mo_step_270 0 rfl rfl ?_
          refine zk_l2i C kd_Mo_step_272 rfl ?_
          refine zk_iadd C kd_Mo_step_273 rfl ?_
          refine zk_iload C kd_Mo_step_274 2 rfl rfl ?_
          obtain ⟨q19, e⟩ := zd_g e
          refine zs_iast C 114 rfl (zd_vp q19) kd_Mo_step_276 rfl ?_
          refine zk_goto (tgt := 551) C kd_Mo_step_277 (by decide) ?_
          refine zk_lvs (lv' := [(2, .int x2)]) [8] rfl ?_
          exact zb_Mo_step_551 C hR (zs_uM h 114 ((x3 + (h.2.1 105 ((h.2.1 103 x1.toNatClampNeg) + x2).toNatClampNeg)) + ((((h.2.1 115 (h.1 68 76).toNatClampNeg).toInt64) - ((h.2.1 106 ((h.2.1 103 x1.toNatClampNeg) + x2).toNatClampNeg).toInt64)).toInt32)).toNatClampNeg (h.2.1 115 ((h.1 68 76) + 1).toNatClampNeg)) x2 e
        · replace e := zd_pos b18 e
          refine zk_aload_n C kd_Mo_step_242 rfl 6 rfl rfl ?_
          refine zk_aload_n C kd_Mo_step_243 rfl 6 rfl rfl ?_
          refine zs_get (v := .ref (S.1 114)) C 68 72 rfl rfl rfl rfl ki_Mo (by decide) kw1755 kd_Mo_step_244 rfl ?_
          refine zk_iload_n C kd_Mo_step_247 rfl 9 rfl rfl ?_
          refine zk_iload C kd_Mo_step_248 4 rfl rfl ?_
          refine zk_iadd C kd_Mo_step_250 rfl ?_
          refine zk_lload C kd_Mo_step_251 0 rfl rfl ?_
          refine zk_l2i C kd_Mo_step_253 rfl ?_
          refine zk_iadd C kd_Mo_step_254 rfl ?_
          obtain ⟨q20, e⟩ := zd_g e
          refine zs_iald C 114 rfl (zd_vp q20) kd_Mo_step_255 rfl ?_
          obtain ⟨h22, c21, e⟩ := zd_b e
          refine zs_callV (k := 68) (rn := { frames := 0, cells := 0, slots := 0, locals := 0 }) (As := [.int (h.2.1 114 ((x3 + (h.2.1 105 ((h.2.1 103 x1.toNatClampNeg) + x2).toNatClampNeg)) + ((((h.2.1 115 (h.1 68 76).toNatClampNeg).toInt64) - ((h.2.1 106 ((h.2.1 103 x1.toNatClampNeg) + x2).toNatClampNeg).toInt64)).toInt32)).toNatClampNeg)]) (rest := []) C (zc_Mo_lay h (h.2.1 114 ((x3 + (h.2.1 105 ((h.2.1 103 x1.toNatClampNeg) + x2).toNatClampNeg)) + ((((h.2.1 115 (h.1 68 76).toNatClampNeg).toInt64) - ((h.2.1 106 ((h.2.1 103 x1.toNatClampNeg) + x2).toNatClampNeg).toInt64)).toInt32)).toNatClampNeg) c21) ku_Mo_lay kw2752 kv_Mo_lay rfl (zd_rmO (by decide) (by decide)) ⟨Nat.le_refl _, Nat.le_refl _⟩ rfl rfl rfl (Nat.le_of_ble_eq_true rfl) kd_Mo_step_256 rfl (c1 := 0) (s1 := 0) rfl rfl (fun v w hp => ?_)
          obtain ⟨rfl, rfl⟩ := hp
          refine zk_stk (r' := []) rfl ?_
          refine zk_goto (tgt := 551) C kd_Mo_step_259 (by decide) ?_
          refine zk_lvs (lv' := [(2, .int x2)]) [8] rfl ?_
          exact zb_Mo_step_551 C hR h22 x2 e
      · replace e := zd_neg (fun z => b17 (zd_clt.mpr z)) e
        refine zk_lvs (lv' := [(0, .ref (S.1 68)), (2, .int x2)]) [6, 8] rfl ?_
        exact zb_Mo_step_222 C hR h x2 e
  replace e := zd_neg b15 e
  by_cases b23 : (h.2.1 104 ((h.2.1 103 x1.toNatClampNeg) + x2).toNatClampNeg) = 4
  · replace e := zd_pos b23 e
    refine zk_tableIn (tgt := 187) C kd_Mo_step_63 (by rw [b23]; decide) (by rw [b23]; decide) (by rw [b23]; rfl) (by decide) ?_
    refine zk_iload C kd_Mo_step_187 2 rfl rfl ?_
    refine zk_i2l C kd_Mo_step_189 rfl ?_
    refine zk_aload_n C kd_Mo_step_190 rfl 5 rfl rfl ?_
    refine zs_get (v := .ref (S.1 106)) C 68 61 rfl rfl rfl rfl ki_Mo (by decide) kw1744 kd_Mo_step_191 rfl ?_
    refine zk_iload C kd_Mo_step_194 4 rfl rfl ?_
    refine zs_iald C 106 rfl (zd_vp q2) kd_Mo_step_196 rfl ?_
    refine zk_i2l C kd_Mo_step_197 rfl ?_
    refine zk_lsub C kd_Mo_step_198 rfl ?_
    refine zk_lstore (lv' := [(9, _), (8, _), (7, _), (6, _), (5, _), (4, _), (0, _), (1, _), (2, _), (3, _)]) C kd_Mo_step_199 (by decide) rfl rfl ?_
    refine zk_lload C kd_Mo_step_201 0 rfl rfl ?_
    refine zk_lconst (v := 0) C kd_Mo_step_203 (by decide) rfl ?_
    refine zk_lcmp C kd_Mo_step_204 rfl ?_
    refine zk_if_lt (tgt := 222) C kd_Mo_step_205 (by decide) rfl (fun b24 => ?_) (fun b24 => ?_)
    · replace e := zd_pos (zd_clt.mp b24) e
      refine zk_lvs (lv' := [(0, .ref (S.1 68)), (2, .int x2)]) [6, 8] rfl ?_
      exact zb_Mo_step_222 C hR h x2 e
    · replace e := zd_neg (fun z => b24 (zd_clt.mpr z)) e
      refine zk_lload C kd_Mo_step_208 0 rfl rfl ?_
      refine zk_aload_n C kd_Mo_step_210 rfl 6 rfl rfl ?_
      refine zs_get (v := .ref (S.1 107)) C 68 62 rfl rfl rfl rfl ki_Mo (by decide) kw1745 kd_Mo_step_211 rfl ?_
      refine zk_iload C kd_Mo_step_214 5 rfl rfl ?_
      refine zs_iald C 107 rfl (zd_vp q2) kd_Mo_step_216 rfl ?_
      refine zk_i2l C kd_Mo_step_217 rfl ?_
      refine zk_lcmp C kd_Mo_step_218 rfl ?_
      refine zk_if_lt (tgt := 231) C kd_Mo_step_219 (by decide) rfl (fun b25 => ?_) (fun b25 => ?_)
      · replace e := zd_pos (zd_clt.mp b25) e
        refine zk_aload_n C kd_Mo_step_231 rfl 6 rfl rfl ?_
        refine zs_get (v := .ref (S.1 104)) C 68 59 rfl rfl rfl rfl ki_Mo (by decide) kw1742 kd_Mo_step_232 rfl ?_
        refine zk_iload C kd_Mo_step_235 5 rfl rfl ?_
        refine zs_iald C 104 rfl (zd_vp q2) kd_Mo_step_237 rfl ?_
        refine zk_iconst (v := 3) C kd_Mo_step_238 (by decide) rfl ?_
        refine zk_icmp_ne (tgt := 262) C kd_Mo_step_239 (by decide) rfl (fun b26 => ?_) (fun b26 => ?_)
        · replace e := zd_neg b26 e
          refine zk_aload_n C kd_Mo_step_262 rfl 6 rfl rfl ?_
          refine zs_get (v := .ref (S.1 114)) C 68 72 rfl rfl rfl rfl ki_Mo (by decide) kw1755 kd_Mo_step_263 rfl ?_
          refine zk_iload_n C kd_Mo_step_266 rfl 9 rfl rfl ?_
          refine zk_iload C kd_Mo_step_267 4 rfl rfl ?_
          refine zk_iadd C kd_Mo_step_269 rfl ?_
          refine zk_lload C kd_Mo_step_270 0 rfl rfl ?_
          refine zk_l2i C kd_Mo_step_272 rfl ?_
          refine zk_iadd C kd_Mo_step_273 rfl ?_
          refine zk_iload C kd_Mo_step_274 2 rfl rfl ?_
          obtain ⟨q27, e⟩ := zd_g e
          refine zs_iast C 114 rfl (zd_vp q27) kd_Mo_step_276 rfl ?_
          refine zk_goto (tgt := 551) C kd_Mo_step_277 (by decide) ?_
          refine zk_lvs (lv' := [(2, .int x2)]) [8] rfl ?_
          exact zb_Mo_step_551 C hR (zs_uM h 114 ((x3 + (h.2.1 105 ((h.2.1 103 x1.toNatClampNeg) + x2).toNatClampNeg)) + ((((h.2.1 115 (h.1 68 76).toNatClampNeg).toInt64) - ((h.2.1 106 ((h.2.1 103 x1.toNatClampNeg) + x2).toNatClampNeg).toInt64)).toInt32)).toNatClampNeg (h.2.1 115 ((h.1 68 76) + 1).toNatClampNeg)) x2 e
        · replace e := zd_pos b26 e
          refine zk_aload_n C kd_Mo_step_242 rfl 6 rfl rfl ?_
          refine zk_aload_n C kd_Mo_step_243 rfl 6 rfl rfl ?_
          refine zs_get (v := .ref (S.1 114)) C 68 72 rfl rfl rfl rfl ki_Mo (by decide) kw1755 kd_Mo_step_244 rfl ?_
          refine zk_iload_n C kd_Mo_step_247 rfl 9 rfl rfl ?_
          refine zk_iload C kd_Mo_step_248 4 rfl rfl ?_
          refine zk_iadd C kd_Mo_step_250 rfl ?_
          refine zk_lload C kd_Mo_step_251 0 rfl rfl ?_
          refine zk_l2i C kd_Mo_step_253 rfl ?_
          refine zk_iadd C kd_Mo_step_254 rfl ?_
          obtain ⟨q28, e⟩ := zd_g e
          refine zs_iald C 114 rfl (zd_vp q28) kd_Mo_step_255 rfl ?_
          obtain ⟨h30, c29, e⟩ := zd_b e
          refine zs_callV (k := 68) (rn := { frames := 0, cells := 0, slots := 0, locals := 0 }) (As := [.int (h.2.1 114 ((x3 + (h.2.1 105 ((h.2.1 103 x1.toNatClampNeg) + x2).toNatClampNeg)) + ((((h.2.1 115 (h.1 68 76).toNatClampNeg).toInt64) - ((h.2.1 106 ((h.2.1 103 x1.toNatClampNeg) + x2).toNatClampNeg).toInt64)).toInt32)).toNatClampNeg)]) (rest := []) C (zc_Mo_lay h (h.2.1 114 ((x3 + (h.2.1 105 ((h.2.1 103 x1.toNatClampNeg) + x2).toNatClampNeg)) + ((((h.2.1 115 (h.1 68 76).toNatClampNeg).toInt64) - ((h.2.1 106 ((h.2.1 103 x1.toNatClampNeg) + x2).toNatClampNeg).toInt64)).toInt32)).toNatClampNeg) c29) ku_Mo_lay kw2752 kv_Mo_lay rfl (zd_rmO (by decide) (by decide)) ⟨Nat.le_refl _, Nat.le_refl _⟩ rfl rfl rfl (Nat.le_of_ble_eq_true rfl) kd_Mo_step_256 rfl (c1 := 0) (s1 := 0) rfl rfl (fun v w hp => ?_)
          obtain ⟨rfl, rfl⟩ := hp
          refine zk_stk (r' := []) rfl ?_
          refine zk_goto (tgt := 551) C kd_Mo_step_259 (by decide) ?_
          refine zk_lvs (lv' := [(2, .int x2)]) [8] rfl ?_
          exact zb_Mo_step_551 C hR h30 x2 e
      · replace e := zd_neg (fun z => b25 (zd_clt.mpr z)) e
        refine zk_lvs (lv' := [(0, .ref (S.1 68)), (2, .int x2)]) [6, 8] rfl ?_
        exact zb_Mo_step_222 C hR h x2 e
  replace e := zd_neg b23 e
  by_cases b31 : (h.2.1 104 ((h.2.1 103 x1.toNatClampNeg) + x2).toNatClampNeg) = 5
  · replace e := zd_pos b31 e
    refine zk_tableIn (tgt := 280) C kd_Mo_step_63 (by rw [b31]; decide) (by rw [b31]; decide) (by rw [b31]; rfl) (by decide) ?_
    refine zk_aload_n C kd_Mo_step_280 rfl 5 rfl rfl ?_
    refine zk_aload_n C kd_Mo_step_281 rfl 5 rfl rfl ?_
    refine zs_get (v := .ref (S.1 114)) C 68 72 rfl rfl rfl rfl ki_Mo (by decide) kw1755 kd_Mo_step_282 rfl ?_
    refine zk_aload_n C kd_Mo_step_285 rfl 5 rfl rfl ?_
    refine zs_get (v := .ref (S.1 89)) C 68 39 rfl rfl rfl rfl ki_Mo (by decide) kw1722 kd_Mo_step_286 rfl ?_
    refine zk_iload C kd_Mo_step_289 3 rfl rfl ?_
    obtain ⟨q32, e⟩ := zd_g e
    refine zs_iald C 89 rfl (zd_vp q32) kd_Mo_step_291 rfl ?_
    refine zk_aload_n C kd_Mo_step_292 rfl 5 rfl rfl ?_
    refine zs_get (v := .ref (S.1 106)) C 68 61 rfl rfl rfl rfl ki_Mo (by decide) kw1744 kd_Mo_step_293 rfl ?_
    refine zk_iload C kd_Mo_step_296 4 rfl rfl ?_
    refine zs_iald C 106 rfl (zd_vp q2) kd_Mo_step_298 rfl ?_
    refine zk_iadd C kd_Mo_step_299 rfl ?_
    obtain ⟨q33, e⟩ := zd_g e
    refine zs_iald C 114 rfl (zd_vp q33) kd_Mo_step_300 rfl ?_
    obtain ⟨h35, c34, e⟩ := zd_b e
    refine zs_callV (k := 68) (rn := { frames := 0, cells := 0, slots := 0, locals := 0 }) (As := [.int (h.2.1 114 ((h.2.1 89 (h.2.1 105 ((h.2.1 103 x1.toNatClampNeg) + x2).toNatClampNeg).toNatClampNeg) + (h.2.1 106 ((h.2.1 103 x1.toNatClampNeg) + x2).toNatClampNeg)).toNatClampNeg)]) (rest := []) C (zc_Mo_lay h (h.2.1 114 ((h.2.1 89 (h.2.1 105 ((h.2.1 103 x1.toNatClampNeg) + x2).toNatClampNeg).toNatClampNeg) + (h.2.1 106 ((h.2.1 103 x1.toNatClampNeg) + x2).toNatClampNeg)).toNatClampNeg) c34) ku_Mo_lay kw2752 kv_Mo_lay rfl (zd_rmO (by decide) (by decide)) ⟨Nat.le_refl _, Nat.le_refl _⟩ rfl rfl rfl (Nat.le_of_ble_eq_true rfl) kd_Mo_step_301 rfl (c1 := 0) (s1 := 0) rfl rfl (fun v w hp => ?_)
    obtain ⟨rfl, rfl⟩ := hp
    refine zk_stk (r' := []) rfl ?_
    refine zk_goto (tgt := 551) C kd_Mo_step_304 (by decide) ?_
    refine zk_lvs (lv' := [(2, .int x2)]) [7] rfl ?_
    exact zb_Mo_step_551 C hR h35 x2 e
  replace e := zd_neg b31 e
  by_cases b36 : (h.2.1 104 ((h.2.1 103 x1.toNatClampNeg) + x2).toNatClampNeg) = 6
  · replace e := zd_pos b36 e
    refine zk_tableIn (tgt := 307) C kd_Mo_step_63 (by rw [b36]; decide) (by rw [b36]; decide) (by rw [b36]; rfl) (by decide) ?_
    refine zk_aload_n C kd_Mo_step_307 rfl 5 rfl rfl ?_
    refine zs_get (v := .ref (S.1 114)) C 68 72 rfl rfl rfl rfl ki_Mo (by decide) kw1755 kd_Mo_step_308 rfl ?_
    refine zk_aload_n C kd_Mo_step_311 rfl 5 rfl rfl ?_
    refine zs_get (v := .ref (S.1 89)) C 68 39 rfl rfl rfl rfl ki_Mo (by decide) kw1722 kd_Mo_step_312 rfl ?_
    refine zk_iload C kd_Mo_step_315 3 rfl rfl ?_
    obtain ⟨q37, e⟩ := zd_g e
    refine zs_iald C 89 rfl (zd_vp q37) kd_Mo_step_317 rfl ?_
    refine zk_aload_n C kd_Mo_step_318 rfl 5 rfl rfl ?_
    refine zs_get (v := .ref (S.1 106)) C 68 61 rfl rfl rfl rfl ki_Mo (by decide) kw1744 kd_Mo_step_319 rfl ?_
    refine zk_iload C kd_Mo_step_322 4 rfl rfl ?_
    refine zs_iald C 106 rfl (zd_vp q2) kd_Mo_step_324 rfl ?_
    refine zk_iadd C kd_Mo_step_325 rfl ?_
    refine zk_iload C kd_Mo_step_326 2 rfl rfl ?_
    obtain ⟨q38, e⟩ := zd_g e
    refine zs_iast C 114 rfl (zd_vp q38) kd_Mo_step_328 rfl ?_
    refine zk_goto (tgt := 551) C kd_Mo_step_329 (by decide) ?_
    refine zk_lvs (lv' := [(2, .int x2)]) [7] rfl ?_
    exact zb_Mo_step_551 C hR (zs_uM h 114 ((h.2.1 89 (h.2.1 105 ((h.2.1 103 x1.toNatClampNeg) + x2).toNatClampNeg).toNatClampNeg) + (h.2.1 106 ((h.2.1 103 x1.toNatClampNeg) + x2).toNatClampNeg)).toNatClampNeg (h.2.1 115 (h.1 68 76).toNatClampNeg)) x2 e
  replace e := zd_neg b36 e
  by_cases b39 : (h.2.1 104 ((h.2.1 103 x1.toNatClampNeg) + x2).toNatClampNeg) = 7
  · replace e := zd_pos b39 e
    refine zk_tableIn (tgt := 332) C kd_Mo_step_63 (by rw [b39]; decide) (by rw [b39]; decide) (by rw [b39]; rfl) (by decide) ?_
    refine zk_iload C kd_Mo_step_332 1 rfl rfl ?_
    refine zk_if_ne (tgt := 372) C kd_Mo_step_334 (by decide) rfl (fun b40 => ?_) (fun b40 => ?_)
    · replace e := zd_neg b40 e
      refine zk_lvs (lv' := [(0, .ref (S.1 68)), (2, .int x2), (5, .int (h.2.1 105 ((h.2.1 103 x1.toNatClampNeg) + x2).toNatClampNeg)), (6, .int (h.2.1 115 (h.1 68 76).toNatClampNeg)), (7, .int (h.2.1 115 ((h.1 68 76) + 1).toNatClampNeg))]) [5, 7, 3, 2, 1] rfl ?_
      exact zb_Mo_step_372 C hR h x2 (h.2.1 105 ((h.2.1 103 x1.toNatClampNeg) + x2).toNatClampNeg) (h.2.1 115 (h.1 68 76).toNatClampNeg) (h.2.1 115 ((h.1 68 76) + 1).toNatClampNeg) e
    · replace e := zd_pos b40 e
      refine zk_iload C kd_Mo_step_337 3 rfl rfl ?_
      refine zk_iconst (v := 3) C kd_Mo_step_339 (by decide) rfl ?_
      refine zk_icmp_eq (tgt := 363) C kd_Mo_step_340 (by decide) rfl (fun b41 => ?_) (fun b41 => ?_)
      · replace e := zd_pos b41 e
        refine zk_lvs (lv' := [(0, .ref (S.1 68)), (2, .int x2)]) [5, 7] rfl ?_
        exact zb_Mo_step_363 C hR h x2 e
      · replace e := zd_neg b41 e
        refine zk_iload C kd_Mo_step_343 3 rfl rfl ?_
        refine zk_iconst (v := 4) C kd_Mo_step_345 (by decide) rfl ?_
        refine zk_icmp_eq (tgt := 363) C kd_Mo_step_346 (by decide) rfl (fun b42 => ?_) (fun b42 => ?_)
        · replace e := zd_pos b42 e
          refine zk_lvs (lv' := [(0, .ref (S.1 68)), (2, .int x2)]) [5, 7] rfl ?_
          exact zb_Mo_step_363 C hR h x2 e
        · replace e := zd_neg b42 e
          refine zk_iload C kd_Mo_step_349 3 rfl rfl ?_
          refine zk_bipush (v := 8) C kd_Mo_step_351 (by decide) rfl ?_
          refine zk_icmp_eq (tgt := 363) C kd_Mo_step_353 (by decide) rfl (fun b43 => ?_) (fun b43 => ?_)
          · replace e := zd_pos b43 e
            refine zk_lvs (lv' := [(0, .ref (S.1 68)), (2, .int x2)]) [5, 7] rfl ?_
            exact zb_Mo_step_363 C hR h x2 e
          · replace e := zd_neg b43 e
            refine zk_iload C kd_Mo_step_356 3 rfl rfl ?_
            refine zk_bipush (v := 9) C kd_Mo_step_358 (by decide) rfl ?_
            refine zk_icmp_ne (tgt := 372) C kd_Mo_step_360 (by decide) rfl (fun b44 => ?_) (fun b44 => ?_)
            · replace e := zd_neg b44 e
              refine zk_lvs (lv' := [(0, .ref (S.1 68)), (2, .int x2), (5, .int (h.2.1 105 ((h.2.1 103 x1.toNatClampNeg) + x2).toNatClampNeg)), (6, .int (h.2.1 115 (h.1 68 76).toNatClampNeg)), (7, .int (h.2.1 115 ((h.1 68 76) + 1).toNatClampNeg))]) [5, 7, 3, 2, 1] rfl ?_
              exact zb_Mo_step_372 C hR h x2 (h.2.1 105 ((h.2.1 103 x1.toNatClampNeg) + x2).toNatClampNeg) (h.2.1 115 (h.1 68 76).toNatClampNeg) (h.2.1 115 ((h.1 68 76) + 1).toNatClampNeg) e
            · replace e := zd_pos b44 e
              refine zk_lvs (lv' := [(0, .ref (S.1 68)), (2, .int x2)]) [5, 7] rfl ?_
              exact zb_Mo_step_363 C hR h x2 e
  replace e := zd_neg b39 e
  by_cases b45 : (h.2.1 104 ((h.2.1 103 x1.toNatClampNeg) + x2).toNatClampNeg) = 8
  · replace e := zd_pos b45 e
    refine zk_tableIn (tgt := 388) C kd_Mo_step_63 (by rw [b45]; decide) (by rw [b45]; decide) (by rw [b45]; rfl) (by decide) ?_
    refine zk_aload_n C kd_Mo_step_388 rfl 5 rfl rfl ?_
    refine zk_iload C kd_Mo_step_389 3 rfl rfl ?_
    refine zk_iload C kd_Mo_step_391 2 rfl rfl ?_
    refine zk_callS (rn := { frames := 1, cells := 0, slots := 0, locals := 21 }) (As := [.int (h.2.1 105 ((h.2.1 103 x1.toNatClampNeg) + x2).toNatClampNeg), .int (h.2.1 115 (h.1 68 76).toNatClampNeg)]) (rest := [.ref (S.1 68)]) C (zc_Mo_one h (h.2.1 105 ((h.2.1 103 x1.toNatClampNeg) + x2).toNatClampNeg) (h.2.1 115 (h.1 68 76).toNatClampNeg)) ku_Mo_one kw2564 ks_Mo_one rfl (zd_rmO (by decide) (by decide)) ⟨Nat.le_refl _, Nat.le_refl _⟩ rfl (Nat.le_of_ble_eq_true rfl) kd_Mo_step_393 rfl (c1 := 0) (s1 := 0) rfl rfl (fun v w hp => ?_)
    obtain ⟨rfl, rfl⟩ := hp
    refine zk_stk (r' := [.int (f_Mo_one (h.2.1 105 ((h.2.1 103 x1.toNatClampNeg) + x2).toNatClampNeg) (h.2.1 115 (h.1 68 76).toNatClampNeg)), .ref (S.1 68)]) rfl ?_
    obtain ⟨h47, c46, e⟩ := zd_b e
    refine zs_callV (k := 68) (rn := { frames := 0, cells := 0, slots := 0, locals := 0 }) (As := [.int (f_Mo_one (h.2.1 105 ((h.2.1 103 x1.toNatClampNeg) + x2).toNatClampNeg) (h.2.1 115 (h.1 68 76).toNatClampNeg))]) (rest := []) C (zc_Mo_lay h (f_Mo_one (h.2.1 105 ((h.2.1 103 x1.toNatClampNeg) + x2).toNatClampNeg) (h.2.1 115 (h.1 68 76).toNatClampNeg)) c46) ku_Mo_lay kw2752 kv_Mo_lay rfl (zd_rmO (by decide) (by decide)) ⟨Nat.le_refl _, Nat.le_refl _⟩ rfl rfl rfl (Nat.le_of_ble_eq_true rfl) kd_Mo_step_396 rfl (c1 := 0) (s1 := 0) rfl rfl (fun v w hp => ?_)
    obtain ⟨rfl, rfl⟩ := hp
    refine zk_stk (r' := []) rfl ?_
    refine zk_goto (tgt := 551) C kd_Mo_step_399 (by decide) ?_
    refine zk_lvs (lv' := [(2, .int x2)]) [7] rfl ?_
    exact zb_Mo_step_551 C hR h47 x2 e
  replace e := zd_neg b45 e
  by_cases b48 : (h.2.1 104 ((h.2.1 103 x1.toNatClampNeg) + x2).toNatClampNeg) = 9
  · replace e := zd_pos b48 e
    refine zk_tableIn (tgt := 402) C kd_Mo_step_63 (by rw [b48]; decide) (by rw [b48]; decide) (by rw [b48]; rfl) (by decide) ?_
    refine zk_aload_n C kd_Mo_step_402 rfl 5 rfl rfl ?_
    refine zk_iload C kd_Mo_step_403 2 rfl rfl ?_
    refine zk_if_eq (tgt := 413) C kd_Mo_step_405 (by decide) rfl (fun b49 => ?_) (fun b49 => ?_)
    · replace e := zd_pos b49 e
      refine zk_iload C kd_Mo_step_413 1 rfl rfl ?_
      refine zk_lvs (lv' := [(2, .int x2)]) [7] rfl ?_
      exact zb_Mo_step_415 C hR h x2 (h.2.1 115 ((h.1 68 76) + 1).toNatClampNeg) e
    · replace e := zd_neg b49 e
      refine zk_iload C kd_Mo_step_408 0 rfl rfl ?_
      refine zk_goto (tgt := 415) C kd_Mo_step_410 (by decide) ?_
      refine zk_lvs (lv' := [(2, .int x2)]) [7] rfl ?_
      exact zb_Mo_step_415 C hR h x2 (h.2.1 115 ((h.1 68 76) + 2).toNatClampNeg) e
  replace e := zd_neg b48 e
  by_cases b50 : (h.2.1 104 ((h.2.1 103 x1.toNatClampNeg) + x2).toNatClampNeg) = 10
  · replace e := zd_pos b50 e
    refine zk_tableIn (tgt := 421) C kd_Mo_step_63 (by rw [b50]; decide) (by rw [b50]; decide) (by rw [b50]; rfl) (by decide) ?_
    refine zk_iload C kd_Mo_step_421 3 rfl rfl ?_
    exact zk_iret C hR kd_Mo_step_423 rfl rfl (zd_rIS e)
  replace e := zd_neg b50 e
  by_cases b51 : (h.2.1 104 ((h.2.1 103 x1.toNatClampNeg) + x2).toNatClampNeg) = 11
  · replace e := zd_pos b51 e
    refine zk_tableIn (tgt := 424) C kd_Mo_step_63 (by rw [b51]; decide) (by rw [b51]; decide) (by rw [b51]; rfl) (by decide) ?_
    refine zk_iload C kd_Mo_step_424 2 rfl rfl ?_
    refine zk_if_ne (tgt := 434) C kd_Mo_step_426 (by decide) rfl (fun b52 => ?_) (fun b52 => ?_)
    · replace e := zd_neg b52 e
      refine zk_iload_n C kd_Mo_step_434 rfl 7 rfl rfl ?_
      refine zk_iconst (v := 1) C kd_Mo_step_435 (by decide) rfl ?_
      refine zk_iadd C kd_Mo_step_436 rfl ?_
      exact zk_iret C hR kd_Mo_step_437 rfl rfl (zd_rIS e)
    · replace e := zd_pos b52 e
      refine zk_iload C kd_Mo_step_429 3 rfl rfl ?_
      refine zk_goto (tgt := 437) C kd_Mo_step_431 (by decide) ?_
      exact zk_iret C hR kd_Mo_step_437 rfl rfl (zd_rIS e)
  replace e := zd_neg b51 e
  by_cases b53 : (h.2.1 104 ((h.2.1 103 x1.toNatClampNeg) + x2).toNatClampNeg) = 12
  · replace e := zd_pos b53 e
    refine zk_tableIn (tgt := 438) C kd_Mo_step_63 (by rw [b53]; decide) (by rw [b53]; decide) (by rw [b53]; rfl) (by decide) ?_
    refine zk_aload_n C kd_Mo_step_438 rfl 5 rfl rfl ?_
    refine zs_get (v := .ref (S.1 114)) C 68 72 rfl rfl rfl rfl ki_Mo (by decide) kw1755 kd_Mo_step_439 rfl ?_
    refine zk_iload_n C kd_Mo_step_442 rfl 8 rfl rfl ?_
    refine zk_iload C kd_Mo_step_443 3 rfl rfl ?_
    refine zk_iadd C kd_Mo_step_445 rfl ?_
    refine zk_aload_n C kd_Mo_step_446 rfl 5 rfl rfl ?_
    refine zs_get (v := .ref (S.1 106)) C 68 61 rfl rfl rfl rfl ki_Mo (by decide) kw1744 kd_Mo_step_447 rfl ?_
    refine zk_iload C kd_Mo_step_450 4 rfl rfl ?_
    refine zs_iald C 106 rfl (zd_vp q2) kd_Mo_step_452 rfl ?_
    obtain ⟨q54, e⟩ := zd_g e
    refine zs_iast C 114 rfl (zd_vp q54) kd_Mo_step_453 rfl ?_
    refine zk_goto (tgt := 551) C kd_Mo_step_454 (by decide) ?_
    refine zk_lvs (lv' := [(2, .int x2)]) [7] rfl ?_
    exact zb_Mo_step_551 C hR (zs_uM h 114 (x3 + (h.2.1 105 ((h.2.1 103 x1.toNatClampNeg) + x2).toNatClampNeg)).toNatClampNeg (h.2.1 106 ((h.2.1 103 x1.toNatClampNeg) + x2).toNatClampNeg)) x2 e
  replace e := zd_neg b53 e
  by_cases b55 : (h.2.1 104 ((h.2.1 103 x1.toNatClampNeg) + x2).toNatClampNeg) = 13
  · replace e := zd_pos b55 e
    refine zk_tableIn (tgt := 457) C kd_Mo_step_63 (by rw [b55]; decide) (by rw [b55]; decide) (by rw [b55]; rfl) (by decide) ?_
    refine zk_aload_n C kd_Mo_step_457 rfl 5 rfl rfl ?_
    refine zs_get (v := .ref (S.1 114)) C 68 72 rfl rfl rfl rfl ki_Mo (by decide) kw1755 kd_Mo_step_458 rfl ?_
    refine zk_iload_n C kd_Mo_step_461 rfl 8 rfl rfl ?_
    refine zk_iload C kd_Mo_step_462 3 rfl rfl ?_
    refine zk_iadd C kd_Mo_step_464 rfl ?_
    obtain ⟨q56, e⟩ := zd_g e
    refine zs_iald C 114 rfl (zd_vp q56) kd_Mo_step_465 rfl ?_
    refine zk_if_ne (tgt := 477) C kd_Mo_step_466 (by decide) rfl (fun b57 => ?_) (fun b57 => ?_)
    · replace e := zd_neg b57 e
      refine zk_aload_n C kd_Mo_step_477 rfl 5 rfl rfl ?_
      refine zs_get (v := .ref (S.1 114)) C 68 72 rfl rfl rfl rfl ki_Mo (by decide) kw1755 kd_Mo_step_478 rfl ?_
      refine zk_iload_n C kd_Mo_step_481 rfl 8 rfl rfl ?_
      refine zk_iload C kd_Mo_step_482 3 rfl rfl ?_
      refine zk_iadd C kd_Mo_step_484 rfl ?_
      refine zk_dup2 C kd_Mo_step_485 rfl rfl rfl ?_
      refine zs_iald C 114 rfl (zd_vp q56) kd_Mo_step_486 rfl ?_
      refine zk_iconst (v := 1) C kd_Mo_step_487 (by decide) rfl ?_
      refine zk_isub C kd_Mo_step_488 rfl ?_
      refine zs_iast C 114 rfl (zd_vp q56) kd_Mo_step_489 rfl ?_
      refine zk_goto (tgt := 551) C kd_Mo_step_490 (by decide) ?_
      refine zk_lvs (lv' := [(2, .int x2)]) [7] rfl ?_
      exact zb_Mo_step_551 C hR (zs_uM h 114 (x3 + (h.2.1 105 ((h.2.1 103 x1.toNatClampNeg) + x2).toNatClampNeg)).toNatClampNeg ((h.2.1 114 (x3 + (h.2.1 105 ((h.2.1 103 x1.toNatClampNeg) + x2).toNatClampNeg)).toNatClampNeg) - 1)) x2 e
    · replace e := zd_pos b57 e
      refine zk_aload_n C kd_Mo_step_469 rfl 5 rfl rfl ?_
      refine zs_get (v := .ref (S.1 106)) C 68 61 rfl rfl rfl rfl ki_Mo (by decide) kw1744 kd_Mo_step_470 rfl ?_
      refine zk_iload C kd_Mo_step_473 4 rfl rfl ?_
      refine zs_iald C 106 rfl (zd_vp q2) kd_Mo_step_475 rfl ?_
      exact zk_iret C hR kd_Mo_step_476 rfl rfl (zd_rIS e)
  replace e := zd_neg b55 e
  by_cases b58 : (h.2.1 104 ((h.2.1 103 x1.toNatClampNeg) + x2).toNatClampNeg) = 14
  · replace e := zd_pos b58 e
    refine zk_tableIn (tgt := 421) C kd_Mo_step_63 (by rw [b58]; decide) (by rw [b58]; decide) (by rw [b58]; rfl) (by decide) ?_
    refine zk_iload C kd_Mo_step_421 3 rfl rfl ?_
    exact zk_iret C hR kd_Mo_step_423 rfl rfl (zd_rIS e)
  replace e := zd_neg b58 e
  by_cases b59 : (h.2.1 104 ((h.2.1 103 x1.toNatClampNeg) + x2).toNatClampNeg) = 15
  · replace e := zd_pos b59 e
    refine zk_tableIn (tgt := 493) C kd_Mo_step_63 (by rw [b59]; decide) (by rw [b59]; decide) (by rw [b59]; rfl) (by decide) ?_
    refine zk_aload_n C kd_Mo_step_493 rfl 5 rfl rfl ?_
    refine zk_iload C kd_Mo_step_494 3 rfl rfl ?_
    refine zk_iload_n C kd_Mo_step_496 rfl 8 rfl rfl ?_
    refine zk_aload_n C kd_Mo_step_497 rfl 5 rfl rfl ?_
    refine zs_get (v := .ref (S.1 106)) C 68 61 rfl rfl rfl rfl ki_Mo (by decide) kw1744 kd_Mo_step_498 rfl ?_
    refine zk_iload C kd_Mo_step_501 4 rfl rfl ?_
    refine zs_iald C 106 rfl (zd_vp q2) kd_Mo_step_503 rfl ?_
    refine zk_iadd C kd_Mo_step_504 rfl ?_
    obtain ⟨h61, c60, e⟩ := zd_b e
    refine zs_callV (k := 68) (rn := { frames := 2 + d, cells := 0, slots := 0, locals := 50 + 30 * d }) (As := [.int (h.2.1 105 ((h.2.1 103 x1.toNatClampNeg) + x2).toNatClampNeg), .int (x3 + (h.2.1 106 ((h.2.1 103 x1.toNatClampNeg) + x2).toNatClampNeg))]) (rest := []) C (hr_Mo_go h (h.2.1 105 ((h.2.1 103 x1.toNatClampNeg) + x2).toNatClampNeg) (x3 + (h.2.1 106 ((h.2.1 103 x1.toNatClampNeg) + x2).toNatClampNeg)) c60) ku_Mo_go kw2744 kv_Mo_go rfl (zd_rmI (by decide)) ⟨Nat.le_refl _, Nat.le_refl _⟩ rfl rfl rfl (Nat.le_of_ble_eq_true rfl) kd_Mo_step_505 rfl (c1 := 0) (s1 := 0) rfl rfl (fun v w hp => ?_)
    obtain ⟨rfl, rfl⟩ := hp
    refine zk_stk (r' := []) rfl ?_
    refine zk_goto (tgt := 551) C kd_Mo_step_508 (by decide) ?_
    refine zk_lvs (lv' := [(2, .int x2)]) [7] rfl ?_
    exact zb_Mo_step_551 C hR h61 x2 e
  replace e := zd_neg b59 e
  by_cases b62 : (h.2.1 104 ((h.2.1 103 x1.toNatClampNeg) + x2).toNatClampNeg) = 16
  · replace e := zd_pos b62 e
    refine zk_tableIn (tgt := 511) C kd_Mo_step_63 (by rw [b62]; decide) (by rw [b62]; decide) (by rw [b62]; rfl) (by decide) ?_
    refine zk_aload_n C kd_Mo_step_511 rfl 5 rfl rfl ?_
    refine zk_iload C kd_Mo_step_512 3 rfl rfl ?_
    refine zk_aload_n C kd_Mo_step_514 rfl 5 rfl rfl ?_
    refine zs_get (v := .ref (S.1 89)) C 68 39 rfl rfl rfl rfl ki_Mo (by decide) kw1722 kd_Mo_step_515 rfl ?_
    refine zk_iload C kd_Mo_step_518 3 rfl rfl ?_
    obtain ⟨q63, e⟩ := zd_g e
    refine zs_iald C 89 rfl (zd_vp q63) kd_Mo_step_520 rfl ?_
    obtain ⟨h65, c64, e⟩ := zd_b e
    refine zs_callV (k := 68) (rn := { frames := 2 + d, cells := 0, slots := 0, locals := 50 + 30 * d }) (As := [.int (h.2.1 105 ((h.2.1 103 x1.toNatClampNeg) + x2).toNatClampNeg), .int (h.2.1 89 (h.2.1 105 ((h.2.1 103 x1.toNatClampNeg) + x2).toNatClampNeg).toNatClampNeg)]) (rest := []) C (hr_Mo_go h (h.2.1 105 ((h.2.1 103 x1.toNatClampNeg) + x2).toNatClampNeg) (h.2.1 89 (h.2.1 105 ((h.2.1 103 x1.toNatClampNeg) + x2).toNatClampNeg).toNatClampNeg) c64) ku_Mo_go kw2744 kv_Mo_go rfl (zd_rmI (by decide)) ⟨Nat.le_refl _, Nat.le_refl _⟩ rfl rfl rfl (Nat.le_of_ble_eq_true rfl) kd_Mo_step_521 rfl (c1 := 0) (s1 := 0) rfl rfl (fun v w hp => ?_)
    obtain ⟨rfl, rfl⟩ := hp
    refine zk_stk (r' := []) rfl ?_
    refine zk_goto (tgt := 551) C kd_Mo_step_524 (by decide) ?_
    refine zk_lvs (lv' := [(2, .int x2)]) [7] rfl ?_
    exact zb_Mo_step_551 C hR h65 x2 e
  replace e := zd_neg b62 e
  by_cases b66 : (h.2.1 104 ((h.2.1 103 x1.toNatClampNeg) + x2).toNatClampNeg) = 17
  · replace e := zd_pos b66 e
    refine zk_tableIn (tgt := 527) C kd_Mo_step_63 (by rw [b66]; decide) (by rw [b66]; decide) (by rw [b66]; rfl) (by decide) ?_
    refine zk_aload_n C kd_Mo_step_527 rfl 5 rfl rfl ?_
    refine zk_iload C kd_Mo_step_528 3 rfl rfl ?_
    refine zk_iload_n C kd_Mo_step_530 rfl 8 rfl rfl ?_
    refine zk_aload_n C kd_Mo_step_531 rfl 5 rfl rfl ?_
    refine zs_get (v := .ref (S.1 106)) C 68 61 rfl rfl rfl rfl ki_Mo (by decide) kw1744 kd_Mo_step_532 rfl ?_
    refine zk_iload C kd_Mo_step_535 4 rfl rfl ?_
    refine zs_iald C 106 rfl (zd_vp q2) kd_Mo_step_537 rfl ?_
    refine zk_iadd C kd_Mo_step_538 rfl ?_
    obtain ⟨h68, c67, e⟩ := zd_b e
    refine zs_callV (k := 68) (rn := { frames := 1, cells := 0, slots := 0, locals := 24 }) (As := [.int (h.2.1 105 ((h.2.1 103 x1.toNatClampNeg) + x2).toNatClampNeg), .int (x3 + (h.2.1 106 ((h.2.1 103 x1.toNatClampNeg) + x2).toNatClampNeg))]) (rest := []) C (zc_Mo_timers h (h.2.1 105 ((h.2.1 103 x1.toNatClampNeg) + x2).toNatClampNeg) (x3 + (h.2.1 106 ((h.2.1 103 x1.toNatClampNeg) + x2).toNatClampNeg)) c67) ku_Mo_timers kw2756 kv_Mo_timers rfl (zd_rmO (by decide) (by decide)) ⟨Nat.le_refl _, Nat.le_refl _⟩ rfl rfl rfl (Nat.le_of_ble_eq_true rfl) kd_Mo_step_539 rfl (c1 := 0) (s1 := 0) rfl rfl (fun v w hp => ?_)
    obtain ⟨rfl, rfl⟩ := hp
    refine zk_stk (r' := []) rfl ?_
    refine zk_goto (tgt := 551) C kd_Mo_step_542 (by decide) ?_
    refine zk_lvs (lv' := [(2, .int x2)]) [7] rfl ?_
    exact zb_Mo_step_551 C hR h68 x2 e
  replace e := zd_neg b66 e
  refine zk_tableOut (tgt := 545) C kd_Mo_step_63 (by have := lv_neT b6 (a := 0) (by decide); have := lv_neT b9 (a := 1) (by decide); have := lv_neT b13 (a := 2) (by decide); have := lv_neT b15 (a := 3) (by decide); have := lv_neT b23 (a := 4) (by decide); have := lv_neT b31 (a := 5) (by decide); have := lv_neT b36 (a := 6) (by decide); have := lv_neT b39 (a := 7) (by decide); have := lv_neT b45 (a := 8) (by decide); have := lv_neT b48 (a := 9) (by decide); have := lv_neT b50 (a := 10) (by decide); have := lv_neT b51 (a := 11) (by decide); have := lv_neT b53 (a := 12) (by decide); have := lv_neT b55 (a := 13) (by decide); have := lv_neT b58 (a := 14) (by decide); have := lv_neT b59 (a := 15) (by decide); have := lv_neT b62 (a := 16) (by decide); have := lv_neT b66 (a := 17) (by decide); omega) (by decide) ?_
  refine zk_aload_n C kd_Mo_step_545 rfl 5 rfl rfl ?_
  refine zk_iload_n C kd_Mo_step_546 rfl 6 rfl rfl ?_
  obtain ⟨v70, c69, e⟩ := zd_b e
  refine zs_callV (k := 68) (rn := { frames := 0, cells := 0, slots := 0, locals := 0 }) (As := [.int x1]) (rest := []) C (zc_Mo_sizeOf h x1 c69) ku_Mo_sizeOf kw2668 kv_Mo_sizeOf rfl (zd_rmO (by decide) (by decide)) ⟨Nat.le_refl _, Nat.le_refl _⟩ rfl rfl rfl (Nat.le_of_ble_eq_true rfl) kd_Mo_step_547 rfl (c1 := 0) (s1 := 0) rfl rfl (fun v w hp => ?_)
  obtain ⟨rfl, rfl⟩ := hp
  refine zk_stk (r' := [.int v70]) rfl ?_
  exact zk_iret C hR kd_Mo_step_550 rfl rfl (zd_rIS e)
theorem zs_Mo_go {l : Launch} {D : va_G} {sz0 : Nat} {S : zs_T} {P : ze_T} (d : Nat) : (∀ (h : zs_H) (x0 : Int32) (x1 : Int32) {rh : zs_H}, f_Mo_go d h x0 x1 = some rh → zk_Sp (zs_G S l D sz0) (ze_E P) km_Mo_go { frames := 2 + d, cells := 0, slots := 0, locals := 50 + 30 * d } [.ref (S.1 68), .int x0, .int x1] (zs_W S h) (zd_PV S rh)) ∧ (∀ (h : zs_H) (x0 : Int32) (x1 : Int32) (x2 : Int32) {rv : Int32} {rh : zs_H}, f_Mo_step d h x0 x1 x2 = some (rv, rh) → zk_Sp (zs_G S l D sz0) (ze_E P) km_Mo_step { frames := 2 + d, cells := 0, slots := 0, locals := 50 + 30 * d } [.ref (S.1 68), .int x0, .int x1, .int x2] (zs_W S h) (zd_PI S rv rh)) := by
  induction d with
  | zero => exact ⟨(fun h x0 x1 _ e => zd_no e), (fun h x0 x1 x2 _ _ e => zd_no e)⟩
  | succ d ih =>
    obtain ⟨q0, q1⟩ := ih
    exact ⟨(fun h x0 x1 _ e => zg_Mo_go (r_Mo_step := f_Mo_step d) q1 h x0 x1 e), (fun h x0 x1 x2 _ _ e => zg_Mo_step (r_Mo_go := f_Mo_go d) q0 h x0 x1 x2 e)⟩
theorem zc_Mo_go {l : Launch} {D : va_G} {sz0 : Nat} {S : zs_T} {P : ze_T} (h : zs_H) (x0 : Int32) (x1 : Int32) {rh : zs_H} (e : f_Mo_go 400 h x0 x1 = some rh) : zk_Sp (zs_G S l D sz0) (ze_E P) km_Mo_go { frames := 2 + 400, cells := 0, slots := 0, locals := 50 + 30 * 400 } [.ref (S.1 68), .int x0, .int x1] (zs_W S h) (zd_PV S rh) := (zs_Mo_go 400).1 h x0 x1 e
theorem zc_Mo_step {l : Launch} {D : va_G} {sz0 : Nat} {S : zs_T} {P : ze_T} (h : zs_H) (x0 : Int32) (x1 : Int32) (x2 : Int32) {rv : Int32} {rh : zs_H} (e : f_Mo_step 400 h x0 x1 x2 = some (rv, rh)) : zk_Sp (zs_G S l D sz0) (ze_E P) km_Mo_step { frames := 2 + 400, cells := 0, slots := 0, locals := 50 + 30 * 400 } [.ref (S.1 68), .int x0, .int x1, .int x2] (zs_W S h) (zd_PI S rv rh) := (zs_Mo_go 400).2 h x0 x1 x2 e
set_option maxHeartbeats 4000000 in
set_option maxRecDepth 100000 in
theorem zb_Mo_publishSafe_2 {X : zkj_T} {S : zs_T} {P : ze_T} {l : Launch} {D : va_G} {sz0 : Nat} {rh : zs_H} (C : zk_C X km_Mo_publishSafe (zs_G S l D sz0) { frames := 0, cells := 0, slots := 0, locals := 0 } (ze_E P)) (hR : zkj_R X (zd_PV S rh) (none)) {k2 : zs_H → Int32 → (Option zs_H)} (hk2 : ∀ (h : zs_H) (x1 : Int32), k2 h x1 = some rh → zk_Ab X (zs_W S h) 0 0 2 [(0, .ref (S.1 68)), (1, .int x1)] []) (h : zs_H) (x1 : Int32) (e : f_Mo_publishSafe_2 k2 h x1 = some rh) : zk_Ab X (zs_W S h) 0 0 2 [(0, .ref (S.1 68)), (1, .int x1)] [] := by
  unfold f_Mo_publishSafe_2 at e
  refine zk_iload_n C kd_Mo_publishSafe_2 rfl 1 rfl rfl ?_
  refine zk_sipush (v := 320) C kd_Mo_publishSafe_3 (by decide) rfl ?_
  refine zk_icmp_ge (tgt := 27) C kd_Mo_publishSafe_6 (by decide) rfl (fun b1 => ?_) (fun b1 => ?_)
  · replace e := zd_pos b1 e
    exact zk_vret C hR kd_Mo_publishSafe_27 rfl rfl (zd_rV e)
  · replace e := zd_neg b1 e
    refine zk_aload_n C kd_Mo_publishSafe_9 rfl 0 rfl rfl ?_
    refine zs_get (v := .ref (S.1 119)) C 68 91 rfl rfl rfl rfl ki_Mo (by decide) kw1774 kd_Mo_publishSafe_10 rfl ?_
    refine zk_iload_n C kd_Mo_publishSafe_13 rfl 1 rfl rfl ?_
    refine zk_aload_n C kd_Mo_publishSafe_14 rfl 0 rfl rfl ?_
    refine zs_get (v := .ref (S.1 120)) C 68 92 rfl rfl rfl rfl ki_Mo (by decide) kw1775 kd_Mo_publishSafe_15 rfl ?_
    refine zk_iload_n C kd_Mo_publishSafe_18 rfl 1 rfl rfl ?_
    obtain ⟨q2, e⟩ := zd_g e
    refine zs_iald C 120 rfl (zd_vp q2) kd_Mo_publishSafe_19 rfl ?_
    refine zs_iast C 119 rfl (zd_vp q2) kd_Mo_publishSafe_20 rfl ?_
    refine zk_iinc (v := (x1 + 1)) (lv' := [(1, _), (0, _)]) C kd_Mo_publishSafe_21 1 rfl rfl (by decide) rfl rfl ?_
    refine zk_goto (tgt := 2) C kd_Mo_publishSafe_24 (by decide) ?_
    refine zk_lvs (lv' := [(0, .ref (S.1 68)), (1, .int (x1 + 1))]) [1, 0] rfl ?_
    exact hk2 (zs_uM h 119 x1.toNatClampNeg (h.2.1 120 x1.toNatClampNeg)) (x1 + 1) e
theorem zl_Mo_publishSafe_2 {X : zkj_T} {S : zs_T} {P : ze_T} {l : Launch} {D : va_G} {sz0 : Nat} {rh : zs_H} (C : zk_C X km_Mo_publishSafe (zs_G S l D sz0) { frames := 0, cells := 0, slots := 0, locals := 0 } (ze_E P)) (hR : zkj_R X (zd_PV S rh) (none)) (n : Nat) : ∀ (h : zs_H) (x1 : Int32), f_Mo_publishSafe_L2 n h x1 = some rh → zk_Ab X (zs_W S h) 0 0 2 [(0, .ref (S.1 68)), (1, .int x1)] [] := by
  induction n with
  | zero => intro h x1 e; exact zd_no e
  | succ n ih => intro h x1 e; exact zb_Mo_publishSafe_2 (k2 := f_Mo_publishSafe_L2  n) C hR ih h x1 e
set_option maxHeartbeats 4000000 in
set_option maxRecDepth 100000 in
theorem zc_Mo_publishSafe {l : Launch} {D : va_G} {sz0 : Nat} {S : zs_T} {P : ze_T} (h : zs_H) {rh : zs_H} (e : f_Mo_publishSafe h = some rh) : zk_Sp (zs_G S l D sz0) (ze_E P) km_Mo_publishSafe { frames := 0, cells := 0, slots := 0, locals := 0 } [.ref (S.1 68)] (zs_W S h) (zd_PV S rh) := by
  refine zk_met ku_Mo_publishSafe (Nat.le_of_ble_eq_true rfl) (ze_Em P) ?_
  intro X C hR
  refine zk_lvs (lv' := [(0, .ref (S.1 68))]) [0] rfl ?_
  unfold f_Mo_publishSafe at e
  refine zk_iconst (v := 0) C kd_Mo_publishSafe_0 (by decide) rfl ?_
  refine zk_istore_n (lv' := [(1, _), (0, _)]) C kd_Mo_publishSafe_1 rfl (by decide) rfl rfl ?_
  refine zk_lvs (lv' := [(0, .ref (S.1 68)), (1, .int 0)]) [1, 0] rfl ?_
  exact zl_Mo_publishSafe_2 C hR zF h 0 e
set_option maxHeartbeats 4000000 in
set_option maxRecDepth 100000 in
theorem zb_Mo_scan_76 {X : zkj_T} {S : zs_T} {P : ze_T} {l : Launch} {D : va_G} {sz0 : Nat} {rv : Int32} {rh : zs_H} (C : zk_C X km_Mo_scan (zs_G S l D sz0) { frames := 403, cells := 0, slots := 0, locals := 12073 } (ze_E P)) (hR : zkj_R X (zd_PI S rv rh) (some .int)) {k45 : zs_H → Int32 → (Option (Int32 × zs_H))} (hk45 : ∀ (h : zs_H) (x2 : Int32), k45 h x2 = some (rv, rh) → zk_Ab X (zs_W S h) 0 0 45 [(0, .ref (S.1 68)), (2, .int x2)] []) (h : zs_H) (x2 : Int32) (y0 : Int32) (e : f_Mo_scan_76 k45 h x2 y0 = some (rv, rh)) : zk_Ab X (zs_W S h) 0 0 76 [(0, .ref (S.1 68)), (2, .int x2)] [.int y0, .ref (S.1 114)] := by
  unfold f_Mo_scan_76 at e
  refine zk_aload_n C kd_Mo_scan_76 rfl 0 rfl rfl ?_
  refine zs_get (v := .ref (S.1 118)) C 68 90 rfl rfl rfl rfl ki_Mo (by decide) kw1773 kd_Mo_scan_77 rfl ?_
  refine zk_iload_n C kd_Mo_scan_80 rfl 1 rfl rfl ?_
  obtain ⟨q1, e⟩ := zd_g e
  refine zs_iald C 118 rfl (zd_vp q1) kd_Mo_scan_81 rfl ?_
  obtain ⟨q2, e⟩ := zd_g e
  refine zs_iast C 114 rfl (zd_vp q2) kd_Mo_scan_82 rfl ?_
  refine zk_iinc (v := (x2 + 1)) (lv' := [(2, _), (0, _)]) C kd_Mo_scan_83 1 rfl rfl (by decide) rfl rfl ?_
  refine zk_goto (tgt := 45) C kd_Mo_scan_86 (by decide) ?_
  refine zk_lvs (lv' := [(0, .ref (S.1 68)), (2, .int (x2 + 1))]) [1, 0] rfl ?_
  exact hk45 (zs_uM h 114 y0.toNatClampNeg (h.2.1 118 x2.toNatClampNeg)) (x2 + 1) e
set_option maxHeartbeats 4000000 in
set_option maxRecDepth 100000 in
theorem zb_Mo_scan_222 {X : zkj_T} {S : zs_T} {P : ze_T} {l : Launch} {D : va_G} {sz0 : Nat} {rv : Int32} {rh : zs_H} (C : zk_C X km_Mo_scan (zs_G S l D sz0) { frames := 403, cells := 0, slots := 0, locals := 12073 } (ze_E P)) (hR : zkj_R X (zd_PI S rv rh) (some .int)) {k182 : zs_H → Int32 → (Option (Int32 × zs_H))} (hk182 : ∀ (h : zs_H) (x2 : Int32), k182 h x2 = some (rv, rh) → zk_Ab X (zs_W S h) 0 0 182 [(0, .ref (S.1 68)), (2, .int x2)] []) (h : zs_H) (x2 : Int32) (y0 : Int32) (y2 : Int32) (e : f_Mo_scan_222 k182 h x2 y0 y2 = some (rv, rh)) : zk_Ab X (zs_W S h) 0 0 222 [(0, .ref (S.1 68)), (2, .int x2)] [.int y0, .ref (S.1 114), .int y2, .ref (S.1 119)] := by
  unfold f_Mo_scan_222 at e
  obtain ⟨q1, e⟩ := zd_g e
  refine zs_iald C 114 rfl (zd_vp q1) kd_Mo_scan_222 rfl ?_
  obtain ⟨q2, e⟩ := zd_g e
  refine zs_iast C 119 rfl (zd_vp q2) kd_Mo_scan_223 rfl ?_
  refine zk_iinc (v := (x2 + 1)) (lv' := [(2, _), (0, _)]) C kd_Mo_scan_224 1 rfl rfl (by decide) rfl rfl ?_
  refine zk_goto (tgt := 182) C kd_Mo_scan_227 (by decide) ?_
  refine zk_lvs (lv' := [(0, .ref (S.1 68)), (2, .int (x2 + 1))]) [1, 0] rfl ?_
  exact hk182 (zs_uM h 119 y2.toNatClampNeg (h.2.1 114 y0.toNatClampNeg)) (x2 + 1) e
set_option maxHeartbeats 4000000 in
set_option maxRecDepth 100000 in
theorem zb_Mo_scan_182 {X : zkj_T} {S : zs_T} {P : ze_T} {l : Launch} {D : va_G} {sz0 : Nat} {rv : Int32} {rh : zs_H} (C : zk_C X km_Mo_scan (zs_G S l D sz0) { frames := 403, cells := 0, slots := 0, locals := 12073 } (ze_E P)) (hR : zkj_R X (zd_PI S rv rh) (some .int)) {k182 : zs_H → Int32 → (Option (Int32 × zs_H))} (hk182 : ∀ (h : zs_H) (x2 : Int32), k182 h x2 = some (rv, rh) → zk_Ab X (zs_W S h) 0 0 182 [(0, .ref (S.1 68)), (2, .int x2)] []) (h : zs_H) (x2 : Int32) (e : f_Mo_scan_182 k182 h x2 = some (rv, rh)) : zk_Ab X (zs_W S h) 0 0 182 [(0, .ref (S.1 68)), (2, .int x2)] [] := by
  unfold f_Mo_scan_182 at e
  refine zk_iload_n C kd_Mo_scan_182 rfl 1 rfl rfl ?_
  refine zk_sipush (v := 320) C kd_Mo_scan_183 (by decide) rfl ?_
  refine zk_icmp_ge (tgt := 230) C kd_Mo_scan_186 (by decide) rfl (fun b1 => ?_) (fun b1 => ?_)
  · replace e := zd_pos b1 e
    refine zk_aload_n C kd_Mo_scan_230 rfl 0 rfl rfl ?_
    refine zs_get (v := .int (h.1 68 74)) C 68 74 rfl rfl rfl rfl ki_Mo (by decide) kw1757 kd_Mo_scan_231 rfl ?_
    exact zk_iret C hR kd_Mo_scan_234 rfl rfl (zd_rIS e)
  · replace e := zd_neg b1 e
    refine zk_aload_n C kd_Mo_scan_189 rfl 0 rfl rfl ?_
    refine zs_get (v := .ref (S.1 119)) C 68 91 rfl rfl rfl rfl ki_Mo (by decide) kw1774 kd_Mo_scan_190 rfl ?_
    refine zk_iload_n C kd_Mo_scan_193 rfl 1 rfl rfl ?_
    refine zk_aload_n C kd_Mo_scan_194 rfl 0 rfl rfl ?_
    refine zs_get (v := .ref (S.1 114)) C 68 72 rfl rfl rfl rfl ki_Mo (by decide) kw1755 kd_Mo_scan_195 rfl ?_
    refine zk_iload_n C kd_Mo_scan_198 rfl 1 rfl rfl ?_
    refine zk_sipush (v := 256) C kd_Mo_scan_199 (by decide) rfl ?_
    refine zk_icmp_ge (tgt := 213) C kd_Mo_scan_202 (by decide) rfl (fun b2 => ?_) (fun b2 => ?_)
    · replace e := zd_pos b2 e
      refine zk_sipush (v := 832) C kd_Mo_scan_213 (by decide) rfl ?_
      refine zk_iload_n C kd_Mo_scan_216 rfl 1 rfl rfl ?_
      refine zk_iadd C kd_Mo_scan_217 rfl ?_
      refine zk_sipush (v := 256) C kd_Mo_scan_218 (by decide) rfl ?_
      refine zk_isub C kd_Mo_scan_221 rfl ?_
      refine zk_lvs (lv' := [(0, .ref (S.1 68)), (2, .int x2)]) [0, 1] rfl ?_
      exact zb_Mo_scan_222 C hR hk182 h x2 ((832 + x2) - 256) x2 e
    · replace e := zd_neg b2 e
      refine zk_sipush (v := 256) C kd_Mo_scan_205 (by decide) rfl ?_
      refine zk_iload_n C kd_Mo_scan_208 rfl 1 rfl rfl ?_
      refine zk_iadd C kd_Mo_scan_209 rfl ?_
      refine zk_goto (tgt := 222) C kd_Mo_scan_210 (by decide) ?_
      refine zk_lvs (lv' := [(0, .ref (S.1 68)), (2, .int x2)]) [0, 1] rfl ?_
      exact zb_Mo_scan_222 C hR hk182 h x2 (256 + x2) x2 e
theorem zl_Mo_scan_182 {X : zkj_T} {S : zs_T} {P : ze_T} {l : Launch} {D : va_G} {sz0 : Nat} {rv : Int32} {rh : zs_H} (C : zk_C X km_Mo_scan (zs_G S l D sz0) { frames := 403, cells := 0, slots := 0, locals := 12073 } (ze_E P)) (hR : zkj_R X (zd_PI S rv rh) (some .int)) (n : Nat) : ∀ (h : zs_H) (x2 : Int32), f_Mo_scan_L182 n h x2 = some (rv, rh) → zk_Ab X (zs_W S h) 0 0 182 [(0, .ref (S.1 68)), (2, .int x2)] [] := by
  induction n with
  | zero => intro h x2 e; exact zd_no e
  | succ n ih => intro h x2 e; exact zb_Mo_scan_182 (k182 := f_Mo_scan_L182  n) C hR ih h x2 e
set_option maxHeartbeats 4000000 in
set_option maxRecDepth 100000 in
theorem zb_Mo_scan_155 {X : zkj_T} {S : zs_T} {P : ze_T} {l : Launch} {D : va_G} {sz0 : Nat} {rv : Int32} {rh : zs_H} (C : zk_C X km_Mo_scan (zs_G S l D sz0) { frames := 403, cells := 0, slots := 0, locals := 12073 } (ze_E P)) (hR : zkj_R X (zd_PI S rv rh) (some .int)) (h : zs_H) (y0 : Int32) (y1 : Int32) (e : f_Mo_scan_155 h y0 y1 = some (rv, rh)) : zk_Ab X (zs_W S h) 0 0 155 [(0, .ref (S.1 68))] [.int y0, .int y1, .ref (S.1 68)] := by
  unfold f_Mo_scan_155 at e
  refine zk_iadd C kd_Mo_scan_155 rfl ?_
  refine zs_put (ty := .int) C 68 85 (y1 + y0) rfl rfl rfl rfl ki_Mo ky_Mo ko_Mo kn_Mo (by decide) kw1768 rfl rfl rfl rfl (by decide) kd_Mo_scan_156 rfl ?_
  refine zk_aload_n C kd_Mo_scan_159 rfl 0 rfl rfl ?_
  refine zs_get (v := .int (h.1 68 75)) C 68 75 rfl rfl rfl rfl ki_Mo (by decide) kw1758 kd_Mo_scan_160 rfl ?_
  refine zk_if_eq (tgt := 180) C kd_Mo_scan_163 (by decide) rfl (fun b1 => ?_) (fun b1 => ?_)
  · replace e := zd_pos b1 e
    refine zk_iconst (v := 0) C kd_Mo_scan_180 (by decide) rfl ?_
    refine zk_istore_n (lv' := [(2, _), (0, _)]) C kd_Mo_scan_181 rfl (by decide) rfl rfl ?_
    refine zk_lvs (lv' := [(0, .ref (S.1 68)), (2, .int 0)]) [1, 0] rfl ?_
    exact zl_Mo_scan_182 C hR zF (zs_uF h 68 85 (y1 + y0)) 0 e
  · replace e := zd_neg b1 e
    refine zk_aload_n C kd_Mo_scan_166 rfl 0 rfl rfl ?_
    refine zk_iconst (v := 1) C kd_Mo_scan_167 (by decide) rfl ?_
    refine zs_put (ty := .boolean) C 68 86 1 rfl rfl rfl rfl ki_Mo ky_Mo ko_Mo kn_Mo (by decide) kw1769 rfl rfl rfl rfl (by decide) kd_Mo_scan_168 rfl ?_
    refine zk_aload_n C kd_Mo_scan_171 rfl 0 rfl rfl ?_
    obtain ⟨h3, c2, e⟩ := zd_b e
    refine zs_callV (k := 68) (rn := { frames := 0, cells := 0, slots := 0, locals := 0 }) (As := []) (rest := []) C (zc_Mo_publishSafe (zs_uF (zs_uF h 68 85 (y1 + y0)) 68 86 1) c2) ku_Mo_publishSafe kw2711 kv_Mo_publishSafe rfl ⟨by decide, by decide⟩ ⟨by decide, by decide⟩ rfl rfl rfl (Nat.le_of_ble_eq_true rfl) kd_Mo_scan_172 rfl (c1 := 0) (s1 := 0) rfl rfl (fun v w hp => ?_)
    obtain ⟨rfl, rfl⟩ := hp
    refine zk_stk (r' := []) rfl ?_
    refine zk_aload_n C kd_Mo_scan_175 rfl 0 rfl rfl ?_
    refine zs_get (v := .int (h3.1 68 75)) C 68 75 rfl rfl rfl rfl ki_Mo (by decide) kw1758 kd_Mo_scan_176 rfl ?_
    exact zk_iret C hR kd_Mo_scan_179 rfl rfl (zd_rIS e)
set_option maxHeartbeats 4000000 in
set_option maxRecDepth 100000 in
theorem zb_Mo_scan_45 {X : zkj_T} {S : zs_T} {P : ze_T} {l : Launch} {D : va_G} {sz0 : Nat} {rv : Int32} {rh : zs_H} (C : zk_C X km_Mo_scan (zs_G S l D sz0) { frames := 403, cells := 0, slots := 0, locals := 12073 } (ze_E P)) (hR : zkj_R X (zd_PI S rv rh) (some .int)) {k45 : zs_H → Int32 → (Option (Int32 × zs_H))} (hk45 : ∀ (h : zs_H) (x2 : Int32), k45 h x2 = some (rv, rh) → zk_Ab X (zs_W S h) 0 0 45 [(0, .ref (S.1 68)), (2, .int x2)] []) (h : zs_H) (x2 : Int32) (e : f_Mo_scan_45 k45 h x2 = some (rv, rh)) : zk_Ab X (zs_W S h) 0 0 45 [(0, .ref (S.1 68)), (2, .int x2)] [] := by
  unfold f_Mo_scan_45 at e
  refine zk_iload_n C kd_Mo_scan_45 rfl 1 rfl rfl ?_
  refine zk_sipush (v := 320) C kd_Mo_scan_46 (by decide) rfl ?_
  refine zk_icmp_ge (tgt := 89) C kd_Mo_scan_49 (by decide) rfl (fun b1 => ?_) (fun b1 => ?_)
  · replace e := zd_pos b1 e
    refine zk_aload_n C kd_Mo_scan_89 rfl 0 rfl rfl ?_
    refine zk_dup C kd_Mo_scan_90 rfl rfl ?_
    refine zs_get (v := .int (h.1 68 84)) C 68 84 rfl rfl rfl rfl ki_Mo (by decide) kw1767 kd_Mo_scan_91 rfl ?_
    refine zk_iconst (v := 1) C kd_Mo_scan_94 (by decide) rfl ?_
    refine zk_iadd C kd_Mo_scan_95 rfl ?_
    refine zs_put (ty := .int) C 68 84 ((h.1 68 84) + 1) rfl rfl rfl rfl ki_Mo ky_Mo ko_Mo kn_Mo (by decide) kw1767 rfl rfl rfl rfl (by decide) kd_Mo_scan_96 rfl ?_
    refine zk_aload_n C kd_Mo_scan_99 rfl 0 rfl rfl ?_
    refine zk_iconst (v := 0) C kd_Mo_scan_100 (by decide) rfl ?_
    refine zs_put (ty := .int) C 68 74 0 rfl rfl rfl rfl ki_Mo ky_Mo ko_Mo kn_Mo (by decide) kw1757 rfl rfl rfl rfl (by decide) kd_Mo_scan_101 rfl ?_
    refine zk_aload_n C kd_Mo_scan_104 rfl 0 rfl rfl ?_
    refine zk_iconst (v := 0) C kd_Mo_scan_105 (by decide) rfl ?_
    refine zs_put (ty := .int) C 68 75 0 rfl rfl rfl rfl ki_Mo ky_Mo ko_Mo kn_Mo (by decide) kw1758 rfl rfl rfl rfl (by decide) kd_Mo_scan_106 rfl ?_
    refine zk_aload_n C kd_Mo_scan_109 rfl 0 rfl rfl ?_
    refine zk_iconst (v := 0) C kd_Mo_scan_110 (by decide) rfl ?_
    refine zs_put (ty := .int) C 68 76 0 rfl rfl rfl rfl ki_Mo ky_Mo ko_Mo kn_Mo (by decide) kw1759 rfl rfl rfl rfl (by decide) kd_Mo_scan_111 rfl ?_
    refine zk_aload_n C kd_Mo_scan_114 rfl 0 rfl rfl ?_
    refine zk_aload_n C kd_Mo_scan_115 rfl 0 rfl rfl ?_
    refine zs_get (v := .int (h.1 68 33)) C 68 33 rfl rfl rfl rfl ki_Mo (by decide) kw1716 kd_Mo_scan_116 rfl ?_
    refine zk_iconst (v := 1) C kd_Mo_scan_119 (by decide) rfl ?_
    refine zk_isub C kd_Mo_scan_120 rfl ?_
    refine zk_iconst (v := 0) C kd_Mo_scan_121 (by decide) rfl ?_
    obtain ⟨h3, c2, e⟩ := zd_b e
    refine zs_callV (k := 68) (rn := { frames := 2 + 400, cells := 0, slots := 0, locals := 50 + 30 * 400 }) (As := [.int ((h.1 68 33) - 1), .int 0]) (rest := []) C (zc_Mo_go (zs_uF (zs_uF (zs_uF (zs_uF h 68 84 ((h.1 68 84) + 1)) 68 74 0) 68 75 0) 68 76 0) ((h.1 68 33) - 1) 0 c2) ku_Mo_go kw2744 kv_Mo_go rfl ⟨by decide, by decide⟩ ⟨by decide, by decide⟩ rfl rfl rfl (Nat.le_of_ble_eq_true rfl) kd_Mo_scan_122 rfl (c1 := 0) (s1 := 0) rfl rfl (fun v w hp => ?_)
    obtain ⟨rfl, rfl⟩ := hp
    refine zk_stk (r' := []) rfl ?_
    refine zk_aload_n C kd_Mo_scan_125 rfl 0 rfl rfl ?_
    refine zk_dup C kd_Mo_scan_126 rfl rfl ?_
    refine zs_get (v := .int (h3.1 68 85)) C 68 85 rfl rfl rfl rfl ki_Mo (by decide) kw1768 kd_Mo_scan_127 rfl ?_
    refine zk_aload_n C kd_Mo_scan_130 rfl 0 rfl rfl ?_
    refine zs_get (v := .int (h3.1 68 74)) C 68 74 rfl rfl rfl rfl ki_Mo (by decide) kw1757 kd_Mo_scan_131 rfl ?_
    refine zk_i2l C kd_Mo_scan_134 rfl ?_
    refine zk_aload_n C kd_Mo_scan_135 rfl 0 rfl rfl ?_
    refine zs_get (v := .ref (S.1 109)) C 68 65 rfl rfl rfl rfl ki_Mo (by decide) kw1748 kd_Mo_scan_136 rfl ?_
    refine zk_aload_n C kd_Mo_scan_139 rfl 0 rfl rfl ?_
    refine zs_get (v := .int (h3.1 68 33)) C 68 33 rfl rfl rfl rfl ki_Mo (by decide) kw1716 kd_Mo_scan_140 rfl ?_
    refine zk_iconst (v := 1) C kd_Mo_scan_143 (by decide) rfl ?_
    refine zk_isub C kd_Mo_scan_144 rfl ?_
    obtain ⟨q4, e⟩ := zd_g e
    refine zs_lald C 109 rfl (zd_vp q4) kd_Mo_scan_145 rfl ?_
    refine zk_lcmp C kd_Mo_scan_146 rfl ?_
    refine zk_if_le (tgt := 154) C kd_Mo_scan_147 (by decide) rfl (fun b5 => ?_) (fun b5 => ?_)
    · replace e := zd_pos (zd_cle.mp b5) e
      refine zk_iconst (v := 0) C kd_Mo_scan_154 (by decide) rfl ?_
      refine zk_lvs (lv' := [(0, .ref (S.1 68))]) [0] rfl ?_
      exact zb_Mo_scan_155 C hR h3 0 (h3.1 68 85) e
    · replace e := zd_neg (fun z => b5 (zd_cle.mpr z)) e
      refine zk_iconst (v := 1) C kd_Mo_scan_150 (by decide) rfl ?_
      refine zk_goto (tgt := 155) C kd_Mo_scan_151 (by decide) ?_
      refine zk_lvs (lv' := [(0, .ref (S.1 68))]) [0] rfl ?_
      exact zb_Mo_scan_155 C hR h3 1 (h3.1 68 85) e
  · replace e := zd_neg b1 e
    refine zk_aload_n C kd_Mo_scan_52 rfl 0 rfl rfl ?_
    refine zs_get (v := .ref (S.1 114)) C 68 72 rfl rfl rfl rfl ki_Mo (by decide) kw1755 kd_Mo_scan_53 rfl ?_
    refine zk_iload_n C kd_Mo_scan_56 rfl 1 rfl rfl ?_
    refine zk_sipush (v := 256) C kd_Mo_scan_57 (by decide) rfl ?_
    refine zk_icmp_ge (tgt := 67) C kd_Mo_scan_60 (by decide) rfl (fun b6 => ?_) (fun b6 => ?_)
    · replace e := zd_pos b6 e
      refine zk_sipush (v := 768) C kd_Mo_scan_67 (by decide) rfl ?_
      refine zk_iload_n C kd_Mo_scan_70 rfl 1 rfl rfl ?_
      refine zk_iadd C kd_Mo_scan_71 rfl ?_
      refine zk_sipush (v := 256) C kd_Mo_scan_72 (by decide) rfl ?_
      refine zk_isub C kd_Mo_scan_75 rfl ?_
      refine zk_lvs (lv' := [(0, .ref (S.1 68)), (2, .int x2)]) [0, 1] rfl ?_
      exact zb_Mo_scan_76 C hR hk45 h x2 ((768 + x2) - 256) e
    · replace e := zd_neg b6 e
      refine zk_iload_n C kd_Mo_scan_63 rfl 1 rfl rfl ?_
      refine zk_goto (tgt := 76) C kd_Mo_scan_64 (by decide) ?_
      refine zk_lvs (lv' := [(0, .ref (S.1 68)), (2, .int x2)]) [0, 1] rfl ?_
      exact zb_Mo_scan_76 C hR hk45 h x2 x2 e
theorem zl_Mo_scan_45 {X : zkj_T} {S : zs_T} {P : ze_T} {l : Launch} {D : va_G} {sz0 : Nat} {rv : Int32} {rh : zs_H} (C : zk_C X km_Mo_scan (zs_G S l D sz0) { frames := 403, cells := 0, slots := 0, locals := 12073 } (ze_E P)) (hR : zkj_R X (zd_PI S rv rh) (some .int)) (n : Nat) : ∀ (h : zs_H) (x2 : Int32), f_Mo_scan_L45 n h x2 = some (rv, rh) → zk_Ab X (zs_W S h) 0 0 45 [(0, .ref (S.1 68)), (2, .int x2)] [] := by
  induction n with
  | zero => intro h x2 e; exact zd_no e
  | succ n ih => intro h x2 e; exact zb_Mo_scan_45 (k45 := f_Mo_scan_L45  n) C hR ih h x2 e
set_option maxHeartbeats 4000000 in
set_option maxRecDepth 100000 in
theorem zc_Mo_scan {l : Launch} {D : va_G} {sz0 : Nat} {S : zs_T} {P : ze_T} (h : zs_H) (x1 : Int32) {rv : Int32} {rh : zs_H} (e : f_Mo_scan h x1 = some (rv, rh)) : zk_Sp (zs_G S l D sz0) (ze_E P) km_Mo_scan { frames := 403, cells := 0, slots := 0, locals := 12073 } [.ref (S.1 68), .int x1] (zs_W S h) (zd_PI S rv rh) := by
  refine zk_met ku_Mo_scan (Nat.le_of_ble_eq_true rfl) (ze_Em P) ?_
  intro X C hR
  refine zk_lvs (lv' := [(0, .ref (S.1 68)), (1, .int x1)]) [0, 1] rfl ?_
  unfold f_Mo_scan at e
  refine zk_iload_n C kd_Mo_scan_0 rfl 1 rfl rfl ?_
  refine zk_if_lt (tgt := 11) C kd_Mo_scan_1 (by decide) rfl (fun b1 => ?_) (fun b1 => ?_)
  · replace e := zd_pos b1 e
    refine zk_iconst (v := (-1)) C kd_Mo_scan_11 (by decide) rfl ?_
    exact zk_iret C hR kd_Mo_scan_12 rfl rfl (zd_rIS e)
  · replace e := zd_neg b1 e
    refine zk_iload_n C kd_Mo_scan_4 rfl 1 rfl rfl ?_
    refine zk_ldcw (v := 100000) C kw1988 kd_Mo_scan_5 rfl ?_
    refine zk_icmp_le (tgt := 13) C kd_Mo_scan_8 (by decide) rfl (fun b2 => ?_) (fun b2 => ?_)
    · replace e := zd_pos b2 e
      refine zk_aload_n C kd_Mo_scan_13 rfl 0 rfl rfl ?_
      refine zs_get (v := .int (h.1 68 82)) C 68 82 rfl rfl rfl rfl ki_Mo (by decide) kw1765 kd_Mo_scan_14 rfl ?_
      refine zk_if_ne (tgt := 23) C kd_Mo_scan_17 (by decide) rfl (fun b3 => ?_) (fun b3 => ?_)
      · replace e := zd_neg b3 e
        refine zk_aload_n C kd_Mo_scan_23 rfl 0 rfl rfl ?_
        refine zs_get (v := .int (h.1 68 86)) C 68 86 rfl rfl rfl rfl ki_Mo (by decide) kw1769 kd_Mo_scan_24 rfl ?_
        refine zk_if_eq (tgt := 33) C kd_Mo_scan_27 (by decide) rfl (fun b4 => ?_) (fun b4 => ?_)
        · replace e := zd_pos b4 e
          refine zk_aload_n C kd_Mo_scan_33 rfl 0 rfl rfl ?_
          refine zk_dup C kd_Mo_scan_34 rfl rfl ?_
          refine zs_get (v := .int (h.1 68 73)) C 68 73 rfl rfl rfl rfl ki_Mo (by decide) kw1756 kd_Mo_scan_35 rfl ?_
          refine zk_iload_n C kd_Mo_scan_38 rfl 1 rfl rfl ?_
          refine zk_iadd C kd_Mo_scan_39 rfl ?_
          refine zs_put (ty := .int) C 68 73 ((h.1 68 73) + x1) rfl rfl rfl rfl ki_Mo ky_Mo ko_Mo kn_Mo (by decide) kw1756 rfl rfl rfl rfl (by decide) kd_Mo_scan_40 rfl ?_
          refine zk_iconst (v := 0) C kd_Mo_scan_43 (by decide) rfl ?_
          refine zk_istore_n (lv' := [(2, _), (0, _), (1, _)]) C kd_Mo_scan_44 rfl (by decide) rfl rfl ?_
          refine zk_lvs (lv' := [(0, .ref (S.1 68)), (2, .int 0)]) [1, 0] rfl ?_
          exact zl_Mo_scan_45 C hR zF (zs_uF h 68 73 ((h.1 68 73) + x1)) 0 e
        · replace e := zd_neg b4 e
          refine zk_bipush (v := (-2)) C kd_Mo_scan_30 (by decide) rfl ?_
          exact zk_iret C hR kd_Mo_scan_32 rfl rfl (zd_rIS e)
      · replace e := zd_pos b3 e
        refine zk_bipush (v := (-5)) C kd_Mo_scan_20 (by decide) rfl ?_
        exact zk_iret C hR kd_Mo_scan_22 rfl rfl (zd_rIS e)
    · replace e := zd_neg b2 e
      refine zk_iconst (v := (-1)) C kd_Mo_scan_11 (by decide) rfl ?_
      exact zk_iret C hR kd_Mo_scan_12 rfl rfl (zd_rIS e)
set_option maxHeartbeats 4000000 in
set_option maxRecDepth 100000 in
theorem zb_Mo_noPlace_27 {X : zkj_T} {S : zs_T} {P : ze_T} {l : Launch} {D : va_G} {sz0 : Nat} {rv : Int32} {h : zs_H} (C : zk_C X km_Mo_noPlace (zs_G S l D sz0) { frames := 0, cells := 0, slots := 0, locals := 0 } (ze_E P)) (hR : zkj_R X (zd_PZ S rv h) (some .boolean)) (y0 : Int32) (y1 : Int32) (e : f_Mo_noPlace_27 y0 y1 = rv) : zk_Ab X (zs_W S h) 0 0 27 [] [.int y0, .int y1] := by
  unfold f_Mo_noPlace_27 at e
  refine zk_icmp_lt (tgt := 34) C kd_Mo_noPlace_27 (by decide) rfl (fun b1 => ?_) (fun b1 => ?_)
  · replace e := zd_pos b1 e
    refine zk_iconst (v := 0) C kd_Mo_noPlace_34 (by decide) rfl ?_
    exact zk_zret C hR (zd_nb (Or.inl rfl)) kd_Mo_noPlace_35 rfl rfl (zd_rZT (Or.inl rfl) e)
  · replace e := zd_neg b1 e
    refine zk_iconst (v := 1) C kd_Mo_noPlace_30 (by decide) rfl ?_
    refine zk_goto (tgt := 35) C kd_Mo_noPlace_31 (by decide) ?_
    exact zk_zret C hR (zd_nb (Or.inr rfl)) kd_Mo_noPlace_35 rfl rfl (zd_rZT (Or.inr rfl) e)
set_option maxHeartbeats 4000000 in
set_option maxRecDepth 100000 in
theorem zc_Mo_noPlace {l : Launch} {D : va_G} {sz0 : Nat} {S : zs_T} {P : ze_T} (h : zs_H) (x0 : Int32) (x1 : Int32) : zk_Sp (zs_G S l D sz0) (ze_E P) km_Mo_noPlace { frames := 0, cells := 0, slots := 0, locals := 0 } [.int x0, .int x1] (zs_W S h) (zd_PZ S (f_Mo_noPlace x0 x1) h) := by
  obtain ⟨rv, e⟩ : ∃ rv, f_Mo_noPlace x0 x1 = rv := ⟨_, rfl⟩
  rw [e]
  refine zk_met ku_Mo_noPlace (Nat.le_of_ble_eq_true rfl) (ze_Em P) ?_
  intro X C hR
  refine zk_lvs (lv' := [(0, .int x0), (1, .int x1)]) [0, 1] rfl ?_
  unfold f_Mo_noPlace at e
  refine zk_iload_n C kd_Mo_noPlace_0 rfl 0 rfl rfl ?_
  refine zk_if_lt (tgt := 30) C kd_Mo_noPlace_1 (by decide) rfl (fun b1 => ?_) (fun b1 => ?_)
  · replace e := zd_pos b1 e
    refine zk_iconst (v := 1) C kd_Mo_noPlace_30 (by decide) rfl ?_
    refine zk_goto (tgt := 35) C kd_Mo_noPlace_31 (by decide) ?_
    exact zk_zret C hR (zd_nb (Or.inr rfl)) kd_Mo_noPlace_35 rfl rfl (zd_rZT (Or.inr rfl) e)
  · replace e := zd_neg b1 e
    refine zk_iload_n C kd_Mo_noPlace_4 rfl 0 rfl rfl ?_
    refine zk_iconst (v := 5) C kd_Mo_noPlace_5 (by decide) rfl ?_
    refine zk_icmp_gt (tgt := 30) C kd_Mo_noPlace_6 (by decide) rfl (fun b2 => ?_) (fun b2 => ?_)
    · replace e := zd_pos b2 e
      refine zk_iconst (v := 1) C kd_Mo_noPlace_30 (by decide) rfl ?_
      refine zk_goto (tgt := 35) C kd_Mo_noPlace_31 (by decide) ?_
      exact zk_zret C hR (zd_nb (Or.inr rfl)) kd_Mo_noPlace_35 rfl rfl (zd_rZT (Or.inr rfl) e)
    · replace e := zd_neg b2 e
      refine zk_iload_n C kd_Mo_noPlace_9 rfl 1 rfl rfl ?_
      refine zk_if_lt (tgt := 30) C kd_Mo_noPlace_10 (by decide) rfl (fun b3 => ?_) (fun b3 => ?_)
      · replace e := zd_pos b3 e
        refine zk_iconst (v := 1) C kd_Mo_noPlace_30 (by decide) rfl ?_
        refine zk_goto (tgt := 35) C kd_Mo_noPlace_31 (by decide) ?_
        exact zk_zret C hR (zd_nb (Or.inr rfl)) kd_Mo_noPlace_35 rfl rfl (zd_rZT (Or.inr rfl) e)
      · replace e := zd_neg b3 e
        refine zk_iload_n C kd_Mo_noPlace_13 rfl 1 rfl rfl ?_
        refine zk_iload_n C kd_Mo_noPlace_14 rfl 0 rfl rfl ?_
        refine zk_iconst (v := 3) C kd_Mo_noPlace_15 (by decide) rfl ?_
        refine zk_icmp_ge (tgt := 25) C kd_Mo_noPlace_16 (by decide) rfl (fun b4 => ?_) (fun b4 => ?_)
        · replace e := zd_pos b4 e
          refine zk_bipush (v := 64) C kd_Mo_noPlace_25 (by decide) rfl ?_
          refine zk_lvs (lv' := []) [] rfl ?_
          exact zb_Mo_noPlace_27 C hR 64 x1 e
        · replace e := zd_neg b4 e
          refine zk_sipush (v := 256) C kd_Mo_noPlace_19 (by decide) rfl ?_
          refine zk_goto (tgt := 27) C kd_Mo_noPlace_22 (by decide) ?_
          refine zk_lvs (lv' := []) [] rfl ?_
          exact zb_Mo_noPlace_27 C hR 256 x1 e
set_option maxHeartbeats 4000000 in
set_option maxRecDepth 100000 in
theorem zc_Mo_noValue {l : Launch} {D : va_G} {sz0 : Nat} {S : zs_T} {P : ze_T} (h : zs_H) (x0 : Int32) (x1 : Int32) : zk_Sp (zs_G S l D sz0) (ze_E P) km_Mo_noValue { frames := 0, cells := 0, slots := 0, locals := 0 } [.int x0, .int x1] (zs_W S h) (zd_PZ S (f_Mo_noValue x0 x1) h) := by
  obtain ⟨rv, e⟩ : ∃ rv, f_Mo_noValue x0 x1 = rv := ⟨_, rfl⟩
  rw [e]
  refine zk_met ku_Mo_noValue (Nat.le_of_ble_eq_true rfl) (ze_Em P) ?_
  intro X C hR
  refine zk_lvs (lv' := [(0, .int x0), (1, .int x1)]) [0, 1] rfl ?_
  unfold f_Mo_noValue at e
  refine zk_iload_n C kd_Mo_noValue_0 rfl 0 rfl rfl ?_
  refine zk_iconst (v := 3) C kd_Mo_noValue_1 (by decide) rfl ?_
  refine zk_icmp_ge (tgt := 22) C kd_Mo_noValue_2 (by decide) rfl (fun b1 => ?_) (fun b1 => ?_)
  · replace e := zd_pos b1 e
    refine zk_iload_n C kd_Mo_noValue_22 rfl 1 rfl rfl ?_
    refine zk_sipush (v := (-32768)) C kd_Mo_noValue_23 (by decide) rfl ?_
    refine zk_icmp_lt (tgt := 36) C kd_Mo_noValue_26 (by decide) rfl (fun b2 => ?_) (fun b2 => ?_)
    · replace e := zd_pos b2 e
      refine zk_iconst (v := 1) C kd_Mo_noValue_36 (by decide) rfl ?_
      refine zk_goto (tgt := 41) C kd_Mo_noValue_37 (by decide) ?_
      exact zk_zret C hR (zd_nb (Or.inr rfl)) kd_Mo_noValue_41 rfl rfl (zd_rZT (Or.inr rfl) e)
    · replace e := zd_neg b2 e
      refine zk_iload_n C kd_Mo_noValue_29 rfl 1 rfl rfl ?_
      refine zk_sipush (v := 32767) C kd_Mo_noValue_30 (by decide) rfl ?_
      refine zk_icmp_le (tgt := 40) C kd_Mo_noValue_33 (by decide) rfl (fun b3 => ?_) (fun b3 => ?_)
      · replace e := zd_pos b3 e
        refine zk_iconst (v := 0) C kd_Mo_noValue_40 (by decide) rfl ?_
        exact zk_zret C hR (zd_nb (Or.inl rfl)) kd_Mo_noValue_41 rfl rfl (zd_rZT (Or.inl rfl) e)
      · replace e := zd_neg b3 e
        refine zk_iconst (v := 1) C kd_Mo_noValue_36 (by decide) rfl ?_
        refine zk_goto (tgt := 41) C kd_Mo_noValue_37 (by decide) ?_
        exact zk_zret C hR (zd_nb (Or.inr rfl)) kd_Mo_noValue_41 rfl rfl (zd_rZT (Or.inr rfl) e)
  · replace e := zd_neg b1 e
    refine zk_iload_n C kd_Mo_noValue_5 rfl 1 rfl rfl ?_
    refine zk_if_lt (tgt := 14) C kd_Mo_noValue_6 (by decide) rfl (fun b4 => ?_) (fun b4 => ?_)
    · replace e := zd_pos b4 e
      refine zk_iconst (v := 1) C kd_Mo_noValue_14 (by decide) rfl ?_
      refine zk_goto (tgt := 41) C kd_Mo_noValue_15 (by decide) ?_
      exact zk_zret C hR (zd_nb (Or.inr rfl)) kd_Mo_noValue_41 rfl rfl (zd_rZT (Or.inr rfl) e)
    · replace e := zd_neg b4 e
      refine zk_iload_n C kd_Mo_noValue_9 rfl 1 rfl rfl ?_
      refine zk_iconst (v := 1) C kd_Mo_noValue_10 (by decide) rfl ?_
      refine zk_icmp_le (tgt := 18) C kd_Mo_noValue_11 (by decide) rfl (fun b5 => ?_) (fun b5 => ?_)
      · replace e := zd_pos b5 e
        refine zk_iconst (v := 0) C kd_Mo_noValue_18 (by decide) rfl ?_
        refine zk_goto (tgt := 41) C kd_Mo_noValue_19 (by decide) ?_
        exact zk_zret C hR (zd_nb (Or.inl rfl)) kd_Mo_noValue_41 rfl rfl (zd_rZT (Or.inl rfl) e)
      · replace e := zd_neg b5 e
        refine zk_iconst (v := 1) C kd_Mo_noValue_14 (by decide) rfl ?_
        refine zk_goto (tgt := 41) C kd_Mo_noValue_15 (by decide) ?_
        exact zk_zret C hR (zd_nb (Or.inr rfl)) kd_Mo_noValue_41 rfl rfl (zd_rZT (Or.inr rfl) e)
set_option maxHeartbeats 4000000 in
set_option maxRecDepth 100000 in
theorem zc_Mo_spot {l : Launch} {D : va_G} {sz0 : Nat} {S : zs_T} {P : ze_T} (h : zs_H) (x0 : Int32) (x1 : Int32) : zk_Sp (zs_G S l D sz0) (ze_E P) km_Mo_spot { frames := 0, cells := 0, slots := 0, locals := 0 } [.int x0, .int x1] (zs_W S h) (zd_PI S (f_Mo_spot x0 x1) h) := by
  obtain ⟨rv, e⟩ : ∃ rv, f_Mo_spot x0 x1 = rv := ⟨_, rfl⟩
  rw [e]
  refine zk_met ku_Mo_spot (Nat.le_of_ble_eq_true rfl) (ze_Em P) ?_
  intro X C hR
  refine zk_lvs (lv' := [(0, .int x0), (1, .int x1)]) [0, 1] rfl ?_
  unfold f_Mo_spot at e
  refine zk_iload_n C kd_Mo_spot_0 rfl 0 rfl rfl ?_
  refine zk_iconst (v := 3) C kd_Mo_spot_1 (by decide) rfl ?_
  refine zk_icmp_ge (tgt := 9) C kd_Mo_spot_2 (by decide) rfl (fun b1 => ?_) (fun b1 => ?_)
  · replace e := zd_pos b1 e
    refine zk_sipush (v := 256) C kd_Mo_spot_9 (by decide) rfl ?_
    refine zk_iload_n C kd_Mo_spot_12 rfl 1 rfl rfl ?_
    refine zk_iadd C kd_Mo_spot_13 rfl ?_
    exact zk_iret C hR kd_Mo_spot_14 rfl rfl (zd_rIT e)
  · replace e := zd_neg b1 e
    refine zk_iload_n C kd_Mo_spot_5 rfl 1 rfl rfl ?_
    refine zk_goto (tgt := 14) C kd_Mo_spot_6 (by decide) ?_
    exact zk_iret C hR kd_Mo_spot_14 rfl rfl (zd_rIT e)
set_option maxHeartbeats 4000000 in
set_option maxRecDepth 100000 in
theorem zb_Mo_safe_10 {X : zkj_T} {S : zs_T} {P : ze_T} {l : Launch} {D : va_G} {sz0 : Nat} {rv : Int32} {rh : zs_H} (C : zk_C X km_Mo_safe (zs_G S l D sz0) { frames := 1, cells := 0, slots := 0, locals := 21 } (ze_E P)) (hR : zkj_R X (zd_PI S rv rh) (some .int)) (h : zs_H) (x1 : Int32) (x2 : Int32) (x3 : Int32) (e : f_Mo_safe_10 h x1 x2 x3 = some (rv, rh)) : zk_Ab X (zs_W S h) 0 0 10 [(0, .ref (S.1 68)), (1, .int x1), (2, .int x2), (3, .int x3)] [] := by
  unfold f_Mo_safe_10 at e
  refine zk_iload_n C kd_Mo_safe_10 rfl 1 rfl rfl ?_
  refine zk_iload_n C kd_Mo_safe_11 rfl 2 rfl rfl ?_
  refine zk_callS (rn := { frames := 0, cells := 0, slots := 0, locals := 0 }) (As := [.int x1, .int x2]) (rest := []) C (zc_Mo_noPlace h x1 x2) ku_Mo_noPlace kw2723 ks_Mo_noPlace rfl ⟨by decide, by decide⟩ ⟨by decide, by decide⟩ rfl (Nat.le_of_ble_eq_true rfl) kd_Mo_safe_12 rfl (c1 := 0) (s1 := 0) rfl rfl (fun v w hp => ?_)
  obtain ⟨rfl, rfl, z1⟩ := hp
  refine zk_stk (r' := [.int (f_Mo_noPlace x1 x2)]) rfl ?_
  refine zk_if_ne (tgt := 26) C kd_Mo_safe_15 (by decide) rfl (fun b2 => ?_) (fun b2 => ?_)
  · replace e := zd_neg b2 e
    refine zk_iconst (v := (-1)) C kd_Mo_safe_26 (by decide) rfl ?_
    exact zk_iret C hR kd_Mo_safe_27 rfl rfl (zd_rIS e)
  · replace e := zd_pos b2 e
    refine zk_iload_n C kd_Mo_safe_18 rfl 1 rfl rfl ?_
    refine zk_iload_n C kd_Mo_safe_19 rfl 3 rfl rfl ?_
    refine zk_callS (rn := { frames := 0, cells := 0, slots := 0, locals := 0 }) (As := [.int x1, .int x3]) (rest := []) C (zc_Mo_noValue h x1 x3) ku_Mo_noValue kw2726 ks_Mo_noValue rfl ⟨by decide, by decide⟩ ⟨by decide, by decide⟩ rfl (Nat.le_of_ble_eq_true rfl) kd_Mo_safe_20 rfl (c1 := 0) (s1 := 0) rfl rfl (fun v w hp => ?_)
    obtain ⟨rfl, rfl, z3⟩ := hp
    refine zk_stk (r' := [.int (f_Mo_noValue x1 x3)]) rfl ?_
    refine zk_if_eq (tgt := 28) C kd_Mo_safe_23 (by decide) rfl (fun b4 => ?_) (fun b4 => ?_)
    · replace e := zd_pos b4 e
      refine zk_aload_n C kd_Mo_safe_28 rfl 0 rfl rfl ?_
      refine zs_get (v := .ref (S.1 120)) C 68 92 rfl rfl rfl rfl ki_Mo (by decide) kw1775 kd_Mo_safe_29 rfl ?_
      refine zk_iload_n C kd_Mo_safe_32 rfl 1 rfl rfl ?_
      refine zk_iload_n C kd_Mo_safe_33 rfl 2 rfl rfl ?_
      refine zk_callS (rn := { frames := 0, cells := 0, slots := 0, locals := 0 }) (As := [.int x1, .int x2]) (rest := [.ref (S.1 120)]) C (zc_Mo_spot h x1 x2) ku_Mo_spot kw2729 ks_Mo_spot rfl ⟨by decide, by decide⟩ ⟨by decide, by decide⟩ rfl (Nat.le_of_ble_eq_true rfl) kd_Mo_safe_34 rfl (c1 := 0) (s1 := 0) rfl rfl (fun v w hp => ?_)
      obtain ⟨rfl, rfl⟩ := hp
      refine zk_stk (r' := [.int (f_Mo_spot x1 x2), .ref (S.1 120)]) rfl ?_
      refine zk_iload_n C kd_Mo_safe_37 rfl 3 rfl rfl ?_
      obtain ⟨q5, e⟩ := zd_g e
      refine zs_iast C 120 rfl (zd_vp q5) kd_Mo_safe_38 rfl ?_
      refine zk_iconst (v := 0) C kd_Mo_safe_39 (by decide) rfl ?_
      exact zk_iret C hR kd_Mo_safe_40 rfl rfl (zd_rIS e)
    · replace e := zd_neg b4 e
      refine zk_iconst (v := (-1)) C kd_Mo_safe_26 (by decide) rfl ?_
      exact zk_iret C hR kd_Mo_safe_27 rfl rfl (zd_rIS e)
set_option maxHeartbeats 4000000 in
set_option maxRecDepth 100000 in
theorem zc_Mo_safe {l : Launch} {D : va_G} {sz0 : Nat} {S : zs_T} {P : ze_T} (h : zs_H) (x1 : Int32) (x2 : Int32) (x3 : Int32) {rv : Int32} {rh : zs_H} (e : f_Mo_safe h x1 x2 x3 = some (rv, rh)) : zk_Sp (zs_G S l D sz0) (ze_E P) km_Mo_safe { frames := 1, cells := 0, slots := 0, locals := 21 } [.ref (S.1 68), .int x1, .int x2, .int x3] (zs_W S h) (zd_PI S rv rh) := by
  refine zk_met ku_Mo_safe (Nat.le_of_ble_eq_true rfl) (ze_Em P) ?_
  intro X C hR
  refine zk_lvs (lv' := [(0, .ref (S.1 68)), (1, .int x1), (2, .int x2), (3, .int x3)]) [0, 1, 2, 3] rfl ?_
  unfold f_Mo_safe at e
  refine zk_iload_n C kd_Mo_safe_0 rfl 1 rfl rfl ?_
  refine zk_iconst (v := 1) C kd_Mo_safe_1 (by decide) rfl ?_
  refine zk_icmp_eq (tgt := 10) C kd_Mo_safe_2 (by decide) rfl (fun b1 => ?_) (fun b1 => ?_)
  · replace e := zd_pos b1 e
    refine zk_lvs (lv' := [(0, .ref (S.1 68)), (1, .int x1), (2, .int x2), (3, .int x3)]) [0, 1, 2, 3] rfl ?_
    exact zb_Mo_safe_10 C hR h x1 x2 x3 e
  · replace e := zd_neg b1 e
    refine zk_iload_n C kd_Mo_safe_5 rfl 1 rfl rfl ?_
    refine zk_iconst (v := 4) C kd_Mo_safe_6 (by decide) rfl ?_
    refine zk_icmp_ne (tgt := 26) C kd_Mo_safe_7 (by decide) rfl (fun b2 => ?_) (fun b2 => ?_)
    · replace e := zd_neg b2 e
      refine zk_iconst (v := (-1)) C kd_Mo_safe_26 (by decide) rfl ?_
      exact zk_iret C hR kd_Mo_safe_27 rfl rfl (zd_rIS e)
    · replace e := zd_pos b2 e
      refine zk_lvs (lv' := [(0, .ref (S.1 68)), (1, .int x1), (2, .int x2), (3, .int x3)]) [0, 1, 2, 3] rfl ?_
      exact zb_Mo_safe_10 C hR h x1 x2 x3 e
set_option maxHeartbeats 4000000 in
set_option maxRecDepth 100000 in
theorem zb_Mo_get_19 {X : zkj_T} {S : zs_T} {P : ze_T} {l : Launch} {D : va_G} {sz0 : Nat} {rv : Int32} {h : zs_H} (C : zk_C X km_Mo_get (zs_G S l D sz0) { frames := 1, cells := 0, slots := 0, locals := 21 } (ze_E P)) (hR : zkj_R X (zd_PI S rv h) (some .int)) (x1 : Int32) (x2 : Int32) (e : f_Mo_get_19 h x1 x2 = some rv) : zk_Ab X (zs_W S h) 0 0 19 [(0, .ref (S.1 68)), (1, .int x1), (2, .int x2)] [] := by
  unfold f_Mo_get_19 at e
  refine zk_aload_n C kd_Mo_get_19 rfl 0 rfl rfl ?_
  refine zs_get (v := .ref (S.1 118)) C 68 90 rfl rfl rfl rfl ki_Mo (by decide) kw1773 kd_Mo_get_20 rfl ?_
  refine zk_iload_n C kd_Mo_get_23 rfl 1 rfl rfl ?_
  refine zk_iload_n C kd_Mo_get_24 rfl 2 rfl rfl ?_
  refine zk_callS (rn := { frames := 0, cells := 0, slots := 0, locals := 0 }) (As := [.int x1, .int x2]) (rest := [.ref (S.1 118)]) C (zc_Mo_spot h x1 x2) ku_Mo_spot kw2729 ks_Mo_spot rfl ⟨by decide, by decide⟩ ⟨by decide, by decide⟩ rfl (Nat.le_of_ble_eq_true rfl) kd_Mo_get_25 rfl (c1 := 0) (s1 := 0) rfl rfl (fun v w hp => ?_)
  obtain ⟨rfl, rfl⟩ := hp
  refine zk_stk (r' := [.int (f_Mo_spot x1 x2), .ref (S.1 118)]) rfl ?_
  obtain ⟨q1, e⟩ := zd_g e
  refine zs_iald C 118 rfl (zd_vp q1) kd_Mo_get_28 rfl ?_
  exact zk_iret C hR kd_Mo_get_29 rfl rfl (zd_rIO e)
set_option maxHeartbeats 4000000 in
set_option maxRecDepth 100000 in
theorem zb_Mo_get_50 {X : zkj_T} {S : zs_T} {P : ze_T} {l : Launch} {D : va_G} {sz0 : Nat} {rv : Int32} {h : zs_H} (C : zk_C X km_Mo_get (zs_G S l D sz0) { frames := 1, cells := 0, slots := 0, locals := 21 } (ze_E P)) (hR : zkj_R X (zd_PI S rv h) (some .int)) (x1 : Int32) (x2 : Int32) (e : f_Mo_get_50 h x1 x2 = some rv) : zk_Ab X (zs_W S h) 0 0 50 [(0, .ref (S.1 68)), (1, .int x1), (2, .int x2)] [] := by
  unfold f_Mo_get_50 at e
  refine zk_aload_n C kd_Mo_get_50 rfl 0 rfl rfl ?_
  refine zs_get (v := .ref (S.1 119)) C 68 91 rfl rfl rfl rfl ki_Mo (by decide) kw1774 kd_Mo_get_51 rfl ?_
  refine zk_iload_n C kd_Mo_get_54 rfl 1 rfl rfl ?_
  refine zk_iload_n C kd_Mo_get_55 rfl 2 rfl rfl ?_
  refine zk_callS (rn := { frames := 0, cells := 0, slots := 0, locals := 0 }) (As := [.int x1, .int x2]) (rest := [.ref (S.1 119)]) C (zc_Mo_spot h x1 x2) ku_Mo_spot kw2729 ks_Mo_spot rfl ⟨by decide, by decide⟩ ⟨by decide, by decide⟩ rfl (Nat.le_of_ble_eq_true rfl) kd_Mo_get_56 rfl (c1 := 0) (s1 := 0) rfl rfl (fun v w hp => ?_)
  obtain ⟨rfl, rfl⟩ := hp
  refine zk_stk (r' := [.int (f_Mo_spot x1 x2), .ref (S.1 119)]) rfl ?_
  obtain ⟨q1, e⟩ := zd_g e
  refine zs_iald C 119 rfl (zd_vp q1) kd_Mo_get_59 rfl ?_
  refine zk_goto (tgt := 86) C kd_Mo_get_60 (by decide) ?_
  exact zk_iret C hR kd_Mo_get_86 rfl rfl (zd_rIO e)
set_option maxHeartbeats 4000000 in
set_option maxRecDepth 100000 in
theorem zb_Mo_get_85 {X : zkj_T} {S : zs_T} {P : ze_T} {l : Launch} {D : va_G} {sz0 : Nat} {rv : Int32} {h : zs_H} (C : zk_C X km_Mo_get (zs_G S l D sz0) { frames := 1, cells := 0, slots := 0, locals := 21 } (ze_E P)) (hR : zkj_R X (zd_PI S rv h) (some .int)) (y0 : Int32) (e : f_Mo_get_85 h y0 = some rv) : zk_Ab X (zs_W S h) 0 0 85 [] [.int y0, .ref (S.1 114)] := by
  unfold f_Mo_get_85 at e
  obtain ⟨q1, e⟩ := zd_g e
  refine zs_iald C 114 rfl (zd_vp q1) kd_Mo_get_85 rfl ?_
  exact zk_iret C hR kd_Mo_get_86 rfl rfl (zd_rIO e)
set_option maxHeartbeats 4000000 in
set_option maxRecDepth 100000 in
theorem zc_Mo_get {l : Launch} {D : va_G} {sz0 : Nat} {S : zs_T} {P : ze_T} (h : zs_H) (x1 : Int32) (x2 : Int32) {rv : Int32} (e : f_Mo_get h x1 x2 = some rv) : zk_Sp (zs_G S l D sz0) (ze_E P) km_Mo_get { frames := 1, cells := 0, slots := 0, locals := 21 } [.ref (S.1 68), .int x1, .int x2] (zs_W S h) (zd_PI S rv h) := by
  refine zk_met ku_Mo_get (Nat.le_of_ble_eq_true rfl) (ze_Em P) ?_
  intro X C hR
  refine zk_lvs (lv' := [(0, .ref (S.1 68)), (1, .int x1), (2, .int x2)]) [0, 1, 2] rfl ?_
  unfold f_Mo_get at e
  refine zk_iload_n C kd_Mo_get_0 rfl 1 rfl rfl ?_
  refine zk_iload_n C kd_Mo_get_1 rfl 2 rfl rfl ?_
  refine zk_callS (rn := { frames := 0, cells := 0, slots := 0, locals := 0 }) (As := [.int x1, .int x2]) (rest := []) C (zc_Mo_noPlace h x1 x2) ku_Mo_noPlace kw2723 ks_Mo_noPlace rfl ⟨by decide, by decide⟩ ⟨by decide, by decide⟩ rfl (Nat.le_of_ble_eq_true rfl) kd_Mo_get_2 rfl (c1 := 0) (s1 := 0) rfl rfl (fun v w hp => ?_)
  obtain ⟨rfl, rfl, z1⟩ := hp
  refine zk_stk (r' := [.int (f_Mo_noPlace x1 x2)]) rfl ?_
  refine zk_if_eq (tgt := 10) C kd_Mo_get_5 (by decide) rfl (fun b2 => ?_) (fun b2 => ?_)
  · replace e := zd_pos b2 e
    refine zk_iload_n C kd_Mo_get_10 rfl 1 rfl rfl ?_
    refine zk_if_eq (tgt := 19) C kd_Mo_get_11 (by decide) rfl (fun b3 => ?_) (fun b3 => ?_)
    · replace e := zd_pos b3 e
      refine zk_lvs (lv' := [(0, .ref (S.1 68)), (1, .int x1), (2, .int x2)]) [0, 1, 2] rfl ?_
      exact zb_Mo_get_19 C hR x1 x2 e
    · replace e := zd_neg b3 e
      refine zk_iload_n C kd_Mo_get_14 rfl 1 rfl rfl ?_
      refine zk_iconst (v := 3) C kd_Mo_get_15 (by decide) rfl ?_
      refine zk_icmp_ne (tgt := 30) C kd_Mo_get_16 (by decide) rfl (fun b4 => ?_) (fun b4 => ?_)
      · replace e := zd_neg b4 e
        refine zk_aload_n C kd_Mo_get_30 rfl 0 rfl rfl ?_
        refine zs_get (v := .int (h.1 68 82)) C 68 82 rfl rfl rfl rfl ki_Mo (by decide) kw1765 kd_Mo_get_31 rfl ?_
        refine zk_if_ne (tgt := 40) C kd_Mo_get_34 (by decide) rfl (fun b5 => ?_) (fun b5 => ?_)
        · replace e := zd_neg b5 e
          refine zk_iload_n C kd_Mo_get_40 rfl 1 rfl rfl ?_
          refine zk_iconst (v := 1) C kd_Mo_get_41 (by decide) rfl ?_
          refine zk_icmp_eq (tgt := 50) C kd_Mo_get_42 (by decide) rfl (fun b6 => ?_) (fun b6 => ?_)
          · replace e := zd_pos b6 e
            refine zk_lvs (lv' := [(0, .ref (S.1 68)), (1, .int x1), (2, .int x2)]) [0, 1, 2] rfl ?_
            exact zb_Mo_get_50 C hR x1 x2 e
          · replace e := zd_neg b6 e
            refine zk_iload_n C kd_Mo_get_45 rfl 1 rfl rfl ?_
            refine zk_iconst (v := 4) C kd_Mo_get_46 (by decide) rfl ?_
            refine zk_icmp_ne (tgt := 63) C kd_Mo_get_47 (by decide) rfl (fun b7 => ?_) (fun b7 => ?_)
            · replace e := zd_neg b7 e
              refine zk_aload_n C kd_Mo_get_63 rfl 0 rfl rfl ?_
              refine zs_get (v := .ref (S.1 114)) C 68 72 rfl rfl rfl rfl ki_Mo (by decide) kw1755 kd_Mo_get_64 rfl ?_
              refine zk_iload_n C kd_Mo_get_67 rfl 1 rfl rfl ?_
              refine zk_iconst (v := 2) C kd_Mo_get_68 (by decide) rfl ?_
              refine zk_icmp_ne (tgt := 80) C kd_Mo_get_69 (by decide) rfl (fun b8 => ?_) (fun b8 => ?_)
              · replace e := zd_neg b8 e
                refine zk_sipush (v := 896) C kd_Mo_get_80 (by decide) rfl ?_
                refine zk_iload_n C kd_Mo_get_83 rfl 2 rfl rfl ?_
                refine zk_iadd C kd_Mo_get_84 rfl ?_
                refine zk_lvs (lv' := []) [] rfl ?_
                exact zb_Mo_get_85 C hR (896 + x2) e
              · replace e := zd_pos b8 e
                refine zk_sipush (v := 512) C kd_Mo_get_72 (by decide) rfl ?_
                refine zk_iload_n C kd_Mo_get_75 rfl 2 rfl rfl ?_
                refine zk_iadd C kd_Mo_get_76 rfl ?_
                refine zk_goto (tgt := 85) C kd_Mo_get_77 (by decide) ?_
                refine zk_lvs (lv' := []) [] rfl ?_
                exact zb_Mo_get_85 C hR (512 + x2) e
            · replace e := zd_pos b7 e
              refine zk_lvs (lv' := [(0, .ref (S.1 68)), (1, .int x1), (2, .int x2)]) [0, 1, 2] rfl ?_
              exact zb_Mo_get_50 C hR x1 x2 e
        · replace e := zd_pos b5 e
          refine zk_bipush (v := (-5)) C kd_Mo_get_37 (by decide) rfl ?_
          exact zk_iret C hR kd_Mo_get_39 rfl rfl (zd_rIO e)
      · replace e := zd_pos b4 e
        refine zk_lvs (lv' := [(0, .ref (S.1 68)), (1, .int x1), (2, .int x2)]) [0, 1, 2] rfl ?_
        exact zb_Mo_get_19 C hR x1 x2 e
  · replace e := zd_neg b2 e
    refine zk_iconst (v := (-1)) C kd_Mo_get_8 (by decide) rfl ?_
    exact zk_iret C hR kd_Mo_get_9 rfl rfl (zd_rIO e)
set_option maxHeartbeats 4000000 in
set_option maxRecDepth 100000 in
theorem zb_Mo_put_37 {X : zkj_T} {S : zs_T} {P : ze_T} {l : Launch} {D : va_G} {sz0 : Nat} {rv : Int32} {rh : zs_H} (C : zk_C X km_Mo_put (zs_G S l D sz0) { frames := 1, cells := 0, slots := 0, locals := 21 } (ze_E P)) (hR : zkj_R X (zd_PI S rv rh) (some .int)) (h : zs_H) (x1 : Int32) (x2 : Int32) (x3 : Int32) (e : f_Mo_put_37 h x1 x2 x3 = some (rv, rh)) : zk_Ab X (zs_W S h) 0 0 37 [(0, .ref (S.1 68)), (1, .int x1), (2, .int x2), (3, .int x3)] [] := by
  unfold f_Mo_put_37 at e
  refine zk_aload_n C kd_Mo_put_37 rfl 0 rfl rfl ?_
  refine zs_get (v := .ref (S.1 118)) C 68 90 rfl rfl rfl rfl ki_Mo (by decide) kw1773 kd_Mo_put_38 rfl ?_
  refine zk_iload_n C kd_Mo_put_41 rfl 1 rfl rfl ?_
  refine zk_iload_n C kd_Mo_put_42 rfl 2 rfl rfl ?_
  refine zk_callS (rn := { frames := 0, cells := 0, slots := 0, locals := 0 }) (As := [.int x1, .int x2]) (rest := [.ref (S.1 118)]) C (zc_Mo_spot h x1 x2) ku_Mo_spot kw2729 ks_Mo_spot rfl ⟨by decide, by decide⟩ ⟨by decide, by decide⟩ rfl (Nat.le_of_ble_eq_true rfl) kd_Mo_put_43 rfl (c1 := 0) (s1 := 0) rfl rfl (fun v w hp => ?_)
  obtain ⟨rfl, rfl⟩ := hp
  refine zk_stk (r' := [.int (f_Mo_spot x1 x2), .ref (S.1 118)]) rfl ?_
  refine zk_iload_n C kd_Mo_put_46 rfl 3 rfl rfl ?_
  obtain ⟨q1, e⟩ := zd_g e
  refine zs_iast C 118 rfl (zd_vp q1) kd_Mo_put_47 rfl ?_
  refine zk_iconst (v := 0) C kd_Mo_put_48 (by decide) rfl ?_
  exact zk_iret C hR kd_Mo_put_49 rfl rfl (zd_rIS e)
set_option maxHeartbeats 4000000 in
set_option maxRecDepth 100000 in
theorem zb_Mo_put_82 {X : zkj_T} {S : zs_T} {P : ze_T} {l : Launch} {D : va_G} {sz0 : Nat} {rv : Int32} {rh : zs_H} (C : zk_C X km_Mo_put (zs_G S l D sz0) { frames := 1, cells := 0, slots := 0, locals := 21 } (ze_E P)) (hR : zkj_R X (zd_PI S rv rh) (some .int)) (h : zs_H) (x3 : Int32) (y0 : Int32) (e : f_Mo_put_82 h x3 y0 = some (rv, rh)) : zk_Ab X (zs_W S h) 0 0 82 [(3, .int x3)] [.int y0, .ref (S.1 114)] := by
  unfold f_Mo_put_82 at e
  refine zk_iload_n C kd_Mo_put_82 rfl 0 rfl rfl ?_
  obtain ⟨q1, e⟩ := zd_g e
  refine zs_iast C 114 rfl (zd_vp q1) kd_Mo_put_83 rfl ?_
  refine zk_iconst (v := 0) C kd_Mo_put_84 (by decide) rfl ?_
  exact zk_iret C hR kd_Mo_put_85 rfl rfl (zd_rIS e)
set_option maxHeartbeats 4000000 in
set_option maxRecDepth 100000 in
theorem zc_Mo_put {l : Launch} {D : va_G} {sz0 : Nat} {S : zs_T} {P : ze_T} (h : zs_H) (x1 : Int32) (x2 : Int32) (x3 : Int32) {rv : Int32} {rh : zs_H} (e : f_Mo_put h x1 x2 x3 = some (rv, rh)) : zk_Sp (zs_G S l D sz0) (ze_E P) km_Mo_put { frames := 1, cells := 0, slots := 0, locals := 21 } [.ref (S.1 68), .int x1, .int x2, .int x3] (zs_W S h) (zd_PI S rv rh) := by
  refine zk_met ku_Mo_put (Nat.le_of_ble_eq_true rfl) (ze_Em P) ?_
  intro X C hR
  refine zk_lvs (lv' := [(0, .ref (S.1 68)), (1, .int x1), (2, .int x2), (3, .int x3)]) [0, 1, 2, 3] rfl ?_
  unfold f_Mo_put at e
  refine zk_iload_n C kd_Mo_put_0 rfl 1 rfl rfl ?_
  refine zk_iload_n C kd_Mo_put_1 rfl 2 rfl rfl ?_
  refine zk_callS (rn := { frames := 0, cells := 0, slots := 0, locals := 0 }) (As := [.int x1, .int x2]) (rest := []) C (zc_Mo_noPlace h x1 x2) ku_Mo_noPlace kw2723 ks_Mo_noPlace rfl ⟨by decide, by decide⟩ ⟨by decide, by decide⟩ rfl (Nat.le_of_ble_eq_true rfl) kd_Mo_put_2 rfl (c1 := 0) (s1 := 0) rfl rfl (fun v w hp => ?_)
  obtain ⟨rfl, rfl, z1⟩ := hp
  refine zk_stk (r' := [.int (f_Mo_noPlace x1 x2)]) rfl ?_
  refine zk_if_ne (tgt := 26) C kd_Mo_put_5 (by decide) rfl (fun b2 => ?_) (fun b2 => ?_)
  · replace e := zd_neg b2 e
    refine zk_iconst (v := (-1)) C kd_Mo_put_26 (by decide) rfl ?_
    exact zk_iret C hR kd_Mo_put_27 rfl rfl (zd_rIS e)
  · replace e := zd_pos b2 e
    refine zk_iload_n C kd_Mo_put_8 rfl 1 rfl rfl ?_
    refine zk_iload_n C kd_Mo_put_9 rfl 3 rfl rfl ?_
    refine zk_callS (rn := { frames := 0, cells := 0, slots := 0, locals := 0 }) (As := [.int x1, .int x3]) (rest := []) C (zc_Mo_noValue h x1 x3) ku_Mo_noValue kw2726 ks_Mo_noValue rfl ⟨by decide, by decide⟩ ⟨by decide, by decide⟩ rfl (Nat.le_of_ble_eq_true rfl) kd_Mo_put_10 rfl (c1 := 0) (s1 := 0) rfl rfl (fun v w hp => ?_)
    obtain ⟨rfl, rfl, z3⟩ := hp
    refine zk_stk (r' := [.int (f_Mo_noValue x1 x3)]) rfl ?_
    refine zk_if_ne (tgt := 26) C kd_Mo_put_13 (by decide) rfl (fun b4 => ?_) (fun b4 => ?_)
    · replace e := zd_neg b4 e
      refine zk_iconst (v := (-1)) C kd_Mo_put_26 (by decide) rfl ?_
      exact zk_iret C hR kd_Mo_put_27 rfl rfl (zd_rIS e)
    · replace e := zd_pos b4 e
      refine zk_iload_n C kd_Mo_put_16 rfl 1 rfl rfl ?_
      refine zk_iconst (v := 1) C kd_Mo_put_17 (by decide) rfl ?_
      refine zk_icmp_eq (tgt := 26) C kd_Mo_put_18 (by decide) rfl (fun b5 => ?_) (fun b5 => ?_)
      · replace e := zd_pos b5 e
        refine zk_iconst (v := (-1)) C kd_Mo_put_26 (by decide) rfl ?_
        exact zk_iret C hR kd_Mo_put_27 rfl rfl (zd_rIS e)
      · replace e := zd_neg b5 e
        refine zk_iload_n C kd_Mo_put_21 rfl 1 rfl rfl ?_
        refine zk_iconst (v := 4) C kd_Mo_put_22 (by decide) rfl ?_
        refine zk_icmp_ne (tgt := 28) C kd_Mo_put_23 (by decide) rfl (fun b6 => ?_) (fun b6 => ?_)
        · replace e := zd_neg b6 e
          refine zk_iload_n C kd_Mo_put_28 rfl 1 rfl rfl ?_
          refine zk_if_eq (tgt := 37) C kd_Mo_put_29 (by decide) rfl (fun b7 => ?_) (fun b7 => ?_)
          · replace e := zd_pos b7 e
            refine zk_lvs (lv' := [(0, .ref (S.1 68)), (1, .int x1), (2, .int x2), (3, .int x3)]) [0, 1, 2, 3] rfl ?_
            exact zb_Mo_put_37 C hR h x1 x2 x3 e
          · replace e := zd_neg b7 e
            refine zk_iload_n C kd_Mo_put_32 rfl 1 rfl rfl ?_
            refine zk_iconst (v := 3) C kd_Mo_put_33 (by decide) rfl ?_
            refine zk_icmp_ne (tgt := 50) C kd_Mo_put_34 (by decide) rfl (fun b8 => ?_) (fun b8 => ?_)
            · replace e := zd_neg b8 e
              refine zk_aload_n C kd_Mo_put_50 rfl 0 rfl rfl ?_
              refine zs_get (v := .int (h.1 68 82)) C 68 82 rfl rfl rfl rfl ki_Mo (by decide) kw1765 kd_Mo_put_51 rfl ?_
              refine zk_if_ne (tgt := 60) C kd_Mo_put_54 (by decide) rfl (fun b9 => ?_) (fun b9 => ?_)
              · replace e := zd_neg b9 e
                refine zk_aload_n C kd_Mo_put_60 rfl 0 rfl rfl ?_
                refine zs_get (v := .ref (S.1 114)) C 68 72 rfl rfl rfl rfl ki_Mo (by decide) kw1755 kd_Mo_put_61 rfl ?_
                refine zk_iload_n C kd_Mo_put_64 rfl 1 rfl rfl ?_
                refine zk_iconst (v := 2) C kd_Mo_put_65 (by decide) rfl ?_
                refine zk_icmp_ne (tgt := 77) C kd_Mo_put_66 (by decide) rfl (fun b10 => ?_) (fun b10 => ?_)
                · replace e := zd_neg b10 e
                  refine zk_sipush (v := 896) C kd_Mo_put_77 (by decide) rfl ?_
                  refine zk_iload_n C kd_Mo_put_80 rfl 2 rfl rfl ?_
                  refine zk_iadd C kd_Mo_put_81 rfl ?_
                  refine zk_lvs (lv' := [(3, .int x3)]) [3] rfl ?_
                  exact zb_Mo_put_82 C hR h x3 (896 + x2) e
                · replace e := zd_pos b10 e
                  refine zk_sipush (v := 512) C kd_Mo_put_69 (by decide) rfl ?_
                  refine zk_iload_n C kd_Mo_put_72 rfl 2 rfl rfl ?_
                  refine zk_iadd C kd_Mo_put_73 rfl ?_
                  refine zk_goto (tgt := 82) C kd_Mo_put_74 (by decide) ?_
                  refine zk_lvs (lv' := [(3, .int x3)]) [3] rfl ?_
                  exact zb_Mo_put_82 C hR h x3 (512 + x2) e
              · replace e := zd_pos b9 e
                refine zk_bipush (v := (-5)) C kd_Mo_put_57 (by decide) rfl ?_
                exact zk_iret C hR kd_Mo_put_59 rfl rfl (zd_rIS e)
            · replace e := zd_pos b8 e
              refine zk_lvs (lv' := [(0, .ref (S.1 68)), (1, .int x1), (2, .int x2), (3, .int x3)]) [0, 1, 2, 3] rfl ?_
              exact zb_Mo_put_37 C hR h x1 x2 x3 e
        · replace e := zd_pos b6 e
          refine zk_iconst (v := (-1)) C kd_Mo_put_26 (by decide) rfl ?_
          exact zk_iret C hR kd_Mo_put_27 rfl rfl (zd_rIS e)
set_option maxHeartbeats 4000000 in
set_option maxRecDepth 100000 in
theorem zb_Mo_fill_109 {X : zkj_T} {S : zs_T} {P : ze_T} {l : Launch} {D : va_G} {sz0 : Nat} {d : Nat} {rh : zs_H} (C : zk_C X km_Mo_fill (zs_G S l D sz0) { frames := 1 + (d + 1), cells := 0, slots := 0, locals := 24 + 25 * (d + 1) } (ze_E P)) (hR : zkj_R X (zd_PV S rh) (none)) {r_Mo_fill : zs_H → Int32 → Int32 → (Option zs_H)} (hr_Mo_fill : ∀ (h : zs_H) (x0 : Int32) (x1 : Int32) {rh : zs_H}, r_Mo_fill h x0 x1 = some rh → zk_Sp (zs_G S l D sz0) (ze_E P) km_Mo_fill { frames := 1 + d, cells := 0, slots := 0, locals := 24 + 25 * d } [.ref (S.1 68), .int x0, .int x1] (zs_W S h) (zd_PV S rh)) {k7 : zs_H → Int32 → Int32 → Int32 → (Option zs_H)} (hk7 : ∀ (h : zs_H) (x1 : Int32) (x2 : Int32) (x3 : Int32), k7 h x1 x2 x3 = some rh → zk_Ab X (zs_W S h) 0 0 7 [(0, .ref (S.1 68)), (1, .int x1), (2, .int x2), (3, .int x3)] []) (h : zs_H) (x1 : Int32) (x2 : Int32) (x3 : Int32) (e : f_Mo_fill_109 r_Mo_fill k7 h x1 x2 x3 = some rh) : zk_Ab X (zs_W S h) 0 0 109 [(0, .ref (S.1 68)), (1, .int x1), (2, .int x2), (3, .int x3)] [] := by
  unfold f_Mo_fill_109 at e
  refine zk_iinc (v := (x3 + 1)) (lv' := [(3, _), (0, _), (1, _), (2, _)]) C kd_Mo_fill_109 3 rfl rfl (by decide) rfl rfl ?_
  refine zk_goto (tgt := 7) C kd_Mo_fill_112 (by decide) ?_
  refine zk_lvs (lv' := [(0, .ref (S.1 68)), (1, .int x1), (2, .int x2), (3, .int (x3 + 1))]) [1, 2, 3, 0] rfl ?_
  exact hk7 h x1 x2 (x3 + 1) e
set_option maxHeartbeats 4000000 in
set_option maxRecDepth 100000 in
theorem zb_Mo_fill_76 {X : zkj_T} {S : zs_T} {P : ze_T} {l : Launch} {D : va_G} {sz0 : Nat} {d : Nat} {rh : zs_H} (C : zk_C X km_Mo_fill (zs_G S l D sz0) { frames := 1 + (d + 1), cells := 0, slots := 0, locals := 24 + 25 * (d + 1) } (ze_E P)) (hR : zkj_R X (zd_PV S rh) (none)) {r_Mo_fill : zs_H → Int32 → Int32 → (Option zs_H)} (hr_Mo_fill : ∀ (h : zs_H) (x0 : Int32) (x1 : Int32) {rh : zs_H}, r_Mo_fill h x0 x1 = some rh → zk_Sp (zs_G S l D sz0) (ze_E P) km_Mo_fill { frames := 1 + d, cells := 0, slots := 0, locals := 24 + 25 * d } [.ref (S.1 68), .int x0, .int x1] (zs_W S h) (zd_PV S rh)) {k7 : zs_H → Int32 → Int32 → Int32 → (Option zs_H)} (hk7 : ∀ (h : zs_H) (x1 : Int32) (x2 : Int32) (x3 : Int32), k7 h x1 x2 x3 = some rh → zk_Ab X (zs_W S h) 0 0 7 [(0, .ref (S.1 68)), (1, .int x1), (2, .int x2), (3, .int x3)] []) {k76 : zs_H → Int32 → Int32 → Int32 → Int32 → Int32 → (Option zs_H)} (hk76 : ∀ (h : zs_H) (x1 : Int32) (x2 : Int32) (x3 : Int32) (x4 : Int32) (x5 : Int32), k76 h x1 x2 x3 x4 x5 = some rh → zk_Ab X (zs_W S h) 0 0 76 [(0, .ref (S.1 68)), (1, .int x1), (2, .int x2), (3, .int x3), (4, .int x4), (5, .int x5)] []) (h : zs_H) (x1 : Int32) (x2 : Int32) (x3 : Int32) (x4 : Int32) (x5 : Int32) (e : f_Mo_fill_76 r_Mo_fill k7 k76 h x1 x2 x3 x4 x5 = some rh) : zk_Ab X (zs_W S h) 0 0 76 [(0, .ref (S.1 68)), (1, .int x1), (2, .int x2), (3, .int x3), (4, .int x4), (5, .int x5)] [] := by
  unfold f_Mo_fill_76 at e
  refine zk_iload C kd_Mo_fill_76 5 rfl rfl ?_
  refine zk_aload_n C kd_Mo_fill_78 rfl 0 rfl rfl ?_
  refine zs_get (v := .ref (S.1 98)) C 68 49 rfl rfl rfl rfl ki_Mo (by decide) kw1732 kd_Mo_fill_79 rfl ?_
  refine zk_iload_n C kd_Mo_fill_82 rfl 3 rfl rfl ?_
  obtain ⟨q1, e⟩ := zd_g e
  refine zs_iald C 98 rfl (zd_vp q1) kd_Mo_fill_83 rfl ?_
  refine zk_icmp_ge (tgt := 109) C kd_Mo_fill_84 (by decide) rfl (fun b2 => ?_) (fun b2 => ?_)
  · replace e := zd_pos b2 e
    refine zk_lvs (lv' := [(0, .ref (S.1 68)), (1, .int x1), (2, .int x2), (3, .int x3)]) [0, 1, 2, 3] rfl ?_
    exact zb_Mo_fill_109 C hR hr_Mo_fill hk7 h x1 x2 x3 e
  · replace e := zd_neg b2 e
    refine zk_aload_n C kd_Mo_fill_87 rfl 0 rfl rfl ?_
    refine zs_get (v := .ref (S.1 114)) C 68 72 rfl rfl rfl rfl ki_Mo (by decide) kw1755 kd_Mo_fill_88 rfl ?_
    refine zk_iload C kd_Mo_fill_91 4 rfl rfl ?_
    refine zk_iload C kd_Mo_fill_93 5 rfl rfl ?_
    refine zk_iadd C kd_Mo_fill_95 rfl ?_
    refine zk_aload_n C kd_Mo_fill_96 rfl 0 rfl rfl ?_
    refine zs_get (v := .ref (S.1 99)) C 68 50 rfl rfl rfl rfl ki_Mo (by decide) kw1733 kd_Mo_fill_97 rfl ?_
    refine zk_iload_n C kd_Mo_fill_100 rfl 3 rfl rfl ?_
    refine zs_iald C 99 rfl (zd_vp q1) kd_Mo_fill_101 rfl ?_
    obtain ⟨q3, e⟩ := zd_g e
    refine zs_iast C 114 rfl (zd_vp q3) kd_Mo_fill_102 rfl ?_
    refine zk_iinc (v := (x5 + 1)) (lv' := [(5, _), (0, _), (1, _), (2, _), (3, _), (4, _)]) C kd_Mo_fill_103 5 rfl rfl (by decide) rfl rfl ?_
    refine zk_goto (tgt := 76) C kd_Mo_fill_106 (by decide) ?_
    refine zk_lvs (lv' := [(0, .ref (S.1 68)), (1, .int x1), (2, .int x2), (3, .int x3), (4, .int x4), (5, .int (x5 + 1))]) [1, 2, 3, 4, 5, 0] rfl ?_
    exact hk76 (zs_uM h 114 (x4 + x5).toNatClampNeg (h.2.1 99 x3.toNatClampNeg)) x1 x2 x3 x4 (x5 + 1) e
theorem zl_Mo_fill_76 {X : zkj_T} {S : zs_T} {P : ze_T} {l : Launch} {D : va_G} {sz0 : Nat} {d : Nat} {rh : zs_H} (C : zk_C X km_Mo_fill (zs_G S l D sz0) { frames := 1 + (d + 1), cells := 0, slots := 0, locals := 24 + 25 * (d + 1) } (ze_E P)) (hR : zkj_R X (zd_PV S rh) (none)) {r_Mo_fill : zs_H → Int32 → Int32 → (Option zs_H)} (hr_Mo_fill : ∀ (h : zs_H) (x0 : Int32) (x1 : Int32) {rh : zs_H}, r_Mo_fill h x0 x1 = some rh → zk_Sp (zs_G S l D sz0) (ze_E P) km_Mo_fill { frames := 1 + d, cells := 0, slots := 0, locals := 24 + 25 * d } [.ref (S.1 68), .int x0, .int x1] (zs_W S h) (zd_PV S rh)) {k7 : zs_H → Int32 → Int32 → Int32 → (Option zs_H)} (hk7 : ∀ (h : zs_H) (x1 : Int32) (x2 : Int32) (x3 : Int32), k7 h x1 x2 x3 = some rh → zk_Ab X (zs_W S h) 0 0 7 [(0, .ref (S.1 68)), (1, .int x1), (2, .int x2), (3, .int x3)] []) (n : Nat) : ∀ (h : zs_H) (x1 : Int32) (x2 : Int32) (x3 : Int32) (x4 : Int32) (x5 : Int32), f_Mo_fill_L76 r_Mo_fill k7 n h x1 x2 x3 x4 x5 = some rh → zk_Ab X (zs_W S h) 0 0 76 [(0, .ref (S.1 68)), (1, .int x1), (2, .int x2), (3, .int x3), (4, .int x4), (5, .int x5)] [] := by
  induction n with
  | zero => intro h x1 x2 x3 x4 x5 e; exact zd_no e
  | succ n ih => intro h x1 x2 x3 x4 x5 e; exact zb_Mo_fill_76 (k76 := f_Mo_fill_L76 r_Mo_fill k7 n) C hR hr_Mo_fill hk7 ih h x1 x2 x3 x4 x5 e
set_option maxHeartbeats 4000000 in
set_option maxRecDepth 100000 in
theorem zb_Mo_fill_63 {X : zkj_T} {S : zs_T} {P : ze_T} {l : Launch} {D : va_G} {sz0 : Nat} {d : Nat} {rh : zs_H} (C : zk_C X km_Mo_fill (zs_G S l D sz0) { frames := 1 + (d + 1), cells := 0, slots := 0, locals := 24 + 25 * (d + 1) } (ze_E P)) (hR : zkj_R X (zd_PV S rh) (none)) {r_Mo_fill : zs_H → Int32 → Int32 → (Option zs_H)} (hr_Mo_fill : ∀ (h : zs_H) (x0 : Int32) (x1 : Int32) {rh : zs_H}, r_Mo_fill h x0 x1 = some rh → zk_Sp (zs_G S l D sz0) (ze_E P) km_Mo_fill { frames := 1 + d, cells := 0, slots := 0, locals := 24 + 25 * d } [.ref (S.1 68), .int x0, .int x1] (zs_W S h) (zd_PV S rh)) {k7 : zs_H → Int32 → Int32 → Int32 → (Option zs_H)} (hk7 : ∀ (h : zs_H) (x1 : Int32) (x2 : Int32) (x3 : Int32), k7 h x1 x2 x3 = some rh → zk_Ab X (zs_W S h) 0 0 7 [(0, .ref (S.1 68)), (1, .int x1), (2, .int x2), (3, .int x3)] []) (h : zs_H) (x1 : Int32) (x2 : Int32) (x3 : Int32) (x4 : Int32) (e : f_Mo_fill_63 r_Mo_fill k7 h x1 x2 x3 x4 = some rh) : zk_Ab X (zs_W S h) 0 0 63 [(0, .ref (S.1 68)), (1, .int x1), (2, .int x2), (3, .int x3), (4, .int x4)] [] := by
  unfold f_Mo_fill_63 at e
  refine zk_aload_n C kd_Mo_fill_63 rfl 0 rfl rfl ?_
  refine zs_get (v := .ref (S.1 92)) C 68 43 rfl rfl rfl rfl ki_Mo (by decide) kw1726 kd_Mo_fill_64 rfl ?_
  refine zk_iload_n C kd_Mo_fill_67 rfl 3 rfl rfl ?_
  obtain ⟨q1, e⟩ := zd_g e
  refine zs_iald C 92 rfl (zd_vp q1) kd_Mo_fill_68 rfl ?_
  refine zk_iconst (v := 2) C kd_Mo_fill_69 (by decide) rfl ?_
  refine zk_icmp_eq (tgt := 109) C kd_Mo_fill_70 (by decide) rfl (fun b2 => ?_) (fun b2 => ?_)
  · replace e := zd_pos b2 e
    refine zk_lvs (lv' := [(0, .ref (S.1 68)), (1, .int x1), (2, .int x2), (3, .int x3)]) [0, 1, 2, 3] rfl ?_
    exact zb_Mo_fill_109 C hR hr_Mo_fill hk7 h x1 x2 x3 e
  · replace e := zd_neg b2 e
    refine zk_iconst (v := 0) C kd_Mo_fill_73 (by decide) rfl ?_
    refine zk_istore (lv' := [(5, _), (0, _), (1, _), (2, _), (3, _), (4, _)]) C kd_Mo_fill_74 (by decide) rfl rfl ?_
    refine zk_lvs (lv' := [(0, .ref (S.1 68)), (1, .int x1), (2, .int x2), (3, .int x3), (4, .int x4), (5, .int 0)]) [1, 2, 3, 4, 5, 0] rfl ?_
    exact zl_Mo_fill_76 C hR hr_Mo_fill hk7 zF h x1 x2 x3 x4 0 e
set_option maxHeartbeats 4000000 in
set_option maxRecDepth 100000 in
theorem zb_Mo_fill_7 {X : zkj_T} {S : zs_T} {P : ze_T} {l : Launch} {D : va_G} {sz0 : Nat} {d : Nat} {rh : zs_H} (C : zk_C X km_Mo_fill (zs_G S l D sz0) { frames := 1 + (d + 1), cells := 0, slots := 0, locals := 24 + 25 * (d + 1) } (ze_E P)) (hR : zkj_R X (zd_PV S rh) (none)) {r_Mo_fill : zs_H → Int32 → Int32 → (Option zs_H)} (hr_Mo_fill : ∀ (h : zs_H) (x0 : Int32) (x1 : Int32) {rh : zs_H}, r_Mo_fill h x0 x1 = some rh → zk_Sp (zs_G S l D sz0) (ze_E P) km_Mo_fill { frames := 1 + d, cells := 0, slots := 0, locals := 24 + 25 * d } [.ref (S.1 68), .int x0, .int x1] (zs_W S h) (zd_PV S rh)) {k7 : zs_H → Int32 → Int32 → Int32 → (Option zs_H)} (hk7 : ∀ (h : zs_H) (x1 : Int32) (x2 : Int32) (x3 : Int32), k7 h x1 x2 x3 = some rh → zk_Ab X (zs_W S h) 0 0 7 [(0, .ref (S.1 68)), (1, .int x1), (2, .int x2), (3, .int x3)] []) (h : zs_H) (x1 : Int32) (x2 : Int32) (x3 : Int32) (e : f_Mo_fill_7 r_Mo_fill k7 h x1 x2 x3 = some rh) : zk_Ab X (zs_W S h) 0 0 7 [(0, .ref (S.1 68)), (1, .int x1), (2, .int x2), (3, .int x3)] [] := by
  unfold f_Mo_fill_7 at e
  refine zk_iload_n C kd_Mo_fill_7 rfl 3 rfl rfl ?_
  refine zk_aload_n C kd_Mo_fill_8 rfl 0 rfl rfl ?_
  refine zk_iload_n C kd_Mo_fill_9 rfl 1 rfl rfl ?_
  obtain ⟨v2, c1, e⟩ := zd_b e
  refine zs_callV (k := 68) (rn := { frames := 0, cells := 0, slots := 0, locals := 0 }) (As := [.int x1]) (rest := [.int x3]) C (zc_Mo_endOf h x1 c1) ku_Mo_endOf kw2528 kv_Mo_endOf rfl (zd_rmO (by decide) (by decide)) ⟨Nat.le_refl _, Nat.le_refl _⟩ rfl rfl rfl (Nat.le_of_ble_eq_true rfl) kd_Mo_fill_10 rfl (c1 := 0) (s1 := 0) rfl rfl (fun v w hp => ?_)
  obtain ⟨rfl, rfl⟩ := hp
  refine zk_stk (r' := [.int v2, .int x3]) rfl ?_
  refine zk_icmp_ge (tgt := 115) C kd_Mo_fill_13 (by decide) rfl (fun b3 => ?_) (fun b3 => ?_)
  · replace e := zd_pos b3 e
    exact zk_vret C hR kd_Mo_fill_115 rfl rfl (zd_rV e)
  · replace e := zd_neg b3 e
    refine zk_iload_n C kd_Mo_fill_16 rfl 2 rfl rfl ?_
    refine zk_aload_n C kd_Mo_fill_17 rfl 0 rfl rfl ?_
    refine zs_get (v := .ref (S.1 94)) C 68 45 rfl rfl rfl rfl ki_Mo (by decide) kw1728 kd_Mo_fill_18 rfl ?_
    refine zk_iload_n C kd_Mo_fill_21 rfl 3 rfl rfl ?_
    obtain ⟨q4, e⟩ := zd_g e
    refine zs_iald C 94 rfl (zd_vp q4) kd_Mo_fill_22 rfl ?_
    refine zk_iadd C kd_Mo_fill_23 rfl ?_
    refine zk_istore (lv' := [(4, _), (0, _), (1, _), (2, _), (3, _)]) C kd_Mo_fill_24 (by decide) rfl rfl ?_
    refine zk_aload_n C kd_Mo_fill_26 rfl 1 rfl rfl ?_
    refine zs_get (v := .ref (S.1 92)) C 68 43 rfl rfl rfl rfl ki_Mo (by decide) kw1726 kd_Mo_fill_27 rfl ?_
    refine zk_iload_n C kd_Mo_fill_30 rfl 4 rfl rfl ?_
    refine zs_iald C 92 rfl (zd_vp q4) kd_Mo_fill_31 rfl ?_
    refine zk_iconst (v := 2) C kd_Mo_fill_32 (by decide) rfl ?_
    refine zk_icmp_ne (tgt := 63) C kd_Mo_fill_33 (by decide) rfl (fun b5 => ?_) (fun b5 => ?_)
    · replace e := zd_neg b5 e
      refine zk_lvs (lv' := [(0, .ref (S.1 68)), (1, .int x1), (2, .int x2), (3, .int x3), (4, .int (x2 + (h.2.1 94 x3.toNatClampNeg)))]) [1, 2, 3, 4, 0] rfl ?_
      exact zb_Mo_fill_63 C hR hr_Mo_fill hk7 h x1 x2 x3 (x2 + (h.2.1 94 x3.toNatClampNeg)) e
    · replace e := zd_pos b5 e
      refine zk_aload_n C kd_Mo_fill_36 rfl 1 rfl rfl ?_
      refine zs_get (v := .ref (S.1 93)) C 68 44 rfl rfl rfl rfl ki_Mo (by decide) kw1727 kd_Mo_fill_37 rfl ?_
      refine zk_iload_n C kd_Mo_fill_40 rfl 4 rfl rfl ?_
      refine zs_iald C 93 rfl (zd_vp q4) kd_Mo_fill_41 rfl ?_
      refine zk_ldcw (v := 100000) C kw1988 kd_Mo_fill_42 rfl ?_
      refine zk_icmp_ge (tgt := 63) C kd_Mo_fill_45 (by decide) rfl (fun b6 => ?_) (fun b6 => ?_)
      · replace e := zd_pos b6 e
        refine zk_lvs (lv' := [(0, .ref (S.1 68)), (1, .int x1), (2, .int x2), (3, .int x3), (4, .int (x2 + (h.2.1 94 x3.toNatClampNeg)))]) [1, 2, 3, 4, 0] rfl ?_
        exact zb_Mo_fill_63 C hR hr_Mo_fill hk7 h x1 x2 x3 (x2 + (h.2.1 94 x3.toNatClampNeg)) e
      · replace e := zd_neg b6 e
        refine zk_aload_n C kd_Mo_fill_48 rfl 1 rfl rfl ?_
        refine zk_aload_n C kd_Mo_fill_49 rfl 1 rfl rfl ?_
        refine zs_get (v := .ref (S.1 93)) C 68 44 rfl rfl rfl rfl ki_Mo (by decide) kw1727 kd_Mo_fill_50 rfl ?_
        refine zk_iload_n C kd_Mo_fill_53 rfl 4 rfl rfl ?_
        refine zs_iald C 93 rfl (zd_vp q4) kd_Mo_fill_54 rfl ?_
        refine zk_iload C kd_Mo_fill_55 0 rfl rfl ?_
        obtain ⟨h8, c7, e⟩ := zd_b e
        refine zs_callV (k := 68) (rn := { frames := 1 + d, cells := 0, slots := 0, locals := 24 + 25 * d }) (As := [.int (h.2.1 93 x3.toNatClampNeg), .int (x2 + (h.2.1 94 x3.toNatClampNeg))]) (rest := []) C (hr_Mo_fill h (h.2.1 93 x3.toNatClampNeg) (x2 + (h.2.1 94 x3.toNatClampNeg)) c7) ku_Mo_fill kw2707 kv_Mo_fill rfl (zd_rmI (by decide)) ⟨Nat.le_refl _, Nat.le_refl _⟩ rfl rfl rfl (Nat.le_of_ble_eq_true rfl) kd_Mo_fill_57 rfl (c1 := 0) (s1 := 0) rfl rfl (fun v w hp => ?_)
        obtain ⟨rfl, rfl⟩ := hp
        refine zk_stk (r' := []) rfl ?_
        refine zk_goto (tgt := 109) C kd_Mo_fill_60 (by decide) ?_
        refine zk_lvs (lv' := [(0, .ref (S.1 68)), (1, .int x1), (2, .int x2), (3, .int x3)]) [1, 2, 3, 4] rfl ?_
        exact zb_Mo_fill_109 C hR hr_Mo_fill hk7 h8 x1 x2 x3 e
theorem zl_Mo_fill_7 {X : zkj_T} {S : zs_T} {P : ze_T} {l : Launch} {D : va_G} {sz0 : Nat} {d : Nat} {rh : zs_H} (C : zk_C X km_Mo_fill (zs_G S l D sz0) { frames := 1 + (d + 1), cells := 0, slots := 0, locals := 24 + 25 * (d + 1) } (ze_E P)) (hR : zkj_R X (zd_PV S rh) (none)) {r_Mo_fill : zs_H → Int32 → Int32 → (Option zs_H)} (hr_Mo_fill : ∀ (h : zs_H) (x0 : Int32) (x1 : Int32) {rh : zs_H}, r_Mo_fill h x0 x1 = some rh → zk_Sp (zs_G S l D sz0) (ze_E P) km_Mo_fill { frames := 1 + d, cells := 0, slots := 0, locals := 24 + 25 * d } [.ref (S.1 68), .int x0, .int x1] (zs_W S h) (zd_PV S rh)) (n : Nat) : ∀ (h : zs_H) (x1 : Int32) (x2 : Int32) (x3 : Int32), f_Mo_fill_L7 r_Mo_fill n h x1 x2 x3 = some rh → zk_Ab X (zs_W S h) 0 0 7 [(0, .ref (S.1 68)), (1, .int x1), (2, .int x2), (3, .int x3)] [] := by
  induction n with
  | zero => intro h x1 x2 x3 e; exact zd_no e
  | succ n ih => intro h x1 x2 x3 e; exact zb_Mo_fill_7 (k7 := f_Mo_fill_L7 r_Mo_fill n) C hR hr_Mo_fill ih h x1 x2 x3 e
set_option maxHeartbeats 4000000 in
set_option maxRecDepth 100000 in
theorem zg_Mo_fill {l : Launch} {D : va_G} {sz0 : Nat} {S : zs_T} {P : ze_T} {d : Nat} {r_Mo_fill : zs_H → Int32 → Int32 → (Option zs_H)} (hr_Mo_fill : ∀ (h : zs_H) (x0 : Int32) (x1 : Int32) {rh : zs_H}, r_Mo_fill h x0 x1 = some rh → zk_Sp (zs_G S l D sz0) (ze_E P) km_Mo_fill { frames := 1 + d, cells := 0, slots := 0, locals := 24 + 25 * d } [.ref (S.1 68), .int x0, .int x1] (zs_W S h) (zd_PV S rh)) (h : zs_H) (x1 : Int32) (x2 : Int32) {rh : zs_H} (e : g_Mo_fill r_Mo_fill h x1 x2 = some rh) : zk_Sp (zs_G S l D sz0) (ze_E P) km_Mo_fill { frames := 1 + (d + 1), cells := 0, slots := 0, locals := 24 + 25 * (d + 1) } [.ref (S.1 68), .int x1, .int x2] (zs_W S h) (zd_PV S rh) := by
  refine zk_met ku_Mo_fill (Nat.le_of_ble_eq_true rfl) (ze_Em P) ?_
  intro X C hR
  refine zk_lvs (lv' := [(0, .ref (S.1 68)), (1, .int x1), (2, .int x2)]) [0, 1, 2] rfl ?_
  unfold g_Mo_fill at e
  refine zk_aload_n C kd_Mo_fill_0 rfl 0 rfl rfl ?_
  refine zs_get (v := .ref (S.1 90)) C 68 40 rfl rfl rfl rfl ki_Mo (by decide) kw1723 kd_Mo_fill_1 rfl ?_
  refine zk_iload_n C kd_Mo_fill_4 rfl 1 rfl rfl ?_
  obtain ⟨q1, e⟩ := zd_g e
  refine zs_iald C 90 rfl (zd_vp q1) kd_Mo_fill_5 rfl ?_
  refine zk_istore_n (lv' := [(3, _), (0, _), (1, _), (2, _)]) C kd_Mo_fill_6 rfl (by decide) rfl rfl ?_
  refine zk_lvs (lv' := [(0, .ref (S.1 68)), (1, .int x1), (2, .int x2), (3, .int (h.2.1 90 x1.toNatClampNeg))]) [1, 2, 3, 0] rfl ?_
  exact zl_Mo_fill_7 C hR hr_Mo_fill zF h x1 x2 (h.2.1 90 x1.toNatClampNeg) e
theorem zs_Mo_fill {l : Launch} {D : va_G} {sz0 : Nat} {S : zs_T} {P : ze_T} (d : Nat) : (∀ (h : zs_H) (x0 : Int32) (x1 : Int32) {rh : zs_H}, f_Mo_fill d h x0 x1 = some rh → zk_Sp (zs_G S l D sz0) (ze_E P) km_Mo_fill { frames := 1 + d, cells := 0, slots := 0, locals := 24 + 25 * d } [.ref (S.1 68), .int x0, .int x1] (zs_W S h) (zd_PV S rh)) := by
  induction d with
  | zero => exact ((fun h x0 x1 _ e => zd_no e))
  | succ d ih =>
    have q0 := @ih
    exact ((fun h x0 x1 _ e => zg_Mo_fill (r_Mo_fill := f_Mo_fill d) q0 h x0 x1 e))
theorem zc_Mo_fill {l : Launch} {D : va_G} {sz0 : Nat} {S : zs_T} {P : ze_T} (h : zs_H) (x0 : Int32) (x1 : Int32) {rh : zs_H} (e : f_Mo_fill 400 h x0 x1 = some rh) : zk_Sp (zs_G S l D sz0) (ze_E P) km_Mo_fill { frames := 1 + 400, cells := 0, slots := 0, locals := 24 + 25 * 400 } [.ref (S.1 68), .int x0, .int x1] (zs_W S h) (zd_PV S rh) := (zs_Mo_fill 400) h x0 x1 e
