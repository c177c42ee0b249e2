theorem zd_its {α : Type} (F : α → α) (b : α) (n : Nat) : zd_it F b (n + 1) = F (zd_it F b n) := rfl
theorem kw1695 : Jvm.Cond.fieldLink "PlantKeeperModel" (312 : Nat) "PlantKeeperModel" "deep" "I" ∈ zk_BW := zk_inT 1695 (by decide +kernel) rfl
theorem kw1708 : Jvm.Cond.fieldLink "PlantKeeperModel" (325 : Nat) "PlantKeeperModel" "operands" "I" ∈ zk_BW := zk_inT 1708 (by decide +kernel) rfl
theorem kw2125 : Jvm.Cond.methodLink "PlantKeeperModel" (302 : Nat) ({ cls := "PlantKeeperModel", name := "isWord", desc := "(I)Z" } : Jvm.MethodName) ∈ zk_BW := zk_inT 2125 (by decide +kernel) rfl
theorem kw2141 : Jvm.Cond.methodLink "PlantKeeperModel" (358 : Nat) ({ cls := "PlantKeeperModel", name := "wantWord", desc := "(I)V" } : Jvm.MethodName) ∈ zk_BW := zk_inT 2141 (by decide +kernel) rfl
theorem kw2143 : Jvm.Cond.instanceMethod ({ cls := "PlantKeeperModel", name := "wantWord", desc := "(I)V" } : Jvm.MethodName) ∈ zk_BW := zk_inT 2143 (by decide +kernel) rfl
theorem kw2144 : Jvm.Cond.code ({ cls := "PlantKeeperModel", name := "wantWord", desc := "(I)V" } : Jvm.MethodName) prog_14_method_25_code (2 : Nat) (Option.none : Option FieldType) ∈ zk_BW := zk_inT 2144 (by decide +kernel) rfl
theorem kw2147 : Jvm.Cond.instanceMethod ({ cls := "PlantKeeperModel", name := "ladder", desc := "(I)V" } : Jvm.MethodName) ∈ zk_BW := zk_inT 2147 (by decide +kernel) rfl
theorem kw2148 : Jvm.Cond.code ({ cls := "PlantKeeperModel", name := "ladder", desc := "(I)V" } : Jvm.MethodName) prog_14_method_59_code (4 : Nat) (Option.none : Option FieldType) ∈ zk_BW := zk_inT 2148 (by decide +kernel) rfl
theorem kw2149 : Jvm.Cond.methodLink "PlantKeeperModel" (436 : Nat) ({ cls := "PlantKeeperModel", name := "row", desc := "(I)V" } : Jvm.MethodName) ∈ zk_BW := zk_inT 2149 (by decide +kernel) rfl
theorem kw2151 : Jvm.Cond.instanceMethod ({ cls := "PlantKeeperModel", name := "row", desc := "(I)V" } : Jvm.MethodName) ∈ zk_BW := zk_inT 2151 (by decide +kernel) rfl
theorem kw2152 : Jvm.Cond.code ({ cls := "PlantKeeperModel", name := "row", desc := "(I)V" } : Jvm.MethodName) prog_14_method_60_code (4 : Nat) (Option.none : Option FieldType) ∈ zk_BW := zk_inT 2152 (by decide +kernel) rfl
theorem kw2153 : Jvm.Cond.methodLink "PlantKeeperModel" (439 : Nat) ({ cls := "PlantKeeperModel", name := "readCell", desc := "(I)V" } : Jvm.MethodName) ∈ zk_BW := zk_inT 2153 (by decide +kernel) rfl
theorem kw2175 : Jvm.Cond.instanceMethod ({ cls := "PlantKeeperModel", name := "open", desc := "()V" } : Jvm.MethodName) ∈ zk_BW := zk_inT 2175 (by decide +kernel) rfl
theorem kw2176 : Jvm.Cond.code ({ cls := "PlantKeeperModel", name := "open", desc := "()V" } : Jvm.MethodName) prog_14_method_27_code (1 : Nat) (Option.none : Option FieldType) ∈ zk_BW := zk_inT 2176 (by decide +kernel) rfl
theorem kw2187 : Jvm.Cond.instanceMethod ({ cls := "PlantKeeperModel", name := "next2", desc := "()V" } : Jvm.MethodName) ∈ zk_BW := zk_inT 2187 (by decide +kernel) rfl
theorem kw2188 : Jvm.Cond.code ({ cls := "PlantKeeperModel", name := "next2", desc := "()V" } : Jvm.MethodName) prog_14_method_52_code (1 : Nat) (Option.none : Option FieldType) ∈ zk_BW := zk_inT 2188 (by decide +kernel) rfl
theorem kw2191 : Jvm.Cond.instanceMethod ({ cls := "PlantKeeperModel", name := "keep", desc := "(I)V" } : Jvm.MethodName) ∈ zk_BW := zk_inT 2191 (by decide +kernel) rfl
theorem kw2192 : Jvm.Cond.code ({ cls := "PlantKeeperModel", name := "keep", desc := "(I)V" } : Jvm.MethodName) prog_14_method_54_code (2 : Nat) (Option.none : Option FieldType) ∈ zk_BW := zk_inT 2192 (by decide +kernel) rfl
theorem kw2211 : Jvm.Cond.instanceMethod ({ cls := "PlantKeeperModel", name := "signAt", desc := "()I" } : Jvm.MethodName) ∈ zk_BW := zk_inT 2211 (by decide +kernel) rfl
theorem kw2212 : Jvm.Cond.code ({ cls := "PlantKeeperModel", name := "signAt", desc := "()I" } : Jvm.MethodName) prog_14_method_50_code (1 : Nat) (Option.some FieldType.int) ∈ zk_BW := zk_inT 2212 (by decide +kernel) rfl
theorem kw2213 : Jvm.Cond.methodLink "PlantKeeperModel" (417 : Nat) ({ cls := "PlantKeeperModel", name := "split", desc := "(II)I" } : Jvm.MethodName) ∈ zk_BW := zk_inT 2213 (by decide +kernel) rfl
theorem kw2215 : Jvm.Cond.instanceMethod ({ cls := "PlantKeeperModel", name := "split", desc := "(II)I" } : Jvm.MethodName) ∈ zk_BW := zk_inT 2215 (by decide +kernel) rfl
theorem kw2216 : Jvm.Cond.code ({ cls := "PlantKeeperModel", name := "split", desc := "(II)I" } : Jvm.MethodName) prog_14_method_53_code (5 : Nat) (Option.some FieldType.int) ∈ zk_BW := zk_inT 2216 (by decide +kernel) rfl
theorem kw2217 : Jvm.Cond.methodLink "PlantKeeperModel" (421 : Nat) ({ cls := "PlantKeeperModel", name := "closeness", desc := "(I)I" } : Jvm.MethodName) ∈ zk_BW := zk_inT 2217 (by decide +kernel) rfl
theorem kw2218 : Jvm.Cond.static ({ cls := "PlantKeeperModel", name := "closeness", desc := "(I)I" } : Jvm.MethodName) ∈ zk_BW := zk_inT 2218 (by decide +kernel) rfl
theorem kw2219 : Jvm.Cond.code ({ cls := "PlantKeeperModel", name := "closeness", desc := "(I)I" } : Jvm.MethodName) prog_14_method_49_code (1 : Nat) (Option.some FieldType.int) ∈ zk_BW := zk_inT 2219 (by decide +kernel) rfl
abbrev kc_Mo_closeness : ByteArray := prog_14_method_49_code
def km_Mo_closeness : zk_MT := (⟨"PlantKeeperModel", "closeness", "(I)I"⟩, kc_Mo_closeness, 1, some .int, 1)
theorem ku_Mo_closeness : zk_My km_Mo_closeness := ⟨kw2219, kw17, by decide, by decide, by decide, by decide +kernel⟩
theorem ks_Mo_closeness : Cond.static km_Mo_closeness.1 ∈ zk_BW := kw2218
abbrev kc_Mo_keep : ByteArray := prog_14_method_54_code
def km_Mo_keep : zk_MT := (⟨"PlantKeeperModel", "keep", "(I)V"⟩, kc_Mo_keep, 2, none, 1)
theorem ku_Mo_keep : zk_My km_Mo_keep := ⟨kw2192, kw17, by decide, by decide, by decide, by decide +kernel⟩
theorem kv_Mo_keep : zk_Mv km_Mo_keep := ⟨kw2191, zk_inS 191 (q := (⟨"PlantKeeperModel", "keep", "(I)V"⟩, 96)) (by decide +kernel)⟩
abbrev kc_Mo_ladder : ByteArray := prog_14_method_59_code
def km_Mo_ladder : zk_MT := (⟨"PlantKeeperModel", "ladder", "(I)V"⟩, kc_Mo_ladder, 4, none, 1)
theorem ku_Mo_ladder : zk_My km_Mo_ladder := ⟨kw2148, kw17, by decide, by decide, by decide, by decide +kernel⟩
theorem kv_Mo_ladder : zk_Mv km_Mo_ladder := ⟨kw2147, zk_inS 180 (q := (⟨"PlantKeeperModel", "ladder", "(I)V"⟩, 96)) (by decide +kernel)⟩
abbrev kc_Mo_next2 : ByteArray := prog_14_method_52_code
def km_Mo_next2 : zk_MT := (⟨"PlantKeeperModel", "next2", "()V"⟩, kc_Mo_next2, 1, none, 0)
theorem ku_Mo_next2 : zk_My km_Mo_next2 := ⟨kw2188, kw17, by decide, by decide, by decide, by decide +kernel⟩
theorem kv_Mo_next2 : zk_Mv km_Mo_next2 := ⟨kw2187, zk_inS 190 (q := (⟨"PlantKeeperModel", "next2", "()V"⟩, 96)) (by decide +kernel)⟩
abbrev kc_Mo_open : ByteArray := prog_14_method_27_code
def km_Mo_open : zk_MT := (⟨"PlantKeeperModel", "open", "()V"⟩, kc_Mo_open, 1, none, 0)
theorem ku_Mo_open : zk_My km_Mo_open := ⟨kw2176, kw17, by decide, by decide, by decide, by decide +kernel⟩
theorem kv_Mo_open : zk_Mv km_Mo_open := ⟨kw2175, zk_inS 187 (q := (⟨"PlantKeeperModel", "open", "()V"⟩, 96)) (by decide +kernel)⟩
abbrev kc_Mo_row : ByteArray := prog_14_method_60_code
def km_Mo_row : zk_MT := (⟨"PlantKeeperModel", "row", "(I)V"⟩, kc_Mo_row, 4, none, 1)
theorem ku_Mo_row : zk_My km_Mo_row := ⟨kw2152, kw17, by decide, by decide, by decide, by decide +kernel⟩
theorem kv_Mo_row : zk_Mv km_Mo_row := ⟨kw2151, zk_inS 181 (q := (⟨"PlantKeeperModel", "row", "(I)V"⟩, 96)) (by decide +kernel)⟩
abbrev kc_Mo_signAt : ByteArray := prog_14_method_50_code
def km_Mo_signAt : zk_MT := (⟨"PlantKeeperModel", "signAt", "()I"⟩, kc_Mo_signAt, 1, some .int, 0)
theorem ku_Mo_signAt : zk_My km_Mo_signAt := ⟨kw2212, kw17, by decide, by decide, by decide, by decide +kernel⟩
theorem kv_Mo_signAt : zk_Mv km_Mo_signAt := ⟨kw2211, zk_inS 196 (q := (⟨"PlantKeeperModel", "signAt", "()I"⟩, 96)) (by decide +kernel)⟩
abbrev kc_Mo_split : ByteArray := prog_14_method_53_code
def km_Mo_split : zk_MT := (⟨"PlantKeeperModel", "split", "(II)I"⟩, kc_Mo_split, 5, some .int, 2)
theorem ku_Mo_split : zk_My km_Mo_split := ⟨kw2216, kw17, by decide, by decide, by decide, by decide +kernel⟩
theorem kv_Mo_split : zk_Mv km_Mo_split := ⟨kw2215, zk_inS 197 (q := (⟨"PlantKeeperModel", "split", "(II)I"⟩, 96)) (by decide +kernel)⟩
abbrev kc_Mo_wantWord : ByteArray := prog_14_method_25_code
def km_Mo_wantWord : zk_MT := (⟨"PlantKeeperModel", "wantWord", "(I)V"⟩, kc_Mo_wantWord, 2, none, 1)
theorem ku_Mo_wantWord : zk_My km_Mo_wantWord := ⟨kw2144, kw17, by decide, by decide, by decide, by decide +kernel⟩
theorem kv_Mo_wantWord : zk_Mv km_Mo_wantWord := ⟨kw2143, zk_inS 179 (q := (⟨"PlantKeeperModel", "wantWord", "(I)V"⟩, 96)) (by decide +kernel)⟩
theorem kd_Mo_closeness_0 : decode kc_Mo_closeness 0 = .ok (.iload_n 0, 1) := by decide +kernel
theorem kd_Mo_closeness_1 : decode kc_Mo_closeness 1 = .ok (.ifCond .ge 7, 3) := by decide +kernel
theorem kd_Mo_closeness_4 : decode kc_Mo_closeness 4 = .ok (.iconst 0, 1) := by decide +kernel
theorem kd_Mo_closeness_5 : decode kc_Mo_closeness 5 = .ok (.goto 46, 3) := by decide +kernel
theorem kd_Mo_closeness_8 : decode kc_Mo_closeness 8 = .ok (.iload_n 0, 1) := by decide +kernel
theorem kd_Mo_closeness_9 : decode kc_Mo_closeness 9 = .ok (.iconst 3, 1) := by decide +kernel
theorem kd_Mo_closeness_10 : decode kc_Mo_closeness 10 = .ok (.if_icmp .ge 9, 3) := by decide +kernel
theorem kd_Mo_closeness_13 : decode kc_Mo_closeness 13 = .ok (.iload_n 0, 1) := by decide +kernel
theorem kd_Mo_closeness_14 : decode kc_Mo_closeness 14 = .ok (.iconst 1, 1) := by decide +kernel
theorem kd_Mo_closeness_15 : decode kc_Mo_closeness 15 = .ok (.iadd, 1) := by decide +kernel
theorem kd_Mo_closeness_16 : decode kc_Mo_closeness 16 = .ok (.goto 35, 3) := by decide +kernel
theorem kd_Mo_closeness_19 : decode kc_Mo_closeness 19 = .ok (.iload_n 0, 1) := by decide +kernel
theorem kd_Mo_closeness_20 : decode kc_Mo_closeness 20 = .ok (.iconst 5, 1) := by decide +kernel
theorem kd_Mo_closeness_21 : decode kc_Mo_closeness 21 = .ok (.if_icmp .ge 7, 3) := by decide +kernel
theorem kd_Mo_closeness_24 : decode kc_Mo_closeness 24 = .ok (.iconst 4, 1) := by decide +kernel
theorem kd_Mo_closeness_25 : decode kc_Mo_closeness 25 = .ok (.goto 26, 3) := by decide +kernel
theorem kd_Mo_closeness_28 : decode kc_Mo_closeness 28 = .ok (.iload_n 0, 1) := by decide +kernel
theorem kd_Mo_closeness_29 : decode kc_Mo_closeness 29 = .ok (.bipush 9, 2) := by decide +kernel
theorem kd_Mo_closeness_31 : decode kc_Mo_closeness 31 = .ok (.if_icmp .ge 7, 3) := by decide +kernel
theorem kd_Mo_closeness_34 : decode kc_Mo_closeness 34 = .ok (.iconst 5, 1) := by decide +kernel
theorem kd_Mo_closeness_35 : decode kc_Mo_closeness 35 = .ok (.goto 16, 3) := by decide +kernel
theorem kd_Mo_closeness_38 : decode kc_Mo_closeness 38 = .ok (.iload_n 0, 1) := by decide +kernel
theorem kd_Mo_closeness_39 : decode kc_Mo_closeness 39 = .ok (.bipush 11, 2) := by decide +kernel
theorem kd_Mo_closeness_41 : decode kc_Mo_closeness 41 = .ok (.if_icmp .ge 8, 3) := by decide +kernel
theorem kd_Mo_closeness_44 : decode kc_Mo_closeness 44 = .ok (.bipush 6, 2) := by decide +kernel
theorem kd_Mo_closeness_46 : decode kc_Mo_closeness 46 = .ok (.goto 5, 3) := by decide +kernel
theorem kd_Mo_closeness_49 : decode kc_Mo_closeness 49 = .ok (.bipush 7, 2) := by decide +kernel
theorem kd_Mo_closeness_51 : decode kc_Mo_closeness 51 = .ok (.ireturn, 1) := by decide +kernel
theorem kd_Mo_keep_0 : decode kc_Mo_keep 0 = .ok (.aload_n 0, 1) := by decide +kernel
theorem kd_Mo_keep_1 : decode kc_Mo_keep 1 = .ok (.getfield 49, 3) := by decide +kernel
theorem kd_Mo_keep_4 : decode kc_Mo_keep 4 = .ok (.aload_n 0, 1) := by decide +kernel
theorem kd_Mo_keep_5 : decode kc_Mo_keep 5 = .ok (.getfield 325, 3) := by decide +kernel
theorem kd_Mo_keep_8 : decode kc_Mo_keep 8 = .ok (.iload_n 1, 1) := by decide +kernel
theorem kd_Mo_keep_9 : decode kc_Mo_keep 9 = .ok (.iastore, 1) := by decide +kernel
theorem kd_Mo_keep_10 : decode kc_Mo_keep 10 = .ok (.aload_n 0, 1) := by decide +kernel
theorem kd_Mo_keep_11 : decode kc_Mo_keep 11 = .ok (.dup, 1) := by decide +kernel
theorem kd_Mo_keep_12 : decode kc_Mo_keep 12 = .ok (.getfield 325, 3) := by decide +kernel
theorem kd_Mo_keep_15 : decode kc_Mo_keep 15 = .ok (.iconst 1, 1) := by decide +kernel
theorem kd_Mo_keep_16 : decode kc_Mo_keep 16 = .ok (.iadd, 1) := by decide +kernel
theorem kd_Mo_keep_17 : decode kc_Mo_keep 17 = .ok (.putfield 325, 3) := by decide +kernel
theorem kd_Mo_keep_20 : decode kc_Mo_keep 20 = .ok (.return_, 1) := by decide +kernel
theorem kd_Mo_ladder_0 : decode kc_Mo_ladder 0 = .ok (.aload_n 0, 1) := by decide +kernel
theorem kd_Mo_ladder_1 : decode kc_Mo_ladder 1 = .ok (.iload_n 1, 1) := by decide +kernel
theorem kd_Mo_ladder_2 : decode kc_Mo_ladder 2 = .ok (.bipush 22, 2) := by decide +kernel
theorem kd_Mo_ladder_4 : decode kc_Mo_ladder 4 = .ok (.aload_n 0, 1) := by decide +kernel
theorem kd_Mo_ladder_5 : decode kc_Mo_ladder 5 = .ok (.getfield 214, 3) := by decide +kernel
theorem kd_Mo_ladder_8 : decode kc_Mo_ladder 8 = .ok (.iconst 0, 1) := by decide +kernel
theorem kd_Mo_ladder_9 : decode kc_Mo_ladder 9 = .ok (.invokevirtual 342, 3) := by decide +kernel
theorem kd_Mo_ladder_12 : decode kc_Mo_ladder 12 = .ok (.istore_n 2, 1) := by decide +kernel
theorem kd_Mo_ladder_13 : decode kc_Mo_ladder 13 = .ok (.aload_n 0, 1) := by decide +kernel
theorem kd_Mo_ladder_14 : decode kc_Mo_ladder 14 = .ok (.invokevirtual 296, 3) := by decide +kernel
theorem kd_Mo_ladder_17 : decode kc_Mo_ladder 17 = .ok (.aload_n 0, 1) := by decide +kernel
theorem kd_Mo_ladder_18 : decode kc_Mo_ladder 18 = .ok (.bipush 39, 2) := by decide +kernel
theorem kd_Mo_ladder_20 : decode kc_Mo_ladder 20 = .ok (.invokevirtual 302, 3) := by decide +kernel
theorem kd_Mo_ladder_23 : decode kc_Mo_ladder 23 = .ok (.ifCond .eq 58, 3) := by decide +kernel
theorem kd_Mo_ladder_26 : decode kc_Mo_ladder 26 = .ok (.aload_n 0, 1) := by decide +kernel
theorem kd_Mo_ladder_27 : decode kc_Mo_ladder 27 = .ok (.iload_n 2, 1) := by decide +kernel
theorem kd_Mo_ladder_28 : decode kc_Mo_ladder 28 = .ok (.bipush 23, 2) := by decide +kernel
theorem kd_Mo_ladder_30 : decode kc_Mo_ladder 30 = .ok (.aload_n 0, 1) := by decide +kernel
theorem kd_Mo_ladder_31 : decode kc_Mo_ladder 31 = .ok (.getfield 214, 3) := by decide +kernel
theorem kd_Mo_ladder_34 : decode kc_Mo_ladder 34 = .ok (.iconst 0, 1) := by decide +kernel
theorem kd_Mo_ladder_35 : decode kc_Mo_ladder 35 = .ok (.invokevirtual 342, 3) := by decide +kernel
theorem kd_Mo_ladder_38 : decode kc_Mo_ladder 38 = .ok (.istore_n 3, 1) := by decide +kernel
theorem kd_Mo_ladder_39 : decode kc_Mo_ladder 39 = .ok (.aload_n 0, 1) := by decide +kernel
theorem kd_Mo_ladder_40 : decode kc_Mo_ladder 40 = .ok (.invokevirtual 296, 3) := by decide +kernel
theorem kd_Mo_ladder_43 : decode kc_Mo_ladder 43 = .ok (.aload_n 0, 1) := by decide +kernel
theorem kd_Mo_ladder_44 : decode kc_Mo_ladder 44 = .ok (.iload_n 3, 1) := by decide +kernel
theorem kd_Mo_ladder_45 : decode kc_Mo_ladder 45 = .ok (.invokevirtual 436, 3) := by decide +kernel
theorem kd_Mo_ladder_48 : decode kc_Mo_ladder 48 = .ok (.aload_n 0, 1) := by decide +kernel
theorem kd_Mo_ladder_49 : decode kc_Mo_ladder 49 = .ok (.getfield 201, 3) := by decide +kernel
theorem kd_Mo_ladder_52 : decode kc_Mo_ladder 52 = .ok (.ifCond .ne 20, 3) := by decide +kernel
theorem kd_Mo_ladder_55 : decode kc_Mo_ladder 55 = .ok (.aload_n 0, 1) := by decide +kernel
theorem kd_Mo_ladder_56 : decode kc_Mo_ladder 56 = .ok (.bipush 40, 2) := by decide +kernel
theorem kd_Mo_ladder_58 : decode kc_Mo_ladder 58 = .ok (.invokevirtual 302, 3) := by decide +kernel
theorem kd_Mo_ladder_61 : decode kc_Mo_ladder 61 = .ok (.ifCond .ne 11, 3) := by decide +kernel
theorem kd_Mo_ladder_64 : decode kc_Mo_ladder 64 = .ok (.aload_n 0, 1) := by decide +kernel
theorem kd_Mo_ladder_65 : decode kc_Mo_ladder 65 = .ok (.iload_n 3, 1) := by decide +kernel
theorem kd_Mo_ladder_66 : decode kc_Mo_ladder 66 = .ok (.invokevirtual 436, 3) := by decide +kernel
theorem kd_Mo_ladder_69 : decode kc_Mo_ladder 69 = .ok (.goto (-21), 3) := by decide +kernel
theorem kd_Mo_ladder_72 : decode kc_Mo_ladder 72 = .ok (.aload_n 0, 1) := by decide +kernel
theorem kd_Mo_ladder_73 : decode kc_Mo_ladder 73 = .ok (.bipush 40, 2) := by decide +kernel
theorem kd_Mo_ladder_75 : decode kc_Mo_ladder 75 = .ok (.invokevirtual 358, 3) := by decide +kernel
theorem kd_Mo_ladder_78 : decode kc_Mo_ladder 78 = .ok (.goto (-61), 3) := by decide +kernel
theorem kd_Mo_ladder_81 : decode kc_Mo_ladder 81 = .ok (.aload_n 0, 1) := by decide +kernel
theorem kd_Mo_ladder_82 : decode kc_Mo_ladder 82 = .ok (.bipush 38, 2) := by decide +kernel
theorem kd_Mo_ladder_84 : decode kc_Mo_ladder 84 = .ok (.invokevirtual 358, 3) := by decide +kernel
theorem kd_Mo_ladder_87 : decode kc_Mo_ladder 87 = .ok (.return_, 1) := by decide +kernel
theorem kd_Mo_next2_0 : decode kc_Mo_next2 0 = .ok (.aload_n 0, 1) := by decide +kernel
theorem kd_Mo_next2_1 : decode kc_Mo_next2 1 = .ok (.getfield 201, 3) := by decide +kernel
theorem kd_Mo_next2_4 : decode kc_Mo_next2 4 = .ok (.ifCond .ne 7, 3) := by decide +kernel
theorem kd_Mo_next2_7 : decode kc_Mo_next2 7 = .ok (.aload_n 0, 1) := by decide +kernel
theorem kd_Mo_next2_8 : decode kc_Mo_next2 8 = .ok (.invokevirtual 296, 3) := by decide +kernel
theorem kd_Mo_next2_11 : decode kc_Mo_next2 11 = .ok (.return_, 1) := by decide +kernel
theorem kd_Mo_open_0 : decode kc_Mo_open 0 = .ok (.aload_n 0, 1) := by decide +kernel
theorem kd_Mo_open_1 : decode kc_Mo_open 1 = .ok (.getfield 201, 3) := by decide +kernel
theorem kd_Mo_open_4 : decode kc_Mo_open 4 = .ok (.ifCond .ne 22, 3) := by decide +kernel
theorem kd_Mo_open_7 : decode kc_Mo_open 7 = .ok (.aload_n 0, 1) := by decide +kernel
theorem kd_Mo_open_8 : decode kc_Mo_open 8 = .ok (.getfield 312, 3) := by decide +kernel
theorem kd_Mo_open_11 : decode kc_Mo_open 11 = .ok (.bipush 60, 2) := by decide +kernel
theorem kd_Mo_open_13 : decode kc_Mo_open 13 = .ok (.if_icmp .ne 13, 3) := by decide +kernel
theorem kd_Mo_open_16 : decode kc_Mo_open 16 = .ok (.aload_n 0, 1) := by decide +kernel
theorem kd_Mo_open_17 : decode kc_Mo_open 17 = .ok (.bipush 7, 2) := by decide +kernel
theorem kd_Mo_open_19 : decode kc_Mo_open 19 = .ok (.aload_n 0, 1) := by decide +kernel
theorem kd_Mo_open_20 : decode kc_Mo_open 20 = .ok (.getfield 214, 3) := by decide +kernel
theorem kd_Mo_open_23 : decode kc_Mo_open 23 = .ok (.invokevirtual 204, 3) := by decide +kernel
theorem kd_Mo_open_26 : decode kc_Mo_open 26 = .ok (.aload_n 0, 1) := by decide +kernel
theorem kd_Mo_open_27 : decode kc_Mo_open 27 = .ok (.dup, 1) := by decide +kernel
theorem kd_Mo_open_28 : decode kc_Mo_open 28 = .ok (.getfield 312, 3) := by decide +kernel
theorem kd_Mo_open_31 : decode kc_Mo_open 31 = .ok (.iconst 1, 1) := by decide +kernel
theorem kd_Mo_open_32 : decode kc_Mo_open 32 = .ok (.iadd, 1) := by decide +kernel
theorem kd_Mo_open_33 : decode kc_Mo_open 33 = .ok (.putfield 312, 3) := by decide +kernel
theorem kd_Mo_open_36 : decode kc_Mo_open 36 = .ok (.return_, 1) := by decide +kernel
theorem kd_Mo_row_0 : decode kc_Mo_row 0 = .ok (.aload_n 0, 1) := by decide +kernel
theorem kd_Mo_row_1 : decode kc_Mo_row 1 = .ok (.iload_n 1, 1) := by decide +kernel
theorem kd_Mo_row_2 : decode kc_Mo_row 2 = .ok (.bipush 24, 2) := by decide +kernel
theorem kd_Mo_row_4 : decode kc_Mo_row 4 = .ok (.aload_n 0, 1) := by decide +kernel
theorem kd_Mo_row_5 : decode kc_Mo_row 5 = .ok (.getfield 214, 3) := by decide +kernel
theorem kd_Mo_row_8 : decode kc_Mo_row 8 = .ok (.iconst 0, 1) := by decide +kernel
theorem kd_Mo_row_9 : decode kc_Mo_row 9 = .ok (.invokevirtual 342, 3) := by decide +kernel
theorem kd_Mo_row_12 : decode kc_Mo_row 12 = .ok (.istore_n 2, 1) := by decide +kernel
theorem kd_Mo_row_13 : decode kc_Mo_row 13 = .ok (.aload_n 0, 1) := by decide +kernel
theorem kd_Mo_row_14 : decode kc_Mo_row 14 = .ok (.iload_n 2, 1) := by decide +kernel
theorem kd_Mo_row_15 : decode kc_Mo_row 15 = .ok (.invokevirtual 439, 3) := by decide +kernel
theorem kd_Mo_row_18 : decode kc_Mo_row 18 = .ok (.aload_n 0, 1) := by decide +kernel
theorem kd_Mo_row_19 : decode kc_Mo_row 19 = .ok (.getfield 201, 3) := by decide +kernel
theorem kd_Mo_row_22 : decode kc_Mo_row 22 = .ok (.ifCond .ne 46, 3) := by decide +kernel
theorem kd_Mo_row_25 : decode kc_Mo_row 25 = .ok (.aload_n 0, 1) := by decide +kernel
theorem kd_Mo_row_26 : decode kc_Mo_row 26 = .ok (.bipush 59, 2) := by decide +kernel
theorem kd_Mo_row_28 : decode kc_Mo_row 28 = .ok (.invokevirtual 309, 3) := by decide +kernel
theorem kd_Mo_row_31 : decode kc_Mo_row 31 = .ok (.ifCond .ne 37, 3) := by decide +kernel
theorem kd_Mo_row_34 : decode kc_Mo_row 34 = .ok (.aload_n 0, 1) := by decide +kernel
theorem kd_Mo_row_35 : decode kc_Mo_row 35 = .ok (.bipush 124, 2) := by decide +kernel
theorem kd_Mo_row_37 : decode kc_Mo_row 37 = .ok (.invokevirtual 309, 3) := by decide +kernel
theorem kd_Mo_row_40 : decode kc_Mo_row 40 = .ok (.ifCond .eq 20, 3) := by decide +kernel
theorem kd_Mo_row_43 : decode kc_Mo_row 43 = .ok (.aload_n 0, 1) := by decide +kernel
theorem kd_Mo_row_44 : decode kc_Mo_row 44 = .ok (.iload_n 2, 1) := by decide +kernel
theorem kd_Mo_row_45 : decode kc_Mo_row 45 = .ok (.bipush 29, 2) := by decide +kernel
theorem kd_Mo_row_47 : decode kc_Mo_row 47 = .ok (.aload_n 0, 1) := by decide +kernel
theorem kd_Mo_row_48 : decode kc_Mo_row 48 = .ok (.getfield 214, 3) := by decide +kernel
theorem kd_Mo_row_51 : decode kc_Mo_row 51 = .ok (.iconst 0, 1) := by decide +kernel
theorem kd_Mo_row_52 : decode kc_Mo_row 52 = .ok (.invokevirtual 342, 3) := by decide +kernel
theorem kd_Mo_row_55 : decode kc_Mo_row 55 = .ok (.istore_n 3, 1) := by decide +kernel
theorem kd_Mo_row_56 : decode kc_Mo_row 56 = .ok (.aload_n 0, 1) := by decide +kernel
theorem kd_Mo_row_57 : decode kc_Mo_row 57 = .ok (.invokevirtual 296, 3) := by decide +kernel
theorem kd_Mo_row_60 : decode kc_Mo_row 60 = .ok (.aload_n 0, 1) := by decide +kernel
theorem kd_Mo_row_61 : decode kc_Mo_row 61 = .ok (.iload_n 2, 1) := by decide +kernel
theorem kd_Mo_row_62 : decode kc_Mo_row 62 = .ok (.invokevirtual 439, 3) := by decide +kernel
theorem kd_Mo_row_65 : decode kc_Mo_row 65 = .ok (.goto (-47), 3) := by decide +kernel
theorem kd_Mo_row_68 : decode kc_Mo_row 68 = .ok (.aload_n 0, 1) := by decide +kernel
theorem kd_Mo_row_69 : decode kc_Mo_row 69 = .ok (.bipush 59, 2) := by decide +kernel
theorem kd_Mo_row_71 : decode kc_Mo_row 71 = .ok (.invokevirtual 349, 3) := by decide +kernel
theorem kd_Mo_row_74 : decode kc_Mo_row 74 = .ok (.return_, 1) := by decide +kernel
theorem kd_Mo_signAt_0 : decode kc_Mo_signAt 0 = .ok (.aload_n 0, 1) := by decide +kernel
theorem kd_Mo_signAt_1 : decode kc_Mo_signAt 1 = .ok (.getfield 201, 3) := by decide +kernel
theorem kd_Mo_signAt_4 : decode kc_Mo_signAt 4 = .ok (.ifCond .le 5, 3) := by decide +kernel
theorem kd_Mo_signAt_7 : decode kc_Mo_signAt 7 = .ok (.iconst (-1), 1) := by decide +kernel
theorem kd_Mo_signAt_8 : decode kc_Mo_signAt 8 = .ok (.ireturn, 1) := by decide +kernel
theorem kd_Mo_signAt_9 : decode kc_Mo_signAt 9 = .ok (.aload_n 0, 1) := by decide +kernel
theorem kd_Mo_signAt_10 : decode kc_Mo_signAt 10 = .ok (.getfield 217, 3) := by decide +kernel
theorem kd_Mo_signAt_13 : decode kc_Mo_signAt 13 = .ok (.iconst 2, 1) := by decide +kernel
theorem kd_Mo_signAt_14 : decode kc_Mo_signAt 14 = .ok (.if_icmp .ne 58, 3) := by decide +kernel
theorem kd_Mo_signAt_17 : decode kc_Mo_signAt 17 = .ok (.aload_n 0, 1) := by decide +kernel
theorem kd_Mo_signAt_18 : decode kc_Mo_signAt 18 = .ok (.getfield 242, 3) := by decide +kernel
theorem kd_Mo_signAt_21 : decode kc_Mo_signAt 21 = .ok (.bipush 30, 2) := by decide +kernel
theorem kd_Mo_signAt_23 : decode kc_Mo_signAt 23 = .ok (.if_icmp .ne 7, 3) := by decide +kernel
theorem kd_Mo_signAt_26 : decode kc_Mo_signAt 26 = .ok (.iconst 0, 1) := by decide +kernel
theorem kd_Mo_signAt_27 : decode kc_Mo_signAt 27 = .ok (.goto 44, 3) := by decide +kernel
theorem kd_Mo_signAt_30 : decode kc_Mo_signAt 30 = .ok (.aload_n 0, 1) := by decide +kernel
theorem kd_Mo_signAt_31 : decode kc_Mo_signAt 31 = .ok (.getfield 242, 3) := by decide +kernel
theorem kd_Mo_signAt_34 : decode kc_Mo_signAt 34 = .ok (.bipush 31, 2) := by decide +kernel
theorem kd_Mo_signAt_36 : decode kc_Mo_signAt 36 = .ok (.if_icmp .ne 7, 3) := by decide +kernel
theorem kd_Mo_signAt_39 : decode kc_Mo_signAt 39 = .ok (.iconst 1, 1) := by decide +kernel
theorem kd_Mo_signAt_40 : decode kc_Mo_signAt 40 = .ok (.goto 31, 3) := by decide +kernel
theorem kd_Mo_signAt_43 : decode kc_Mo_signAt 43 = .ok (.aload_n 0, 1) := by decide +kernel
theorem kd_Mo_signAt_44 : decode kc_Mo_signAt 44 = .ok (.getfield 242, 3) := by decide +kernel
theorem kd_Mo_signAt_47 : decode kc_Mo_signAt 47 = .ok (.bipush 32, 2) := by decide +kernel
theorem kd_Mo_signAt_49 : decode kc_Mo_signAt 49 = .ok (.if_icmp .ne 7, 3) := by decide +kernel
theorem kd_Mo_signAt_52 : decode kc_Mo_signAt 52 = .ok (.iconst 2, 1) := by decide +kernel
theorem kd_Mo_signAt_53 : decode kc_Mo_signAt 53 = .ok (.goto 18, 3) := by decide +kernel
theorem kd_Mo_signAt_56 : decode kc_Mo_signAt 56 = .ok (.aload_n 0, 1) := by decide +kernel
theorem kd_Mo_signAt_57 : decode kc_Mo_signAt 57 = .ok (.getfield 242, 3) := by decide +kernel
theorem kd_Mo_signAt_60 : decode kc_Mo_signAt 60 = .ok (.bipush 33, 2) := by decide +kernel
theorem kd_Mo_signAt_62 : decode kc_Mo_signAt 62 = .ok (.if_icmp .ne 8, 3) := by decide +kernel
theorem kd_Mo_signAt_65 : decode kc_Mo_signAt 65 = .ok (.bipush 13, 2) := by decide +kernel
theorem kd_Mo_signAt_67 : decode kc_Mo_signAt 67 = .ok (.goto 4, 3) := by decide +kernel
theorem kd_Mo_signAt_70 : decode kc_Mo_signAt 70 = .ok (.iconst (-1), 1) := by decide +kernel
theorem kd_Mo_signAt_71 : decode kc_Mo_signAt 71 = .ok (.ireturn, 1) := by decide +kernel
theorem kd_Mo_signAt_72 : decode kc_Mo_signAt 72 = .ok (.aload_n 0, 1) := by decide +kernel
theorem kd_Mo_signAt_73 : decode kc_Mo_signAt 73 = .ok (.getfield 217, 3) := by decide +kernel
theorem kd_Mo_signAt_76 : decode kc_Mo_signAt 76 = .ok (.iconst 5, 1) := by decide +kernel
theorem kd_Mo_signAt_77 : decode kc_Mo_signAt 77 = .ok (.if_icmp .eq 7, 3) := by decide +kernel
theorem kd_Mo_signAt_80 : decode kc_Mo_signAt 80 = .ok (.iconst (-1), 1) := by decide +kernel
theorem kd_Mo_signAt_81 : decode kc_Mo_signAt 81 = .ok (.goto 157, 3) := by decide +kernel
theorem kd_Mo_signAt_84 : decode kc_Mo_signAt 84 = .ok (.aload_n 0, 1) := by decide +kernel
theorem kd_Mo_signAt_85 : decode kc_Mo_signAt 85 = .ok (.getfield 242, 3) := by decide +kernel
theorem kd_Mo_signAt_88 : decode kc_Mo_signAt 88 = .ok (.bipush 38, 2) := by decide +kernel
theorem kd_Mo_signAt_90 : decode kc_Mo_signAt 90 = .ok (.if_icmp .ne 7, 3) := by decide +kernel
theorem kd_Mo_signAt_93 : decode kc_Mo_signAt 93 = .ok (.iconst 2, 1) := by decide +kernel
theorem kd_Mo_signAt_94 : decode kc_Mo_signAt 94 = .ok (.goto 144, 3) := by decide +kernel
theorem kd_Mo_signAt_97 : decode kc_Mo_signAt 97 = .ok (.aload_n 0, 1) := by decide +kernel
theorem kd_Mo_signAt_98 : decode kc_Mo_signAt 98 = .ok (.getfield 242, 3) := by decide +kernel
theorem kd_Mo_signAt_101 : decode kc_Mo_signAt 101 = .ok (.bipush 61, 2) := by decide +kernel
theorem kd_Mo_signAt_103 : decode kc_Mo_signAt 103 = .ok (.if_icmp .ne 7, 3) := by decide +kernel
theorem kd_Mo_signAt_106 : decode kc_Mo_signAt 106 = .ok (.iconst 3, 1) := by decide +kernel
theorem kd_Mo_signAt_107 : decode kc_Mo_signAt 107 = .ok (.goto 131, 3) := by decide +kernel
theorem kd_Mo_signAt_110 : decode kc_Mo_signAt 110 = .ok (.aload_n 0, 1) := by decide +kernel
theorem kd_Mo_signAt_111 : decode kc_Mo_signAt 111 = .ok (.getfield 242, 3) := by decide +kernel
theorem kd_Mo_signAt_114 : decode kc_Mo_signAt 114 = .ok (.sipush 260, 3) := by decide +kernel
theorem kd_Mo_signAt_117 : decode kc_Mo_signAt 117 = .ok (.if_icmp .ne 7, 3) := by decide +kernel
theorem kd_Mo_signAt_120 : decode kc_Mo_signAt 120 = .ok (.iconst 4, 1) := by decide +kernel
theorem kd_Mo_signAt_121 : decode kc_Mo_signAt 121 = .ok (.goto 117, 3) := by decide +kernel
theorem kd_Mo_signAt_124 : decode kc_Mo_signAt 124 = .ok (.aload_n 0, 1) := by decide +kernel
theorem kd_Mo_signAt_125 : decode kc_Mo_signAt 125 = .ok (.getfield 242, 3) := by decide +kernel
theorem kd_Mo_signAt_128 : decode kc_Mo_signAt 128 = .ok (.bipush 60, 2) := by decide +kernel
theorem kd_Mo_signAt_130 : decode kc_Mo_signAt 130 = .ok (.if_icmp .ne 7, 3) := by decide +kernel
theorem kd_Mo_signAt_133 : decode kc_Mo_signAt 133 = .ok (.iconst 5, 1) := by decide +kernel
theorem kd_Mo_signAt_134 : decode kc_Mo_signAt 134 = .ok (.goto 104, 3) := by decide +kernel
theorem kd_Mo_signAt_137 : decode kc_Mo_signAt 137 = .ok (.aload_n 0, 1) := by decide +kernel
theorem kd_Mo_signAt_138 : decode kc_Mo_signAt 138 = .ok (.getfield 242, 3) := by decide +kernel
theorem kd_Mo_signAt_141 : decode kc_Mo_signAt 141 = .ok (.bipush 62, 2) := by decide +kernel
theorem kd_Mo_signAt_143 : decode kc_Mo_signAt 143 = .ok (.if_icmp .ne 8, 3) := by decide +kernel
theorem kd_Mo_signAt_146 : decode kc_Mo_signAt 146 = .ok (.bipush 6, 2) := by decide +kernel
theorem kd_Mo_signAt_148 : decode kc_Mo_signAt 148 = .ok (.goto 90, 3) := by decide +kernel
theorem kd_Mo_signAt_151 : decode kc_Mo_signAt 151 = .ok (.aload_n 0, 1) := by decide +kernel
theorem kd_Mo_signAt_152 : decode kc_Mo_signAt 152 = .ok (.getfield 242, 3) := by decide +kernel
theorem kd_Mo_signAt_155 : decode kc_Mo_signAt 155 = .ok (.sipush 258, 3) := by decide +kernel
theorem kd_Mo_signAt_158 : decode kc_Mo_signAt 158 = .ok (.if_icmp .ne 8, 3) := by decide +kernel
theorem kd_Mo_signAt_161 : decode kc_Mo_signAt 161 = .ok (.bipush 7, 2) := by decide +kernel
theorem kd_Mo_signAt_163 : decode kc_Mo_signAt 163 = .ok (.goto 75, 3) := by decide +kernel
theorem kd_Mo_signAt_166 : decode kc_Mo_signAt 166 = .ok (.aload_n 0, 1) := by decide +kernel
theorem kd_Mo_signAt_167 : decode kc_Mo_signAt 167 = .ok (.getfield 242, 3) := by decide +kernel
theorem kd_Mo_signAt_170 : decode kc_Mo_signAt 170 = .ok (.sipush 259, 3) := by decide +kernel
theorem kd_Mo_signAt_173 : decode kc_Mo_signAt 173 = .ok (.if_icmp .ne 8, 3) := by decide +kernel
theorem kd_Mo_signAt_176 : decode kc_Mo_signAt 176 = .ok (.bipush 8, 2) := by decide +kernel
theorem kd_Mo_signAt_178 : decode kc_Mo_signAt 178 = .ok (.goto 60, 3) := by decide +kernel
theorem kd_Mo_signAt_181 : decode kc_Mo_signAt 181 = .ok (.aload_n 0, 1) := by decide +kernel
theorem kd_Mo_signAt_182 : decode kc_Mo_signAt 182 = .ok (.getfield 242, 3) := by decide +kernel
theorem kd_Mo_signAt_185 : decode kc_Mo_signAt 185 = .ok (.bipush 43, 2) := by decide +kernel
theorem kd_Mo_signAt_187 : decode kc_Mo_signAt 187 = .ok (.if_icmp .ne 8, 3) := by decide +kernel
theorem kd_Mo_signAt_190 : decode kc_Mo_signAt 190 = .ok (.bipush 9, 2) := by decide +kernel
theorem kd_Mo_signAt_192 : decode kc_Mo_signAt 192 = .ok (.goto 46, 3) := by decide +kernel
theorem kd_Mo_signAt_195 : decode kc_Mo_signAt 195 = .ok (.aload_n 0, 1) := by decide +kernel
theorem kd_Mo_signAt_196 : decode kc_Mo_signAt 196 = .ok (.getfield 242, 3) := by decide +kernel
theorem kd_Mo_signAt_199 : decode kc_Mo_signAt 199 = .ok (.bipush 45, 2) := by decide +kernel
theorem kd_Mo_signAt_201 : decode kc_Mo_signAt 201 = .ok (.if_icmp .ne 8, 3) := by decide +kernel
theorem kd_Mo_signAt_204 : decode kc_Mo_signAt 204 = .ok (.bipush 10, 2) := by decide +kernel
theorem kd_Mo_signAt_206 : decode kc_Mo_signAt 206 = .ok (.goto 32, 3) := by decide +kernel
theorem kd_Mo_signAt_209 : decode kc_Mo_signAt 209 = .ok (.aload_n 0, 1) := by decide +kernel
theorem kd_Mo_signAt_210 : decode kc_Mo_signAt 210 = .ok (.getfield 242, 3) := by decide +kernel
theorem kd_Mo_signAt_213 : decode kc_Mo_signAt 213 = .ok (.bipush 42, 2) := by decide +kernel
theorem kd_Mo_signAt_215 : decode kc_Mo_signAt 215 = .ok (.if_icmp .ne 8, 3) := by decide +kernel
theorem kd_Mo_signAt_218 : decode kc_Mo_signAt 218 = .ok (.bipush 11, 2) := by decide +kernel
theorem kd_Mo_signAt_220 : decode kc_Mo_signAt 220 = .ok (.goto 18, 3) := by decide +kernel
theorem kd_Mo_signAt_223 : decode kc_Mo_signAt 223 = .ok (.aload_n 0, 1) := by decide +kernel
theorem kd_Mo_signAt_224 : decode kc_Mo_signAt 224 = .ok (.getfield 242, 3) := by decide +kernel
theorem kd_Mo_signAt_227 : decode kc_Mo_signAt 227 = .ok (.bipush 47, 2) := by decide +kernel
theorem kd_Mo_signAt_229 : decode kc_Mo_signAt 229 = .ok (.if_icmp .ne 8, 3) := by decide +kernel
theorem kd_Mo_signAt_232 : decode kc_Mo_signAt 232 = .ok (.bipush 12, 2) := by decide +kernel
theorem kd_Mo_signAt_234 : decode kc_Mo_signAt 234 = .ok (.goto 4, 3) := by decide +kernel
theorem kd_Mo_signAt_237 : decode kc_Mo_signAt 237 = .ok (.iconst (-1), 1) := by decide +kernel
theorem kd_Mo_signAt_238 : decode kc_Mo_signAt 238 = .ok (.ireturn, 1) := by decide +kernel
theorem kd_Mo_split_0 : decode kc_Mo_split 0 = .ok (.iconst (-1), 1) := by decide +kernel
theorem kd_Mo_split_1 : decode kc_Mo_split 1 = .ok (.istore_n 3, 1) := by decide +kernel
theorem kd_Mo_split_2 : decode kc_Mo_split 2 = .ok (.iload_n 1, 1) := by decide +kernel
theorem kd_Mo_split_3 : decode kc_Mo_split 3 = .ok (.istore 4, 2) := by decide +kernel
theorem kd_Mo_split_5 : decode kc_Mo_split 5 = .ok (.iload 4, 2) := by decide +kernel
theorem kd_Mo_split_7 : decode kc_Mo_split 7 = .ok (.iload_n 2, 1) := by decide +kernel
theorem kd_Mo_split_8 : decode kc_Mo_split 8 = .ok (.if_icmp .ge 42, 3) := by decide +kernel
theorem kd_Mo_split_11 : decode kc_Mo_split 11 = .ok (.iload_n 3, 1) := by decide +kernel
theorem kd_Mo_split_12 : decode kc_Mo_split 12 = .ok (.ifCond .lt 25, 3) := by decide +kernel
theorem kd_Mo_split_15 : decode kc_Mo_split 15 = .ok (.aload_n 0, 1) := by decide +kernel
theorem kd_Mo_split_16 : decode kc_Mo_split 16 = .ok (.getfield 52, 3) := by decide +kernel
theorem kd_Mo_split_19 : decode kc_Mo_split 19 = .ok (.iload 4, 2) := by decide +kernel
theorem kd_Mo_split_21 : decode kc_Mo_split 21 = .ok (.iaload, 1) := by decide +kernel
theorem kd_Mo_split_22 : decode kc_Mo_split 22 = .ok (.invokestatic 421, 3) := by decide +kernel
theorem kd_Mo_split_25 : decode kc_Mo_split 25 = .ok (.aload_n 0, 1) := by decide +kernel
theorem kd_Mo_split_26 : decode kc_Mo_split 26 = .ok (.getfield 52, 3) := by decide +kernel
theorem kd_Mo_split_29 : decode kc_Mo_split 29 = .ok (.iload_n 3, 1) := by decide +kernel
theorem kd_Mo_split_30 : decode kc_Mo_split 30 = .ok (.iaload, 1) := by decide +kernel
theorem kd_Mo_split_31 : decode kc_Mo_split 31 = .ok (.invokestatic 421, 3) := by decide +kernel
theorem kd_Mo_split_34 : decode kc_Mo_split 34 = .ok (.if_icmp .gt 8, 3) := by decide +kernel
theorem kd_Mo_split_37 : decode kc_Mo_split 37 = .ok (.iload 4, 2) := by decide +kernel
theorem kd_Mo_split_39 : decode kc_Mo_split 39 = .ok (.goto 4, 3) := by decide +kernel
theorem kd_Mo_split_42 : decode kc_Mo_split 42 = .ok (.iload_n 3, 1) := by decide +kernel
theorem kd_Mo_split_43 : decode kc_Mo_split 43 = .ok (.istore_n 3, 1) := by decide +kernel
theorem kd_Mo_split_44 : decode kc_Mo_split 44 = .ok (.iinc 4 1, 3) := by decide +kernel
theorem kd_Mo_split_47 : decode kc_Mo_split 47 = .ok (.goto (-42), 3) := by decide +kernel
theorem kd_Mo_split_50 : decode kc_Mo_split 50 = .ok (.iload_n 3, 1) := by decide +kernel
theorem kd_Mo_split_51 : decode kc_Mo_split 51 = .ok (.ifCond .ge 10, 3) := by decide +kernel
theorem kd_Mo_split_54 : decode kc_Mo_split 54 = .ok (.aload_n 0, 1) := by decide +kernel
theorem kd_Mo_split_55 : decode kc_Mo_split 55 = .ok (.getfield 49, 3) := by decide +kernel
theorem kd_Mo_split_58 : decode kc_Mo_split 58 = .ok (.iload_n 1, 1) := by decide +kernel
theorem kd_Mo_split_59 : decode kc_Mo_split 59 = .ok (.iaload, 1) := by decide +kernel
theorem kd_Mo_split_60 : decode kc_Mo_split 60 = .ok (.ireturn, 1) := by decide +kernel
theorem kd_Mo_split_61 : decode kc_Mo_split 61 = .ok (.aload_n 0, 1) := by decide +kernel
theorem kd_Mo_split_62 : decode kc_Mo_split 62 = .ok (.bipush 35, 2) := by decide +kernel
theorem kd_Mo_split_64 : decode kc_Mo_split 64 = .ok (.aload_n 0, 1) := by decide +kernel
theorem kd_Mo_split_65 : decode kc_Mo_split 65 = .ok (.getfield 55, 3) := by decide +kernel
theorem kd_Mo_split_68 : decode kc_Mo_split 68 = .ok (.iload_n 3, 1) := by decide +kernel
theorem kd_Mo_split_69 : decode kc_Mo_split 69 = .ok (.iaload, 1) := by decide +kernel
theorem kd_Mo_split_70 : decode kc_Mo_split 70 = .ok (.aload_n 0, 1) := by decide +kernel
theorem kd_Mo_split_71 : decode kc_Mo_split 71 = .ok (.getfield 52, 3) := by decide +kernel
theorem kd_Mo_split_74 : decode kc_Mo_split 74 = .ok (.iload_n 3, 1) := by decide +kernel
theorem kd_Mo_split_75 : decode kc_Mo_split 75 = .ok (.iaload, 1) := by decide +kernel
theorem kd_Mo_split_76 : decode kc_Mo_split 76 = .ok (.invokevirtual 318, 3) := by decide +kernel
theorem kd_Mo_split_79 : decode kc_Mo_split 79 = .ok (.istore 4, 2) := by decide +kernel
theorem kd_Mo_split_81 : decode kc_Mo_split 81 = .ok (.aload_n 0, 1) := by decide +kernel
theorem kd_Mo_split_82 : decode kc_Mo_split 82 = .ok (.aload_n 0, 1) := by decide +kernel
theorem kd_Mo_split_83 : decode kc_Mo_split 83 = .ok (.iload_n 1, 1) := by decide +kernel
theorem kd_Mo_split_84 : decode kc_Mo_split 84 = .ok (.iload_n 3, 1) := by decide +kernel
theorem kd_Mo_split_85 : decode kc_Mo_split 85 = .ok (.invokevirtual 417, 3) := by decide +kernel
theorem kd_Mo_split_88 : decode kc_Mo_split 88 = .ok (.iload 4, 2) := by decide +kernel
theorem kd_Mo_split_90 : decode kc_Mo_split 90 = .ok (.invokevirtual 322, 3) := by decide +kernel
theorem kd_Mo_split_93 : decode kc_Mo_split 93 = .ok (.aload_n 0, 1) := by decide +kernel
theorem kd_Mo_split_94 : decode kc_Mo_split 94 = .ok (.aload_n 0, 1) := by decide +kernel
theorem kd_Mo_split_95 : decode kc_Mo_split 95 = .ok (.iload_n 3, 1) := by decide +kernel
theorem kd_Mo_split_96 : decode kc_Mo_split 96 = .ok (.iconst 1, 1) := by decide +kernel
theorem kd_Mo_split_97 : decode kc_Mo_split 97 = .ok (.iadd, 1) := by decide +kernel
theorem kd_Mo_split_98 : decode kc_Mo_split 98 = .ok (.iload_n 2, 1) := by decide +kernel
theorem kd_Mo_split_99 : decode kc_Mo_split 99 = .ok (.invokevirtual 417, 3) := by decide +kernel
theorem kd_Mo_split_102 : decode kc_Mo_split 102 = .ok (.iload 4, 2) := by decide +kernel
theorem kd_Mo_split_104 : decode kc_Mo_split 104 = .ok (.invokevirtual 322, 3) := by decide +kernel
theorem kd_Mo_split_107 : decode kc_Mo_split 107 = .ok (.iload 4, 2) := by decide +kernel
theorem kd_Mo_split_109 : decode kc_Mo_split 109 = .ok (.ireturn, 1) := by decide +kernel
theorem kd_Mo_wantWord_0 : decode kc_Mo_wantWord 0 = .ok (.aload_n 0, 1) := by decide +kernel
theorem kd_Mo_wantWord_1 : decode kc_Mo_wantWord 1 = .ok (.aload_n 0, 1) := by decide +kernel
theorem kd_Mo_wantWord_2 : decode kc_Mo_wantWord 2 = .ok (.iload_n 1, 1) := by decide +kernel
theorem kd_Mo_wantWord_3 : decode kc_Mo_wantWord 3 = .ok (.invokevirtual 302, 3) := by decide +kernel
theorem kd_Mo_wantWord_6 : decode kc_Mo_wantWord 6 = .ok (.invokevirtual 305, 3) := by decide +kernel
theorem kd_Mo_wantWord_9 : decode kc_Mo_wantWord 9 = .ok (.return_, 1) := by decide +kernel
set_option maxHeartbeats 4000000 in
set_option maxRecDepth 100000 in
theorem zb_Mo_row_60 {X : zkj_T} {S : zs_T} {P : ze_T} {l : Launch} {D : va_G} {sz0 : Nat} {rh : zs_H} (C : zk_C X km_Mo_row (zs_G S l D sz0) { frames := 10, cells := 0, slots := 0, locals := 222 } (ze_E P)) (hR : zkj_R X (zd_PV S rh) (none)) {k18 : zs_H → Int32 → (Option zs_H)} (hk18 : ∀ (h : zs_H) (x2 : Int32), k18 h x2 = some rh → zk_Ab X (zs_W S h) 0 0 18 [(0, .ref (S.1 68)), (2, .int x2)] []) (h : zs_H) (x2 : Int32) (e : f_Mo_row_60 k18 h x2 = some rh) : zk_Ab X (zs_W S h) 0 0 60 [(0, .ref (S.1 68)), (2, .int x2)] [] := by
  unfold f_Mo_row_60 at e
  refine zk_aload_n C kd_Mo_row_60 rfl 0 rfl rfl ?_
  refine zk_iload_n C kd_Mo_row_61 rfl 1 rfl rfl ?_
  obtain ⟨h2, c1, e⟩ := zd_b e
  refine zs_callV (k := 68) (rn := { frames := 9, cells := 0, slots := 0, locals := 197 }) (As := [.int x2]) (rest := []) C (zc_Mo_readCell h x2 c1) ku_Mo_readCell kw2153 kv_Mo_readCell rfl ⟨by decide, by decide⟩ ⟨by decide, by decide⟩ rfl rfl rfl (Nat.le_of_ble_eq_true rfl) kd_Mo_row_62 rfl (c1 := 0) (s1 := 0) rfl rfl (fun v w hp => ?_)
  obtain ⟨rfl, rfl⟩ := hp
  refine zk_stk (r' := []) rfl ?_
  refine zk_goto (tgt := 18) C kd_Mo_row_65 (by decide) ?_
  refine zk_lvs (lv' := [(0, .ref (S.1 68)), (2, .int x2)]) [0, 1] rfl ?_
  exact hk18 h2 x2 e
set_option maxHeartbeats 4000000 in
set_option maxRecDepth 100000 in
theorem zb_Mo_row_68 {X : zkj_T} {S : zs_T} {P : ze_T} {l : Launch} {D : va_G} {sz0 : Nat} {rh : zs_H} (C : zk_C X km_Mo_row (zs_G S l D sz0) { frames := 10, cells := 0, slots := 0, locals := 222 } (ze_E P)) (hR : zkj_R X (zd_PV S rh) (none)) (h : zs_H) (e : f_Mo_row_68 h = some rh) : zk_Ab X (zs_W S h) 0 0 68 [(0, .ref (S.1 68))] [] := by
  unfold f_Mo_row_68 at e
  refine zk_aload_n C kd_Mo_row_68 rfl 0 rfl rfl ?_
  refine zk_bipush (v := 59) C kd_Mo_row_69 (by decide) rfl ?_
  obtain ⟨h2, c1, e⟩ := zd_b e
  refine zs_callV (k := 68) (rn := { frames := 8, cells := 0, slots := 0, locals := 171 }) (As := [.int 59]) (rest := []) C (zc_Mo_wantSign h 59 c1) ku_Mo_wantSign kw2113 kv_Mo_wantSign rfl ⟨by decide, by decide⟩ ⟨by decide, by decide⟩ rfl rfl rfl (Nat.le_of_ble_eq_true rfl) kd_Mo_row_71 rfl (c1 := 0) (s1 := 0) rfl rfl (fun v w hp => ?_)
  obtain ⟨rfl, rfl⟩ := hp
  refine zk_stk (r' := []) rfl ?_
  exact zk_vret C hR kd_Mo_row_74 rfl rfl (zd_rV e)
set_option maxHeartbeats 4000000 in
set_option maxRecDepth 100000 in
theorem zb_Mo_row_18 {X : zkj_T} {S : zs_T} {P : ze_T} {l : Launch} {D : va_G} {sz0 : Nat} {rh : zs_H} (C : zk_C X km_Mo_row (zs_G S l D sz0) { frames := 10, cells := 0, slots := 0, locals := 222 } (ze_E P)) (hR : zkj_R X (zd_PV S rh) (none)) {k18 : zs_H → Int32 → (Option zs_H)} (hk18 : ∀ (h : zs_H) (x2 : Int32), k18 h x2 = some rh → zk_Ab X (zs_W S h) 0 0 18 [(0, .ref (S.1 68)), (2, .int x2)] []) (h : zs_H) (x2 : Int32) (e : f_Mo_row_18 k18 h x2 = some rh) : zk_Ab X (zs_W S h) 0 0 18 [(0, .ref (S.1 68)), (2, .int x2)] [] := by
  unfold f_Mo_row_18 at e
  refine zk_aload_n C kd_Mo_row_18 rfl 0 rfl rfl ?_
  refine zs_get (v := .int (h.1 68 10)) C 68 10 rfl rfl rfl rfl ki_Mo (by decide) kw1693 kd_Mo_row_19 rfl ?_
  refine zk_if_ne (tgt := 68) C kd_Mo_row_22 (by decide) rfl (fun b1 => ?_) (fun b1 => ?_)
  · replace e := zd_neg b1 e
    refine zk_lvs (lv' := [(0, .ref (S.1 68))]) [0] rfl ?_
    exact zb_Mo_row_68 C hR h e
  · replace e := zd_pos b1 e
    refine zk_aload_n C kd_Mo_row_25 rfl 0 rfl rfl ?_
    refine zk_bipush (v := 59) C kd_Mo_row_26 (by decide) rfl ?_
    refine zs_callV (k := 68) (rn := { frames := 0, cells := 0, slots := 0, locals := 0 }) (As := [.int 59]) (rest := []) C (zc_Mo_isSign h 59) ku_Mo_isSign kw2117 kv_Mo_isSign rfl ⟨by decide, by decide⟩ ⟨by decide, by decide⟩ rfl rfl rfl (Nat.le_of_ble_eq_true rfl) kd_Mo_row_28 rfl (c1 := 0) (s1 := 0) rfl rfl (fun v w hp => ?_)
    obtain ⟨rfl, rfl, z2⟩ := hp
    refine zk_stk (r' := [.int (f_Mo_isSign h 59)]) rfl ?_
    refine zk_if_ne (tgt := 68) C kd_Mo_row_31 (by decide) rfl (fun b3 => ?_) (fun b3 => ?_)
    · replace e := zd_neg b3 e
      refine zk_lvs (lv' := [(0, .ref (S.1 68))]) [0] rfl ?_
      exact zb_Mo_row_68 C hR h e
    · replace e := zd_pos b3 e
      refine zk_aload_n C kd_Mo_row_34 rfl 0 rfl rfl ?_
      refine zk_bipush (v := 124) C kd_Mo_row_35 (by decide) rfl ?_
      refine zs_callV (k := 68) (rn := { frames := 0, cells := 0, slots := 0, locals := 0 }) (As := [.int 124]) (rest := []) C (zc_Mo_isSign h 124) ku_Mo_isSign kw2117 kv_Mo_isSign rfl ⟨by decide, by decide⟩ ⟨by decide, by decide⟩ rfl rfl rfl (Nat.le_of_ble_eq_true rfl) kd_Mo_row_37 rfl (c1 := 0) (s1 := 0) rfl rfl (fun v w hp => ?_)
      obtain ⟨rfl, rfl, z4⟩ := hp
      refine zk_stk (r' := [.int (f_Mo_isSign h 124)]) rfl ?_
      refine zk_if_eq (tgt := 60) C kd_Mo_row_40 (by decide) rfl (fun b5 => ?_) (fun b5 => ?_)
      · replace e := zd_pos b5 e
        refine zk_lvs (lv' := [(0, .ref (S.1 68)), (2, .int x2)]) [0, 1] rfl ?_
        exact zb_Mo_row_60 C hR hk18 h x2 e
      · replace e := zd_neg b5 e
        refine zk_aload_n C kd_Mo_row_43 rfl 0 rfl rfl ?_
        refine zk_iload_n C kd_Mo_row_44 rfl 1 rfl rfl ?_
        refine zk_bipush (v := 29) C kd_Mo_row_45 (by decide) rfl ?_
        refine zk_aload_n C kd_Mo_row_47 rfl 0 rfl rfl ?_
        refine zs_get (v := .int (h.1 68 7)) C 68 7 rfl rfl rfl rfl ki_Mo (by decide) kw1690 kd_Mo_row_48 rfl ?_
        refine zk_iconst (v := 0) C kd_Mo_row_51 (by decide) rfl ?_
        obtain ⟨v7, h8, c6, e⟩ := zd_Be e
        refine zs_callV (k := 68) (rn := { frames := 1, cells := 0, slots := 0, locals := 24 }) (As := [.int x2, .int 29, .int (h.1 68 7), .int 0]) (rest := []) C (zc_Mo_add h x2 29 (h.1 68 7) 0 c6) ku_Mo_add kw2097 kv_Mo_add rfl ⟨by decide, by decide⟩ ⟨by decide, by decide⟩ rfl rfl rfl (Nat.le_of_ble_eq_true rfl) kd_Mo_row_52 rfl (c1 := 0) (s1 := 0) rfl rfl (fun v w hp => ?_)
        obtain ⟨rfl, rfl⟩ := hp
        refine zk_stk (r' := [.int v7]) rfl ?_
        refine zk_istore_n (lv' := [(3, _), (0, _), (2, _)]) C kd_Mo_row_55 rfl (by decide) rfl rfl ?_
        refine zk_aload_n C kd_Mo_row_56 rfl 1 rfl rfl ?_
        obtain ⟨h10, c9, e⟩ := zd_b e
        refine zs_callV (k := 68) (rn := { frames := 6, cells := 0, slots := 0, locals := 129 }) (As := []) (rest := []) C (zc_Mo_next h8 c9) ku_Mo_next kw2001 kv_Mo_next rfl ⟨by decide, by decide⟩ ⟨by decide, by decide⟩ rfl rfl rfl (Nat.le_of_ble_eq_true rfl) kd_Mo_row_57 rfl (c1 := 0) (s1 := 0) rfl rfl (fun v w hp => ?_)
        obtain ⟨rfl, rfl⟩ := hp
        refine zk_stk (r' := []) rfl ?_
        refine zk_lvs (lv' := [(0, .ref (S.1 68)), (2, .int x2)]) [1, 2] rfl ?_
        exact zb_Mo_row_60 C hR hk18 h10 x2 e
theorem zl_Mo_row_18 {X : zkj_T} {S : zs_T} {P : ze_T} {l : Launch} {D : va_G} {sz0 : Nat} {rh : zs_H} (C : zk_C X km_Mo_row (zs_G S l D sz0) { frames := 10, cells := 0, slots := 0, locals := 222 } (ze_E P)) (hR : zkj_R X (zd_PV S rh) (none)) (n : Nat) : ∀ (h : zs_H) (x2 : Int32), f_Mo_row_L18 n h x2 = some rh → zk_Ab X (zs_W S h) 0 0 18 [(0, .ref (S.1 68)), (2, .int x2)] [] := by
  induction n with
  | zero => intro h x2 e; exact zd_no e
  | succ n ih => intro h x2 e; exact zb_Mo_row_18 (k18 := f_Mo_row_L18  n) C hR ih h x2 e
set_option maxHeartbeats 4000000 in
set_option maxRecDepth 100000 in
theorem zc_Mo_row {l : Launch} {D : va_G} {sz0 : Nat} {S : zs_T} {P : ze_T} (h : zs_H) (x1 : Int32) {rh : zs_H} (e : f_Mo_row h x1 = some rh) : zk_Sp (zs_G S l D sz0) (ze_E P) km_Mo_row { frames := 10, cells := 0, slots := 0, locals := 222 } [.ref (S.1 68), .int x1] (zs_W S h) (zd_PV S rh) := by
  refine zk_met ku_Mo_row (Nat.le_of_ble_eq_true rfl) (ze_Em P) ?_
  intro X C hR
  refine zk_lvs (lv' := [(0, .ref (S.1 68)), (1, .int x1)]) [0, 1] rfl ?_
  unfold f_Mo_row at e
  refine zk_aload_n C kd_Mo_row_0 rfl 0 rfl rfl ?_
  refine zk_iload_n C kd_Mo_row_1 rfl 1 rfl rfl ?_
  refine zk_bipush (v := 24) C kd_Mo_row_2 (by decide) rfl ?_
  refine zk_aload_n C kd_Mo_row_4 rfl 0 rfl rfl ?_
  refine zs_get (v := .int (h.1 68 7)) C 68 7 rfl rfl rfl rfl ki_Mo (by decide) kw1690 kd_Mo_row_5 rfl ?_
  refine zk_iconst (v := 0) C kd_Mo_row_8 (by decide) rfl ?_
  obtain ⟨v2, h3, c1, e⟩ := zd_Be e
  refine zs_callV (k := 68) (rn := { frames := 1, cells := 0, slots := 0, locals := 24 }) (As := [.int x1, .int 24, .int (h.1 68 7), .int 0]) (rest := []) C (zc_Mo_add h x1 24 (h.1 68 7) 0 c1) ku_Mo_add kw2097 kv_Mo_add rfl ⟨by decide, by decide⟩ ⟨by decide, by decide⟩ rfl rfl rfl (Nat.le_of_ble_eq_true rfl) kd_Mo_row_9 rfl (c1 := 0) (s1 := 0) rfl rfl (fun v w hp => ?_)
  obtain ⟨rfl, rfl⟩ := hp
  refine zk_stk (r' := [.int v2]) rfl ?_
  refine zk_istore_n (lv' := [(2, _), (0, _), (1, _)]) C kd_Mo_row_12 rfl (by decide) rfl rfl ?_
  refine zk_aload_n C kd_Mo_row_13 rfl 1 rfl rfl ?_
  refine zk_iload_n C kd_Mo_row_14 rfl 0 rfl rfl ?_
  obtain ⟨h5, c4, e⟩ := zd_b e
  refine zs_callV (k := 68) (rn := { frames := 9, cells := 0, slots := 0, locals := 197 }) (As := [.int v2]) (rest := []) C (zc_Mo_readCell h3 v2 c4) ku_Mo_readCell kw2153 kv_Mo_readCell rfl ⟨by decide, by decide⟩ ⟨by decide, by decide⟩ rfl rfl rfl (Nat.le_of_ble_eq_true rfl) kd_Mo_row_15 rfl (c1 := 0) (s1 := 0) rfl rfl (fun v w hp => ?_)
  obtain ⟨rfl, rfl⟩ := hp
  refine zk_stk (r' := []) rfl ?_
  refine zk_lvs (lv' := [(0, .ref (S.1 68)), (2, .int v2)]) [1, 0] rfl ?_
  exact zl_Mo_row_18 C hR zF h5 v2 e
set_option maxHeartbeats 4000000 in
set_option maxRecDepth 100000 in
theorem zc_Mo_wantWord {l : Launch} {D : va_G} {sz0 : Nat} {S : zs_T} {P : ze_T} (h : zs_H) (x1 : Int32) {rh : zs_H} (e : f_Mo_wantWord h x1 = some rh) : zk_Sp (zs_G S l D sz0) (ze_E P) km_Mo_wantWord { frames := 8, cells := 0, slots := 0, locals := 171 } [.ref (S.1 68), .int x1] (zs_W S h) (zd_PV S rh) := by
  refine zk_met ku_Mo_wantWord (Nat.le_of_ble_eq_true rfl) (ze_Em P) ?_
  intro X C hR
  refine zk_lvs (lv' := [(0, .ref (S.1 68)), (1, .int x1)]) [0, 1] rfl ?_
  unfold f_Mo_wantWord at e
  refine zk_aload_n C kd_Mo_wantWord_0 rfl 0 rfl rfl ?_
  refine zk_aload_n C kd_Mo_wantWord_1 rfl 0 rfl rfl ?_
  refine zk_iload_n C kd_Mo_wantWord_2 rfl 1 rfl rfl ?_
  refine zs_callV (k := 68) (rn := { frames := 0, cells := 0, slots := 0, locals := 0 }) (As := [.int x1]) (rest := [.ref (S.1 68)]) C (zc_Mo_isWord h x1) ku_Mo_isWord kw2125 kv_Mo_isWord rfl ⟨by decide, by decide⟩ ⟨by decide, by decide⟩ rfl rfl rfl (Nat.le_of_ble_eq_true rfl) kd_Mo_wantWord_3 rfl (c1 := 0) (s1 := 0) rfl rfl (fun v w hp => ?_)
  obtain ⟨rfl, rfl, z1⟩ := hp
  refine zk_stk (r' := [.int (f_Mo_isWord h x1), .ref (S.1 68)]) rfl ?_
  obtain ⟨h3, c2, e⟩ := zd_b e
  refine zs_callV (k := 68) (rn := { frames := 7, cells := 0, slots := 0, locals := 150 }) (As := [.int (f_Mo_isWord h x1)]) (rest := []) C (zc_Mo_want h (f_Mo_isWord h x1) c2) ku_Mo_want kw2109 kv_Mo_want rfl ⟨by decide, by decide⟩ ⟨by decide, by decide⟩ rfl rfl rfl (Nat.le_of_ble_eq_true rfl) kd_Mo_wantWord_6 rfl (c1 := 0) (s1 := 0) rfl rfl (fun v w hp => ?_)
  obtain ⟨rfl, rfl⟩ := hp
  refine zk_stk (r' := []) rfl ?_
  exact zk_vret C hR kd_Mo_wantWord_9 rfl rfl (zd_rV e)
set_option maxHeartbeats 4000000 in
set_option maxRecDepth 100000 in
theorem zb_Mo_ladder_72 {X : zkj_T} {S : zs_T} {P : ze_T} {l : Launch} {D : va_G} {sz0 : Nat} {rh : zs_H} (C : zk_C X km_Mo_ladder (zs_G S l D sz0) { frames := 11, cells := 0, slots := 0, locals := 245 } (ze_E P)) (hR : zkj_R X (zd_PV S rh) (none)) {k17 : zs_H → Int32 → (Option zs_H)} (hk17 : ∀ (h : zs_H) (x2 : Int32), k17 h x2 = some rh → zk_Ab X (zs_W S h) 0 0 17 [(0, .ref (S.1 68)), (2, .int x2)] []) (h : zs_H) (x2 : Int32) (e : f_Mo_ladder_72 k17 h x2 = some rh) : zk_Ab X (zs_W S h) 0 0 72 [(0, .ref (S.1 68)), (2, .int x2)] [] := by
  unfold f_Mo_ladder_72 at e
  refine zk_aload_n C kd_Mo_ladder_72 rfl 0 rfl rfl ?_
  refine zk_bipush (v := 40) C kd_Mo_ladder_73 (by decide) rfl ?_
  obtain ⟨h2, c1, e⟩ := zd_b e
  refine zs_callV (k := 68) (rn := { frames := 8, cells := 0, slots := 0, locals := 171 }) (As := [.int 40]) (rest := []) C (zc_Mo_wantWord h 40 c1) ku_Mo_wantWord kw2141 kv_Mo_wantWord rfl ⟨by decide, by decide⟩ ⟨by decide, by decide⟩ rfl rfl rfl (Nat.le_of_ble_eq_true rfl) kd_Mo_ladder_75 rfl (c1 := 0) (s1 := 0) rfl rfl (fun v w hp => ?_)
  obtain ⟨rfl, rfl⟩ := hp
  refine zk_stk (r' := []) rfl ?_
  refine zk_goto (tgt := 17) C kd_Mo_ladder_78 (by decide) ?_
  refine zk_lvs (lv' := [(0, .ref (S.1 68)), (2, .int x2)]) [0, 1] rfl ?_
  exact hk17 h2 x2 e
set_option maxHeartbeats 4000000 in
set_option maxRecDepth 100000 in
theorem zb_Mo_ladder_48 {X : zkj_T} {S : zs_T} {P : ze_T} {l : Launch} {D : va_G} {sz0 : Nat} {rh : zs_H} (C : zk_C X km_Mo_ladder (zs_G S l D sz0) { frames := 11, cells := 0, slots := 0, locals := 245 } (ze_E P)) (hR : zkj_R X (zd_PV S rh) (none)) {k17 : zs_H → Int32 → (Option zs_H)} (hk17 : ∀ (h : zs_H) (x2 : Int32), k17 h x2 = some rh → zk_Ab X (zs_W S h) 0 0 17 [(0, .ref (S.1 68)), (2, .int x2)] []) {k48 : zs_H → Int32 → Int32 → (Option zs_H)} (hk48 : ∀ (h : zs_H) (x2 : Int32) (x3 : Int32), k48 h x2 x3 = some rh → zk_Ab X (zs_W S h) 0 0 48 [(0, .ref (S.1 68)), (2, .int x2), (3, .int x3)] []) (h : zs_H) (x2 : Int32) (x3 : Int32) (e : f_Mo_ladder_48 k17 k48 h x2 x3 = some rh) : zk_Ab X (zs_W S h) 0 0 48 [(0, .ref (S.1 68)), (2, .int x2), (3, .int x3)] [] := by
  unfold f_Mo_ladder_48 at e
  refine zk_aload_n C kd_Mo_ladder_48 rfl 0 rfl rfl ?_
  refine zs_get (v := .int (h.1 68 10)) C 68 10 rfl rfl rfl rfl ki_Mo (by decide) kw1693 kd_Mo_ladder_49 rfl ?_
  refine zk_if_ne (tgt := 72) C kd_Mo_ladder_52 (by decide) rfl (fun b1 => ?_) (fun b1 => ?_)
  · replace e := zd_neg b1 e
    refine zk_lvs (lv' := [(0, .ref (S.1 68)), (2, .int x2)]) [0, 1] rfl ?_
    exact zb_Mo_ladder_72 C hR hk17 h x2 e
  · replace e := zd_pos b1 e
    refine zk_aload_n C kd_Mo_ladder_55 rfl 0 rfl rfl ?_
    refine zk_bipush (v := 40) C kd_Mo_ladder_56 (by decide) rfl ?_
    refine zs_callV (k := 68) (rn := { frames := 0, cells := 0, slots := 0, locals := 0 }) (As := [.int 40]) (rest := []) C (zc_Mo_isWord h 40) ku_Mo_isWord kw2125 kv_Mo_isWord rfl ⟨by decide, by decide⟩ ⟨by decide, by decide⟩ rfl rfl rfl (Nat.le_of_ble_eq_true rfl) kd_Mo_ladder_58 rfl (c1 := 0) (s1 := 0) rfl rfl (fun v w hp => ?_)
    obtain ⟨rfl, rfl, z2⟩ := hp
    refine zk_stk (r' := [.int (f_Mo_isWord h 40)]) rfl ?_
    refine zk_if_ne (tgt := 72) C kd_Mo_ladder_61 (by decide) rfl (fun b3 => ?_) (fun b3 => ?_)
    · replace e := zd_neg b3 e
      refine zk_lvs (lv' := [(0, .ref (S.1 68)), (2, .int x2)]) [0, 1] rfl ?_
      exact zb_Mo_ladder_72 C hR hk17 h x2 e
    · replace e := zd_pos b3 e
      refine zk_aload_n C kd_Mo_ladder_64 rfl 0 rfl rfl ?_
      refine zk_iload_n C kd_Mo_ladder_65 rfl 2 rfl rfl ?_
      obtain ⟨h5, c4, e⟩ := zd_b e
      refine zs_callV (k := 68) (rn := { frames := 10, cells := 0, slots := 0, locals := 222 }) (As := [.int x3]) (rest := []) C (zc_Mo_row h x3 c4) ku_Mo_row kw2149 kv_Mo_row rfl ⟨by decide, by decide⟩ ⟨by decide, by decide⟩ rfl rfl rfl (Nat.le_of_ble_eq_true rfl) kd_Mo_ladder_66 rfl (c1 := 0) (s1 := 0) rfl rfl (fun v w hp => ?_)
      obtain ⟨rfl, rfl⟩ := hp
      refine zk_stk (r' := []) rfl ?_
      refine zk_goto (tgt := 48) C kd_Mo_ladder_69 (by decide) ?_
      refine zk_lvs (lv' := [(0, .ref (S.1 68)), (2, .int x2), (3, .int x3)]) [0, 1, 2] rfl ?_
      exact hk48 h5 x2 x3 e
theorem zl_Mo_ladder_48 {X : zkj_T} {S : zs_T} {P : ze_T} {l : Launch} {D : va_G} {sz0 : Nat} {rh : zs_H} (C : zk_C X km_Mo_ladder (zs_G S l D sz0) { frames := 11, cells := 0, slots := 0, locals := 245 } (ze_E P)) (hR : zkj_R X (zd_PV S rh) (none)) {k17 : zs_H → Int32 → (Option zs_H)} (hk17 : ∀ (h : zs_H) (x2 : Int32), k17 h x2 = some rh → zk_Ab X (zs_W S h) 0 0 17 [(0, .ref (S.1 68)), (2, .int x2)] []) (n : Nat) : ∀ (h : zs_H) (x2 : Int32) (x3 : Int32), f_Mo_ladder_L48 k17 n h x2 x3 = some rh → zk_Ab X (zs_W S h) 0 0 48 [(0, .ref (S.1 68)), (2, .int x2), (3, .int x3)] [] := by
  induction n with
  | zero => intro h x2 x3 e; exact zd_no e
  | succ n ih => intro h x2 x3 e; exact zb_Mo_ladder_48 (k48 := f_Mo_ladder_L48 k17 n) C hR hk17 ih h x2 x3 e
set_option maxHeartbeats 4000000 in
set_option maxRecDepth 100000 in
theorem zb_Mo_ladder_17 {X : zkj_T} {S : zs_T} {P : ze_T} {l : Launch} {D : va_G} {sz0 : Nat} {rh : zs_H} (C : zk_C X km_Mo_ladder (zs_G S l D sz0) { frames := 11, cells := 0, slots := 0, locals := 245 } (ze_E P)) (hR : zkj_R X (zd_PV S rh) (none)) {k17 : zs_H → Int32 → (Option zs_H)} (hk17 : ∀ (h : zs_H) (x2 : Int32), k17 h x2 = some rh → zk_Ab X (zs_W S h) 0 0 17 [(0, .ref (S.1 68)), (2, .int x2)] []) (h : zs_H) (x2 : Int32) (e : f_Mo_ladder_17 k17 h x2 = some rh) : zk_Ab X (zs_W S h) 0 0 17 [(0, .ref (S.1 68)), (2, .int x2)] [] := by
  unfold f_Mo_ladder_17 at e
  refine zk_aload_n C kd_Mo_ladder_17 rfl 0 rfl rfl ?_
  refine zk_bipush (v := 39) C kd_Mo_ladder_18 (by decide) rfl ?_
  refine zs_callV (k := 68) (rn := { frames := 0, cells := 0, slots := 0, locals := 0 }) (As := [.int 39]) (rest := []) C (zc_Mo_isWord h 39) ku_Mo_isWord kw2125 kv_Mo_isWord rfl ⟨by decide, by decide⟩ ⟨by decide, by decide⟩ rfl rfl rfl (Nat.le_of_ble_eq_true rfl) kd_Mo_ladder_20 rfl (c1 := 0) (s1 := 0) rfl rfl (fun v w hp => ?_)
  obtain ⟨rfl, rfl, z1⟩ := hp
  refine zk_stk (r' := [.int (f_Mo_isWord h 39)]) rfl ?_
  refine zk_if_eq (tgt := 81) C kd_Mo_ladder_23 (by decide) rfl (fun b2 => ?_) (fun b2 => ?_)
  · replace e := zd_pos b2 e
    refine zk_aload_n C kd_Mo_ladder_81 rfl 0 rfl rfl ?_
    refine zk_bipush (v := 38) C kd_Mo_ladder_82 (by decide) rfl ?_
    obtain ⟨h4, c3, e⟩ := zd_b e
    refine zs_callV (k := 68) (rn := { frames := 8, cells := 0, slots := 0, locals := 171 }) (As := [.int 38]) (rest := []) C (zc_Mo_wantWord h 38 c3) ku_Mo_wantWord kw2141 kv_Mo_wantWord rfl ⟨by decide, by decide⟩ ⟨by decide, by decide⟩ rfl rfl rfl (Nat.le_of_ble_eq_true rfl) kd_Mo_ladder_84 rfl (c1 := 0) (s1 := 0) rfl rfl (fun v w hp => ?_)
    obtain ⟨rfl, rfl⟩ := hp
    refine zk_stk (r' := []) rfl ?_
    exact zk_vret C hR kd_Mo_ladder_87 rfl rfl (zd_rV e)
  · replace e := zd_neg b2 e
    refine zk_aload_n C kd_Mo_ladder_26 rfl 0 rfl rfl ?_
    refine zk_iload_n C kd_Mo_ladder_27 rfl 1 rfl rfl ?_
    refine zk_bipush (v := 23) C kd_Mo_ladder_28 (by decide) rfl ?_
    refine zk_aload_n C kd_Mo_ladder_30 rfl 0 rfl rfl ?_
    refine zs_get (v := .int (h.1 68 7)) C 68 7 rfl rfl rfl rfl ki_Mo (by decide) kw1690 kd_Mo_ladder_31 rfl ?_
    refine zk_iconst (v := 0) C kd_Mo_ladder_34 (by decide) rfl ?_
    obtain ⟨v6, h7, c5, e⟩ := zd_Be e
    refine zs_callV (k := 68) (rn := { frames := 1, cells := 0, slots := 0, locals := 24 }) (As := [.int x2, .int 23, .int (h.1 68 7), .int 0]) (rest := []) C (zc_Mo_add h x2 23 (h.1 68 7) 0 c5) ku_Mo_add kw2097 kv_Mo_add rfl ⟨by decide, by decide⟩ ⟨by decide, by decide⟩ rfl rfl rfl (Nat.le_of_ble_eq_true rfl) kd_Mo_ladder_35 rfl (c1 := 0) (s1 := 0) rfl rfl (fun v w hp => ?_)
    obtain ⟨rfl, rfl⟩ := hp
    refine zk_stk (r' := [.int v6]) rfl ?_
    refine zk_istore_n (lv' := [(3, _), (0, _), (2, _)]) C kd_Mo_ladder_38 rfl (by decide) rfl rfl ?_
    refine zk_aload_n C kd_Mo_ladder_39 rfl 1 rfl rfl ?_
    obtain ⟨h9, c8, e⟩ := zd_b e
    refine zs_callV (k := 68) (rn := { frames := 6, cells := 0, slots := 0, locals := 129 }) (As := []) (rest := []) C (zc_Mo_next h7 c8) ku_Mo_next kw2001 kv_Mo_next rfl ⟨by decide, by decide⟩ ⟨by decide, by decide⟩ rfl rfl rfl (Nat.le_of_ble_eq_true rfl) kd_Mo_ladder_40 rfl (c1 := 0) (s1 := 0) rfl rfl (fun v w hp => ?_)
    obtain ⟨rfl, rfl⟩ := hp
    refine zk_stk (r' := []) rfl ?_
    refine zk_aload_n C kd_Mo_ladder_43 rfl 1 rfl rfl ?_
    refine zk_iload_n C kd_Mo_ladder_44 rfl 0 rfl rfl ?_
    obtain ⟨h11, c10, e⟩ := zd_b e
    refine zs_callV (k := 68) (rn := { frames := 10, cells := 0, slots := 0, locals := 222 }) (As := [.int v6]) (rest := []) C (zc_Mo_row h9 v6 c10) ku_Mo_row kw2149 kv_Mo_row rfl ⟨by decide, by decide⟩ ⟨by decide, by decide⟩ rfl rfl rfl (Nat.le_of_ble_eq_true rfl) kd_Mo_ladder_45 rfl (c1 := 0) (s1 := 0) rfl rfl (fun v w hp => ?_)
    obtain ⟨rfl, rfl⟩ := hp
    refine zk_stk (r' := []) rfl ?_
    refine zk_lvs (lv' := [(0, .ref (S.1 68)), (2, .int x2), (3, .int v6)]) [1, 2, 0] rfl ?_
    exact zl_Mo_ladder_48 C hR hk17 zF h11 x2 v6 e
theorem zl_Mo_ladder_17 {X : zkj_T} {S : zs_T} {P : ze_T} {l : Launch} {D : va_G} {sz0 : Nat} {rh : zs_H} (C : zk_C X km_Mo_ladder (zs_G S l D sz0) { frames := 11, cells := 0, slots := 0, locals := 245 } (ze_E P)) (hR : zkj_R X (zd_PV S rh) (none)) (n : Nat) : ∀ (h : zs_H) (x2 : Int32), f_Mo_ladder_L17 n h x2 = some rh → zk_Ab X (zs_W S h) 0 0 17 [(0, .ref (S.1 68)), (2, .int x2)] [] := by
  induction n with
  | zero => intro h x2 e; exact zd_no e
  | succ n ih => intro h x2 e; exact zb_Mo_ladder_17 (k17 := f_Mo_ladder_L17  n) C hR ih h x2 e
set_option maxHeartbeats 4000000 in
set_option maxRecDepth 100000 in
theorem zc_Mo_ladder {l : Launch} {D : va_G} {sz0 : Nat} {S : zs_T} {P : ze_T} (h : zs_H) (x1 : Int32) {rh : zs_H} (e : f_Mo_ladder h x1 = some rh) : zk_Sp (zs_G S l D sz0) (ze_E P) km_Mo_ladder { frames := 11, cells := 0, slots := 0, locals := 245 } [.ref (S.1 68), .int x1] (zs_W S h) (zd_PV S rh) := by
  refine zk_met ku_Mo_ladder (Nat.le_of_ble_eq_true rfl) (ze_Em P) ?_
  intro X C hR
  refine zk_lvs (lv' := [(0, .ref (S.1 68)), (1, .int x1)]) [0, 1] rfl ?_
  unfold f_Mo_ladder at e
  refine zk_aload_n C kd_Mo_ladder_0 rfl 0 rfl rfl ?_
  refine zk_iload_n C kd_Mo_ladder_1 rfl 1 rfl rfl ?_
  refine zk_bipush (v := 22) C kd_Mo_ladder_2 (by decide) rfl ?_
  refine zk_aload_n C kd_Mo_ladder_4 rfl 0 rfl rfl ?_
  refine zs_get (v := .int (h.1 68 7)) C 68 7 rfl rfl rfl rfl ki_Mo (by decide) kw1690 kd_Mo_ladder_5 rfl ?_
  refine zk_iconst (v := 0) C kd_Mo_ladder_8 (by decide) rfl ?_
  obtain ⟨v2, h3, c1, e⟩ := zd_Be e
  refine zs_callV (k := 68) (rn := { frames := 1, cells := 0, slots := 0, locals := 24 }) (As := [.int x1, .int 22, .int (h.1 68 7), .int 0]) (rest := []) C (zc_Mo_add h x1 22 (h.1 68 7) 0 c1) ku_Mo_add kw2097 kv_Mo_add rfl ⟨by decide, by decide⟩ ⟨by decide, by decide⟩ rfl rfl rfl (Nat.le_of_ble_eq_true rfl) kd_Mo_ladder_9 rfl (c1 := 0) (s1 := 0) rfl rfl (fun v w hp => ?_)
  obtain ⟨rfl, rfl⟩ := hp
  refine zk_stk (r' := [.int v2]) rfl ?_
  refine zk_istore_n (lv' := [(2, _), (0, _), (1, _)]) C kd_Mo_ladder_12 rfl (by decide) rfl rfl ?_
  refine zk_aload_n C kd_Mo_ladder_13 rfl 1 rfl rfl ?_
  obtain ⟨h5, c4, e⟩ := zd_b e
  refine zs_callV (k := 68) (rn := { frames := 6, cells := 0, slots := 0, locals := 129 }) (As := []) (rest := []) C (zc_Mo_next h3 c4) ku_Mo_next kw2001 kv_Mo_next rfl ⟨by decide, by decide⟩ ⟨by decide, by decide⟩ rfl rfl rfl (Nat.le_of_ble_eq_true rfl) kd_Mo_ladder_14 rfl (c1 := 0) (s1 := 0) rfl rfl (fun v w hp => ?_)
  obtain ⟨rfl, rfl⟩ := hp
  refine zk_stk (r' := []) rfl ?_
  refine zk_lvs (lv' := [(0, .ref (S.1 68)), (2, .int v2)]) [1, 0] rfl ?_
  exact zl_Mo_ladder_17 C hR zF h5 v2 e
set_option maxHeartbeats 4000000 in
set_option maxRecDepth 100000 in
theorem zb_Mo_open_26 {X : zkj_T} {S : zs_T} {P : ze_T} {l : Launch} {D : va_G} {sz0 : Nat} {rh : zs_H} (C : zk_C X km_Mo_open (zs_G S l D sz0) { frames := 1, cells := 0, slots := 0, locals := 22 } (ze_E P)) (hR : zkj_R X (zd_PV S rh) (none)) (h : zs_H) (e : f_Mo_open_26 h = some rh) : zk_Ab X (zs_W S h) 0 0 26 [(0, .ref (S.1 68))] [] := by
  unfold f_Mo_open_26 at e
  refine zk_aload_n C kd_Mo_open_26 rfl 0 rfl rfl ?_
  refine zk_dup C kd_Mo_open_27 rfl rfl ?_
  refine zs_get (v := .int (h.1 68 12)) C 68 12 rfl rfl rfl rfl ki_Mo (by decide) kw1695 kd_Mo_open_28 rfl ?_
  refine zk_iconst (v := 1) C kd_Mo_open_31 (by decide) rfl ?_
  refine zk_iadd C kd_Mo_open_32 rfl ?_
  refine zs_put (ty := .int) C 68 12 ((h.1 68 12) + 1) rfl rfl rfl rfl ki_Mo ky_Mo ko_Mo kn_Mo (by decide) kw1695 rfl rfl rfl rfl (by decide) kd_Mo_open_33 rfl ?_
  exact zk_vret C hR kd_Mo_open_36 rfl rfl (zd_rV e)
set_option maxHeartbeats 4000000 in
set_option maxRecDepth 100000 in
theorem zc_Mo_open {l : Launch} {D : va_G} {sz0 : Nat} {S : zs_T} {P : ze_T} (h : zs_H) {rh : zs_H} (e : f_Mo_open h = some rh) : zk_Sp (zs_G S l D sz0) (ze_E P) km_Mo_open { frames := 1, cells := 0, slots := 0, locals := 22 } [.ref (S.1 68)] (zs_W S h) (zd_PV S rh) := by
  refine zk_met ku_Mo_open (Nat.le_of_ble_eq_true rfl) (ze_Em P) ?_
  intro X C hR
  refine zk_lvs (lv' := [(0, .ref (S.1 68))]) [0] rfl ?_
  unfold f_Mo_open at e
  refine zk_aload_n C kd_Mo_open_0 rfl 0 rfl rfl ?_
  refine zs_get (v := .int (h.1 68 10)) C 68 10 rfl rfl rfl rfl ki_Mo (by decide) kw1693 kd_Mo_open_1 rfl ?_
  refine zk_if_ne (tgt := 26) C kd_Mo_open_4 (by decide) rfl (fun b1 => ?_) (fun b1 => ?_)
  · replace e := zd_neg b1 e
    refine zk_lvs (lv' := [(0, .ref (S.1 68))]) [0] rfl ?_
    exact zb_Mo_open_26 C hR h e
  · replace e := zd_pos b1 e
    refine zk_aload_n C kd_Mo_open_7 rfl 0 rfl rfl ?_
    refine zs_get (v := .int (h.1 68 12)) C 68 12 rfl rfl rfl rfl ki_Mo (by decide) kw1695 kd_Mo_open_8 rfl ?_
    refine zk_bipush (v := 60) C kd_Mo_open_11 (by decide) rfl ?_
    refine zk_icmp_ne (tgt := 26) C kd_Mo_open_13 (by decide) rfl (fun b2 => ?_) (fun b2 => ?_)
    · replace e := zd_neg b2 e
      refine zk_lvs (lv' := [(0, .ref (S.1 68))]) [0] rfl ?_
      exact zb_Mo_open_26 C hR h e
    · replace e := zd_pos b2 e
      refine zk_aload_n C kd_Mo_open_16 rfl 0 rfl rfl ?_
      refine zk_bipush (v := 7) C kd_Mo_open_17 (by decide) rfl ?_
      refine zk_aload_n C kd_Mo_open_19 rfl 0 rfl rfl ?_
      refine zs_get (v := .int (h.1 68 7)) C 68 7 rfl rfl rfl rfl ki_Mo (by decide) kw1690 kd_Mo_open_20 rfl ?_
      obtain ⟨h4, c3, e⟩ := zd_b e
      refine zs_callV (k := 68) (rn := { frames := 0, cells := 0, slots := 0, locals := 0 }) (As := [.int 7, .int (h.1 68 7)]) (rest := []) C (zc_Mo_fail h 7 (h.1 68 7) c3) ku_Mo_fail kw2013 kv_Mo_fail rfl ⟨by decide, by decide⟩ ⟨by decide, by decide⟩ rfl rfl rfl (Nat.le_of_ble_eq_true rfl) kd_Mo_open_23 rfl (c1 := 0) (s1 := 0) rfl rfl (fun v w hp => ?_)
      obtain ⟨rfl, rfl⟩ := hp
      refine zk_stk (r' := []) rfl ?_
      refine zk_lvs (lv' := [(0, .ref (S.1 68))]) [0] rfl ?_
      exact zb_Mo_open_26 C hR h4 e
set_option maxHeartbeats 4000000 in
set_option maxRecDepth 100000 in
theorem zc_Mo_keep {l : Launch} {D : va_G} {sz0 : Nat} {S : zs_T} {P : ze_T} (h : zs_H) (x1 : Int32) {rh : zs_H} (e : f_Mo_keep h x1 = some rh) : zk_Sp (zs_G S l D sz0) (ze_E P) km_Mo_keep { frames := 0, cells := 0, slots := 0, locals := 0 } [.ref (S.1 68), .int x1] (zs_W S h) (zd_PV S rh) := by
  refine zk_met ku_Mo_keep (Nat.le_of_ble_eq_true rfl) (ze_Em P) ?_
  intro X C hR
  refine zk_lvs (lv' := [(0, .ref (S.1 68)), (1, .int x1)]) [0, 1] rfl ?_
  unfold f_Mo_keep at e
  refine zk_aload_n C kd_Mo_keep_0 rfl 0 rfl rfl ?_
  refine zs_get (v := .ref (S.1 81)) C 68 26 rfl rfl rfl rfl ki_Mo (by decide) kw1709 kd_Mo_keep_1 rfl ?_
  refine zk_aload_n C kd_Mo_keep_4 rfl 0 rfl rfl ?_
  refine zs_get (v := .int (h.1 68 25)) C 68 25 rfl rfl rfl rfl ki_Mo (by decide) kw1708 kd_Mo_keep_5 rfl ?_
  refine zk_iload_n C kd_Mo_keep_8 rfl 1 rfl rfl ?_
  obtain ⟨q1, e⟩ := zd_g e
  refine zs_iast C 81 rfl (zd_vp q1) kd_Mo_keep_9 rfl ?_
  refine zk_aload_n C kd_Mo_keep_10 rfl 0 rfl rfl ?_
  refine zk_dup C kd_Mo_keep_11 rfl rfl ?_
  refine zs_get (v := .int (h.1 68 25)) C 68 25 rfl rfl rfl rfl ki_Mo (by decide) kw1708 kd_Mo_keep_12 rfl ?_
  refine zk_iconst (v := 1) C kd_Mo_keep_15 (by decide) rfl ?_
  refine zk_iadd C kd_Mo_keep_16 rfl ?_
  refine zs_put (ty := .int) C 68 25 ((h.1 68 25) + 1) rfl rfl rfl rfl ki_Mo ky_Mo ko_Mo kn_Mo (by decide) kw1708 rfl rfl rfl rfl (by decide) kd_Mo_keep_17 rfl ?_
  exact zk_vret C hR kd_Mo_keep_20 rfl rfl (zd_rV e)
set_option maxHeartbeats 4000000 in
set_option maxRecDepth 100000 in
theorem zc_Mo_next2 {l : Launch} {D : va_G} {sz0 : Nat} {S : zs_T} {P : ze_T} (h : zs_H) {rh : zs_H} (e : f_Mo_next2 h = some rh) : zk_Sp (zs_G S l D sz0) (ze_E P) km_Mo_next2 { frames := 7, cells := 0, slots := 0, locals := 150 } [.ref (S.1 68)] (zs_W S h) (zd_PV S rh) := by
  refine zk_met ku_Mo_next2 (Nat.le_of_ble_eq_true rfl) (ze_Em P) ?_
  intro X C hR
  refine zk_lvs (lv' := [(0, .ref (S.1 68))]) [0] rfl ?_
  unfold f_Mo_next2 at e
  refine zk_aload_n C kd_Mo_next2_0 rfl 0 rfl rfl ?_
  refine zs_get (v := .int (h.1 68 10)) C 68 10 rfl rfl rfl rfl ki_Mo (by decide) kw1693 kd_Mo_next2_1 rfl ?_
  refine zk_if_ne (tgt := 11) C kd_Mo_next2_4 (by decide) rfl (fun b1 => ?_) (fun b1 => ?_)
  · replace e := zd_neg b1 e
    exact zk_vret C hR kd_Mo_next2_11 rfl rfl (zd_rV e)
  · replace e := zd_pos b1 e
    refine zk_aload_n C kd_Mo_next2_7 rfl 0 rfl rfl ?_
    obtain ⟨h3, c2, e⟩ := zd_b e
    refine zs_callV (k := 68) (rn := { frames := 6, cells := 0, slots := 0, locals := 129 }) (As := []) (rest := []) C (zc_Mo_next h c2) ku_Mo_next kw2001 kv_Mo_next rfl ⟨by decide, by decide⟩ ⟨by decide, by decide⟩ rfl rfl rfl (Nat.le_of_ble_eq_true rfl) kd_Mo_next2_8 rfl (c1 := 0) (s1 := 0) rfl rfl (fun v w hp => ?_)
    obtain ⟨rfl, rfl⟩ := hp
    refine zk_stk (r' := []) rfl ?_
    exact zk_vret C hR kd_Mo_next2_11 rfl rfl (zd_rV e)
set_option maxHeartbeats 4000000 in
set_option maxRecDepth 100000 in
theorem zc_Mo_signAt {l : Launch} {D : va_G} {sz0 : Nat} {S : zs_T} {P : ze_T} (h : zs_H) : zk_Sp (zs_G S l D sz0) (ze_E P) km_Mo_signAt { frames := 0, cells := 0, slots := 0, locals := 0 } [.ref (S.1 68)] (zs_W S h) (zd_PI S (f_Mo_signAt h) h) := by
  obtain ⟨rv, e⟩ : ∃ rv, f_Mo_signAt h = rv := ⟨_, rfl⟩
  rw [e]
  refine zk_met ku_Mo_signAt (Nat.le_of_ble_eq_true rfl) (ze_Em P) ?_
  intro X C hR
  refine zk_lvs (lv' := [(0, .ref (S.1 68))]) [0] rfl ?_
  unfold f_Mo_signAt at e
  refine zk_aload_n C kd_Mo_signAt_0 rfl 0 rfl rfl ?_
  refine zs_get (v := .int (h.1 68 10)) C 68 10 rfl rfl rfl rfl ki_Mo (by decide) kw1693 kd_Mo_signAt_1 rfl ?_
  refine zk_if_le (tgt := 9) C kd_Mo_signAt_4 (by decide) rfl (fun b1 => ?_) (fun b1 => ?_)
  · replace e := zd_pos b1 e
    refine zk_aload_n C kd_Mo_signAt_9 rfl 0 rfl rfl ?_
    refine zs_get (v := .int (h.1 68 6)) C 68 6 rfl rfl rfl rfl ki_Mo (by decide) kw1689 kd_Mo_signAt_10 rfl ?_
    refine zk_iconst (v := 2) C kd_Mo_signAt_13 (by decide) rfl ?_
    refine zk_icmp_ne (tgt := 72) C kd_Mo_signAt_14 (by decide) rfl (fun b2 => ?_) (fun b2 => ?_)
    · replace e := zd_neg b2 e
      refine zk_aload_n C kd_Mo_signAt_72 rfl 0 rfl rfl ?_
      refine zs_get (v := .int (h.1 68 6)) C 68 6 rfl rfl rfl rfl ki_Mo (by decide) kw1689 kd_Mo_signAt_73 rfl ?_
      refine zk_iconst (v := 5) C kd_Mo_signAt_76 (by decide) rfl ?_
      refine zk_icmp_eq (tgt := 84) C kd_Mo_signAt_77 (by decide) rfl (fun b3 => ?_) (fun b3 => ?_)
      · replace e := zd_pos b3 e
        refine zk_aload_n C kd_Mo_signAt_84 rfl 0 rfl rfl ?_
        refine zs_get (v := .int (h.1 68 9)) C 68 9 rfl rfl rfl rfl ki_Mo (by decide) kw1692 kd_Mo_signAt_85 rfl ?_
        refine zk_bipush (v := 38) C kd_Mo_signAt_88 (by decide) rfl ?_
        refine zk_icmp_ne (tgt := 97) C kd_Mo_signAt_90 (by decide) rfl (fun b4 => ?_) (fun b4 => ?_)
        · replace e := zd_neg b4 e
          refine zk_aload_n C kd_Mo_signAt_97 rfl 0 rfl rfl ?_
          refine zs_get (v := .int (h.1 68 9)) C 68 9 rfl rfl rfl rfl ki_Mo (by decide) kw1692 kd_Mo_signAt_98 rfl ?_
          refine zk_bipush (v := 61) C kd_Mo_signAt_101 (by decide) rfl ?_
          refine zk_icmp_ne (tgt := 110) C kd_Mo_signAt_103 (by decide) rfl (fun b5 => ?_) (fun b5 => ?_)
          · replace e := zd_neg b5 e
            refine zk_aload_n C kd_Mo_signAt_110 rfl 0 rfl rfl ?_
            refine zs_get (v := .int (h.1 68 9)) C 68 9 rfl rfl rfl rfl ki_Mo (by decide) kw1692 kd_Mo_signAt_111 rfl ?_
            refine zk_sipush (v := 260) C kd_Mo_signAt_114 (by decide) rfl ?_
            refine zk_icmp_ne (tgt := 124) C kd_Mo_signAt_117 (by decide) rfl (fun b6 => ?_) (fun b6 => ?_)
            · replace e := zd_neg b6 e
              refine zk_aload_n C kd_Mo_signAt_124 rfl 0 rfl rfl ?_
              refine zs_get (v := .int (h.1 68 9)) C 68 9 rfl rfl rfl rfl ki_Mo (by decide) kw1692 kd_Mo_signAt_125 rfl ?_
              refine zk_bipush (v := 60) C kd_Mo_signAt_128 (by decide) rfl ?_
              refine zk_icmp_ne (tgt := 137) C kd_Mo_signAt_130 (by decide) rfl (fun b7 => ?_) (fun b7 => ?_)
              · replace e := zd_neg b7 e
                refine zk_aload_n C kd_Mo_signAt_137 rfl 0 rfl rfl ?_
                refine zs_get (v := .int (h.1 68 9)) C 68 9 rfl rfl rfl rfl ki_Mo (by decide) kw1692 kd_Mo_signAt_138 rfl ?_
                refine zk_bipush (v := 62) C kd_Mo_signAt_141 (by decide) rfl ?_
                refine zk_icmp_ne (tgt := 151) C kd_Mo_signAt_143 (by decide) rfl (fun b8 => ?_) (fun b8 => ?_)
                · replace e := zd_neg b8 e
                  refine zk_aload_n C kd_Mo_signAt_151 rfl 0 rfl rfl ?_
                  refine zs_get (v := .int (h.1 68 9)) C 68 9 rfl rfl rfl rfl ki_Mo (by decide) kw1692 kd_Mo_signAt_152 rfl ?_
                  refine zk_sipush (v := 258) C kd_Mo_signAt_155 (by decide) rfl ?_
                  refine zk_icmp_ne (tgt := 166) C kd_Mo_signAt_158 (by decide) rfl (fun b9 => ?_) (fun b9 => ?_)
                  · replace e := zd_neg b9 e
                    refine zk_aload_n C kd_Mo_signAt_166 rfl 0 rfl rfl ?_
                    refine zs_get (v := .int (h.1 68 9)) C 68 9 rfl rfl rfl rfl ki_Mo (by decide) kw1692 kd_Mo_signAt_167 rfl ?_
                    refine zk_sipush (v := 259) C kd_Mo_signAt_170 (by decide) rfl ?_
                    refine zk_icmp_ne (tgt := 181) C kd_Mo_signAt_173 (by decide) rfl (fun b10 => ?_) (fun b10 => ?_)
                    · replace e := zd_neg b10 e
                      refine zk_aload_n C kd_Mo_signAt_181 rfl 0 rfl rfl ?_
                      refine zs_get (v := .int (h.1 68 9)) C 68 9 rfl rfl rfl rfl ki_Mo (by decide) kw1692 kd_Mo_signAt_182 rfl ?_
                      refine zk_bipush (v := 43) C kd_Mo_signAt_185 (by decide) rfl ?_
                      refine zk_icmp_ne (tgt := 195) C kd_Mo_signAt_187 (by decide) rfl (fun b11 => ?_) (fun b11 => ?_)
                      · replace e := zd_neg b11 e
                        refine zk_aload_n C kd_Mo_signAt_195 rfl 0 rfl rfl ?_
                        refine zs_get (v := .int (h.1 68 9)) C 68 9 rfl rfl rfl rfl ki_Mo (by decide) kw1692 kd_Mo_signAt_196 rfl ?_
                        refine zk_bipush (v := 45) C kd_Mo_signAt_199 (by decide) rfl ?_
                        refine zk_icmp_ne (tgt := 209) C kd_Mo_signAt_201 (by decide) rfl (fun b12 => ?_) (fun b12 => ?_)
                        · replace e := zd_neg b12 e
                          refine zk_aload_n C kd_Mo_signAt_209 rfl 0 rfl rfl ?_
                          refine zs_get (v := .int (h.1 68 9)) C 68 9 rfl rfl rfl rfl ki_Mo (by decide) kw1692 kd_Mo_signAt_210 rfl ?_
                          refine zk_bipush (v := 42) C kd_Mo_signAt_213 (by decide) rfl ?_
                          refine zk_icmp_ne (tgt := 223) C kd_Mo_signAt_215 (by decide) rfl (fun b13 => ?_) (fun b13 => ?_)
                          · replace e := zd_neg b13 e
                            refine zk_aload_n C kd_Mo_signAt_223 rfl 0 rfl rfl ?_
                            refine zs_get (v := .int (h.1 68 9)) C 68 9 rfl rfl rfl rfl ki_Mo (by decide) kw1692 kd_Mo_signAt_224 rfl ?_
                            refine zk_bipush (v := 47) C kd_Mo_signAt_227 (by decide) rfl ?_
                            refine zk_icmp_ne (tgt := 237) C kd_Mo_signAt_229 (by decide) rfl (fun b14 => ?_) (fun b14 => ?_)
                            · replace e := zd_neg b14 e
                              refine zk_iconst (v := (-1)) C kd_Mo_signAt_237 (by decide) rfl ?_
                              exact zk_iret C hR kd_Mo_signAt_238 rfl rfl (zd_rIT e)
                            · replace e := zd_pos b14 e
                              refine zk_bipush (v := 12) C kd_Mo_signAt_232 (by decide) rfl ?_
                              refine zk_goto (tgt := 238) C kd_Mo_signAt_234 (by decide) ?_
                              exact zk_iret C hR kd_Mo_signAt_238 rfl rfl (zd_rIT e)
                          · replace e := zd_pos b13 e
                            refine zk_bipush (v := 11) C kd_Mo_signAt_218 (by decide) rfl ?_
                            refine zk_goto (tgt := 238) C kd_Mo_signAt_220 (by decide) ?_
                            exact zk_iret C hR kd_Mo_signAt_238 rfl rfl (zd_rIT e)
                        · replace e := zd_pos b12 e
                          refine zk_bipush (v := 10) C kd_Mo_signAt_204 (by decide) rfl ?_
                          refine zk_goto (tgt := 238) C kd_Mo_signAt_206 (by decide) ?_
                          exact zk_iret C hR kd_Mo_signAt_238 rfl rfl (zd_rIT e)
                      · replace e := zd_pos b11 e
                        refine zk_bipush (v := 9) C kd_Mo_signAt_190 (by decide) rfl ?_
                        refine zk_goto (tgt := 238) C kd_Mo_signAt_192 (by decide) ?_
                        exact zk_iret C hR kd_Mo_signAt_238 rfl rfl (zd_rIT e)
                    · replace e := zd_pos b10 e
                      refine zk_bipush (v := 8) C kd_Mo_signAt_176 (by decide) rfl ?_
                      refine zk_goto (tgt := 238) C kd_Mo_signAt_178 (by decide) ?_
                      exact zk_iret C hR kd_Mo_signAt_238 rfl rfl (zd_rIT e)
                  · replace e := zd_pos b9 e
                    refine zk_bipush (v := 7) C kd_Mo_signAt_161 (by decide) rfl ?_
                    refine zk_goto (tgt := 238) C kd_Mo_signAt_163 (by decide) ?_
                    exact zk_iret C hR kd_Mo_signAt_238 rfl rfl (zd_rIT e)
                · replace e := zd_pos b8 e
                  refine zk_bipush (v := 6) C kd_Mo_signAt_146 (by decide) rfl ?_
                  refine zk_goto (tgt := 238) C kd_Mo_signAt_148 (by decide) ?_
                  exact zk_iret C hR kd_Mo_signAt_238 rfl rfl (zd_rIT e)
              · replace e := zd_pos b7 e
                refine zk_iconst (v := 5) C kd_Mo_signAt_133 (by decide) rfl ?_
                refine zk_goto (tgt := 238) C kd_Mo_signAt_134 (by decide) ?_
                exact zk_iret C hR kd_Mo_signAt_238 rfl rfl (zd_rIT e)
            · replace e := zd_pos b6 e
              refine zk_iconst (v := 4) C kd_Mo_signAt_120 (by decide) rfl ?_
              refine zk_goto (tgt := 238) C kd_Mo_signAt_121 (by decide) ?_
              exact zk_iret C hR kd_Mo_signAt_238 rfl rfl (zd_rIT e)
          · replace e := zd_pos b5 e
            refine zk_iconst (v := 3) C kd_Mo_signAt_106 (by decide) rfl ?_
            refine zk_goto (tgt := 238) C kd_Mo_signAt_107 (by decide) ?_
            exact zk_iret C hR kd_Mo_signAt_238 rfl rfl (zd_rIT e)
        · replace e := zd_pos b4 e
          refine zk_iconst (v := 2) C kd_Mo_signAt_93 (by decide) rfl ?_
          refine zk_goto (tgt := 238) C kd_Mo_signAt_94 (by decide) ?_
          exact zk_iret C hR kd_Mo_signAt_238 rfl rfl (zd_rIT e)
      · replace e := zd_neg b3 e
        refine zk_iconst (v := (-1)) C kd_Mo_signAt_80 (by decide) rfl ?_
        refine zk_goto (tgt := 238) C kd_Mo_signAt_81 (by decide) ?_
        exact zk_iret C hR kd_Mo_signAt_238 rfl rfl (zd_rIT e)
    · replace e := zd_pos b2 e
      refine zk_aload_n C kd_Mo_signAt_17 rfl 0 rfl rfl ?_
      refine zs_get (v := .int (h.1 68 9)) C 68 9 rfl rfl rfl rfl ki_Mo (by decide) kw1692 kd_Mo_signAt_18 rfl ?_
      refine zk_bipush (v := 30) C kd_Mo_signAt_21 (by decide) rfl ?_
      refine zk_icmp_ne (tgt := 30) C kd_Mo_signAt_23 (by decide) rfl (fun b15 => ?_) (fun b15 => ?_)
      · replace e := zd_neg b15 e
        refine zk_aload_n C kd_Mo_signAt_30 rfl 0 rfl rfl ?_
        refine zs_get (v := .int (h.1 68 9)) C 68 9 rfl rfl rfl rfl ki_Mo (by decide) kw1692 kd_Mo_signAt_31 rfl ?_
        refine zk_bipush (v := 31) C kd_Mo_signAt_34 (by decide) rfl ?_
        refine zk_icmp_ne (tgt := 43) C kd_Mo_signAt_36 (by decide) rfl (fun b16 => ?_) (fun b16 => ?_)
        · replace e := zd_neg b16 e
          refine zk_aload_n C kd_Mo_signAt_43 rfl 0 rfl rfl ?_
          refine zs_get (v := .int (h.1 68 9)) C 68 9 rfl rfl rfl rfl ki_Mo (by decide) kw1692 kd_Mo_signAt_44 rfl ?_
          refine zk_bipush (v := 32) C kd_Mo_signAt_47 (by decide) rfl ?_
          refine zk_icmp_ne (tgt := 56) C kd_Mo_signAt_49 (by decide) rfl (fun b17 => ?_) (fun b17 => ?_)
          · replace e := zd_neg b17 e
            refine zk_aload_n C kd_Mo_signAt_56 rfl 0 rfl rfl ?_
            refine zs_get (v := .int (h.1 68 9)) C 68 9 rfl rfl rfl rfl ki_Mo (by decide) kw1692 kd_Mo_signAt_57 rfl ?_
            refine zk_bipush (v := 33) C kd_Mo_signAt_60 (by decide) rfl ?_
            refine zk_icmp_ne (tgt := 70) C kd_Mo_signAt_62 (by decide) rfl (fun b18 => ?_) (fun b18 => ?_)
            · replace e := zd_neg b18 e
              refine zk_iconst (v := (-1)) C kd_Mo_signAt_70 (by decide) rfl ?_
              exact zk_iret C hR kd_Mo_signAt_71 rfl rfl (zd_rIT e)
            · replace e := zd_pos b18 e
              refine zk_bipush (v := 13) C kd_Mo_signAt_65 (by decide) rfl ?_
              refine zk_goto (tgt := 71) C kd_Mo_signAt_67 (by decide) ?_
              exact zk_iret C hR kd_Mo_signAt_71 rfl rfl (zd_rIT e)
          · replace e := zd_pos b17 e
            refine zk_iconst (v := 2) C kd_Mo_signAt_52 (by decide) rfl ?_
            refine zk_goto (tgt := 71) C kd_Mo_signAt_53 (by decide) ?_
            exact zk_iret C hR kd_Mo_signAt_71 rfl rfl (zd_rIT e)
        · replace e := zd_pos b16 e
          refine zk_iconst (v := 1) C kd_Mo_signAt_39 (by decide) rfl ?_
          refine zk_goto (tgt := 71) C kd_Mo_signAt_40 (by decide) ?_
          exact zk_iret C hR kd_Mo_signAt_71 rfl rfl (zd_rIT e)
      · replace e := zd_pos b15 e
        refine zk_iconst (v := 0) C kd_Mo_signAt_26 (by decide) rfl ?_
        refine zk_goto (tgt := 71) C kd_Mo_signAt_27 (by decide) ?_
        exact zk_iret C hR kd_Mo_signAt_71 rfl rfl (zd_rIT e)
  · replace e := zd_neg b1 e
    refine zk_iconst (v := (-1)) C kd_Mo_signAt_7 (by decide) rfl ?_
    exact zk_iret C hR kd_Mo_signAt_8 rfl rfl (zd_rIT e)
set_option maxHeartbeats 4000000 in
set_option maxRecDepth 100000 in
theorem zc_Mo_closeness {l : Launch} {D : va_G} {sz0 : Nat} {S : zs_T} {P : ze_T} (h : zs_H) (x0 : Int32) : zk_Sp (zs_G S l D sz0) (ze_E P) km_Mo_closeness { frames := 0, cells := 0, slots := 0, locals := 0 } [.int x0] (zs_W S h) (zd_PI S (f_Mo_closeness x0) h) := by
  obtain ⟨rv, e⟩ : ∃ rv, f_Mo_closeness x0 = rv := ⟨_, rfl⟩
  rw [e]
  refine zk_met ku_Mo_closeness (Nat.le_of_ble_eq_true rfl) (ze_Em P) ?_
  intro X C hR
  refine zk_lvs (lv' := [(0, .int x0)]) [0] rfl ?_
  unfold f_Mo_closeness at e
  refine zk_iload_n C kd_Mo_closeness_0 rfl 0 rfl rfl ?_
  refine zk_if_ge (tgt := 8) C kd_Mo_closeness_1 (by decide) rfl (fun b1 => ?_) (fun b1 => ?_)
  · replace e := zd_pos b1 e
    refine zk_iload_n C kd_Mo_closeness_8 rfl 0 rfl rfl ?_
    refine zk_iconst (v := 3) C kd_Mo_closeness_9 (by decide) rfl ?_
    refine zk_icmp_ge (tgt := 19) C kd_Mo_closeness_10 (by decide) rfl (fun b2 => ?_) (fun b2 => ?_)
    · replace e := zd_pos b2 e
      refine zk_iload_n C kd_Mo_closeness_19 rfl 0 rfl rfl ?_
      refine zk_iconst (v := 5) C kd_Mo_closeness_20 (by decide) rfl ?_
      refine zk_icmp_ge (tgt := 28) C kd_Mo_closeness_21 (by decide) rfl (fun b3 => ?_) (fun b3 => ?_)
      · replace e := zd_pos b3 e
        refine zk_iload_n C kd_Mo_closeness_28 rfl 0 rfl rfl ?_
        refine zk_bipush (v := 9) C kd_Mo_closeness_29 (by decide) rfl ?_
        refine zk_icmp_ge (tgt := 38) C kd_Mo_closeness_31 (by decide) rfl (fun b4 => ?_) (fun b4 => ?_)
        · replace e := zd_pos b4 e
          refine zk_iload_n C kd_Mo_closeness_38 rfl 0 rfl rfl ?_
          refine zk_bipush (v := 11) C kd_Mo_closeness_39 (by decide) rfl ?_
          refine zk_icmp_ge (tgt := 49) C kd_Mo_closeness_41 (by decide) rfl (fun b5 => ?_) (fun b5 => ?_)
          · replace e := zd_pos b5 e
            refine zk_bipush (v := 7) C kd_Mo_closeness_49 (by decide) rfl ?_
            exact zk_iret C hR kd_Mo_closeness_51 rfl rfl (zd_rIT e)
          · replace e := zd_neg b5 e
            refine zk_bipush (v := 6) C kd_Mo_closeness_44 (by decide) rfl ?_
            refine zk_goto (tgt := 51) C kd_Mo_closeness_46 (by decide) ?_
            exact zk_iret C hR kd_Mo_closeness_51 rfl rfl (zd_rIT e)
        · replace e := zd_neg b4 e
          refine zk_iconst (v := 5) C kd_Mo_closeness_34 (by decide) rfl ?_
          refine zk_goto (tgt := 51) C kd_Mo_closeness_35 (by decide) ?_
          exact zk_iret C hR kd_Mo_closeness_51 rfl rfl (zd_rIT e)
      · replace e := zd_neg b3 e
        refine zk_iconst (v := 4) C kd_Mo_closeness_24 (by decide) rfl ?_
        refine zk_goto (tgt := 51) C kd_Mo_closeness_25 (by decide) ?_
        exact zk_iret C hR kd_Mo_closeness_51 rfl rfl (zd_rIT e)
    · replace e := zd_neg b2 e
      refine zk_iload_n C kd_Mo_closeness_13 rfl 0 rfl rfl ?_
      refine zk_iconst (v := 1) C kd_Mo_closeness_14 (by decide) rfl ?_
      refine zk_iadd C kd_Mo_closeness_15 rfl ?_
      refine zk_goto (tgt := 51) C kd_Mo_closeness_16 (by decide) ?_
      exact zk_iret C hR kd_Mo_closeness_51 rfl rfl (zd_rIT e)
  · replace e := zd_neg b1 e
    refine zk_iconst (v := 0) C kd_Mo_closeness_4 (by decide) rfl ?_
    refine zk_goto (tgt := 51) C kd_Mo_closeness_5 (by decide) ?_
    exact zk_iret C hR kd_Mo_closeness_51 rfl rfl (zd_rIT e)
set_option maxHeartbeats 4000000 in
set_option maxRecDepth 100000 in
theorem zb_Mo_split_43 {X : zkj_T} {S : zs_T} {P : ze_T} {l : Launch} {D : va_G} {sz0 : Nat} {d : Nat} {rv : Int32} {rh : zs_H} (C : zk_C X km_Mo_split (zs_G S l D sz0) { frames := 1 + (d + 1), cells := 0, slots := 0, locals := 24 + 24 * (d + 1) } (ze_E P)) (hR : zkj_R X (zd_PI S rv rh) (some .int)) {r_Mo_split : zs_H → Int32 → Int32 → (Option (Int32 × zs_H))} (hr_Mo_split : ∀ (h : zs_H) (x0 : Int32) (x1 : Int32) {rv : Int32} {rh : zs_H}, r_Mo_split h x0 x1 = some (rv, rh) → zk_Sp (zs_G S l D sz0) (ze_E P) km_Mo_split { frames := 1 + d, cells := 0, slots := 0, locals := 24 + 24 * d } [.ref (S.1 68), .int x0, .int x1] (zs_W S h) (zd_PI S rv rh)) {k5 : zs_H → Int32 → Int32 → Int32 → Int32 → (Option (Int32 × zs_H))} (hk5 : ∀ (h : zs_H) (x1 : Int32) (x2 : Int32) (x3 : Int32) (x4 : Int32), k5 h x1 x2 x3 x4 = some (rv, rh) → zk_Ab X (zs_W S h) 0 0 5 [(0, .ref (S.1 68)), (1, .int x1), (2, .int x2), (3, .int x3), (4, .int x4)] []) (h : zs_H) (x1 : Int32) (x2 : Int32) (x4 : Int32) (y0 : Int32) (e : f_Mo_split_43 r_Mo_split k5 h x1 x2 x4 y0 = some (rv, rh)) : zk_Ab X (zs_W S h) 0 0 43 [(0, .ref (S.1 68)), (1, .int x1), (2, .int x2), (4, .int x4)] [.int y0] := by
  unfold f_Mo_split_43 at e
  refine zk_istore_n (lv' := [(3, _), (0, _), (1, _), (2, _), (4, _)]) C kd_Mo_split_43 rfl (by decide) rfl rfl ?_
  refine zk_iinc (v := (x4 + 1)) (lv' := [(4, _), (3, _), (0, _), (1, _), (2, _)]) C kd_Mo_split_44 4 rfl rfl (by decide) rfl rfl ?_
  refine zk_goto (tgt := 5) C kd_Mo_split_47 (by decide) ?_
  refine zk_lvs (lv' := [(0, .ref (S.1 68)), (1, .int x1), (2, .int x2), (3, .int y0), (4, .int (x4 + 1))]) [2, 3, 4, 1, 0] rfl ?_
  exact hk5 h x1 x2 y0 (x4 + 1) e
set_option maxHeartbeats 4000000 in
set_option maxRecDepth 100000 in
theorem zb_Mo_split_37 {X : zkj_T} {S : zs_T} {P : ze_T} {l : Launch} {D : va_G} {sz0 : Nat} {d : Nat} {rv : Int32} {rh : zs_H} (C : zk_C X km_Mo_split (zs_G S l D sz0) { frames := 1 + (d + 1), cells := 0, slots := 0, locals := 24 + 24 * (d + 1) } (ze_E P)) (hR : zkj_R X (zd_PI S rv rh) (some .int)) {r_Mo_split : zs_H → Int32 → Int32 → (Option (Int32 × zs_H))} (hr_Mo_split : ∀ (h : zs_H) (x0 : Int32) (x1 : Int32) {rv : Int32} {rh : zs_H}, r_Mo_split h x0 x1 = some (rv, rh) → zk_Sp (zs_G S l D sz0) (ze_E P) km_Mo_split { frames := 1 + d, cells := 0, slots := 0, locals := 24 + 24 * d } [.ref (S.1 68), .int x0, .int x1] (zs_W S h) (zd_PI S rv rh)) {k5 : zs_H → Int32 → Int32 → Int32 → Int32 → (Option (Int32 × zs_H))} (hk5 : ∀ (h : zs_H) (x1 : Int32) (x2 : Int32) (x3 : Int32) (x4 : Int32), k5 h x1 x2 x3 x4 = some (rv, rh) → zk_Ab X (zs_W S h) 0 0 5 [(0, .ref (S.1 68)), (1, .int x1), (2, .int x2), (3, .int x3), (4, .int x4)] []) (h : zs_H) (x1 : Int32) (x2 : Int32) (x4 : Int32) (e : f_Mo_split_37 r_Mo_split k5 h x1 x2 x4 = some (rv, rh)) : zk_Ab X (zs_W S h) 0 0 37 [(0, .ref (S.1 68)), (1, .int x1), (2, .int x2), (4, .int x4)] [] := by
  unfold f_Mo_split_37 at e
  refine zk_iload C kd_Mo_split_37 3 rfl rfl ?_
  refine zk_goto (tgt := 43) C kd_Mo_split_39 (by decide) ?_
  refine zk_lvs (lv' := [(0, .ref (S.1 68)), (1, .int x1), (2, .int x2), (4, .int x4)]) [0, 1, 2, 3] rfl ?_
  exact zb_Mo_split_43 C hR hr_Mo_split hk5 h x1 x2 x4 x4 e
set_option maxHeartbeats 4000000 in
set_option maxRecDepth 100000 in
theorem zb_Mo_split_5 {X : zkj_T} {S : zs_T} {P : ze_T} {l : Launch} {D : va_G} {sz0 : Nat} {d : Nat} {rv : Int32} {rh : zs_H} (C : zk_C X km_Mo_split (zs_G S l D sz0) { frames := 1 + (d + 1), cells := 0, slots := 0, locals := 24 + 24 * (d + 1) } (ze_E P)) (hR : zkj_R X (zd_PI S rv rh) (some .int)) {r_Mo_split : zs_H → Int32 → Int32 → (Option (Int32 × zs_H))} (hr_Mo_split : ∀ (h : zs_H) (x0 : Int32) (x1 : Int32) {rv : Int32} {rh : zs_H}, r_Mo_split h x0 x1 = some (rv, rh) → zk_Sp (zs_G S l D sz0) (ze_E P) km_Mo_split { frames := 1 + d, cells := 0, slots := 0, locals := 24 + 24 * d } [.ref (S.1 68), .int x0, .int x1] (zs_W S h) (zd_PI S rv rh)) {k5 : zs_H → Int32 → Int32 → Int32 → Int32 → (Option (Int32 × zs_H))} (hk5 : ∀ (h : zs_H) (x1 : Int32) (x2 : Int32) (x3 : Int32) (x4 : Int32), k5 h x1 x2 x3 x4 = some (rv, rh) → zk_Ab X (zs_W S h) 0 0 5 [(0, .ref (S.1 68)), (1, .int x1), (2, .int x2), (3, .int x3), (4, .int x4)] []) (h : zs_H) (x1 : Int32) (x2 : Int32) (x3 : Int32) (x4 : Int32) (e : f_Mo_split_5 r_Mo_split k5 h x1 x2 x3 x4 = some (rv, rh)) : zk_Ab X (zs_W S h) 0 0 5 [(0, .ref (S.1 68)), (1, .int x1), (2, .int x2), (3, .int x3), (4, .int x4)] [] := by
  unfold f_Mo_split_5 at e
  refine zk_iload C kd_Mo_split_5 4 rfl rfl ?_
  refine zk_iload_n C kd_Mo_split_7 rfl 2 rfl rfl ?_
  refine zk_icmp_ge (tgt := 50) C kd_Mo_split_8 (by decide) rfl (fun b1 => ?_) (fun b1 => ?_)
  · replace e := zd_pos b1 e
    refine zk_iload_n C kd_Mo_split_50 rfl 3 rfl rfl ?_
    refine zk_if_ge (tgt := 61) C kd_Mo_split_51 (by decide) rfl (fun b2 => ?_) (fun b2 => ?_)
    · replace e := zd_pos b2 e
      refine zk_aload_n C kd_Mo_split_61 rfl 0 rfl rfl ?_
      refine zk_bipush (v := 35) C kd_Mo_split_62 (by decide) rfl ?_
      refine zk_aload_n C kd_Mo_split_64 rfl 0 rfl rfl ?_
      refine zs_get (v := .ref (S.1 83)) C 68 28 rfl rfl rfl rfl ki_Mo (by decide) kw1711 kd_Mo_split_65 rfl ?_
      refine zk_iload_n C kd_Mo_split_68 rfl 3 rfl rfl ?_
      obtain ⟨q3, e⟩ := zd_g e
      refine zs_iald C 83 rfl (zd_vp q3) kd_Mo_split_69 rfl ?_
      refine zk_aload_n C kd_Mo_split_70 rfl 0 rfl rfl ?_
      refine zs_get (v := .ref (S.1 82)) C 68 27 rfl rfl rfl rfl ki_Mo (by decide) kw1710 kd_Mo_split_71 rfl ?_
      refine zk_iload_n C kd_Mo_split_74 rfl 3 rfl rfl ?_
      refine zs_iald C 82 rfl (zd_vp q3) kd_Mo_split_75 rfl ?_
      obtain ⟨v5, h6, c4, e⟩ := zd_Be e
      refine zs_callV (k := 68) (rn := { frames := 0, cells := 0, slots := 0, locals := 0 }) (As := [.int 35, .int (h.2.1 83 x3.toNatClampNeg), .int (h.2.1 82 x3.toNatClampNeg)]) (rest := []) C (zc_Mo_node h 35 (h.2.1 83 x3.toNatClampNeg) (h.2.1 82 x3.toNatClampNeg) c4) ku_Mo_node kw2085 kv_Mo_node rfl (zd_rmO (by decide) (by decide)) ⟨Nat.le_refl _, Nat.le_refl _⟩ rfl rfl rfl (Nat.le_of_ble_eq_true rfl) kd_Mo_split_76 rfl (c1 := 0) (s1 := 0) rfl rfl (fun v w hp => ?_)
      obtain ⟨rfl, rfl⟩ := hp
      refine zk_stk (r' := [.int v5]) rfl ?_
      refine zk_istore (lv' := [(4, _), (0, _), (1, _), (2, _), (3, _)]) C kd_Mo_split_79 (by decide) rfl rfl ?_
      refine zk_aload_n C kd_Mo_split_81 rfl 1 rfl rfl ?_
      refine zk_aload_n C kd_Mo_split_82 rfl 1 rfl rfl ?_
      refine zk_iload_n C kd_Mo_split_83 rfl 2 rfl rfl ?_
      refine zk_iload_n C kd_Mo_split_84 rfl 4 rfl rfl ?_
      obtain ⟨v8, h9, c7, e⟩ := zd_Be e
      refine zs_callV (k := 68) (rn := { frames := 1 + d, cells := 0, slots := 0, locals := 24 + 24 * d }) (As := [.int x1, .int x3]) (rest := [.ref (S.1 68)]) C (hr_Mo_split h6 x1 x3 c7) ku_Mo_split kw2213 kv_Mo_split rfl (zd_rmI (by decide)) ⟨Nat.le_refl _, Nat.le_refl _⟩ rfl rfl rfl (Nat.le_of_ble_eq_true rfl) kd_Mo_split_85 rfl (c1 := 0) (s1 := 0) rfl rfl (fun v w hp => ?_)
      obtain ⟨rfl, rfl⟩ := hp
      refine zk_stk (r' := [.int v8, .ref (S.1 68)]) rfl ?_
      refine zk_iload C kd_Mo_split_88 0 rfl rfl ?_
      obtain ⟨h11, c10, e⟩ := zd_b e
      refine zs_callV (k := 68) (rn := { frames := 0, cells := 0, slots := 0, locals := 0 }) (As := [.int v8, .int v5]) (rest := []) C (zc_Mo_hang h9 v8 v5 c10) ku_Mo_hang kw2101 kv_Mo_hang rfl (zd_rmO (by decide) (by decide)) ⟨Nat.le_refl _, Nat.le_refl _⟩ rfl rfl rfl (Nat.le_of_ble_eq_true rfl) kd_Mo_split_90 rfl (c1 := 0) (s1 := 0) rfl rfl (fun v w hp => ?_)
      obtain ⟨rfl, rfl⟩ := hp
      refine zk_stk (r' := []) rfl ?_
      refine zk_aload_n C kd_Mo_split_93 rfl 1 rfl rfl ?_
      refine zk_aload_n C kd_Mo_split_94 rfl 1 rfl rfl ?_
      refine zk_iload_n C kd_Mo_split_95 rfl 4 rfl rfl ?_
      refine zk_iconst (v := 1) C kd_Mo_split_96 (by decide) rfl ?_
      refine zk_iadd C kd_Mo_split_97 rfl ?_
      refine zk_iload_n C kd_Mo_split_98 rfl 3 rfl rfl ?_
      obtain ⟨v13, h14, c12, e⟩ := zd_Be e
      refine zs_callV (k := 68) (rn := { frames := 1 + d, cells := 0, slots := 0, locals := 24 + 24 * d }) (As := [.int (x3 + 1), .int x2]) (rest := [.ref (S.1 68)]) C (hr_Mo_split h11 (x3 + 1) x2 c12) ku_Mo_split kw2213 kv_Mo_split rfl (zd_rmI (by decide)) ⟨Nat.le_refl _, Nat.le_refl _⟩ rfl rfl rfl (Nat.le_of_ble_eq_true rfl) kd_Mo_split_99 rfl (c1 := 0) (s1 := 0) rfl rfl (fun v w hp => ?_)
      obtain ⟨rfl, rfl⟩ := hp
      refine zk_stk (r' := [.int v13, .ref (S.1 68)]) rfl ?_
      refine zk_iload C kd_Mo_split_102 0 rfl rfl ?_
      obtain ⟨h16, c15, e⟩ := zd_b e
      refine zs_callV (k := 68) (rn := { frames := 0, cells := 0, slots := 0, locals := 0 }) (As := [.int v13, .int v5]) (rest := []) C (zc_Mo_hang h14 v13 v5 c15) ku_Mo_hang kw2101 kv_Mo_hang rfl (zd_rmO (by decide) (by decide)) ⟨Nat.le_refl _, Nat.le_refl _⟩ rfl rfl rfl (Nat.le_of_ble_eq_true rfl) kd_Mo_split_104 rfl (c1 := 0) (s1 := 0) rfl rfl (fun v w hp => ?_)
      obtain ⟨rfl, rfl⟩ := hp
      refine zk_stk (r' := []) rfl ?_
      refine zk_iload C kd_Mo_split_107 0 rfl rfl ?_
      exact zk_iret C hR kd_Mo_split_109 rfl rfl (zd_rIS e)
    · replace e := zd_neg b2 e
      refine zk_aload_n C kd_Mo_split_54 rfl 0 rfl rfl ?_
      refine zs_get (v := .ref (S.1 81)) C 68 26 rfl rfl rfl rfl ki_Mo (by decide) kw1709 kd_Mo_split_55 rfl ?_
      refine zk_iload_n C kd_Mo_split_58 rfl 1 rfl rfl ?_
      obtain ⟨q17, e⟩ := zd_g e
      refine zs_iald C 81 rfl (zd_vp q17) kd_Mo_split_59 rfl ?_
      exact zk_iret C hR kd_Mo_split_60 rfl rfl (zd_rIS e)
  · replace e := zd_neg b1 e
    refine zk_iload_n C kd_Mo_split_11 rfl 3 rfl rfl ?_
    refine zk_if_lt (tgt := 37) C kd_Mo_split_12 (by decide) rfl (fun b18 => ?_) (fun b18 => ?_)
    · replace e := zd_pos b18 e
      refine zk_lvs (lv' := [(0, .ref (S.1 68)), (1, .int x1), (2, .int x2), (4, .int x4)]) [0, 1, 2, 4] rfl ?_
      exact zb_Mo_split_37 C hR hr_Mo_split hk5 h x1 x2 x4 e
    · replace e := zd_neg b18 e
      refine zk_aload_n C kd_Mo_split_15 rfl 0 rfl rfl ?_
      refine zs_get (v := .ref (S.1 82)) C 68 27 rfl rfl rfl rfl ki_Mo (by decide) kw1710 kd_Mo_split_16 rfl ?_
      refine zk_iload C kd_Mo_split_19 4 rfl rfl ?_
      obtain ⟨q19, e⟩ := zd_g e
      refine zs_iald C 82 rfl (zd_vp q19) kd_Mo_split_21 rfl ?_
      refine zk_callS (rn := { frames := 0, cells := 0, slots := 0, locals := 0 }) (As := [.int (h.2.1 82 x4.toNatClampNeg)]) (rest := []) C (zc_Mo_closeness h (h.2.1 82 x4.toNatClampNeg)) ku_Mo_closeness kw2217 ks_Mo_closeness rfl (zd_rmO (by decide) (by decide)) ⟨Nat.le_refl _, Nat.le_refl _⟩ rfl (Nat.le_of_ble_eq_true rfl) kd_Mo_split_22 rfl (c1 := 0) (s1 := 0) rfl rfl (fun v w hp => ?_)
      obtain ⟨rfl, rfl⟩ := hp
      refine zk_stk (r' := [.int (f_Mo_closeness (h.2.1 82 x4.toNatClampNeg))]) rfl ?_
      refine zk_aload_n C kd_Mo_split_25 rfl 0 rfl rfl ?_
      refine zs_get (v := .ref (S.1 82)) C 68 27 rfl rfl rfl rfl ki_Mo (by decide) kw1710 kd_Mo_split_26 rfl ?_
      refine zk_iload_n C kd_Mo_split_29 rfl 3 rfl rfl ?_
      obtain ⟨q20, e⟩ := zd_g e
      refine zs_iald C 82 rfl (zd_vp q20) kd_Mo_split_30 rfl ?_
      refine zk_callS (rn := { frames := 0, cells := 0, slots := 0, locals := 0 }) (As := [.int (h.2.1 82 x3.toNatClampNeg)]) (rest := [.int (f_Mo_closeness (h.2.1 82 x4.toNatClampNeg))]) C (zc_Mo_closeness h (h.2.1 82 x3.toNatClampNeg)) ku_Mo_closeness kw2217 ks_Mo_closeness rfl (zd_rmO (by decide) (by decide)) ⟨Nat.le_refl _, Nat.le_refl _⟩ rfl (Nat.le_of_ble_eq_true rfl) kd_Mo_split_31 rfl (c1 := 0) (s1 := 0) rfl rfl (fun v w hp => ?_)
      obtain ⟨rfl, rfl⟩ := hp
      refine zk_stk (r' := [.int (f_Mo_closeness (h.2.1 82 x3.toNatClampNeg)), .int (f_Mo_closeness (h.2.1 82 x4.toNatClampNeg))]) rfl ?_
      refine zk_icmp_gt (tgt := 42) C kd_Mo_split_34 (by decide) rfl (fun b21 => ?_) (fun b21 => ?_)
      · replace e := zd_pos b21 e
        refine zk_iload_n C kd_Mo_split_42 rfl 3 rfl rfl ?_
        refine zk_lvs (lv' := [(0, .ref (S.1 68)), (1, .int x1), (2, .int x2), (4, .int x4)]) [0, 1, 2, 4] rfl ?_
        exact zb_Mo_split_43 C hR hr_Mo_split hk5 h x1 x2 x4 x3 e
      · replace e := zd_neg b21 e
        refine zk_lvs (lv' := [(0, .ref (S.1 68)), (1, .int x1), (2, .int x2), (4, .int x4)]) [0, 1, 2, 4] rfl ?_
        exact zb_Mo_split_37 C hR hr_Mo_split hk5 h x1 x2 x4 e
theorem zl_Mo_split_5 {X : zkj_T} {S : zs_T} {P : ze_T} {l : Launch} {D : va_G} {sz0 : Nat} {d : Nat} {rv : Int32} {rh : zs_H} (C : zk_C X km_Mo_split (zs_G S l D sz0) { frames := 1 + (d + 1), cells := 0, slots := 0, locals := 24 + 24 * (d + 1) } (ze_E P)) (hR : zkj_R X (zd_PI S rv rh) (some .int)) {r_Mo_split : zs_H → Int32 → Int32 → (Option (Int32 × zs_H))} (hr_Mo_split : ∀ (h : zs_H) (x0 : Int32) (x1 : Int32) {rv : Int32} {rh : zs_H}, r_Mo_split h x0 x1 = some (rv, rh) → zk_Sp (zs_G S l D sz0) (ze_E P) km_Mo_split { frames := 1 + d, cells := 0, slots := 0, locals := 24 + 24 * d } [.ref (S.1 68), .int x0, .int x1] (zs_W S h) (zd_PI S rv rh)) (n : Nat) : ∀ (h : zs_H) (x1 : Int32) (x2 : Int32) (x3 : Int32) (x4 : Int32), f_Mo_split_L5 r_Mo_split n h x1 x2 x3 x4 = some (rv, rh) → zk_Ab X (zs_W S h) 0 0 5 [(0, .ref (S.1 68)), (1, .int x1), (2, .int x2), (3, .int x3), (4, .int x4)] [] := by
  induction n with
  | zero => intro h x1 x2 x3 x4 e; exact zd_no e
  | succ n ih => intro h x1 x2 x3 x4 e; exact zb_Mo_split_5 (k5 := f_Mo_split_L5 r_Mo_split n) C hR hr_Mo_split ih h x1 x2 x3 x4 e
set_option maxHeartbeats 4000000 in
set_option maxRecDepth 100000 in
theorem zg_Mo_split {l : Launch} {D : va_G} {sz0 : Nat} {S : zs_T} {P : ze_T} {d : Nat} {r_Mo_split : zs_H → Int32 → Int32 → (Option (Int32 × zs_H))} (hr_Mo_split : ∀ (h : zs_H) (x0 : Int32) (x1 : Int32) {rv : Int32} {rh : zs_H}, r_Mo_split h x0 x1 = some (rv, rh) → zk_Sp (zs_G S l D sz0) (ze_E P) km_Mo_split { frames := 1 + d, cells := 0, slots := 0, locals := 24 + 24 * d } [.ref (S.1 68), .int x0, .int x1] (zs_W S h) (zd_PI S rv rh)) (h : zs_H) (x1 : Int32) (x2 : Int32) {rv : Int32} {rh : zs_H} (e : g_Mo_split r_Mo_split h x1 x2 = some (rv, rh)) : zk_Sp (zs_G S l D sz0) (ze_E P) km_Mo_split { frames := 1 + (d + 1), cells := 0, slots := 0, locals := 24 + 24 * (d + 1) } [.ref (S.1 68), .int x1, .int x2] (zs_W S h) (zd_PI S rv rh) := by
  refine zk_met ku_Mo_split (Nat.le_of_ble_eq_true rfl) (ze_Em P) ?_
  intro X C hR
  refine zk_lvs (lv' := [(0, .ref (S.1 68)), (1, .int x1), (2, .int x2)]) [0, 1, 2] rfl ?_
  unfold g_Mo_split at e
  refine zk_iconst (v := (-1)) C kd_Mo_split_0 (by decide) rfl ?_
  refine zk_istore_n (lv' := [(3, _), (0, _), (1, _), (2, _)]) C kd_Mo_split_1 rfl (by decide) rfl rfl ?_
  refine zk_iload_n C kd_Mo_split_2 rfl 2 rfl rfl ?_
  refine zk_istore (lv' := [(4, _), (3, _), (0, _), (1, _), (2, _)]) C kd_Mo_split_3 (by decide) rfl rfl ?_
  refine zk_lvs (lv' := [(0, .ref (S.1 68)), (1, .int x1), (2, .int x2), (3, .int (-1)), (4, .int x1)]) [2, 3, 4, 1, 0] rfl ?_
  exact zl_Mo_split_5 C hR hr_Mo_split zF h x1 x2 (-1) x1 e
theorem zs_Mo_split {l : Launch} {D : va_G} {sz0 : Nat} {S : zs_T} {P : ze_T} (d : Nat) : (∀ (h : zs_H) (x0 : Int32) (x1 : Int32) {rv : Int32} {rh : zs_H}, f_Mo_split d h x0 x1 = some (rv, rh) → zk_Sp (zs_G S l D sz0) (ze_E P) km_Mo_split { frames := 1 + d, cells := 0, slots := 0, locals := 24 + 24 * d } [.ref (S.1 68), .int x0, .int x1] (zs_W S h) (zd_PI S rv rh)) := by
  induction d with
  | zero => exact ((fun h x0 x1 _ _ e => zd_no e))
  | succ d ih =>
    have q0 := @ih
    have hh : f_Mo_split (d + 1) = g_Mo_split (f_Mo_split d) := zd_its _ _ d
    exact ((fun h x0 x1 _ _ e => zg_Mo_split (r_Mo_split := f_Mo_split d) q0 h x0 x1 ((congrFun (congrFun (congrFun hh h) x0) x1).symm.trans e)))
theorem zc_Mo_split {l : Launch} {D : va_G} {sz0 : Nat} {S : zs_T} {P : ze_T} (h : zs_H) (x0 : Int32) (x1 : Int32) {rv : Int32} {rh : zs_H} (e : f_Mo_split 400 h x0 x1 = some (rv, rh)) : zk_Sp (zs_G S l D sz0) (ze_E P) km_Mo_split { frames := 1 + 400, cells := 0, slots := 0, locals := 24 + 24 * 400 } [.ref (S.1 68), .int x0, .int x1] (zs_W S h) (zd_PI S rv rh) := (zs_Mo_split 400) h x0 x1 e
