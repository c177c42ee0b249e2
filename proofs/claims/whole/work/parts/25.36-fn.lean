theorem kw164 : Jvm.Cond.fieldLink "PlantKeeper" (162 : Nat) "PlantKeeper$Tree" "place" "[C" ∈ zk_BW := zk_inT 164 (by decide +kernel) rfl
theorem kw201 : Jvm.Cond.fieldLink "PlantKeeper" (131 : Nat) "PlantKeeper$Parser" "faultPlace" "I" ∈ zk_BW := zk_inT 201 (by decide +kernel) rfl
theorem kw238 : Jvm.Cond.fieldLink "PlantKeeper" (166 : Nat) "PlantKeeper$Plan" "node" "[I" ∈ zk_BW := zk_inT 238 (by decide +kernel) rfl
theorem kw351 : Jvm.Cond.fieldLink "PlantKeeper" (138 : Nat) "PlantKeeper$Judge" "faultPlace" "I" ∈ zk_BW := zk_inT 351 (by decide +kernel) rfl
theorem kw408 : Jvm.Cond.fieldLink "PlantKeeper$Prover" (108 : Nat) "PlantKeeper$Code" "b" "[I" ∈ zk_BW := zk_inT 408 (by decide +kernel) rfl
theorem kw413 : Jvm.Cond.fieldLink "PlantKeeper$Prover" (38 : Nat) "PlantKeeper$Code" "start" "[I" ∈ zk_BW := zk_inT 413 (by decide +kernel) rfl
theorem kw419 : Jvm.Cond.fieldLink "PlantKeeper" (155 : Nat) "PlantKeeper$Code" "units" "I" ∈ zk_BW := zk_inT 419 (by decide +kernel) rfl
theorem kw486 : Jvm.Cond.fieldLink "PlantKeeper" (145 : Nat) "PlantKeeper$Prover" "bounds" "[I" ∈ zk_BW := zk_inT 486 (by decide +kernel) rfl
theorem kw669 : Jvm.Cond.instanceMethod ({ cls := "PlantKeeper", name := "feed", desc := "(IIIII)I" } : Jvm.MethodName) ∈ zk_BW := zk_inT 669 (by decide +kernel) rfl
theorem kw670 : Jvm.Cond.selects "PlantKeeper" ({ cls := "PlantKeeper", name := "feed", desc := "(IIIII)I" } : Jvm.MethodName) ({ cls := "PlantKeeper", name := "feed", desc := "(IIIII)I" } : Jvm.MethodName) ∈ zk_BW := zk_inT 670 (by decide +kernel) rfl
theorem kw671 : Jvm.Cond.code ({ cls := "PlantKeeper", name := "feed", desc := "(IIIII)I" } : Jvm.MethodName) prog_1_method_2_code (6 : Nat) (Option.some FieldType.int) ∈ zk_BW := zk_inT 671 (by decide +kernel) rfl
theorem kw672 : Jvm.Cond.methodLink "PlantKeeper" (111 : Nat) ({ cls := "PlantKeeper", name := "append", desc := "(I)V" } : Jvm.MethodName) ∈ zk_BW := zk_inT 672 (by decide +kernel) rfl
theorem kw674 : Jvm.Cond.instanceMethod ({ cls := "PlantKeeper", name := "append", desc := "(I)V" } : Jvm.MethodName) ∈ zk_BW := zk_inT 674 (by decide +kernel) rfl
theorem kw675 : Jvm.Cond.code ({ cls := "PlantKeeper", name := "append", desc := "(I)V" } : Jvm.MethodName) prog_1_method_3_code (3 : Nat) (Option.none : Option FieldType) ∈ zk_BW := zk_inT 675 (by decide +kernel) rfl
theorem kw677 : Jvm.Cond.instanceMethod ({ cls := "PlantKeeper", name := "end", desc := "(I)I" } : Jvm.MethodName) ∈ zk_BW := zk_inT 677 (by decide +kernel) rfl
theorem kw678 : Jvm.Cond.selects "PlantKeeper" ({ cls := "PlantKeeper", name := "end", desc := "(I)I" } : Jvm.MethodName) ({ cls := "PlantKeeper", name := "end", desc := "(I)I" } : Jvm.MethodName) ∈ zk_BW := zk_inT 678 (by decide +kernel) rfl
theorem kw679 : Jvm.Cond.code ({ cls := "PlantKeeper", name := "end", desc := "(I)I" } : Jvm.MethodName) prog_1_method_4_code (2 : Nat) (Option.some FieldType.int) ∈ zk_BW := zk_inT 679 (by decide +kernel) rfl
theorem kw681 : Jvm.Cond.instanceMethod ({ cls := "PlantKeeper", name := "load", desc := "(I)I" } : Jvm.MethodName) ∈ zk_BW := zk_inT 681 (by decide +kernel) rfl
theorem kw682 : Jvm.Cond.selects "PlantKeeper" ({ cls := "PlantKeeper", name := "load", desc := "(I)I" } : Jvm.MethodName) ({ cls := "PlantKeeper", name := "load", desc := "(I)I" } : Jvm.MethodName) ∈ zk_BW := zk_inT 682 (by decide +kernel) rfl
theorem kw683 : Jvm.Cond.code ({ cls := "PlantKeeper", name := "load", desc := "(I)I" } : Jvm.MethodName) prog_1_method_5_code (2 : Nat) (Option.some FieldType.int) ∈ zk_BW := zk_inT 683 (by decide +kernel) rfl
theorem kw685 : Jvm.Cond.methodLink "PlantKeeper" (116 : Nat) ({ cls := "PlantKeeper$Machine", name := "forget", desc := "()V" } : Jvm.MethodName) ∈ zk_BW := zk_inT 685 (by decide +kernel) rfl
theorem kw689 : Jvm.Cond.methodLink "PlantKeeper" (122 : Nat) ({ cls := "PlantKeeper$Names", name := "forget", desc := "()V" } : Jvm.MethodName) ∈ zk_BW := zk_inT 689 (by decide +kernel) rfl
theorem kw714 : Jvm.Cond.methodLink "PlantKeeper" (123 : Nat) ({ cls := "PlantKeeper$Tokens", name := "read", desc := "([BI)V" } : Jvm.MethodName) ∈ zk_BW := zk_inT 714 (by decide +kernel) rfl
theorem kw862 : Jvm.Cond.methodLink "PlantKeeper" (127 : Nat) ({ cls := "PlantKeeper$Parser", name := "parse", desc := "()I" } : Jvm.MethodName) ∈ zk_BW := zk_inT 862 (by decide +kernel) rfl
theorem kw994 : Jvm.Cond.methodLink "PlantKeeper" (132 : Nat) ({ cls := "PlantKeeper", name := "note", desc := "(II)V" } : Jvm.MethodName) ∈ zk_BW := zk_inT 994 (by decide +kernel) rfl
theorem kw998 : Jvm.Cond.methodLink "PlantKeeper" (136 : Nat) ({ cls := "PlantKeeper$Judge", name := "judge", desc := "()I" } : Jvm.MethodName) ∈ zk_BW := zk_inT 998 (by decide +kernel) rfl
theorem kw1262 : Jvm.Cond.methodLink "PlantKeeper" (139 : Nat) ({ cls := "PlantKeeper$Coder", name := "codeAll", desc := "()I" } : Jvm.MethodName) ∈ zk_BW := zk_inT 1262 (by decide +kernel) rfl
theorem kw1386 : Jvm.Cond.methodLink "PlantKeeper" (142 : Nat) ({ cls := "PlantKeeper", name := "proveAll", desc := "(I)V" } : Jvm.MethodName) ∈ zk_BW := zk_inT 1386 (by decide +kernel) rfl
theorem kw1388 : Jvm.Cond.instanceMethod ({ cls := "PlantKeeper", name := "proveAll", desc := "(I)V" } : Jvm.MethodName) ∈ zk_BW := zk_inT 1388 (by decide +kernel) rfl
theorem kw1389 : Jvm.Cond.code ({ cls := "PlantKeeper", name := "proveAll", desc := "(I)V" } : Jvm.MethodName) prog_1_method_7_code (3 : Nat) (Option.none : Option FieldType) ∈ zk_BW := zk_inT 1389 (by decide +kernel) rfl
theorem kw1390 : Jvm.Cond.methodLink "PlantKeeper" (158 : Nat) ({ cls := "PlantKeeper$Prover", name := "prove", desc := "(I)I" } : Jvm.MethodName) ∈ zk_BW := zk_inT 1390 (by decide +kernel) rfl
theorem kw1391 : Jvm.Cond.instanceMethod ({ cls := "PlantKeeper$Prover", name := "prove", desc := "(I)I" } : Jvm.MethodName) ∈ zk_BW := zk_inT 1391 (by decide +kernel) rfl
theorem kw1392 : Jvm.Cond.selects "PlantKeeper$Prover" ({ cls := "PlantKeeper$Prover", name := "prove", desc := "(I)I" } : Jvm.MethodName) ({ cls := "PlantKeeper$Prover", name := "prove", desc := "(I)I" } : Jvm.MethodName) ∈ zk_BW := zk_inT 1392 (by decide +kernel) rfl
theorem kw1393 : Jvm.Cond.code ({ cls := "PlantKeeper$Prover", name := "prove", desc := "(I)I" } : Jvm.MethodName) prog_10_method_2_code (6 : Nat) (Option.some FieldType.int) ∈ zk_BW := zk_inT 1393 (by decide +kernel) rfl
theorem kw1394 : Jvm.Cond.methodLink "PlantKeeper$Prover" (43 : Nat) ({ cls := "PlantKeeper$Prover", name := "highest", desc := "(II)I" } : Jvm.MethodName) ∈ zk_BW := zk_inT 1394 (by decide +kernel) rfl
theorem kw1401 : Jvm.Cond.methodLink "PlantKeeper$Prover" (47 : Nat) ({ cls := "PlantKeeper$Prover", name := "longest", desc := "(II)J" } : Jvm.MethodName) ∈ zk_BW := zk_inT 1401 (by decide +kernel) rfl
theorem kw1403 : Jvm.Cond.instanceMethod ({ cls := "PlantKeeper$Prover", name := "longest", desc := "(II)J" } : Jvm.MethodName) ∈ zk_BW := zk_inT 1403 (by decide +kernel) rfl
theorem kw1404 : Jvm.Cond.code ({ cls := "PlantKeeper$Prover", name := "longest", desc := "(II)J" } : Jvm.MethodName) prog_10_method_4_code (4 : Nat) (Option.some FieldType.long) ∈ zk_BW := zk_inT 1404 (by decide +kernel) rfl
theorem kw1410 : Jvm.Cond.methodLink "PlantKeeper$Prover" (84 : Nat) ({ cls := "PlantKeeper$Prover", name := "proveGo", desc := "(I)V" } : Jvm.MethodName) ∈ zk_BW := zk_inT 1410 (by decide +kernel) rfl
theorem kw1412 : Jvm.Cond.instanceMethod ({ cls := "PlantKeeper$Prover", name := "proveGo", desc := "(I)V" } : Jvm.MethodName) ∈ zk_BW := zk_inT 1412 (by decide +kernel) rfl
theorem kw1413 : Jvm.Cond.code ({ cls := "PlantKeeper$Prover", name := "proveGo", desc := "(I)V" } : Jvm.MethodName) prog_10_method_8_code (2 : Nat) (Option.none : Option FieldType) ∈ zk_BW := zk_inT 1413 (by decide +kernel) rfl
theorem kw1414 : Jvm.Cond.methodLink "PlantKeeper$Prover" (97 : Nat) ({ cls := "PlantKeeper$Prover", name := "proveAfter", desc := "(IJI)V" } : Jvm.MethodName) ∈ zk_BW := zk_inT 1414 (by decide +kernel) rfl
theorem kw1423 : Jvm.Cond.methodLink "PlantKeeper$Prover" (88 : Nat) ({ cls := "PlantKeeper$Prover", name := "proveUnless", desc := "(I)V" } : Jvm.MethodName) ∈ zk_BW := zk_inT 1423 (by decide +kernel) rfl
theorem kw1425 : Jvm.Cond.instanceMethod ({ cls := "PlantKeeper$Prover", name := "proveUnless", desc := "(I)V" } : Jvm.MethodName) ∈ zk_BW := zk_inT 1425 (by decide +kernel) rfl
theorem kw1426 : Jvm.Cond.code ({ cls := "PlantKeeper$Prover", name := "proveUnless", desc := "(I)V" } : Jvm.MethodName) prog_10_method_9_code (7 : Nat) (Option.none : Option FieldType) ∈ zk_BW := zk_inT 1426 (by decide +kernel) rfl
theorem kw1427 : Jvm.Cond.methodLink "PlantKeeper$Prover" (101 : Nat) ({ cls := "java/lang/Math", name := "max", desc := "(JJ)J" } : Jvm.MethodName) ∈ zk_BW := zk_inT 1427 (by decide +kernel) rfl
theorem kw1430 : Jvm.Cond.methodLink "PlantKeeper$Prover" (91 : Nat) ({ cls := "PlantKeeper$Prover", name := "proveBack", desc := "(I)V" } : Jvm.MethodName) ∈ zk_BW := zk_inT 1430 (by decide +kernel) rfl
theorem kw1434 : Jvm.Cond.methodLink "PlantKeeper$Prover" (94 : Nat) ({ cls := "PlantKeeper$Prover", name := "proveNext", desc := "(I)V" } : Jvm.MethodName) ∈ zk_BW := zk_inT 1434 (by decide +kernel) rfl
theorem kw1436 : Jvm.Cond.instanceMethod ({ cls := "PlantKeeper$Prover", name := "proveNext", desc := "(I)V" } : Jvm.MethodName) ∈ zk_BW := zk_inT 1436 (by decide +kernel) rfl
theorem kw1437 : Jvm.Cond.code ({ cls := "PlantKeeper$Prover", name := "proveNext", desc := "(I)V" } : Jvm.MethodName) prog_10_method_11_code (16 : Nat) (Option.none : Option FieldType) ∈ zk_BW := zk_inT 1437 (by decide +kernel) rfl
theorem kw1438 : Jvm.Cond.constantLong "PlantKeeper$Prover" (51 : Nat) (1000000001 : Int64) ∈ zk_BW := zk_inT 1438 (by decide +kernel) rfl
theorem kw1439 : Jvm.Cond.constantLong "PlantKeeper$Prover" (59 : Nat) (1000000000 : Int64) ∈ zk_BW := zk_inT 1439 (by decide +kernel) rfl
theorem kw1440 : Jvm.Cond.methodLink "PlantKeeper" (152 : Nat) ({ cls := "PlantKeeper$Machine", name := "begin", desc := "(I)V" } : Jvm.MethodName) ∈ zk_BW := zk_inT 1440 (by decide +kernel) rfl
theorem kw1441 : Jvm.Cond.instanceMethod ({ cls := "PlantKeeper$Machine", name := "begin", desc := "(I)V" } : Jvm.MethodName) ∈ zk_BW := zk_inT 1441 (by decide +kernel) rfl
theorem kw1442 : Jvm.Cond.selects "PlantKeeper$Machine" ({ cls := "PlantKeeper$Machine", name := "begin", desc := "(I)V" } : Jvm.MethodName) ({ cls := "PlantKeeper$Machine", name := "begin", desc := "(I)V" } : Jvm.MethodName) ∈ zk_BW := zk_inT 1442 (by decide +kernel) rfl
theorem kw1443 : Jvm.Cond.code ({ cls := "PlantKeeper$Machine", name := "begin", desc := "(I)V" } : Jvm.MethodName) prog_6_method_3_code (2 : Nat) (Option.none : Option FieldType) ∈ zk_BW := zk_inT 1443 (by decide +kernel) rfl
theorem kw1444 : Jvm.Cond.methodLink "PlantKeeper$Machine" (64 : Nat) ({ cls := "PlantKeeper$Machine", name := "beginAnew", desc := "()V" } : Jvm.MethodName) ∈ zk_BW := zk_inT 1444 (by decide +kernel) rfl
abbrev kc_Mc_begin : ByteArray := prog_6_method_3_code
def km_Mc_begin : zk_MT := (⟨"PlantKeeper$Machine", "begin", "(I)V"⟩, kc_Mc_begin, 2, none, 1)
theorem ku_Mc_begin : zk_My km_Mc_begin := ⟨kw1443, kw15, by decide, by decide, by decide, by decide +kernel⟩
theorem kv_Mc_begin : zk_Mv km_Mc_begin := ⟨kw1441, kw1442⟩
abbrev kc_Pk_append : ByteArray := prog_1_method_3_code
def km_Pk_append : zk_MT := (⟨"PlantKeeper", "append", "(I)V"⟩, kc_Pk_append, 3, none, 1)
theorem ku_Pk_append : zk_My km_Pk_append := ⟨kw675, kw1, by decide, by decide, by decide, by decide +kernel⟩
theorem kv_Pk_append : zk_Mv km_Pk_append := ⟨kw674, zk_inS 0 (q := (⟨"PlantKeeper", "append", "(I)V"⟩, 16)) (by decide +kernel)⟩
abbrev kc_Pk_end : ByteArray := prog_1_method_4_code
def km_Pk_end : zk_MT := (⟨"PlantKeeper", "end", "(I)I"⟩, kc_Pk_end, 2, some .int, 1)
theorem ku_Pk_end : zk_My km_Pk_end := ⟨kw679, kw1, by decide, by decide, by decide, by decide +kernel⟩
theorem kv_Pk_end : zk_Mv km_Pk_end := ⟨kw677, kw678⟩
abbrev kc_Pk_feed : ByteArray := prog_1_method_2_code
def km_Pk_feed : zk_MT := (⟨"PlantKeeper", "feed", "(IIIII)I"⟩, kc_Pk_feed, 6, some .int, 5)
theorem ku_Pk_feed : zk_My km_Pk_feed := ⟨kw671, kw1, by decide, by decide, by decide, by decide +kernel⟩
theorem kv_Pk_feed : zk_Mv km_Pk_feed := ⟨kw669, kw670⟩
abbrev kc_Pk_load : ByteArray := prog_1_method_5_code
def km_Pk_load : zk_MT := (⟨"PlantKeeper", "load", "(I)I"⟩, kc_Pk_load, 2, some .int, 1)
theorem ku_Pk_load : zk_My km_Pk_load := ⟨kw683, kw1, by decide, by decide, by decide, by decide +kernel⟩
theorem kv_Pk_load : zk_Mv km_Pk_load := ⟨kw681, kw682⟩
abbrev kc_Pk_proveAll : ByteArray := prog_1_method_7_code
def km_Pk_proveAll : zk_MT := (⟨"PlantKeeper", "proveAll", "(I)V"⟩, kc_Pk_proveAll, 3, none, 1)
theorem ku_Pk_proveAll : zk_My km_Pk_proveAll := ⟨kw1389, kw1, by decide, by decide, by decide, by decide +kernel⟩
theorem kv_Pk_proveAll : zk_Mv km_Pk_proveAll := ⟨kw1388, zk_inS 106 (q := (⟨"PlantKeeper", "proveAll", "(I)V"⟩, 16)) (by decide +kernel)⟩
abbrev kc_Pv_longest : ByteArray := prog_10_method_4_code
def km_Pv_longest : zk_MT := (⟨"PlantKeeper$Prover", "longest", "(II)J"⟩, kc_Pv_longest, 4, some .long, 2)
theorem ku_Pv_longest : zk_My km_Pv_longest := ⟨kw1404, kw14, by decide, by decide, by decide, by decide +kernel⟩
theorem kv_Pv_longest : zk_Mv km_Pv_longest := ⟨kw1403, zk_inS 108 (q := (⟨"PlantKeeper$Prover", "longest", "(II)J"⟩, 8)) (by decide +kernel)⟩
abbrev kc_Pv_prove : ByteArray := prog_10_method_2_code
def km_Pv_prove : zk_MT := (⟨"PlantKeeper$Prover", "prove", "(I)I"⟩, kc_Pv_prove, 6, some .int, 1)
theorem ku_Pv_prove : zk_My km_Pv_prove := ⟨kw1393, kw14, by decide, by decide, by decide, by decide +kernel⟩
theorem kv_Pv_prove : zk_Mv km_Pv_prove := ⟨kw1391, kw1392⟩
abbrev kc_Pv_proveGo : ByteArray := prog_10_method_8_code
def km_Pv_proveGo : zk_MT := (⟨"PlantKeeper$Prover", "proveGo", "(I)V"⟩, kc_Pv_proveGo, 2, none, 1)
theorem ku_Pv_proveGo : zk_My km_Pv_proveGo := ⟨kw1413, kw14, by decide, by decide, by decide, by decide +kernel⟩
theorem kv_Pv_proveGo : zk_Mv km_Pv_proveGo := ⟨kw1412, zk_inS 110 (q := (⟨"PlantKeeper$Prover", "proveGo", "(I)V"⟩, 8)) (by decide +kernel)⟩
abbrev kc_Pv_proveNext : ByteArray := prog_10_method_11_code
def km_Pv_proveNext : zk_MT := (⟨"PlantKeeper$Prover", "proveNext", "(I)V"⟩, kc_Pv_proveNext, 16, none, 1)
theorem ku_Pv_proveNext : zk_My km_Pv_proveNext := ⟨kw1437, kw14, by decide, by decide, by decide, by decide +kernel⟩
theorem kv_Pv_proveNext : zk_Mv km_Pv_proveNext := ⟨kw1436, zk_inS 114 (q := (⟨"PlantKeeper$Prover", "proveNext", "(I)V"⟩, 8)) (by decide +kernel)⟩
abbrev kc_Pv_proveUnless : ByteArray := prog_10_method_9_code
def km_Pv_proveUnless : zk_MT := (⟨"PlantKeeper$Prover", "proveUnless", "(I)V"⟩, kc_Pv_proveUnless, 7, none, 1)
theorem ku_Pv_proveUnless : zk_My km_Pv_proveUnless := ⟨kw1426, kw14, by decide, by decide, by decide, by decide +kernel⟩
theorem kv_Pv_proveUnless : zk_Mv km_Pv_proveUnless := ⟨kw1425, zk_inS 112 (q := (⟨"PlantKeeper$Prover", "proveUnless", "(I)V"⟩, 8)) (by decide +kernel)⟩
theorem kd_Mc_begin_0 : decode kc_Mc_begin 0 = .ok (.aload_n 0, 1) := by decide +kernel
theorem kd_Mc_begin_1 : decode kc_Mc_begin 1 = .ok (.iconst 1, 1) := by decide +kernel
theorem kd_Mc_begin_2 : decode kc_Mc_begin 2 = .ok (.putfield 41, 3) := by decide +kernel
theorem kd_Mc_begin_5 : decode kc_Mc_begin 5 = .ok (.aload_n 0, 1) := by decide +kernel
theorem kd_Mc_begin_6 : decode kc_Mc_begin 6 = .ok (.iload_n 1, 1) := by decide +kernel
theorem kd_Mc_begin_7 : decode kc_Mc_begin 7 = .ok (.putfield 48, 3) := by decide +kernel
theorem kd_Mc_begin_10 : decode kc_Mc_begin 10 = .ok (.aload_n 0, 1) := by decide +kernel
theorem kd_Mc_begin_11 : decode kc_Mc_begin 11 = .ok (.invokevirtual 64, 3) := by decide +kernel
theorem kd_Mc_begin_14 : decode kc_Mc_begin 14 = .ok (.return_, 1) := by decide +kernel
theorem kd_Pk_append_0 : decode kc_Pk_append 0 = .ok (.bipush 24, 2) := by decide +kernel
theorem kd_Pk_append_2 : decode kc_Pk_append 2 = .ok (.istore_n 2, 1) := by decide +kernel
theorem kd_Pk_append_3 : decode kc_Pk_append 3 = .ok (.iload_n 2, 1) := by decide +kernel
theorem kd_Pk_append_4 : decode kc_Pk_append 4 = .ok (.ifCond .lt 42, 3) := by decide +kernel
theorem kd_Pk_append_7 : decode kc_Pk_append 7 = .ok (.aload_n 0, 1) := by decide +kernel
theorem kd_Pk_append_8 : decode kc_Pk_append 8 = .ok (.getfield 108, 3) := by decide +kernel
theorem kd_Pk_append_11 : decode kc_Pk_append 11 = .ok (.sipush 16384, 3) := by decide +kernel
theorem kd_Pk_append_14 : decode kc_Pk_append 14 = .ok (.if_icmp .ge 32, 3) := by decide +kernel
theorem kd_Pk_append_17 : decode kc_Pk_append 17 = .ok (.aload_n 0, 1) := by decide +kernel
theorem kd_Pk_append_18 : decode kc_Pk_append 18 = .ok (.getfield 9, 3) := by decide +kernel
theorem kd_Pk_append_21 : decode kc_Pk_append 21 = .ok (.aload_n 0, 1) := by decide +kernel
theorem kd_Pk_append_22 : decode kc_Pk_append 22 = .ok (.getfield 108, 3) := by decide +kernel
theorem kd_Pk_append_25 : decode kc_Pk_append 25 = .ok (.iload_n 1, 1) := by decide +kernel
theorem kd_Pk_append_26 : decode kc_Pk_append 26 = .ok (.iload_n 2, 1) := by decide +kernel
theorem kd_Pk_append_27 : decode kc_Pk_append 27 = .ok (.ishr, 1) := by decide +kernel
theorem kd_Pk_append_28 : decode kc_Pk_append 28 = .ok (.i2b, 1) := by decide +kernel
theorem kd_Pk_append_29 : decode kc_Pk_append 29 = .ok (.bastore, 1) := by decide +kernel
theorem kd_Pk_append_30 : decode kc_Pk_append 30 = .ok (.aload_n 0, 1) := by decide +kernel
theorem kd_Pk_append_31 : decode kc_Pk_append 31 = .ok (.dup, 1) := by decide +kernel
theorem kd_Pk_append_32 : decode kc_Pk_append 32 = .ok (.getfield 108, 3) := by decide +kernel
theorem kd_Pk_append_35 : decode kc_Pk_append 35 = .ok (.iconst 1, 1) := by decide +kernel
theorem kd_Pk_append_36 : decode kc_Pk_append 36 = .ok (.iadd, 1) := by decide +kernel
theorem kd_Pk_append_37 : decode kc_Pk_append 37 = .ok (.putfield 108, 3) := by decide +kernel
theorem kd_Pk_append_40 : decode kc_Pk_append 40 = .ok (.iinc 2 (-8), 3) := by decide +kernel
theorem kd_Pk_append_43 : decode kc_Pk_append 43 = .ok (.goto (-40), 3) := by decide +kernel
theorem kd_Pk_append_46 : decode kc_Pk_append 46 = .ok (.return_, 1) := by decide +kernel
theorem kd_Pk_end_0 : decode kc_Pk_end 0 = .ok (.iload_n 1, 1) := by decide +kernel
theorem kd_Pk_end_1 : decode kc_Pk_end 1 = .ok (.ifCond .lt 18, 3) := by decide +kernel
theorem kd_Pk_end_4 : decode kc_Pk_end 4 = .ok (.iload_n 1, 1) := by decide +kernel
theorem kd_Pk_end_5 : decode kc_Pk_end 5 = .ok (.bipush 20, 2) := by decide +kernel
theorem kd_Pk_end_7 : decode kc_Pk_end 7 = .ok (.if_icmp .gt 12, 3) := by decide +kernel
theorem kd_Pk_end_10 : decode kc_Pk_end 10 = .ok (.aload_n 0, 1) := by decide +kernel
theorem kd_Pk_end_11 : decode kc_Pk_end 11 = .ok (.getfield 108, 3) := by decide +kernel
theorem kd_Pk_end_14 : decode kc_Pk_end 14 = .ok (.bipush 20, 2) := by decide +kernel
theorem kd_Pk_end_16 : decode kc_Pk_end 16 = .ok (.if_icmp .ge 5, 3) := by decide +kernel
theorem kd_Pk_end_19 : decode kc_Pk_end 19 = .ok (.iconst (-1), 1) := by decide +kernel
theorem kd_Pk_end_20 : decode kc_Pk_end 20 = .ok (.ireturn, 1) := by decide +kernel
theorem kd_Pk_end_21 : decode kc_Pk_end 21 = .ok (.aload_n 0, 1) := by decide +kernel
theorem kd_Pk_end_22 : decode kc_Pk_end 22 = .ok (.aload_n 0, 1) := by decide +kernel
theorem kd_Pk_end_23 : decode kc_Pk_end 23 = .ok (.getfield 108, 3) := by decide +kernel
theorem kd_Pk_end_26 : decode kc_Pk_end 26 = .ok (.bipush 20, 2) := by decide +kernel
theorem kd_Pk_end_28 : decode kc_Pk_end 28 = .ok (.isub, 1) := by decide +kernel
theorem kd_Pk_end_29 : decode kc_Pk_end 29 = .ok (.iload_n 1, 1) := by decide +kernel
theorem kd_Pk_end_30 : decode kc_Pk_end 30 = .ok (.iadd, 1) := by decide +kernel
theorem kd_Pk_end_31 : decode kc_Pk_end 31 = .ok (.putfield 108, 3) := by decide +kernel
theorem kd_Pk_end_34 : decode kc_Pk_end 34 = .ok (.aload_n 0, 1) := by decide +kernel
theorem kd_Pk_end_35 : decode kc_Pk_end 35 = .ok (.getfield 108, 3) := by decide +kernel
theorem kd_Pk_end_38 : decode kc_Pk_end 38 = .ok (.ireturn, 1) := by decide +kernel
theorem kd_Pk_feed_0 : decode kc_Pk_feed 0 = .ok (.aload_n 0, 1) := by decide +kernel
theorem kd_Pk_feed_1 : decode kc_Pk_feed 1 = .ok (.getfield 108, 3) := by decide +kernel
theorem kd_Pk_feed_4 : decode kc_Pk_feed 4 = .ok (.bipush 20, 2) := by decide +kernel
theorem kd_Pk_feed_6 : decode kc_Pk_feed 6 = .ok (.iadd, 1) := by decide +kernel
theorem kd_Pk_feed_7 : decode kc_Pk_feed 7 = .ok (.sipush 16384, 3) := by decide +kernel
theorem kd_Pk_feed_10 : decode kc_Pk_feed 10 = .ok (.if_icmp .le 5, 3) := by decide +kernel
theorem kd_Pk_feed_13 : decode kc_Pk_feed 13 = .ok (.iconst (-1), 1) := by decide +kernel
theorem kd_Pk_feed_14 : decode kc_Pk_feed 14 = .ok (.ireturn, 1) := by decide +kernel
theorem kd_Pk_feed_15 : decode kc_Pk_feed 15 = .ok (.aload_n 0, 1) := by decide +kernel
theorem kd_Pk_feed_16 : decode kc_Pk_feed 16 = .ok (.iload_n 1, 1) := by decide +kernel
theorem kd_Pk_feed_17 : decode kc_Pk_feed 17 = .ok (.invokevirtual 111, 3) := by decide +kernel
theorem kd_Pk_feed_20 : decode kc_Pk_feed 20 = .ok (.aload_n 0, 1) := by decide +kernel
theorem kd_Pk_feed_21 : decode kc_Pk_feed 21 = .ok (.iload_n 2, 1) := by decide +kernel
theorem kd_Pk_feed_22 : decode kc_Pk_feed 22 = .ok (.invokevirtual 111, 3) := by decide +kernel
theorem kd_Pk_feed_25 : decode kc_Pk_feed 25 = .ok (.aload_n 0, 1) := by decide +kernel
theorem kd_Pk_feed_26 : decode kc_Pk_feed 26 = .ok (.iload_n 3, 1) := by decide +kernel
theorem kd_Pk_feed_27 : decode kc_Pk_feed 27 = .ok (.invokevirtual 111, 3) := by decide +kernel
theorem kd_Pk_feed_30 : decode kc_Pk_feed 30 = .ok (.aload_n 0, 1) := by decide +kernel
theorem kd_Pk_feed_31 : decode kc_Pk_feed 31 = .ok (.iload 4, 2) := by decide +kernel
theorem kd_Pk_feed_33 : decode kc_Pk_feed 33 = .ok (.invokevirtual 111, 3) := by decide +kernel
theorem kd_Pk_feed_36 : decode kc_Pk_feed 36 = .ok (.aload_n 0, 1) := by decide +kernel
theorem kd_Pk_feed_37 : decode kc_Pk_feed 37 = .ok (.iload 5, 2) := by decide +kernel
theorem kd_Pk_feed_39 : decode kc_Pk_feed 39 = .ok (.invokevirtual 111, 3) := by decide +kernel
theorem kd_Pk_feed_42 : decode kc_Pk_feed 42 = .ok (.aload_n 0, 1) := by decide +kernel
theorem kd_Pk_feed_43 : decode kc_Pk_feed 43 = .ok (.getfield 108, 3) := by decide +kernel
theorem kd_Pk_feed_46 : decode kc_Pk_feed 46 = .ok (.ireturn, 1) := by decide +kernel
theorem kd_Pk_load_0 : decode kc_Pk_load 0 = .ok (.iload_n 1, 1) := by decide +kernel
theorem kd_Pk_load_1 : decode kc_Pk_load 1 = .ok (.bipush 100, 2) := by decide +kernel
theorem kd_Pk_load_3 : decode kc_Pk_load 3 = .ok (.if_icmp .lt 9, 3) := by decide +kernel
theorem kd_Pk_load_6 : decode kc_Pk_load 6 = .ok (.iload_n 1, 1) := by decide +kernel
theorem kd_Pk_load_7 : decode kc_Pk_load 7 = .ok (.ldc 115, 2) := by decide +kernel
theorem kd_Pk_load_9 : decode kc_Pk_load 9 = .ok (.if_icmp .le 5, 3) := by decide +kernel
theorem kd_Pk_load_12 : decode kc_Pk_load 12 = .ok (.iconst (-1), 1) := by decide +kernel
theorem kd_Pk_load_13 : decode kc_Pk_load 13 = .ok (.ireturn, 1) := by decide +kernel
theorem kd_Pk_load_14 : decode kc_Pk_load 14 = .ok (.aload_n 0, 1) := by decide +kernel
theorem kd_Pk_load_15 : decode kc_Pk_load 15 = .ok (.getfield 95, 3) := by decide +kernel
theorem kd_Pk_load_18 : decode kc_Pk_load 18 = .ok (.invokevirtual 116, 3) := by decide +kernel
theorem kd_Pk_load_21 : decode kc_Pk_load 21 = .ok (.aload_n 0, 1) := by decide +kernel
theorem kd_Pk_load_22 : decode kc_Pk_load 22 = .ok (.iconst 0, 1) := by decide +kernel
theorem kd_Pk_load_23 : decode kc_Pk_load 23 = .ok (.putfield 119, 3) := by decide +kernel
theorem kd_Pk_load_26 : decode kc_Pk_load 26 = .ok (.aload_n 0, 1) := by decide +kernel
theorem kd_Pk_load_27 : decode kc_Pk_load 27 = .ok (.bipush (-5), 2) := by decide +kernel
theorem kd_Pk_load_29 : decode kc_Pk_load 29 = .ok (.putfield 13, 3) := by decide +kernel
theorem kd_Pk_load_32 : decode kc_Pk_load 32 = .ok (.aload_n 0, 1) := by decide +kernel
theorem kd_Pk_load_33 : decode kc_Pk_load 33 = .ok (.getfield 20, 3) := by decide +kernel
theorem kd_Pk_load_36 : decode kc_Pk_load 36 = .ok (.invokevirtual 122, 3) := by decide +kernel
theorem kd_Pk_load_39 : decode kc_Pk_load 39 = .ok (.aload_n 0, 1) := by decide +kernel
theorem kd_Pk_load_40 : decode kc_Pk_load 40 = .ok (.getfield 29, 3) := by decide +kernel
theorem kd_Pk_load_43 : decode kc_Pk_load 43 = .ok (.aload_n 0, 1) := by decide +kernel
theorem kd_Pk_load_44 : decode kc_Pk_load 44 = .ok (.getfield 9, 3) := by decide +kernel
theorem kd_Pk_load_47 : decode kc_Pk_load 47 = .ok (.aload_n 0, 1) := by decide +kernel
theorem kd_Pk_load_48 : decode kc_Pk_load 48 = .ok (.getfield 108, 3) := by decide +kernel
theorem kd_Pk_load_51 : decode kc_Pk_load 51 = .ok (.invokevirtual 123, 3) := by decide +kernel
theorem kd_Pk_load_54 : decode kc_Pk_load 54 = .ok (.aload_n 0, 1) := by decide +kernel
theorem kd_Pk_load_55 : decode kc_Pk_load 55 = .ok (.iconst 0, 1) := by decide +kernel
theorem kd_Pk_load_56 : decode kc_Pk_load 56 = .ok (.putfield 108, 3) := by decide +kernel
theorem kd_Pk_load_59 : decode kc_Pk_load 59 = .ok (.aload_n 0, 1) := by decide +kernel
theorem kd_Pk_load_60 : decode kc_Pk_load 60 = .ok (.aload_n 0, 1) := by decide +kernel
theorem kd_Pk_load_61 : decode kc_Pk_load 61 = .ok (.getfield 45, 3) := by decide +kernel
theorem kd_Pk_load_64 : decode kc_Pk_load 64 = .ok (.invokevirtual 127, 3) := by decide +kernel
theorem kd_Pk_load_67 : decode kc_Pk_load 67 = .ok (.aload_n 0, 1) := by decide +kernel
theorem kd_Pk_load_68 : decode kc_Pk_load 68 = .ok (.getfield 45, 3) := by decide +kernel
theorem kd_Pk_load_71 : decode kc_Pk_load 71 = .ok (.getfield 131, 3) := by decide +kernel
theorem kd_Pk_load_74 : decode kc_Pk_load 74 = .ok (.invokevirtual 132, 3) := by decide +kernel
theorem kd_Pk_load_77 : decode kc_Pk_load 77 = .ok (.aload_n 0, 1) := by decide +kernel
theorem kd_Pk_load_78 : decode kc_Pk_load 78 = .ok (.getfield 119, 3) := by decide +kernel
theorem kd_Pk_load_81 : decode kc_Pk_load 81 = .ok (.ifCond .ne 21, 3) := by decide +kernel
theorem kd_Pk_load_84 : decode kc_Pk_load 84 = .ok (.aload_n 0, 1) := by decide +kernel
theorem kd_Pk_load_85 : decode kc_Pk_load 85 = .ok (.aload_n 0, 1) := by decide +kernel
theorem kd_Pk_load_86 : decode kc_Pk_load 86 = .ok (.getfield 61, 3) := by decide +kernel
theorem kd_Pk_load_89 : decode kc_Pk_load 89 = .ok (.invokevirtual 136, 3) := by decide +kernel
theorem kd_Pk_load_92 : decode kc_Pk_load 92 = .ok (.aload_n 0, 1) := by decide +kernel
theorem kd_Pk_load_93 : decode kc_Pk_load 93 = .ok (.getfield 61, 3) := by decide +kernel
theorem kd_Pk_load_96 : decode kc_Pk_load 96 = .ok (.getfield 138, 3) := by decide +kernel
theorem kd_Pk_load_99 : decode kc_Pk_load 99 = .ok (.invokevirtual 132, 3) := by decide +kernel
theorem kd_Pk_load_102 : decode kc_Pk_load 102 = .ok (.aload_n 0, 1) := by decide +kernel
theorem kd_Pk_load_103 : decode kc_Pk_load 103 = .ok (.getfield 119, 3) := by decide +kernel
theorem kd_Pk_load_106 : decode kc_Pk_load 106 = .ok (.ifCond .ne 15, 3) := by decide +kernel
theorem kd_Pk_load_109 : decode kc_Pk_load 109 = .ok (.aload_n 0, 1) := by decide +kernel
theorem kd_Pk_load_110 : decode kc_Pk_load 110 = .ok (.aload_n 0, 1) := by decide +kernel
theorem kd_Pk_load_111 : decode kc_Pk_load 111 = .ok (.getfield 77, 3) := by decide +kernel
theorem kd_Pk_load_114 : decode kc_Pk_load 114 = .ok (.invokevirtual 139, 3) := by decide +kernel
theorem kd_Pk_load_117 : decode kc_Pk_load 117 = .ok (.iconst 0, 1) := by decide +kernel
theorem kd_Pk_load_118 : decode kc_Pk_load 118 = .ok (.invokevirtual 132, 3) := by decide +kernel
theorem kd_Pk_load_121 : decode kc_Pk_load 121 = .ok (.aload_n 0, 1) := by decide +kernel
theorem kd_Pk_load_122 : decode kc_Pk_load 122 = .ok (.getfield 119, 3) := by decide +kernel
theorem kd_Pk_load_125 : decode kc_Pk_load 125 = .ok (.ifCond .ne 8, 3) := by decide +kernel
theorem kd_Pk_load_128 : decode kc_Pk_load 128 = .ok (.aload_n 0, 1) := by decide +kernel
theorem kd_Pk_load_129 : decode kc_Pk_load 129 = .ok (.iload_n 1, 1) := by decide +kernel
theorem kd_Pk_load_130 : decode kc_Pk_load 130 = .ok (.invokevirtual 142, 3) := by decide +kernel
theorem kd_Pk_load_133 : decode kc_Pk_load 133 = .ok (.aload_n 0, 1) := by decide +kernel
theorem kd_Pk_load_134 : decode kc_Pk_load 134 = .ok (.getfield 119, 3) := by decide +kernel
theorem kd_Pk_load_137 : decode kc_Pk_load 137 = .ok (.ifCond .ne 28, 3) := by decide +kernel
theorem kd_Pk_load_140 : decode kc_Pk_load 140 = .ok (.aload_n 0, 1) := by decide +kernel
theorem kd_Pk_load_141 : decode kc_Pk_load 141 = .ok (.getfield 95, 3) := by decide +kernel
theorem kd_Pk_load_144 : decode kc_Pk_load 144 = .ok (.aload_n 0, 1) := by decide +kernel
theorem kd_Pk_load_145 : decode kc_Pk_load 145 = .ok (.getfield 86, 3) := by decide +kernel
theorem kd_Pk_load_148 : decode kc_Pk_load 148 = .ok (.getfield 145, 3) := by decide +kernel
theorem kd_Pk_load_151 : decode kc_Pk_load 151 = .ok (.aload_n 0, 1) := by decide +kernel
theorem kd_Pk_load_152 : decode kc_Pk_load 152 = .ok (.getfield 52, 3) := by decide +kernel
theorem kd_Pk_load_155 : decode kc_Pk_load 155 = .ok (.getfield 149, 3) := by decide +kernel
theorem kd_Pk_load_158 : decode kc_Pk_load 158 = .ok (.bipush 9, 2) := by decide +kernel
theorem kd_Pk_load_160 : decode kc_Pk_load 160 = .ok (.isub, 1) := by decide +kernel
theorem kd_Pk_load_161 : decode kc_Pk_load 161 = .ok (.iaload, 1) := by decide +kernel
theorem kd_Pk_load_162 : decode kc_Pk_load 162 = .ok (.invokevirtual 152, 3) := by decide +kernel
theorem kd_Pk_load_165 : decode kc_Pk_load 165 = .ok (.aload_n 0, 1) := by decide +kernel
theorem kd_Pk_load_166 : decode kc_Pk_load 166 = .ok (.getfield 119, 3) := by decide +kernel
theorem kd_Pk_load_169 : decode kc_Pk_load 169 = .ok (.ireturn, 1) := by decide +kernel
theorem kd_Pk_proveAll_0 : decode kc_Pk_proveAll 0 = .ok (.iconst 0, 1) := by decide +kernel
theorem kd_Pk_proveAll_1 : decode kc_Pk_proveAll 1 = .ok (.istore_n 2, 1) := by decide +kernel
theorem kd_Pk_proveAll_2 : decode kc_Pk_proveAll 2 = .ok (.iload_n 2, 1) := by decide +kernel
theorem kd_Pk_proveAll_3 : decode kc_Pk_proveAll 3 = .ok (.aload_n 0, 1) := by decide +kernel
theorem kd_Pk_proveAll_4 : decode kc_Pk_proveAll 4 = .ok (.getfield 68, 3) := by decide +kernel
theorem kd_Pk_proveAll_7 : decode kc_Pk_proveAll 7 = .ok (.getfield 155, 3) := by decide +kernel
theorem kd_Pk_proveAll_10 : decode kc_Pk_proveAll 10 = .ok (.if_icmp .ge 48, 3) := by decide +kernel
theorem kd_Pk_proveAll_13 : decode kc_Pk_proveAll 13 = .ok (.aload_n 0, 1) := by decide +kernel
theorem kd_Pk_proveAll_14 : decode kc_Pk_proveAll 14 = .ok (.getfield 119, 3) := by decide +kernel
theorem kd_Pk_proveAll_17 : decode kc_Pk_proveAll 17 = .ok (.ifCond .ne 41, 3) := by decide +kernel
theorem kd_Pk_proveAll_20 : decode kc_Pk_proveAll 20 = .ok (.aload_n 0, 1) := by decide +kernel
theorem kd_Pk_proveAll_21 : decode kc_Pk_proveAll 21 = .ok (.aload_n 0, 1) := by decide +kernel
theorem kd_Pk_proveAll_22 : decode kc_Pk_proveAll 22 = .ok (.getfield 86, 3) := by decide +kernel
theorem kd_Pk_proveAll_25 : decode kc_Pk_proveAll 25 = .ok (.iload_n 2, 1) := by decide +kernel
theorem kd_Pk_proveAll_26 : decode kc_Pk_proveAll 26 = .ok (.invokevirtual 158, 3) := by decide +kernel
theorem kd_Pk_proveAll_29 : decode kc_Pk_proveAll 29 = .ok (.aload_n 0, 1) := by decide +kernel
theorem kd_Pk_proveAll_30 : decode kc_Pk_proveAll 30 = .ok (.getfield 36, 3) := by decide +kernel
theorem kd_Pk_proveAll_33 : decode kc_Pk_proveAll 33 = .ok (.getfield 162, 3) := by decide +kernel
theorem kd_Pk_proveAll_36 : decode kc_Pk_proveAll 36 = .ok (.aload_n 0, 1) := by decide +kernel
theorem kd_Pk_proveAll_37 : decode kc_Pk_proveAll 37 = .ok (.getfield 52, 3) := by decide +kernel
theorem kd_Pk_proveAll_40 : decode kc_Pk_proveAll 40 = .ok (.getfield 166, 3) := by decide +kernel
theorem kd_Pk_proveAll_43 : decode kc_Pk_proveAll 43 = .ok (.bipush 9, 2) := by decide +kernel
theorem kd_Pk_proveAll_45 : decode kc_Pk_proveAll 45 = .ok (.iload_n 2, 1) := by decide +kernel
theorem kd_Pk_proveAll_46 : decode kc_Pk_proveAll 46 = .ok (.iadd, 1) := by decide +kernel
theorem kd_Pk_proveAll_47 : decode kc_Pk_proveAll 47 = .ok (.iaload, 1) := by decide +kernel
theorem kd_Pk_proveAll_48 : decode kc_Pk_proveAll 48 = .ok (.caload, 1) := by decide +kernel
theorem kd_Pk_proveAll_49 : decode kc_Pk_proveAll 49 = .ok (.invokevirtual 132, 3) := by decide +kernel
theorem kd_Pk_proveAll_52 : decode kc_Pk_proveAll 52 = .ok (.iinc 2 1, 3) := by decide +kernel
theorem kd_Pk_proveAll_55 : decode kc_Pk_proveAll 55 = .ok (.goto (-53), 3) := by decide +kernel
theorem kd_Pk_proveAll_58 : decode kc_Pk_proveAll 58 = .ok (.aload_n 0, 1) := by decide +kernel
theorem kd_Pk_proveAll_59 : decode kc_Pk_proveAll 59 = .ok (.getfield 52, 3) := by decide +kernel
theorem kd_Pk_proveAll_62 : decode kc_Pk_proveAll 62 = .ok (.getfield 149, 3) := by decide +kernel
theorem kd_Pk_proveAll_65 : decode kc_Pk_proveAll 65 = .ok (.istore_n 2, 1) := by decide +kernel
theorem kd_Pk_proveAll_66 : decode kc_Pk_proveAll 66 = .ok (.aload_n 0, 1) := by decide +kernel
theorem kd_Pk_proveAll_67 : decode kc_Pk_proveAll 67 = .ok (.getfield 119, 3) := by decide +kernel
theorem kd_Pk_proveAll_70 : decode kc_Pk_proveAll 70 = .ok (.ifCond .ne 42, 3) := by decide +kernel
theorem kd_Pk_proveAll_73 : decode kc_Pk_proveAll 73 = .ok (.aload_n 0, 1) := by decide +kernel
theorem kd_Pk_proveAll_74 : decode kc_Pk_proveAll 74 = .ok (.getfield 86, 3) := by decide +kernel
theorem kd_Pk_proveAll_77 : decode kc_Pk_proveAll 77 = .ok (.getfield 145, 3) := by decide +kernel
theorem kd_Pk_proveAll_80 : decode kc_Pk_proveAll 80 = .ok (.iload_n 2, 1) := by decide +kernel
theorem kd_Pk_proveAll_81 : decode kc_Pk_proveAll 81 = .ok (.bipush 9, 2) := by decide +kernel
theorem kd_Pk_proveAll_83 : decode kc_Pk_proveAll 83 = .ok (.isub, 1) := by decide +kernel
theorem kd_Pk_proveAll_84 : decode kc_Pk_proveAll 84 = .ok (.iaload, 1) := by decide +kernel
theorem kd_Pk_proveAll_85 : decode kc_Pk_proveAll 85 = .ok (.iload_n 1, 1) := by decide +kernel
theorem kd_Pk_proveAll_86 : decode kc_Pk_proveAll 86 = .ok (.if_icmp .le 26, 3) := by decide +kernel
theorem kd_Pk_proveAll_89 : decode kc_Pk_proveAll 89 = .ok (.aload_n 0, 1) := by decide +kernel
theorem kd_Pk_proveAll_90 : decode kc_Pk_proveAll 90 = .ok (.bipush 53, 2) := by decide +kernel
theorem kd_Pk_proveAll_92 : decode kc_Pk_proveAll 92 = .ok (.aload_n 0, 1) := by decide +kernel
theorem kd_Pk_proveAll_93 : decode kc_Pk_proveAll 93 = .ok (.getfield 36, 3) := by decide +kernel
theorem kd_Pk_proveAll_96 : decode kc_Pk_proveAll 96 = .ok (.getfield 162, 3) := by decide +kernel
theorem kd_Pk_proveAll_99 : decode kc_Pk_proveAll 99 = .ok (.aload_n 0, 1) := by decide +kernel
theorem kd_Pk_proveAll_100 : decode kc_Pk_proveAll 100 = .ok (.getfield 52, 3) := by decide +kernel
theorem kd_Pk_proveAll_103 : decode kc_Pk_proveAll 103 = .ok (.getfield 166, 3) := by decide +kernel
theorem kd_Pk_proveAll_106 : decode kc_Pk_proveAll 106 = .ok (.iload_n 2, 1) := by decide +kernel
theorem kd_Pk_proveAll_107 : decode kc_Pk_proveAll 107 = .ok (.iaload, 1) := by decide +kernel
theorem kd_Pk_proveAll_108 : decode kc_Pk_proveAll 108 = .ok (.caload, 1) := by decide +kernel
theorem kd_Pk_proveAll_109 : decode kc_Pk_proveAll 109 = .ok (.invokevirtual 132, 3) := by decide +kernel
theorem kd_Pk_proveAll_112 : decode kc_Pk_proveAll 112 = .ok (.return_, 1) := by decide +kernel
theorem kd_Pv_longest_0 : decode kc_Pv_longest 0 = .ok (.aload_n 0, 1) := by decide +kernel
theorem kd_Pv_longest_1 : decode kc_Pv_longest 1 = .ok (.iconst 0, 1) := by decide +kernel
theorem kd_Pv_longest_2 : decode kc_Pv_longest 2 = .ok (.putfield 74, 3) := by decide +kernel
theorem kd_Pv_longest_5 : decode kc_Pv_longest 5 = .ok (.aload_n 0, 1) := by decide +kernel
theorem kd_Pv_longest_6 : decode kc_Pv_longest 6 = .ok (.iload_n 2, 1) := by decide +kernel
theorem kd_Pv_longest_7 : decode kc_Pv_longest 7 = .ok (.lconst 0, 1) := by decide +kernel
theorem kd_Pv_longest_8 : decode kc_Pv_longest 8 = .ok (.ldc2_w 78, 3) := by decide +kernel
theorem kd_Pv_longest_11 : decode kc_Pv_longest 11 = .ok (.ldc2_w 78, 3) := by decide +kernel
theorem kd_Pv_longest_14 : decode kc_Pv_longest 14 = .ok (.invokevirtual 80, 3) := by decide +kernel
theorem kd_Pv_longest_17 : decode kc_Pv_longest 17 = .ok (.iload_n 2, 1) := by decide +kernel
theorem kd_Pv_longest_18 : decode kc_Pv_longest 18 = .ok (.iconst 1, 1) := by decide +kernel
theorem kd_Pv_longest_19 : decode kc_Pv_longest 19 = .ok (.isub, 1) := by decide +kernel
theorem kd_Pv_longest_20 : decode kc_Pv_longest 20 = .ok (.istore_n 3, 1) := by decide +kernel
theorem kd_Pv_longest_21 : decode kc_Pv_longest 21 = .ok (.iload_n 3, 1) := by decide +kernel
theorem kd_Pv_longest_22 : decode kc_Pv_longest 22 = .ok (.iload_n 1, 1) := by decide +kernel
theorem kd_Pv_longest_23 : decode kc_Pv_longest 23 = .ok (.if_icmp .lt 151, 3) := by decide +kernel
theorem kd_Pv_longest_26 : decode kc_Pv_longest 26 = .ok (.aload_n 0, 1) := by decide +kernel
theorem kd_Pv_longest_27 : decode kc_Pv_longest 27 = .ok (.getfield 9, 3) := by decide +kernel
theorem kd_Pv_longest_30 : decode kc_Pv_longest 30 = .ok (.getfield 61, 3) := by decide +kernel
theorem kd_Pv_longest_33 : decode kc_Pv_longest 33 = .ok (.iload_n 3, 1) := by decide +kernel
theorem kd_Pv_longest_34 : decode kc_Pv_longest 34 = .ok (.baload, 1) := by decide +kernel
theorem kd_Pv_longest_35 : decode kc_Pv_longest 35 = .ok (.tableswitch 124 10 18 #[64, 72, 124, 88, 80, 96, 96, 124, 49], 49) := by decide +kernel
theorem kd_Pv_longest_84 : decode kc_Pv_longest 84 = .ok (.aload_n 0, 1) := by decide +kernel
theorem kd_Pv_longest_85 : decode kc_Pv_longest 85 = .ok (.iload_n 3, 1) := by decide +kernel
theorem kd_Pv_longest_86 : decode kc_Pv_longest 86 = .ok (.ldc2_w 78, 3) := by decide +kernel
theorem kd_Pv_longest_89 : decode kc_Pv_longest 89 = .ok (.ldc2_w 78, 3) := by decide +kernel
theorem kd_Pv_longest_92 : decode kc_Pv_longest 92 = .ok (.lconst 1, 1) := by decide +kernel
theorem kd_Pv_longest_93 : decode kc_Pv_longest 93 = .ok (.invokevirtual 80, 3) := by decide +kernel
theorem kd_Pv_longest_96 : decode kc_Pv_longest 96 = .ok (.goto 72, 3) := by decide +kernel
theorem kd_Pv_longest_99 : decode kc_Pv_longest 99 = .ok (.aload_n 0, 1) := by decide +kernel
theorem kd_Pv_longest_100 : decode kc_Pv_longest 100 = .ok (.iload_n 3, 1) := by decide +kernel
theorem kd_Pv_longest_101 : decode kc_Pv_longest 101 = .ok (.invokevirtual 84, 3) := by decide +kernel
theorem kd_Pv_longest_104 : decode kc_Pv_longest 104 = .ok (.goto 64, 3) := by decide +kernel
theorem kd_Pv_longest_107 : decode kc_Pv_longest 107 = .ok (.aload_n 0, 1) := by decide +kernel
theorem kd_Pv_longest_108 : decode kc_Pv_longest 108 = .ok (.iload_n 3, 1) := by decide +kernel
theorem kd_Pv_longest_109 : decode kc_Pv_longest 109 = .ok (.invokevirtual 88, 3) := by decide +kernel
theorem kd_Pv_longest_112 : decode kc_Pv_longest 112 = .ok (.goto 56, 3) := by decide +kernel
theorem kd_Pv_longest_115 : decode kc_Pv_longest 115 = .ok (.aload_n 0, 1) := by decide +kernel
theorem kd_Pv_longest_116 : decode kc_Pv_longest 116 = .ok (.iload_n 3, 1) := by decide +kernel
theorem kd_Pv_longest_117 : decode kc_Pv_longest 117 = .ok (.invokevirtual 91, 3) := by decide +kernel
theorem kd_Pv_longest_120 : decode kc_Pv_longest 120 = .ok (.goto 48, 3) := by decide +kernel
theorem kd_Pv_longest_123 : decode kc_Pv_longest 123 = .ok (.aload_n 0, 1) := by decide +kernel
theorem kd_Pv_longest_124 : decode kc_Pv_longest 124 = .ok (.iload_n 3, 1) := by decide +kernel
theorem kd_Pv_longest_125 : decode kc_Pv_longest 125 = .ok (.invokevirtual 94, 3) := by decide +kernel
theorem kd_Pv_longest_128 : decode kc_Pv_longest 128 = .ok (.goto 40, 3) := by decide +kernel
theorem kd_Pv_longest_131 : decode kc_Pv_longest 131 = .ok (.aload_n 0, 1) := by decide +kernel
theorem kd_Pv_longest_132 : decode kc_Pv_longest 132 = .ok (.iload_n 3, 1) := by decide +kernel
theorem kd_Pv_longest_133 : decode kc_Pv_longest 133 = .ok (.lconst 1, 1) := by decide +kernel
theorem kd_Pv_longest_134 : decode kc_Pv_longest 134 = .ok (.aload_n 0, 1) := by decide +kernel
theorem kd_Pv_longest_135 : decode kc_Pv_longest 135 = .ok (.getfield 15, 3) := by decide +kernel
theorem kd_Pv_longest_138 : decode kc_Pv_longest 138 = .ok (.aload_n 0, 1) := by decide +kernel
theorem kd_Pv_longest_139 : decode kc_Pv_longest 139 = .ok (.getfield 9, 3) := by decide +kernel
theorem kd_Pv_longest_142 : decode kc_Pv_longest 142 = .ok (.getfield 71, 3) := by decide +kernel
theorem kd_Pv_longest_145 : decode kc_Pv_longest 145 = .ok (.iload_n 3, 1) := by decide +kernel
theorem kd_Pv_longest_146 : decode kc_Pv_longest 146 = .ok (.iaload, 1) := by decide +kernel
theorem kd_Pv_longest_147 : decode kc_Pv_longest 147 = .ok (.iaload, 1) := by decide +kernel
theorem kd_Pv_longest_148 : decode kc_Pv_longest 148 = .ok (.i2l, 1) := by decide +kernel
theorem kd_Pv_longest_149 : decode kc_Pv_longest 149 = .ok (.ladd, 1) := by decide +kernel
theorem kd_Pv_longest_150 : decode kc_Pv_longest 150 = .ok (.iload_n 3, 1) := by decide +kernel
theorem kd_Pv_longest_151 : decode kc_Pv_longest 151 = .ok (.iconst 1, 1) := by decide +kernel
theorem kd_Pv_longest_152 : decode kc_Pv_longest 152 = .ok (.iadd, 1) := by decide +kernel
theorem kd_Pv_longest_153 : decode kc_Pv_longest 153 = .ok (.invokevirtual 97, 3) := by decide +kernel
theorem kd_Pv_longest_156 : decode kc_Pv_longest 156 = .ok (.goto 12, 3) := by decide +kernel
theorem kd_Pv_longest_159 : decode kc_Pv_longest 159 = .ok (.aload_n 0, 1) := by decide +kernel
theorem kd_Pv_longest_160 : decode kc_Pv_longest 160 = .ok (.iload_n 3, 1) := by decide +kernel
theorem kd_Pv_longest_161 : decode kc_Pv_longest 161 = .ok (.lconst 1, 1) := by decide +kernel
theorem kd_Pv_longest_162 : decode kc_Pv_longest 162 = .ok (.iload_n 3, 1) := by decide +kernel
theorem kd_Pv_longest_163 : decode kc_Pv_longest 163 = .ok (.iconst 1, 1) := by decide +kernel
theorem kd_Pv_longest_164 : decode kc_Pv_longest 164 = .ok (.iadd, 1) := by decide +kernel
theorem kd_Pv_longest_165 : decode kc_Pv_longest 165 = .ok (.invokevirtual 97, 3) := by decide +kernel
theorem kd_Pv_longest_168 : decode kc_Pv_longest 168 = .ok (.iinc 3 (-1), 3) := by decide +kernel
theorem kd_Pv_longest_171 : decode kc_Pv_longest 171 = .ok (.goto (-150), 3) := by decide +kernel
theorem kd_Pv_longest_174 : decode kc_Pv_longest 174 = .ok (.aload_n 0, 1) := by decide +kernel
theorem kd_Pv_longest_175 : decode kc_Pv_longest 175 = .ok (.getfield 23, 3) := by decide +kernel
theorem kd_Pv_longest_178 : decode kc_Pv_longest 178 = .ok (.iload_n 1, 1) := by decide +kernel
theorem kd_Pv_longest_179 : decode kc_Pv_longest 179 = .ok (.laload, 1) := by decide +kernel
theorem kd_Pv_longest_180 : decode kc_Pv_longest 180 = .ok (.aload_n 0, 1) := by decide +kernel
theorem kd_Pv_longest_181 : decode kc_Pv_longest 181 = .ok (.getfield 30, 3) := by decide +kernel
theorem kd_Pv_longest_184 : decode kc_Pv_longest 184 = .ok (.iload_n 1, 1) := by decide +kernel
theorem kd_Pv_longest_185 : decode kc_Pv_longest 185 = .ok (.laload, 1) := by decide +kernel
theorem kd_Pv_longest_186 : decode kc_Pv_longest 186 = .ok (.invokestatic 101, 3) := by decide +kernel
theorem kd_Pv_longest_189 : decode kc_Pv_longest 189 = .ok (.lreturn, 1) := by decide +kernel
theorem kd_Pv_prove_0 : decode kc_Pv_prove 0 = .ok (.aload_n 0, 1) := by decide +kernel
theorem kd_Pv_prove_1 : decode kc_Pv_prove 1 = .ok (.getfield 9, 3) := by decide +kernel
theorem kd_Pv_prove_4 : decode kc_Pv_prove 4 = .ok (.getfield 38, 3) := by decide +kernel
theorem kd_Pv_prove_7 : decode kc_Pv_prove 7 = .ok (.iload_n 1, 1) := by decide +kernel
theorem kd_Pv_prove_8 : decode kc_Pv_prove 8 = .ok (.iaload, 1) := by decide +kernel
theorem kd_Pv_prove_9 : decode kc_Pv_prove 9 = .ok (.istore_n 2, 1) := by decide +kernel
theorem kd_Pv_prove_10 : decode kc_Pv_prove 10 = .ok (.aload_n 0, 1) := by decide +kernel
theorem kd_Pv_prove_11 : decode kc_Pv_prove 11 = .ok (.getfield 9, 3) := by decide +kernel
theorem kd_Pv_prove_14 : decode kc_Pv_prove 14 = .ok (.getfield 38, 3) := by decide +kernel
theorem kd_Pv_prove_17 : decode kc_Pv_prove 17 = .ok (.iload_n 1, 1) := by decide +kernel
theorem kd_Pv_prove_18 : decode kc_Pv_prove 18 = .ok (.iconst 1, 1) := by decide +kernel
theorem kd_Pv_prove_19 : decode kc_Pv_prove 19 = .ok (.iadd, 1) := by decide +kernel
theorem kd_Pv_prove_20 : decode kc_Pv_prove 20 = .ok (.iaload, 1) := by decide +kernel
theorem kd_Pv_prove_21 : decode kc_Pv_prove 21 = .ok (.istore_n 3, 1) := by decide +kernel
theorem kd_Pv_prove_22 : decode kc_Pv_prove 22 = .ok (.aload_n 0, 1) := by decide +kernel
theorem kd_Pv_prove_23 : decode kc_Pv_prove 23 = .ok (.iload_n 2, 1) := by decide +kernel
theorem kd_Pv_prove_24 : decode kc_Pv_prove 24 = .ok (.iload_n 3, 1) := by decide +kernel
theorem kd_Pv_prove_25 : decode kc_Pv_prove 25 = .ok (.invokevirtual 43, 3) := by decide +kernel
theorem kd_Pv_prove_28 : decode kc_Pv_prove 28 = .ok (.bipush 64, 2) := by decide +kernel
theorem kd_Pv_prove_30 : decode kc_Pv_prove 30 = .ok (.if_icmp .le 6, 3) := by decide +kernel
theorem kd_Pv_prove_33 : decode kc_Pv_prove 33 = .ok (.bipush 51, 2) := by decide +kernel
theorem kd_Pv_prove_35 : decode kc_Pv_prove 35 = .ok (.ireturn, 1) := by decide +kernel
theorem kd_Pv_prove_36 : decode kc_Pv_prove 36 = .ok (.aload_n 0, 1) := by decide +kernel
theorem kd_Pv_prove_37 : decode kc_Pv_prove 37 = .ok (.iload_n 2, 1) := by decide +kernel
theorem kd_Pv_prove_38 : decode kc_Pv_prove 38 = .ok (.iload_n 3, 1) := by decide +kernel
theorem kd_Pv_prove_39 : decode kc_Pv_prove 39 = .ok (.invokevirtual 47, 3) := by decide +kernel
theorem kd_Pv_prove_42 : decode kc_Pv_prove 42 = .ok (.lstore 4, 2) := by decide +kernel
theorem kd_Pv_prove_44 : decode kc_Pv_prove 44 = .ok (.aload_n 0, 1) := by decide +kernel
theorem kd_Pv_prove_45 : decode kc_Pv_prove 45 = .ok (.getfield 15, 3) := by decide +kernel
theorem kd_Pv_prove_48 : decode kc_Pv_prove 48 = .ok (.iload_n 1, 1) := by decide +kernel
theorem kd_Pv_prove_49 : decode kc_Pv_prove 49 = .ok (.lload 4, 2) := by decide +kernel
theorem kd_Pv_prove_51 : decode kc_Pv_prove 51 = .ok (.ldc2_w 51, 3) := by decide +kernel
theorem kd_Pv_prove_54 : decode kc_Pv_prove 54 = .ok (.invokestatic 53, 3) := by decide +kernel
theorem kd_Pv_prove_57 : decode kc_Pv_prove 57 = .ok (.l2i, 1) := by decide +kernel
theorem kd_Pv_prove_58 : decode kc_Pv_prove 58 = .ok (.iastore, 1) := by decide +kernel
theorem kd_Pv_prove_59 : decode kc_Pv_prove 59 = .ok (.lload 4, 2) := by decide +kernel
theorem kd_Pv_prove_61 : decode kc_Pv_prove 61 = .ok (.ldc2_w 59, 3) := by decide +kernel
theorem kd_Pv_prove_64 : decode kc_Pv_prove 64 = .ok (.lcmp, 1) := by decide +kernel
theorem kd_Pv_prove_65 : decode kc_Pv_prove 65 = .ok (.ifCond .le 8, 3) := by decide +kernel
theorem kd_Pv_prove_68 : decode kc_Pv_prove 68 = .ok (.bipush 52, 2) := by decide +kernel
theorem kd_Pv_prove_70 : decode kc_Pv_prove 70 = .ok (.goto 4, 3) := by decide +kernel
theorem kd_Pv_prove_73 : decode kc_Pv_prove 73 = .ok (.iconst 0, 1) := by decide +kernel
theorem kd_Pv_prove_74 : decode kc_Pv_prove 74 = .ok (.ireturn, 1) := by decide +kernel
theorem kd_Pv_proveGo_0 : decode kc_Pv_proveGo 0 = .ok (.aload_n 0, 1) := by decide +kernel
theorem kd_Pv_proveGo_1 : decode kc_Pv_proveGo 1 = .ok (.getfield 74, 3) := by decide +kernel
theorem kd_Pv_proveGo_4 : decode kc_Pv_proveGo 4 = .ok (.ifCond .le 41, 3) := by decide +kernel
theorem kd_Pv_proveGo_7 : decode kc_Pv_proveGo 7 = .ok (.aload_n 0, 1) := by decide +kernel
theorem kd_Pv_proveGo_8 : decode kc_Pv_proveGo 8 = .ok (.getfield 9, 3) := by decide +kernel
theorem kd_Pv_proveGo_11 : decode kc_Pv_proveGo 11 = .ok (.getfield 71, 3) := by decide +kernel
theorem kd_Pv_proveGo_14 : decode kc_Pv_proveGo 14 = .ok (.iload_n 1, 1) := by decide +kernel
theorem kd_Pv_proveGo_15 : decode kc_Pv_proveGo 15 = .ok (.iaload, 1) := by decide +kernel
theorem kd_Pv_proveGo_16 : decode kc_Pv_proveGo 16 = .ok (.aload_n 0, 1) := by decide +kernel
theorem kd_Pv_proveGo_17 : decode kc_Pv_proveGo 17 = .ok (.getfield 35, 3) := by decide +kernel
theorem kd_Pv_proveGo_20 : decode kc_Pv_proveGo 20 = .ok (.aload_n 0, 1) := by decide +kernel
theorem kd_Pv_proveGo_21 : decode kc_Pv_proveGo 21 = .ok (.getfield 74, 3) := by decide +kernel
theorem kd_Pv_proveGo_24 : decode kc_Pv_proveGo 24 = .ok (.iconst 1, 1) := by decide +kernel
theorem kd_Pv_proveGo_25 : decode kc_Pv_proveGo 25 = .ok (.isub, 1) := by decide +kernel
theorem kd_Pv_proveGo_26 : decode kc_Pv_proveGo 26 = .ok (.iaload, 1) := by decide +kernel
theorem kd_Pv_proveGo_27 : decode kc_Pv_proveGo 27 = .ok (.if_icmp .le 18, 3) := by decide +kernel
theorem kd_Pv_proveGo_30 : decode kc_Pv_proveGo 30 = .ok (.aload_n 0, 1) := by decide +kernel
theorem kd_Pv_proveGo_31 : decode kc_Pv_proveGo 31 = .ok (.iload_n 1, 1) := by decide +kernel
theorem kd_Pv_proveGo_32 : decode kc_Pv_proveGo 32 = .ok (.ldc2_w 78, 3) := by decide +kernel
theorem kd_Pv_proveGo_35 : decode kc_Pv_proveGo 35 = .ok (.lconst 1, 1) := by decide +kernel
theorem kd_Pv_proveGo_36 : decode kc_Pv_proveGo 36 = .ok (.ldc2_w 78, 3) := by decide +kernel
theorem kd_Pv_proveGo_39 : decode kc_Pv_proveGo 39 = .ok (.invokevirtual 80, 3) := by decide +kernel
theorem kd_Pv_proveGo_42 : decode kc_Pv_proveGo 42 = .ok (.goto 18, 3) := by decide +kernel
theorem kd_Pv_proveGo_45 : decode kc_Pv_proveGo 45 = .ok (.aload_n 0, 1) := by decide +kernel
theorem kd_Pv_proveGo_46 : decode kc_Pv_proveGo 46 = .ok (.iload_n 1, 1) := by decide +kernel
theorem kd_Pv_proveGo_47 : decode kc_Pv_proveGo 47 = .ok (.lconst 1, 1) := by decide +kernel
theorem kd_Pv_proveGo_48 : decode kc_Pv_proveGo 48 = .ok (.aload_n 0, 1) := by decide +kernel
theorem kd_Pv_proveGo_49 : decode kc_Pv_proveGo 49 = .ok (.getfield 9, 3) := by decide +kernel
theorem kd_Pv_proveGo_52 : decode kc_Pv_proveGo 52 = .ok (.getfield 71, 3) := by decide +kernel
theorem kd_Pv_proveGo_55 : decode kc_Pv_proveGo 55 = .ok (.iload_n 1, 1) := by decide +kernel
theorem kd_Pv_proveGo_56 : decode kc_Pv_proveGo 56 = .ok (.iaload, 1) := by decide +kernel
theorem kd_Pv_proveGo_57 : decode kc_Pv_proveGo 57 = .ok (.invokevirtual 97, 3) := by decide +kernel
theorem kd_Pv_proveGo_60 : decode kc_Pv_proveGo 60 = .ok (.return_, 1) := by decide +kernel
theorem kd_Pv_proveNext_0 : decode kc_Pv_proveNext 0 = .ok (.aload_n 0, 1) := by decide +kernel
theorem kd_Pv_proveNext_1 : decode kc_Pv_proveNext 1 = .ok (.dup, 1) := by decide +kernel
theorem kd_Pv_proveNext_2 : decode kc_Pv_proveNext 2 = .ok (.getfield 74, 3) := by decide +kernel
theorem kd_Pv_proveNext_5 : decode kc_Pv_proveNext 5 = .ok (.iconst 1, 1) := by decide +kernel
theorem kd_Pv_proveNext_6 : decode kc_Pv_proveNext 6 = .ok (.isub, 1) := by decide +kernel
theorem kd_Pv_proveNext_7 : decode kc_Pv_proveNext 7 = .ok (.putfield 74, 3) := by decide +kernel
theorem kd_Pv_proveNext_10 : decode kc_Pv_proveNext 10 = .ok (.aload_n 0, 1) := by decide +kernel
theorem kd_Pv_proveNext_11 : decode kc_Pv_proveNext 11 = .ok (.getfield 9, 3) := by decide +kernel
theorem kd_Pv_proveNext_14 : decode kc_Pv_proveNext 14 = .ok (.getfield 71, 3) := by decide +kernel
theorem kd_Pv_proveNext_17 : decode kc_Pv_proveNext 17 = .ok (.iload_n 1, 1) := by decide +kernel
theorem kd_Pv_proveNext_18 : decode kc_Pv_proveNext 18 = .ok (.iaload, 1) := by decide +kernel
theorem kd_Pv_proveNext_19 : decode kc_Pv_proveNext 19 = .ok (.istore_n 2, 1) := by decide +kernel
theorem kd_Pv_proveNext_20 : decode kc_Pv_proveNext 20 = .ok (.aload_n 0, 1) := by decide +kernel
theorem kd_Pv_proveNext_21 : decode kc_Pv_proveNext 21 = .ok (.getfield 9, 3) := by decide +kernel
theorem kd_Pv_proveNext_24 : decode kc_Pv_proveNext 24 = .ok (.getfield 108, 3) := by decide +kernel
theorem kd_Pv_proveNext_27 : decode kc_Pv_proveNext 27 = .ok (.iload_n 1, 1) := by decide +kernel
theorem kd_Pv_proveNext_28 : decode kc_Pv_proveNext 28 = .ok (.iconst 1, 1) := by decide +kernel
theorem kd_Pv_proveNext_29 : decode kc_Pv_proveNext 29 = .ok (.isub, 1) := by decide +kernel
theorem kd_Pv_proveNext_30 : decode kc_Pv_proveNext 30 = .ok (.iaload, 1) := by decide +kernel
theorem kd_Pv_proveNext_31 : decode kc_Pv_proveNext 31 = .ok (.istore_n 3, 1) := by decide +kernel
theorem kd_Pv_proveNext_32 : decode kc_Pv_proveNext 32 = .ok (.iload_n 3, 1) := by decide +kernel
theorem kd_Pv_proveNext_33 : decode kc_Pv_proveNext 33 = .ok (.ifCond .ne 11, 3) := by decide +kernel
theorem kd_Pv_proveNext_36 : decode kc_Pv_proveNext 36 = .ok (.aload_n 0, 1) := by decide +kernel
theorem kd_Pv_proveNext_37 : decode kc_Pv_proveNext 37 = .ok (.iload_n 1, 1) := by decide +kernel
theorem kd_Pv_proveNext_38 : decode kc_Pv_proveNext 38 = .ok (.lconst 1, 1) := by decide +kernel
theorem kd_Pv_proveNext_39 : decode kc_Pv_proveNext 39 = .ok (.iload_n 2, 1) := by decide +kernel
theorem kd_Pv_proveNext_40 : decode kc_Pv_proveNext 40 = .ok (.invokevirtual 97, 3) := by decide +kernel
theorem kd_Pv_proveNext_43 : decode kc_Pv_proveNext 43 = .ok (.return_, 1) := by decide +kernel
theorem kd_Pv_proveNext_44 : decode kc_Pv_proveNext 44 = .ok (.lconst 1, 1) := by decide +kernel
theorem kd_Pv_proveNext_45 : decode kc_Pv_proveNext 45 = .ok (.aload_n 0, 1) := by decide +kernel
theorem kd_Pv_proveNext_46 : decode kc_Pv_proveNext 46 = .ok (.getfield 23, 3) := by decide +kernel
theorem kd_Pv_proveNext_49 : decode kc_Pv_proveNext 49 = .ok (.iload_n 1, 1) := by decide +kernel
theorem kd_Pv_proveNext_50 : decode kc_Pv_proveNext 50 = .ok (.iconst 1, 1) := by decide +kernel
theorem kd_Pv_proveNext_51 : decode kc_Pv_proveNext 51 = .ok (.iadd, 1) := by decide +kernel
theorem kd_Pv_proveNext_52 : decode kc_Pv_proveNext 52 = .ok (.laload, 1) := by decide +kernel
theorem kd_Pv_proveNext_53 : decode kc_Pv_proveNext 53 = .ok (.invokestatic 105, 3) := by decide +kernel
theorem kd_Pv_proveNext_56 : decode kc_Pv_proveNext 56 = .ok (.lstore 4, 2) := by decide +kernel
theorem kd_Pv_proveNext_58 : decode kc_Pv_proveNext 58 = .ok (.lload 4, 2) := by decide +kernel
theorem kd_Pv_proveNext_60 : decode kc_Pv_proveNext 60 = .ok (.ldc2_w 78, 3) := by decide +kernel
theorem kd_Pv_proveNext_63 : decode kc_Pv_proveNext 63 = .ok (.lcmp, 1) := by decide +kernel
theorem kd_Pv_proveNext_64 : decode kc_Pv_proveNext 64 = .ok (.ifCond .ne 7, 3) := by decide +kernel
theorem kd_Pv_proveNext_67 : decode kc_Pv_proveNext 67 = .ok (.lconst 0, 1) := by decide +kernel
theorem kd_Pv_proveNext_68 : decode kc_Pv_proveNext 68 = .ok (.goto 16, 3) := by decide +kernel
theorem kd_Pv_proveNext_71 : decode kc_Pv_proveNext 71 = .ok (.iload_n 3, 1) := by decide +kernel
theorem kd_Pv_proveNext_72 : decode kc_Pv_proveNext 72 = .ok (.iconst 1, 1) := by decide +kernel
theorem kd_Pv_proveNext_73 : decode kc_Pv_proveNext 73 = .ok (.isub, 1) := by decide +kernel
theorem kd_Pv_proveNext_74 : decode kc_Pv_proveNext 74 = .ok (.i2l, 1) := by decide +kernel
theorem kd_Pv_proveNext_75 : decode kc_Pv_proveNext 75 = .ok (.lload 4, 2) := by decide +kernel
theorem kd_Pv_proveNext_77 : decode kc_Pv_proveNext 77 = .ok (.lmul, 1) := by decide +kernel
theorem kd_Pv_proveNext_78 : decode kc_Pv_proveNext 78 = .ok (.ldc2_w 103, 3) := by decide +kernel
theorem kd_Pv_proveNext_81 : decode kc_Pv_proveNext 81 = .ok (.invokestatic 53, 3) := by decide +kernel
theorem kd_Pv_proveNext_84 : decode kc_Pv_proveNext 84 = .ok (.lstore 6, 2) := by decide +kernel
theorem kd_Pv_proveNext_86 : decode kc_Pv_proveNext 86 = .ok (.lload 6, 2) := by decide +kernel
theorem kd_Pv_proveNext_88 : decode kc_Pv_proveNext 88 = .ok (.lconst 1, 1) := by decide +kernel
theorem kd_Pv_proveNext_89 : decode kc_Pv_proveNext 89 = .ok (.invokestatic 105, 3) := by decide +kernel
theorem kd_Pv_proveNext_92 : decode kc_Pv_proveNext 92 = .ok (.lstore 8, 2) := by decide +kernel
theorem kd_Pv_proveNext_94 : decode kc_Pv_proveNext 94 = .ok (.lload 6, 2) := by decide +kernel
theorem kd_Pv_proveNext_96 : decode kc_Pv_proveNext 96 = .ok (.lload 4, 2) := by decide +kernel
theorem kd_Pv_proveNext_98 : decode kc_Pv_proveNext 98 = .ok (.invokestatic 105, 3) := by decide +kernel
theorem kd_Pv_proveNext_101 : decode kc_Pv_proveNext 101 = .ok (.lconst 1, 1) := by decide +kernel
theorem kd_Pv_proveNext_102 : decode kc_Pv_proveNext 102 = .ok (.invokestatic 105, 3) := by decide +kernel
theorem kd_Pv_proveNext_105 : decode kc_Pv_proveNext 105 = .ok (.lstore 10, 2) := by decide +kernel
theorem kd_Pv_proveNext_107 : decode kc_Pv_proveNext 107 = .ok (.lload 10, 2) := by decide +kernel
theorem kd_Pv_proveNext_109 : decode kc_Pv_proveNext 109 = .ok (.lload 8, 2) := by decide +kernel
theorem kd_Pv_proveNext_111 : decode kc_Pv_proveNext 111 = .ok (.aload_n 0, 1) := by decide +kernel
theorem kd_Pv_proveNext_112 : decode kc_Pv_proveNext 112 = .ok (.getfield 27, 3) := by decide +kernel
theorem kd_Pv_proveNext_115 : decode kc_Pv_proveNext 115 = .ok (.iload_n 1, 1) := by decide +kernel
theorem kd_Pv_proveNext_116 : decode kc_Pv_proveNext 116 = .ok (.iconst 1, 1) := by decide +kernel
theorem kd_Pv_proveNext_117 : decode kc_Pv_proveNext 117 = .ok (.iadd, 1) := by decide +kernel
theorem kd_Pv_proveNext_118 : decode kc_Pv_proveNext 118 = .ok (.laload, 1) := by decide +kernel
theorem kd_Pv_proveNext_119 : decode kc_Pv_proveNext 119 = .ok (.invokestatic 105, 3) := by decide +kernel
theorem kd_Pv_proveNext_122 : decode kc_Pv_proveNext 122 = .ok (.invokestatic 101, 3) := by decide +kernel
theorem kd_Pv_proveNext_125 : decode kc_Pv_proveNext 125 = .ok (.lstore 12, 2) := by decide +kernel
theorem kd_Pv_proveNext_127 : decode kc_Pv_proveNext 127 = .ok (.lload 8, 2) := by decide +kernel
theorem kd_Pv_proveNext_129 : decode kc_Pv_proveNext 129 = .ok (.aload_n 0, 1) := by decide +kernel
theorem kd_Pv_proveNext_130 : decode kc_Pv_proveNext 130 = .ok (.getfield 30, 3) := by decide +kernel
theorem kd_Pv_proveNext_133 : decode kc_Pv_proveNext 133 = .ok (.iload_n 1, 1) := by decide +kernel
theorem kd_Pv_proveNext_134 : decode kc_Pv_proveNext 134 = .ok (.iconst 1, 1) := by decide +kernel
theorem kd_Pv_proveNext_135 : decode kc_Pv_proveNext 135 = .ok (.iadd, 1) := by decide +kernel
theorem kd_Pv_proveNext_136 : decode kc_Pv_proveNext 136 = .ok (.laload, 1) := by decide +kernel
theorem kd_Pv_proveNext_137 : decode kc_Pv_proveNext 137 = .ok (.invokestatic 105, 3) := by decide +kernel
theorem kd_Pv_proveNext_140 : decode kc_Pv_proveNext 140 = .ok (.lload 12, 2) := by decide +kernel
theorem kd_Pv_proveNext_142 : decode kc_Pv_proveNext 142 = .ok (.aload_n 0, 1) := by decide +kernel
theorem kd_Pv_proveNext_143 : decode kc_Pv_proveNext 143 = .ok (.getfield 30, 3) := by decide +kernel
theorem kd_Pv_proveNext_146 : decode kc_Pv_proveNext 146 = .ok (.iload_n 2, 1) := by decide +kernel
theorem kd_Pv_proveNext_147 : decode kc_Pv_proveNext 147 = .ok (.laload, 1) := by decide +kernel
theorem kd_Pv_proveNext_148 : decode kc_Pv_proveNext 148 = .ok (.invokestatic 105, 3) := by decide +kernel
theorem kd_Pv_proveNext_151 : decode kc_Pv_proveNext 151 = .ok (.invokestatic 101, 3) := by decide +kernel
theorem kd_Pv_proveNext_154 : decode kc_Pv_proveNext 154 = .ok (.lstore 14, 2) := by decide +kernel
theorem kd_Pv_proveNext_156 : decode kc_Pv_proveNext 156 = .ok (.aload_n 0, 1) := by decide +kernel
theorem kd_Pv_proveNext_157 : decode kc_Pv_proveNext 157 = .ok (.iload_n 1, 1) := by decide +kernel
theorem kd_Pv_proveNext_158 : decode kc_Pv_proveNext 158 = .ok (.lload 12, 2) := by decide +kernel
theorem kd_Pv_proveNext_160 : decode kc_Pv_proveNext 160 = .ok (.aload_n 0, 1) := by decide +kernel
theorem kd_Pv_proveNext_161 : decode kc_Pv_proveNext 161 = .ok (.getfield 23, 3) := by decide +kernel
theorem kd_Pv_proveNext_164 : decode kc_Pv_proveNext 164 = .ok (.iload_n 2, 1) := by decide +kernel
theorem kd_Pv_proveNext_165 : decode kc_Pv_proveNext 165 = .ok (.laload, 1) := by decide +kernel
theorem kd_Pv_proveNext_166 : decode kc_Pv_proveNext 166 = .ok (.invokestatic 105, 3) := by decide +kernel
theorem kd_Pv_proveNext_169 : decode kc_Pv_proveNext 169 = .ok (.lload 12, 2) := by decide +kernel
theorem kd_Pv_proveNext_171 : decode kc_Pv_proveNext 171 = .ok (.aload_n 0, 1) := by decide +kernel
theorem kd_Pv_proveNext_172 : decode kc_Pv_proveNext 172 = .ok (.getfield 27, 3) := by decide +kernel
theorem kd_Pv_proveNext_175 : decode kc_Pv_proveNext 175 = .ok (.iload_n 2, 1) := by decide +kernel
theorem kd_Pv_proveNext_176 : decode kc_Pv_proveNext 176 = .ok (.laload, 1) := by decide +kernel
theorem kd_Pv_proveNext_177 : decode kc_Pv_proveNext 177 = .ok (.invokestatic 105, 3) := by decide +kernel
theorem kd_Pv_proveNext_180 : decode kc_Pv_proveNext 180 = .ok (.lload 14, 2) := by decide +kernel
theorem kd_Pv_proveNext_182 : decode kc_Pv_proveNext 182 = .ok (.invokevirtual 80, 3) := by decide +kernel
theorem kd_Pv_proveNext_185 : decode kc_Pv_proveNext 185 = .ok (.return_, 1) := by decide +kernel
theorem kd_Pv_proveUnless_0 : decode kc_Pv_proveUnless 0 = .ok (.aload_n 0, 1) := by decide +kernel
theorem kd_Pv_proveUnless_1 : decode kc_Pv_proveUnless 1 = .ok (.getfield 9, 3) := by decide +kernel
theorem kd_Pv_proveUnless_4 : decode kc_Pv_proveUnless 4 = .ok (.getfield 71, 3) := by decide +kernel
theorem kd_Pv_proveUnless_7 : decode kc_Pv_proveUnless 7 = .ok (.iload_n 1, 1) := by decide +kernel
theorem kd_Pv_proveUnless_8 : decode kc_Pv_proveUnless 8 = .ok (.iaload, 1) := by decide +kernel
theorem kd_Pv_proveUnless_9 : decode kc_Pv_proveUnless 9 = .ok (.istore_n 2, 1) := by decide +kernel
theorem kd_Pv_proveUnless_10 : decode kc_Pv_proveUnless 10 = .ok (.lconst 1, 1) := by decide +kernel
theorem kd_Pv_proveUnless_11 : decode kc_Pv_proveUnless 11 = .ok (.aload_n 0, 1) := by decide +kernel
theorem kd_Pv_proveUnless_12 : decode kc_Pv_proveUnless 12 = .ok (.getfield 23, 3) := by decide +kernel
theorem kd_Pv_proveUnless_15 : decode kc_Pv_proveUnless 15 = .ok (.iload_n 1, 1) := by decide +kernel
theorem kd_Pv_proveUnless_16 : decode kc_Pv_proveUnless 16 = .ok (.iconst 1, 1) := by decide +kernel
theorem kd_Pv_proveUnless_17 : decode kc_Pv_proveUnless 17 = .ok (.iadd, 1) := by decide +kernel
theorem kd_Pv_proveUnless_18 : decode kc_Pv_proveUnless 18 = .ok (.laload, 1) := by decide +kernel
theorem kd_Pv_proveUnless_19 : decode kc_Pv_proveUnless 19 = .ok (.aload_n 0, 1) := by decide +kernel
theorem kd_Pv_proveUnless_20 : decode kc_Pv_proveUnless 20 = .ok (.getfield 23, 3) := by decide +kernel
theorem kd_Pv_proveUnless_23 : decode kc_Pv_proveUnless 23 = .ok (.iload_n 2, 1) := by decide +kernel
theorem kd_Pv_proveUnless_24 : decode kc_Pv_proveUnless 24 = .ok (.laload, 1) := by decide +kernel
theorem kd_Pv_proveUnless_25 : decode kc_Pv_proveUnless 25 = .ok (.invokestatic 101, 3) := by decide +kernel
theorem kd_Pv_proveUnless_28 : decode kc_Pv_proveUnless 28 = .ok (.invokestatic 105, 3) := by decide +kernel
theorem kd_Pv_proveUnless_31 : decode kc_Pv_proveUnless 31 = .ok (.lstore_n 3, 1) := by decide +kernel
theorem kd_Pv_proveUnless_32 : decode kc_Pv_proveUnless 32 = .ok (.lconst 1, 1) := by decide +kernel
theorem kd_Pv_proveUnless_33 : decode kc_Pv_proveUnless 33 = .ok (.aload_n 0, 1) := by decide +kernel
theorem kd_Pv_proveUnless_34 : decode kc_Pv_proveUnless 34 = .ok (.getfield 27, 3) := by decide +kernel
theorem kd_Pv_proveUnless_37 : decode kc_Pv_proveUnless 37 = .ok (.iload_n 1, 1) := by decide +kernel
theorem kd_Pv_proveUnless_38 : decode kc_Pv_proveUnless 38 = .ok (.iconst 1, 1) := by decide +kernel
theorem kd_Pv_proveUnless_39 : decode kc_Pv_proveUnless 39 = .ok (.iadd, 1) := by decide +kernel
theorem kd_Pv_proveUnless_40 : decode kc_Pv_proveUnless 40 = .ok (.laload, 1) := by decide +kernel
theorem kd_Pv_proveUnless_41 : decode kc_Pv_proveUnless 41 = .ok (.aload_n 0, 1) := by decide +kernel
theorem kd_Pv_proveUnless_42 : decode kc_Pv_proveUnless 42 = .ok (.getfield 27, 3) := by decide +kernel
theorem kd_Pv_proveUnless_45 : decode kc_Pv_proveUnless 45 = .ok (.iload_n 2, 1) := by decide +kernel
theorem kd_Pv_proveUnless_46 : decode kc_Pv_proveUnless 46 = .ok (.laload, 1) := by decide +kernel
theorem kd_Pv_proveUnless_47 : decode kc_Pv_proveUnless 47 = .ok (.invokestatic 101, 3) := by decide +kernel
theorem kd_Pv_proveUnless_50 : decode kc_Pv_proveUnless 50 = .ok (.invokestatic 105, 3) := by decide +kernel
theorem kd_Pv_proveUnless_53 : decode kc_Pv_proveUnless 53 = .ok (.lstore 5, 2) := by decide +kernel
theorem kd_Pv_proveUnless_55 : decode kc_Pv_proveUnless 55 = .ok (.aload_n 0, 1) := by decide +kernel
theorem kd_Pv_proveUnless_56 : decode kc_Pv_proveUnless 56 = .ok (.iload_n 1, 1) := by decide +kernel
theorem kd_Pv_proveUnless_57 : decode kc_Pv_proveUnless 57 = .ok (.lload_n 3, 1) := by decide +kernel
theorem kd_Pv_proveUnless_58 : decode kc_Pv_proveUnless 58 = .ok (.lload 5, 2) := by decide +kernel
theorem kd_Pv_proveUnless_60 : decode kc_Pv_proveUnless 60 = .ok (.lconst 1, 1) := by decide +kernel
theorem kd_Pv_proveUnless_61 : decode kc_Pv_proveUnless 61 = .ok (.aload_n 0, 1) := by decide +kernel
theorem kd_Pv_proveUnless_62 : decode kc_Pv_proveUnless 62 = .ok (.getfield 30, 3) := by decide +kernel
theorem kd_Pv_proveUnless_65 : decode kc_Pv_proveUnless 65 = .ok (.iload_n 1, 1) := by decide +kernel
theorem kd_Pv_proveUnless_66 : decode kc_Pv_proveUnless 66 = .ok (.iconst 1, 1) := by decide +kernel
theorem kd_Pv_proveUnless_67 : decode kc_Pv_proveUnless 67 = .ok (.iadd, 1) := by decide +kernel
theorem kd_Pv_proveUnless_68 : decode kc_Pv_proveUnless 68 = .ok (.laload, 1) := by decide +kernel
theorem kd_Pv_proveUnless_69 : decode kc_Pv_proveUnless 69 = .ok (.aload_n 0, 1) := by decide +kernel
theorem kd_Pv_proveUnless_70 : decode kc_Pv_proveUnless 70 = .ok (.getfield 30, 3) := by decide +kernel
theorem kd_Pv_proveUnless_73 : decode kc_Pv_proveUnless 73 = .ok (.iload_n 2, 1) := by decide +kernel
theorem kd_Pv_proveUnless_74 : decode kc_Pv_proveUnless 74 = .ok (.laload, 1) := by decide +kernel
theorem kd_Pv_proveUnless_75 : decode kc_Pv_proveUnless 75 = .ok (.invokestatic 101, 3) := by decide +kernel
theorem kd_Pv_proveUnless_78 : decode kc_Pv_proveUnless 78 = .ok (.invokestatic 105, 3) := by decide +kernel
theorem kd_Pv_proveUnless_81 : decode kc_Pv_proveUnless 81 = .ok (.invokevirtual 80, 3) := by decide +kernel
theorem kd_Pv_proveUnless_84 : decode kc_Pv_proveUnless 84 = .ok (.return_, 1) := by decide +kernel
set_option maxHeartbeats 4000000 in
set_option maxRecDepth 100000 in
theorem zb_Pv_proveNext_84 {X : zkj_T} {S : zs_T} {P : ze_T} {l : Launch} {D : va_G} {sz0 : Nat} {rh : zs_H} (C : zk_C X km_Pv_proveNext (zs_G S l D sz0) { frames := 3, cells := 0, slots := 0, locals := 70 } (ze_E P)) (hR : zkj_R X (zd_PV S rh) (none)) (h : zs_H) (x1 : Int32) (x2 : Int32) (x4 : Int64) (y0 : Int64) (e : f_Pv_proveNext_84 h x1 x2 x4 y0 = some rh) : zk_Ab X (zs_W S h) 0 0 84 [(0, .ref (S.1 51)), (1, .int x1), (2, .int x2), (4, .long x4)] [.long y0] := by
  unfold f_Pv_proveNext_84 at e
  refine zk_lstore (lv' := [(6, _), (0, _), (1, _), (2, _), (4, _)]) C kd_Pv_proveNext_84 (by decide) rfl rfl ?_
  refine zk_lload C kd_Pv_proveNext_86 0 rfl rfl ?_
  refine zk_lconst (v := 1) C kd_Pv_proveNext_88 (by decide) rfl ?_
  refine zk_callS (rn := { frames := 1, cells := 0, slots := 0, locals := 23 }) (As := [.long y0, .long 1]) (rest := []) C (zc_Pv_sum h y0 (1 : Int64)) ku_Pv_sum kw1418 ks_Pv_sum rfl ⟨by decide, by decide⟩ ⟨by decide, by decide⟩ rfl (Nat.le_of_ble_eq_true rfl) kd_Pv_proveNext_89 rfl (c1 := 0) (s1 := 0) rfl rfl (fun v w hp => ?_)
  obtain ⟨rfl, rfl⟩ := hp
  refine zk_stk (r' := [.long (f_Pv_sum y0 (1 : Int64))]) rfl ?_
  refine zk_lstore (lv' := [(8, _), (6, _), (0, _), (1, _), (2, _), (4, _)]) C kd_Pv_proveNext_92 (by decide) rfl rfl ?_
  refine zk_lload C kd_Pv_proveNext_94 1 rfl rfl ?_
  refine zk_lload C kd_Pv_proveNext_96 5 rfl rfl ?_
  refine zk_callS (rn := { frames := 1, cells := 0, slots := 0, locals := 23 }) (As := [.long y0, .long x4]) (rest := []) C (zc_Pv_sum h y0 x4) ku_Pv_sum kw1418 ks_Pv_sum rfl ⟨by decide, by decide⟩ ⟨by decide, by decide⟩ rfl (Nat.le_of_ble_eq_true rfl) kd_Pv_proveNext_98 rfl (c1 := 0) (s1 := 0) rfl rfl (fun v w hp => ?_)
  obtain ⟨rfl, rfl⟩ := hp
  refine zk_stk (r' := [.long (f_Pv_sum y0 x4)]) rfl ?_
  refine zk_lconst (v := 1) C kd_Pv_proveNext_101 (by decide) rfl ?_
  refine zk_callS (rn := { frames := 1, cells := 0, slots := 0, locals := 23 }) (As := [.long (f_Pv_sum y0 x4), .long 1]) (rest := []) C (zc_Pv_sum h (f_Pv_sum y0 x4) (1 : Int64)) ku_Pv_sum kw1418 ks_Pv_sum rfl ⟨by decide, by decide⟩ ⟨by decide, by decide⟩ rfl (Nat.le_of_ble_eq_true rfl) kd_Pv_proveNext_102 rfl (c1 := 0) (s1 := 0) rfl rfl (fun v w hp => ?_)
  obtain ⟨rfl, rfl⟩ := hp
  refine zk_stk (r' := [.long (f_Pv_sum (f_Pv_sum y0 x4) (1 : Int64))]) rfl ?_
  refine zk_lstore (lv' := [(10, _), (8, _), (6, _), (0, _), (1, _), (2, _), (4, _)]) C kd_Pv_proveNext_105 (by decide) rfl rfl ?_
  refine zk_lload C kd_Pv_proveNext_107 0 rfl rfl ?_
  refine zk_lload C kd_Pv_proveNext_109 1 rfl rfl ?_
  refine zk_aload_n C kd_Pv_proveNext_111 rfl 3 rfl rfl ?_
  refine zs_get (v := .ref (S.1 55)) C 51 4 rfl rfl rfl rfl ki_Pv (by decide) kw490 kd_Pv_proveNext_112 rfl ?_
  refine zk_iload_n C kd_Pv_proveNext_115 rfl 4 rfl rfl ?_
  refine zk_iconst (v := 1) C kd_Pv_proveNext_116 (by decide) rfl ?_
  refine zk_iadd C kd_Pv_proveNext_117 rfl ?_
  obtain ⟨q1, e⟩ := zd_g e
  refine zs_lald C 55 rfl (zd_vp q1) kd_Pv_proveNext_118 rfl ?_
  refine zk_callS (rn := { frames := 1, cells := 0, slots := 0, locals := 23 }) (As := [.long (f_Pv_sum y0 (1 : Int64)), .long (h.2.2 55 (x1 + 1).toNatClampNeg)]) (rest := [.long (f_Pv_sum (f_Pv_sum y0 x4) (1 : Int64))]) C (zc_Pv_sum h (f_Pv_sum y0 (1 : Int64)) (h.2.2 55 (x1 + 1).toNatClampNeg)) ku_Pv_sum kw1418 ks_Pv_sum rfl ⟨by decide, by decide⟩ ⟨by decide, by decide⟩ rfl (Nat.le_of_ble_eq_true rfl) kd_Pv_proveNext_119 rfl (c1 := 0) (s1 := 0) rfl rfl (fun v w hp => ?_)
  obtain ⟨rfl, rfl⟩ := hp
  refine zk_stk (r' := [.long (f_Pv_sum (f_Pv_sum y0 (1 : Int64)) (h.2.2 55 (x1 + 1).toNatClampNeg)), .long (f_Pv_sum (f_Pv_sum y0 x4) (1 : Int64))]) rfl ?_
  refine zk_mmaxl C kw1427 kw1428 kw19 (by decide) (Nat.le_of_ble_eq_true rfl) (Nat.le_refl _) (Nat.le_refl _) kd_Pv_proveNext_122 rfl ?_
  refine zk_lstore (lv' := [(12, _), (10, _), (8, _), (6, _), (0, _), (1, _), (2, _), (4, _)]) C kd_Pv_proveNext_125 (by decide) rfl rfl ?_
  refine zk_lload C kd_Pv_proveNext_127 2 rfl rfl ?_
  refine zk_aload_n C kd_Pv_proveNext_129 rfl 4 rfl rfl ?_
  refine zs_get (v := .ref (S.1 56)) C 51 5 rfl rfl rfl rfl ki_Pv (by decide) kw491 kd_Pv_proveNext_130 rfl ?_
  refine zk_iload_n C kd_Pv_proveNext_133 rfl 5 rfl rfl ?_
  refine zk_iconst (v := 1) C kd_Pv_proveNext_134 (by decide) rfl ?_
  refine zk_iadd C kd_Pv_proveNext_135 rfl ?_
  refine zs_lald C 56 rfl (zd_vp q1) kd_Pv_proveNext_136 rfl ?_
  refine zk_callS (rn := { frames := 1, cells := 0, slots := 0, locals := 23 }) (As := [.long (f_Pv_sum y0 (1 : Int64)), .long (h.2.2 56 (x1 + 1).toNatClampNeg)]) (rest := []) C (zc_Pv_sum h (f_Pv_sum y0 (1 : Int64)) (h.2.2 56 (x1 + 1).toNatClampNeg)) ku_Pv_sum kw1418 ks_Pv_sum rfl ⟨by decide, by decide⟩ ⟨by decide, by decide⟩ rfl (Nat.le_of_ble_eq_true rfl) kd_Pv_proveNext_137 rfl (c1 := 0) (s1 := 0) rfl rfl (fun v w hp => ?_)
  obtain ⟨rfl, rfl⟩ := hp
  refine zk_stk (r' := [.long (f_Pv_sum (f_Pv_sum y0 (1 : Int64)) (h.2.2 56 (x1 + 1).toNatClampNeg))]) rfl ?_
  refine zk_lload C kd_Pv_proveNext_140 0 rfl rfl ?_
  refine zk_aload_n C kd_Pv_proveNext_142 rfl 4 rfl rfl ?_
  refine zs_get (v := .ref (S.1 56)) C 51 5 rfl rfl rfl rfl ki_Pv (by decide) kw491 kd_Pv_proveNext_143 rfl ?_
  refine zk_iload_n C kd_Pv_proveNext_146 rfl 6 rfl rfl ?_
  obtain ⟨q2, e⟩ := zd_g e
  refine zs_lald C 56 rfl (zd_vp q2) kd_Pv_proveNext_147 rfl ?_
  refine zk_callS (rn := { frames := 1, cells := 0, slots := 0, locals := 23 }) (As := [.long (zd_maxl (f_Pv_sum (f_Pv_sum y0 x4) (1 : Int64)) (f_Pv_sum (f_Pv_sum y0 (1 : Int64)) (h.2.2 55 (x1 + 1).toNatClampNeg))), .long (h.2.2 56 x2.toNatClampNeg)]) (rest := [.long (f_Pv_sum (f_Pv_sum y0 (1 : Int64)) (h.2.2 56 (x1 + 1).toNatClampNeg))]) C (zc_Pv_sum h (zd_maxl (f_Pv_sum (f_Pv_sum y0 x4) (1 : Int64)) (f_Pv_sum (f_Pv_sum y0 (1 : Int64)) (h.2.2 55 (x1 + 1).toNatClampNeg))) (h.2.2 56 x2.toNatClampNeg)) ku_Pv_sum kw1418 ks_Pv_sum rfl ⟨by decide, by decide⟩ ⟨by decide, by decide⟩ rfl (Nat.le_of_ble_eq_true rfl) kd_Pv_proveNext_148 rfl (c1 := 0) (s1 := 0) rfl rfl (fun v w hp => ?_)
  obtain ⟨rfl, rfl⟩ := hp
  refine zk_stk (r' := [.long (f_Pv_sum (zd_maxl (f_Pv_sum (f_Pv_sum y0 x4) (1 : Int64)) (f_Pv_sum (f_Pv_sum y0 (1 : Int64)) (h.2.2 55 (x1 + 1).toNatClampNeg))) (h.2.2 56 x2.toNatClampNeg)), .long (f_Pv_sum (f_Pv_sum y0 (1 : Int64)) (h.2.2 56 (x1 + 1).toNatClampNeg))]) rfl ?_
  refine zk_mmaxl C kw1427 kw1428 kw19 (by decide) (Nat.le_of_ble_eq_true rfl) (Nat.le_refl _) (Nat.le_refl _) kd_Pv_proveNext_151 rfl ?_
  refine zk_lstore (lv' := [(14, _), (12, _), (10, _), (8, _), (6, _), (0, _), (1, _), (2, _), (4, _)]) C kd_Pv_proveNext_154 (by decide) rfl rfl ?_
  refine zk_aload_n C kd_Pv_proveNext_156 rfl 5 rfl rfl ?_
  refine zk_iload_n C kd_Pv_proveNext_157 rfl 6 rfl rfl ?_
  refine zk_lload C kd_Pv_proveNext_158 1 rfl rfl ?_
  refine zk_aload_n C kd_Pv_proveNext_160 rfl 5 rfl rfl ?_
  refine zs_get (v := .ref (S.1 54)) C 51 3 rfl rfl rfl rfl ki_Pv (by decide) kw489 kd_Pv_proveNext_161 rfl ?_
  refine zk_iload_n C kd_Pv_proveNext_164 rfl 7 rfl rfl ?_
  refine zs_lald C 54 rfl (zd_vp q2) kd_Pv_proveNext_165 rfl ?_
  refine zk_callS (rn := { frames := 1, cells := 0, slots := 0, locals := 23 }) (As := [.long (zd_maxl (f_Pv_sum (f_Pv_sum y0 x4) (1 : Int64)) (f_Pv_sum (f_Pv_sum y0 (1 : Int64)) (h.2.2 55 (x1 + 1).toNatClampNeg))), .long (h.2.2 54 x2.toNatClampNeg)]) (rest := [.int x1, .ref (S.1 51)]) C (zc_Pv_sum h (zd_maxl (f_Pv_sum (f_Pv_sum y0 x4) (1 : Int64)) (f_Pv_sum (f_Pv_sum y0 (1 : Int64)) (h.2.2 55 (x1 + 1).toNatClampNeg))) (h.2.2 54 x2.toNatClampNeg)) ku_Pv_sum kw1418 ks_Pv_sum rfl ⟨by decide, by decide⟩ ⟨by decide, by decide⟩ rfl (Nat.le_of_ble_eq_true rfl) kd_Pv_proveNext_166 rfl (c1 := 0) (s1 := 0) rfl rfl (fun v w hp => ?_)
  obtain ⟨rfl, rfl⟩ := hp
  refine zk_stk (r' := [.long (f_Pv_sum (zd_maxl (f_Pv_sum (f_Pv_sum y0 x4) (1 : Int64)) (f_Pv_sum (f_Pv_sum y0 (1 : Int64)) (h.2.2 55 (x1 + 1).toNatClampNeg))) (h.2.2 54 x2.toNatClampNeg)), .int x1, .ref (S.1 51)]) rfl ?_
  refine zk_lload C kd_Pv_proveNext_169 1 rfl rfl ?_
  refine zk_aload_n C kd_Pv_proveNext_171 rfl 5 rfl rfl ?_
  refine zs_get (v := .ref (S.1 55)) C 51 4 rfl rfl rfl rfl ki_Pv (by decide) kw490 kd_Pv_proveNext_172 rfl ?_
  refine zk_iload_n C kd_Pv_proveNext_175 rfl 7 rfl rfl ?_
  refine zs_lald C 55 rfl (zd_vp q2) kd_Pv_proveNext_176 rfl ?_
  refine zk_callS (rn := { frames := 1, cells := 0, slots := 0, locals := 23 }) (As := [.long (zd_maxl (f_Pv_sum (f_Pv_sum y0 x4) (1 : Int64)) (f_Pv_sum (f_Pv_sum y0 (1 : Int64)) (h.2.2 55 (x1 + 1).toNatClampNeg))), .long (h.2.2 55 x2.toNatClampNeg)]) (rest := [.long (f_Pv_sum (zd_maxl (f_Pv_sum (f_Pv_sum y0 x4) (1 : Int64)) (f_Pv_sum (f_Pv_sum y0 (1 : Int64)) (h.2.2 55 (x1 + 1).toNatClampNeg))) (h.2.2 54 x2.toNatClampNeg)), .int x1, .ref (S.1 51)]) C (zc_Pv_sum h (zd_maxl (f_Pv_sum (f_Pv_sum y0 x4) (1 : Int64)) (f_Pv_sum (f_Pv_sum y0 (1 : Int64)) (h.2.2 55 (x1 + 1).toNatClampNeg))) (h.2.2 55 x2.toNatClampNeg)) ku_Pv_sum kw1418 ks_Pv_sum rfl ⟨by decide, by decide⟩ ⟨by decide, by decide⟩ rfl (Nat.le_of_ble_eq_true rfl) kd_Pv_proveNext_177 rfl (c1 := 0) (s1 := 0) rfl rfl (fun v w hp => ?_)
  obtain ⟨rfl, rfl⟩ := hp
  refine zk_stk (r' := [.long (f_Pv_sum (zd_maxl (f_Pv_sum (f_Pv_sum y0 x4) (1 : Int64)) (f_Pv_sum (f_Pv_sum y0 (1 : Int64)) (h.2.2 55 (x1 + 1).toNatClampNeg))) (h.2.2 55 x2.toNatClampNeg)), .long (f_Pv_sum (zd_maxl (f_Pv_sum (f_Pv_sum y0 x4) (1 : Int64)) (f_Pv_sum (f_Pv_sum y0 (1 : Int64)) (h.2.2 55 (x1 + 1).toNatClampNeg))) (h.2.2 54 x2.toNatClampNeg)), .int x1, .ref (S.1 51)]) rfl ?_
  refine zk_lload C kd_Pv_proveNext_180 0 rfl rfl ?_
  obtain ⟨h4, c3, e⟩ := zd_b e
  refine zs_callV (k := 51) (rn := { frames := 0, cells := 0, slots := 0, locals := 0 }) (As := [.int x1, .long (f_Pv_sum (zd_maxl (f_Pv_sum (f_Pv_sum y0 x4) (1 : Int64)) (f_Pv_sum (f_Pv_sum y0 (1 : Int64)) (h.2.2 55 (x1 + 1).toNatClampNeg))) (h.2.2 54 x2.toNatClampNeg)), .long (f_Pv_sum (zd_maxl (f_Pv_sum (f_Pv_sum y0 x4) (1 : Int64)) (f_Pv_sum (f_Pv_sum y0 (1 : Int64)) (h.2.2 55 (x1 + 1).toNatClampNeg))) (h.2.2 55 x2.toNatClampNeg)), .long (zd_maxl (f_Pv_sum (f_Pv_sum y0 (1 : Int64)) (h.2.2 56 (x1 + 1).toNatClampNeg)) (f_Pv_sum (zd_maxl (f_Pv_sum (f_Pv_sum y0 x4) (1 : Int64)) (f_Pv_sum (f_Pv_sum y0 (1 : Int64)) (h.2.2 55 (x1 + 1).toNatClampNeg))) (h.2.2 56 x2.toNatClampNeg)))]) (rest := []) C (zc_Pv_tell h x1 (f_Pv_sum (zd_maxl (f_Pv_sum (f_Pv_sum y0 x4) (1 : Int64)) (f_Pv_sum (f_Pv_sum y0 (1 : Int64)) (h.2.2 55 (x1 + 1).toNatClampNeg))) (h.2.2 54 x2.toNatClampNeg)) (f_Pv_sum (zd_maxl (f_Pv_sum (f_Pv_sum y0 x4) (1 : Int64)) (f_Pv_sum (f_Pv_sum y0 (1 : Int64)) (h.2.2 55 (x1 + 1).toNatClampNeg))) (h.2.2 55 x2.toNatClampNeg)) (zd_maxl (f_Pv_sum (f_Pv_sum y0 (1 : Int64)) (h.2.2 56 (x1 + 1).toNatClampNeg)) (f_Pv_sum (zd_maxl (f_Pv_sum (f_Pv_sum y0 x4) (1 : Int64)) (f_Pv_sum (f_Pv_sum y0 (1 : Int64)) (h.2.2 55 (x1 + 1).toNatClampNeg))) (h.2.2 56 x2.toNatClampNeg))) c3) ku_Pv_tell kw1406 kv_Pv_tell rfl ⟨by decide, by decide⟩ ⟨by decide, by decide⟩ rfl rfl rfl (Nat.le_of_ble_eq_true rfl) kd_Pv_proveNext_182 rfl (c1 := 0) (s1 := 0) rfl rfl (fun v w hp => ?_)
  obtain ⟨rfl, rfl⟩ := hp
  refine zk_stk (r' := []) rfl ?_
  exact zk_vret C hR kd_Pv_proveNext_185 rfl rfl (zd_rV e)
set_option maxHeartbeats 4000000 in
set_option maxRecDepth 100000 in
theorem zc_Pv_proveNext {l : Launch} {D : va_G} {sz0 : Nat} {S : zs_T} {P : ze_T} (h : zs_H) (x1 : Int32) {rh : zs_H} (e : f_Pv_proveNext h x1 = some rh) : zk_Sp (zs_G S l D sz0) (ze_E P) km_Pv_proveNext { frames := 3, cells := 0, slots := 0, locals := 70 } [.ref (S.1 51), .int x1] (zs_W S h) (zd_PV S rh) := by
  refine zk_met ku_Pv_proveNext (Nat.le_of_ble_eq_true rfl) (ze_Em P) ?_
  intro X C hR
  refine zk_lvs (lv' := [(0, .ref (S.1 51)), (1, .int x1)]) [0, 1] rfl ?_
  unfold f_Pv_proveNext at e
  refine zk_aload_n C kd_Pv_proveNext_0 rfl 0 rfl rfl ?_
  refine zk_dup C kd_Pv_proveNext_1 rfl rfl ?_
  refine zs_get (v := .int (h.1 51 7)) C 51 7 rfl rfl rfl rfl ki_Pv (by decide) kw493 kd_Pv_proveNext_2 rfl ?_
  refine zk_iconst (v := 1) C kd_Pv_proveNext_5 (by decide) rfl ?_
  refine zk_isub C kd_Pv_proveNext_6 rfl ?_
  refine zs_put (ty := .int) C 51 7 ((h.1 51 7) - 1) rfl rfl rfl rfl ki_Pv ky_Pv ko_Pv kn_Pv (by decide) kw493 rfl rfl rfl rfl (by decide) kd_Pv_proveNext_7 rfl ?_
  refine zk_aload_n C kd_Pv_proveNext_10 rfl 0 rfl rfl ?_
  refine zs_get (v := .ref (S.1 41)) C 51 1 rfl rfl rfl rfl ki_Pv (by decide) kw487 kd_Pv_proveNext_11 rfl ?_
  refine zs_get (v := .ref (S.1 43)) C 41 1 rfl rfl rfl rfl ki_Cd (by decide) kw405 kd_Pv_proveNext_14 rfl ?_
  refine zk_iload_n C kd_Pv_proveNext_17 rfl 1 rfl rfl ?_
  obtain ⟨q1, e⟩ := zd_g e
  refine zs_iald C 43 rfl (zd_vp q1) kd_Pv_proveNext_18 rfl ?_
  refine zk_stk (r' := [.int (h.2.1 43 x1.toNatClampNeg)]) rfl ?_
  refine zk_istore_n (lv' := [(2, _), (0, _), (1, _)]) C kd_Pv_proveNext_19 rfl (by decide) rfl rfl ?_
  refine zk_aload_n C kd_Pv_proveNext_20 rfl 1 rfl rfl ?_
  refine zs_get (v := .ref (S.1 41)) C 51 1 rfl rfl rfl rfl ki_Pv (by decide) kw487 kd_Pv_proveNext_21 rfl ?_
  refine zs_get (v := .ref (S.1 44)) C 41 2 rfl rfl rfl rfl ki_Cd (by decide) kw408 kd_Pv_proveNext_24 rfl ?_
  refine zk_iload_n C kd_Pv_proveNext_27 rfl 2 rfl rfl ?_
  refine zk_iconst (v := 1) C kd_Pv_proveNext_28 (by decide) rfl ?_
  refine zk_isub C kd_Pv_proveNext_29 rfl ?_
  obtain ⟨q2, e⟩ := zd_g e
  refine zs_iald C 44 rfl (zd_vp q2) kd_Pv_proveNext_30 rfl ?_
  refine zk_stk (r' := [.int (h.2.1 44 (x1 - 1).toNatClampNeg)]) rfl ?_
  refine zk_istore_n (lv' := [(3, _), (2, _), (0, _), (1, _)]) C kd_Pv_proveNext_31 rfl (by decide) rfl rfl ?_
  refine zk_iload_n C kd_Pv_proveNext_32 rfl 0 rfl rfl ?_
  refine zk_if_ne (tgt := 44) C kd_Pv_proveNext_33 (by decide) rfl (fun b3 => ?_) (fun b3 => ?_)
  · replace e := zd_neg b3 e
    refine zk_lconst (v := 1) C kd_Pv_proveNext_44 (by decide) rfl ?_
    refine zk_aload_n C kd_Pv_proveNext_45 rfl 2 rfl rfl ?_
    refine zs_get (v := .ref (S.1 54)) C 51 3 rfl rfl rfl rfl ki_Pv (by decide) kw489 kd_Pv_proveNext_46 rfl ?_
    refine zk_iload_n C kd_Pv_proveNext_49 rfl 3 rfl rfl ?_
    refine zk_iconst (v := 1) C kd_Pv_proveNext_50 (by decide) rfl ?_
    refine zk_iadd C kd_Pv_proveNext_51 rfl ?_
    obtain ⟨q4, e⟩ := zd_g e
    refine zs_lald C 54 rfl (zd_vp q4) kd_Pv_proveNext_52 rfl ?_
    refine zk_stk (r' := [.long (h.2.2 54 (x1 + 1).toNatClampNeg), .long 1]) rfl ?_
    refine zk_callS (rn := { frames := 1, cells := 0, slots := 0, locals := 23 }) (As := [.long 1, .long (h.2.2 54 (x1 + 1).toNatClampNeg)]) (rest := []) C (zc_Pv_sum (zs_uF h 51 7 ((h.1 51 7) - 1)) (1 : Int64) (h.2.2 54 (x1 + 1).toNatClampNeg)) ku_Pv_sum kw1418 ks_Pv_sum rfl ⟨by decide, by decide⟩ ⟨by decide, by decide⟩ rfl (Nat.le_of_ble_eq_true rfl) kd_Pv_proveNext_53 rfl (c1 := 0) (s1 := 0) rfl rfl (fun v w hp => ?_)
    obtain ⟨rfl, rfl⟩ := hp
    refine zk_stk (r' := [.long (f_Pv_sum (1 : Int64) (h.2.2 54 (x1 + 1).toNatClampNeg))]) rfl ?_
    refine zk_lstore (lv' := [(4, _), (3, _), (2, _), (0, _), (1, _)]) C kd_Pv_proveNext_56 (by decide) rfl rfl ?_
    refine zk_lload C kd_Pv_proveNext_58 0 rfl rfl ?_
    refine zk_ldc2 (v := (-1)) C kw1405 kd_Pv_proveNext_60 rfl ?_
    refine zk_lcmp C kd_Pv_proveNext_63 rfl ?_
    refine zk_if_ne (tgt := 71) C kd_Pv_proveNext_64 (by decide) rfl (fun b5 => ?_) (fun b5 => ?_)
    · replace e := zd_neg (fun w => b5 (zd_ceq.mpr w)) e
      refine zk_iload_n C kd_Pv_proveNext_71 rfl 1 rfl rfl ?_
      refine zk_iconst (v := 1) C kd_Pv_proveNext_72 (by decide) rfl ?_
      refine zk_isub C kd_Pv_proveNext_73 rfl ?_
      refine zk_i2l C kd_Pv_proveNext_74 rfl ?_
      refine zk_lload C kd_Pv_proveNext_75 0 rfl rfl ?_
      refine zk_lmul C kd_Pv_proveNext_77 rfl ?_
      refine zk_ldc2 (v := 1099511627776) C kw1421 kd_Pv_proveNext_78 rfl ?_
      refine zk_mminl C kw1422 kw760 kw19 (by decide) (Nat.le_of_ble_eq_true rfl) (Nat.le_refl _) (Nat.le_refl _) kd_Pv_proveNext_81 rfl ?_
      refine zk_lvs (lv' := [(0, .ref (S.1 51)), (1, .int x1), (2, .int (h.2.1 43 x1.toNatClampNeg)), (4, .long (f_Pv_sum (1 : Int64) (h.2.2 54 (x1 + 1).toNatClampNeg)))]) [3, 4, 2, 0] rfl ?_
      exact zb_Pv_proveNext_84 C hR (zs_uF h 51 7 ((h.1 51 7) - 1)) x1 (h.2.1 43 x1.toNatClampNeg) (f_Pv_sum (1 : Int64) (h.2.2 54 (x1 + 1).toNatClampNeg)) (zd_minl ((((h.2.1 44 (x1 - 1).toNatClampNeg) - 1).toInt64) * (f_Pv_sum (1 : Int64) (h.2.2 54 (x1 + 1).toNatClampNeg))) (1099511627776 : Int64)) e
    · replace e := zd_pos (zd_ceq.mp b5) e
      refine zk_lconst (v := 0) C kd_Pv_proveNext_67 (by decide) rfl ?_
      refine zk_goto (tgt := 84) C kd_Pv_proveNext_68 (by decide) ?_
      refine zk_lvs (lv' := [(0, .ref (S.1 51)), (1, .int x1), (2, .int (h.2.1 43 x1.toNatClampNeg)), (4, .long (f_Pv_sum (1 : Int64) (h.2.2 54 (x1 + 1).toNatClampNeg)))]) [3, 4, 2, 0] rfl ?_
      exact zb_Pv_proveNext_84 C hR (zs_uF h 51 7 ((h.1 51 7) - 1)) x1 (h.2.1 43 x1.toNatClampNeg) (f_Pv_sum (1 : Int64) (h.2.2 54 (x1 + 1).toNatClampNeg)) (0 : Int64) e
  · replace e := zd_pos b3 e
    refine zk_aload_n C kd_Pv_proveNext_36 rfl 2 rfl rfl ?_
    refine zk_iload_n C kd_Pv_proveNext_37 rfl 3 rfl rfl ?_
    refine zk_lconst (v := 1) C kd_Pv_proveNext_38 (by decide) rfl ?_
    refine zk_iload_n C kd_Pv_proveNext_39 rfl 1 rfl rfl ?_
    obtain ⟨h7, c6, e⟩ := zd_b e
    refine zs_callV (k := 51) (rn := { frames := 2, cells := 0, slots := 0, locals := 46 }) (As := [.int x1, .long 1, .int (h.2.1 43 x1.toNatClampNeg)]) (rest := []) C (zc_Pv_proveAfter (zs_uF h 51 7 ((h.1 51 7) - 1)) x1 (1 : Int64) (h.2.1 43 x1.toNatClampNeg) c6) ku_Pv_proveAfter kw1414 kv_Pv_proveAfter rfl ⟨by decide, by decide⟩ ⟨by decide, by decide⟩ rfl rfl rfl (Nat.le_of_ble_eq_true rfl) kd_Pv_proveNext_40 rfl (c1 := 0) (s1 := 0) rfl rfl (fun v w hp => ?_)
    obtain ⟨rfl, rfl⟩ := hp
    refine zk_stk (r' := []) rfl ?_
    exact zk_vret C hR kd_Pv_proveNext_43 rfl rfl (zd_rV e)
set_option maxHeartbeats 4000000 in
set_option maxRecDepth 100000 in
theorem zc_Pv_proveUnless {l : Launch} {D : va_G} {sz0 : Nat} {S : zs_T} {P : ze_T} (h : zs_H) (x1 : Int32) {rh : zs_H} (e : f_Pv_proveUnless h x1 = some rh) : zk_Sp (zs_G S l D sz0) (ze_E P) km_Pv_proveUnless { frames := 2, cells := 0, slots := 0, locals := 46 } [.ref (S.1 51), .int x1] (zs_W S h) (zd_PV S rh) := by
  refine zk_met ku_Pv_proveUnless (Nat.le_of_ble_eq_true rfl) (ze_Em P) ?_
  intro X C hR
  refine zk_lvs (lv' := [(0, .ref (S.1 51)), (1, .int x1)]) [0, 1] rfl ?_
  unfold f_Pv_proveUnless at e
  refine zk_aload_n C kd_Pv_proveUnless_0 rfl 0 rfl rfl ?_
  refine zs_get (v := .ref (S.1 41)) C 51 1 rfl rfl rfl rfl ki_Pv (by decide) kw487 kd_Pv_proveUnless_1 rfl ?_
  refine zs_get (v := .ref (S.1 43)) C 41 1 rfl rfl rfl rfl ki_Cd (by decide) kw405 kd_Pv_proveUnless_4 rfl ?_
  refine zk_iload_n C kd_Pv_proveUnless_7 rfl 1 rfl rfl ?_
  obtain ⟨q1, e⟩ := zd_g e
  refine zs_iald C 43 rfl (zd_vp q1) kd_Pv_proveUnless_8 rfl ?_
  refine zk_istore_n (lv' := [(2, _), (0, _), (1, _)]) C kd_Pv_proveUnless_9 rfl (by decide) rfl rfl ?_
  refine zk_lconst (v := 1) C kd_Pv_proveUnless_10 (by decide) rfl ?_
  refine zk_aload_n C kd_Pv_proveUnless_11 rfl 1 rfl rfl ?_
  refine zs_get (v := .ref (S.1 54)) C 51 3 rfl rfl rfl rfl ki_Pv (by decide) kw489 kd_Pv_proveUnless_12 rfl ?_
  refine zk_iload_n C kd_Pv_proveUnless_15 rfl 2 rfl rfl ?_
  refine zk_iconst (v := 1) C kd_Pv_proveUnless_16 (by decide) rfl ?_
  refine zk_iadd C kd_Pv_proveUnless_17 rfl ?_
  obtain ⟨q2, e⟩ := zd_g e
  refine zs_lald C 54 rfl (zd_vp q2) kd_Pv_proveUnless_18 rfl ?_
  refine zk_aload_n C kd_Pv_proveUnless_19 rfl 1 rfl rfl ?_
  refine zs_get (v := .ref (S.1 54)) C 51 3 rfl rfl rfl rfl ki_Pv (by decide) kw489 kd_Pv_proveUnless_20 rfl ?_
  refine zk_iload_n C kd_Pv_proveUnless_23 rfl 0 rfl rfl ?_
  obtain ⟨q3, e⟩ := zd_g e
  refine zs_lald C 54 rfl (zd_vp q3) kd_Pv_proveUnless_24 rfl ?_
  refine zk_mmaxl C kw1427 kw1428 kw19 (by decide) (Nat.le_of_ble_eq_true rfl) (Nat.le_refl _) (Nat.le_refl _) kd_Pv_proveUnless_25 rfl ?_
  refine zk_callS (rn := { frames := 1, cells := 0, slots := 0, locals := 23 }) (As := [.long 1, .long (zd_maxl (h.2.2 54 (x1 + 1).toNatClampNeg) (h.2.2 54 (h.2.1 43 x1.toNatClampNeg).toNatClampNeg))]) (rest := []) C (zc_Pv_sum h (1 : Int64) (zd_maxl (h.2.2 54 (x1 + 1).toNatClampNeg) (h.2.2 54 (h.2.1 43 x1.toNatClampNeg).toNatClampNeg))) ku_Pv_sum kw1418 ks_Pv_sum rfl ⟨by decide, by decide⟩ ⟨by decide, by decide⟩ rfl (Nat.le_of_ble_eq_true rfl) kd_Pv_proveUnless_28 rfl (c1 := 0) (s1 := 0) rfl rfl (fun v w hp => ?_)
  obtain ⟨rfl, rfl⟩ := hp
  refine zk_stk (r' := [.long (f_Pv_sum (1 : Int64) (zd_maxl (h.2.2 54 (x1 + 1).toNatClampNeg) (h.2.2 54 (h.2.1 43 x1.toNatClampNeg).toNatClampNeg)))]) rfl ?_
  refine zk_lstore_n (lv' := [(3, _), (2, _), (0, _), (1, _)]) C kd_Pv_proveUnless_31 rfl (by decide) rfl rfl ?_
  refine zk_lconst (v := 1) C kd_Pv_proveUnless_32 (by decide) rfl ?_
  refine zk_aload_n C kd_Pv_proveUnless_33 rfl 2 rfl rfl ?_
  refine zs_get (v := .ref (S.1 55)) C 51 4 rfl rfl rfl rfl ki_Pv (by decide) kw490 kd_Pv_proveUnless_34 rfl ?_
  refine zk_iload_n C kd_Pv_proveUnless_37 rfl 3 rfl rfl ?_
  refine zk_iconst (v := 1) C kd_Pv_proveUnless_38 (by decide) rfl ?_
  refine zk_iadd C kd_Pv_proveUnless_39 rfl ?_
  refine zs_lald C 55 rfl (zd_vp q2) kd_Pv_proveUnless_40 rfl ?_
  refine zk_aload_n C kd_Pv_proveUnless_41 rfl 2 rfl rfl ?_
  refine zs_get (v := .ref (S.1 55)) C 51 4 rfl rfl rfl rfl ki_Pv (by decide) kw490 kd_Pv_proveUnless_42 rfl ?_
  refine zk_iload_n C kd_Pv_proveUnless_45 rfl 1 rfl rfl ?_
  refine zs_lald C 55 rfl (zd_vp q3) kd_Pv_proveUnless_46 rfl ?_
  refine zk_mmaxl C kw1427 kw1428 kw19 (by decide) (Nat.le_of_ble_eq_true rfl) (Nat.le_refl _) (Nat.le_refl _) kd_Pv_proveUnless_47 rfl ?_
  refine zk_callS (rn := { frames := 1, cells := 0, slots := 0, locals := 23 }) (As := [.long 1, .long (zd_maxl (h.2.2 55 (x1 + 1).toNatClampNeg) (h.2.2 55 (h.2.1 43 x1.toNatClampNeg).toNatClampNeg))]) (rest := []) C (zc_Pv_sum h (1 : Int64) (zd_maxl (h.2.2 55 (x1 + 1).toNatClampNeg) (h.2.2 55 (h.2.1 43 x1.toNatClampNeg).toNatClampNeg))) ku_Pv_sum kw1418 ks_Pv_sum rfl ⟨by decide, by decide⟩ ⟨by decide, by decide⟩ rfl (Nat.le_of_ble_eq_true rfl) kd_Pv_proveUnless_50 rfl (c1 := 0) (s1 := 0) rfl rfl (fun v w hp => ?_)
  obtain ⟨rfl, rfl⟩ := hp
  refine zk_stk (r' := [.long (f_Pv_sum (1 : Int64) (zd_maxl (h.2.2 55 (x1 + 1).toNatClampNeg) (h.2.2 55 (h.2.1 43 x1.toNatClampNeg).toNatClampNeg)))]) rfl ?_
  refine zk_lstore (lv' := [(5, _), (3, _), (2, _), (0, _), (1, _)]) C kd_Pv_proveUnless_53 (by decide) rfl rfl ?_
  refine zk_aload_n C kd_Pv_proveUnless_55 rfl 3 rfl rfl ?_
  refine zk_iload_n C kd_Pv_proveUnless_56 rfl 4 rfl rfl ?_
  refine zk_lload_n C kd_Pv_proveUnless_57 rfl 1 rfl rfl ?_
  refine zk_lload C kd_Pv_proveUnless_58 0 rfl rfl ?_
  refine zk_lconst (v := 1) C kd_Pv_proveUnless_60 (by decide) rfl ?_
  refine zk_aload_n C kd_Pv_proveUnless_61 rfl 3 rfl rfl ?_
  refine zs_get (v := .ref (S.1 56)) C 51 5 rfl rfl rfl rfl ki_Pv (by decide) kw491 kd_Pv_proveUnless_62 rfl ?_
  refine zk_iload_n C kd_Pv_proveUnless_65 rfl 4 rfl rfl ?_
  refine zk_iconst (v := 1) C kd_Pv_proveUnless_66 (by decide) rfl ?_
  refine zk_iadd C kd_Pv_proveUnless_67 rfl ?_
  refine zs_lald C 56 rfl (zd_vp q2) kd_Pv_proveUnless_68 rfl ?_
  refine zk_aload_n C kd_Pv_proveUnless_69 rfl 3 rfl rfl ?_
  refine zs_get (v := .ref (S.1 56)) C 51 5 rfl rfl rfl rfl ki_Pv (by decide) kw491 kd_Pv_proveUnless_70 rfl ?_
  refine zk_iload_n C kd_Pv_proveUnless_73 rfl 2 rfl rfl ?_
  refine zs_lald C 56 rfl (zd_vp q3) kd_Pv_proveUnless_74 rfl ?_
  refine zk_mmaxl C kw1427 kw1428 kw19 (by decide) (Nat.le_of_ble_eq_true rfl) (Nat.le_refl _) (Nat.le_refl _) kd_Pv_proveUnless_75 rfl ?_
  refine zk_callS (rn := { frames := 1, cells := 0, slots := 0, locals := 23 }) (As := [.long 1, .long (zd_maxl (h.2.2 56 (x1 + 1).toNatClampNeg) (h.2.2 56 (h.2.1 43 x1.toNatClampNeg).toNatClampNeg))]) (rest := [.long (f_Pv_sum (1 : Int64) (zd_maxl (h.2.2 55 (x1 + 1).toNatClampNeg) (h.2.2 55 (h.2.1 43 x1.toNatClampNeg).toNatClampNeg))), .long (f_Pv_sum (1 : Int64) (zd_maxl (h.2.2 54 (x1 + 1).toNatClampNeg) (h.2.2 54 (h.2.1 43 x1.toNatClampNeg).toNatClampNeg))), .int x1, .ref (S.1 51)]) C (zc_Pv_sum h (1 : Int64) (zd_maxl (h.2.2 56 (x1 + 1).toNatClampNeg) (h.2.2 56 (h.2.1 43 x1.toNatClampNeg).toNatClampNeg))) ku_Pv_sum kw1418 ks_Pv_sum rfl ⟨by decide, by decide⟩ ⟨by decide, by decide⟩ rfl (Nat.le_of_ble_eq_true rfl) kd_Pv_proveUnless_78 rfl (c1 := 0) (s1 := 0) rfl rfl (fun v w hp => ?_)
  obtain ⟨rfl, rfl⟩ := hp
  refine zk_stk (r' := [.long (f_Pv_sum (1 : Int64) (zd_maxl (h.2.2 56 (x1 + 1).toNatClampNeg) (h.2.2 56 (h.2.1 43 x1.toNatClampNeg).toNatClampNeg))), .long (f_Pv_sum (1 : Int64) (zd_maxl (h.2.2 55 (x1 + 1).toNatClampNeg) (h.2.2 55 (h.2.1 43 x1.toNatClampNeg).toNatClampNeg))), .long (f_Pv_sum (1 : Int64) (zd_maxl (h.2.2 54 (x1 + 1).toNatClampNeg) (h.2.2 54 (h.2.1 43 x1.toNatClampNeg).toNatClampNeg))), .int x1, .ref (S.1 51)]) rfl ?_
  obtain ⟨h5, c4, e⟩ := zd_b e
  refine zs_callV (k := 51) (rn := { frames := 0, cells := 0, slots := 0, locals := 0 }) (As := [.int x1, .long (f_Pv_sum (1 : Int64) (zd_maxl (h.2.2 54 (x1 + 1).toNatClampNeg) (h.2.2 54 (h.2.1 43 x1.toNatClampNeg).toNatClampNeg))), .long (f_Pv_sum (1 : Int64) (zd_maxl (h.2.2 55 (x1 + 1).toNatClampNeg) (h.2.2 55 (h.2.1 43 x1.toNatClampNeg).toNatClampNeg))), .long (f_Pv_sum (1 : Int64) (zd_maxl (h.2.2 56 (x1 + 1).toNatClampNeg) (h.2.2 56 (h.2.1 43 x1.toNatClampNeg).toNatClampNeg)))]) (rest := []) C (zc_Pv_tell h x1 (f_Pv_sum (1 : Int64) (zd_maxl (h.2.2 54 (x1 + 1).toNatClampNeg) (h.2.2 54 (h.2.1 43 x1.toNatClampNeg).toNatClampNeg))) (f_Pv_sum (1 : Int64) (zd_maxl (h.2.2 55 (x1 + 1).toNatClampNeg) (h.2.2 55 (h.2.1 43 x1.toNatClampNeg).toNatClampNeg))) (f_Pv_sum (1 : Int64) (zd_maxl (h.2.2 56 (x1 + 1).toNatClampNeg) (h.2.2 56 (h.2.1 43 x1.toNatClampNeg).toNatClampNeg))) c4) ku_Pv_tell kw1406 kv_Pv_tell rfl ⟨by decide, by decide⟩ ⟨by decide, by decide⟩ rfl rfl rfl (Nat.le_of_ble_eq_true rfl) kd_Pv_proveUnless_81 rfl (c1 := 0) (s1 := 0) rfl rfl (fun v w hp => ?_)
  obtain ⟨rfl, rfl⟩ := hp
  refine zk_stk (r' := []) rfl ?_
  exact zk_vret C hR kd_Pv_proveUnless_84 rfl rfl (zd_rV e)
set_option maxHeartbeats 4000000 in
set_option maxRecDepth 100000 in
theorem zb_Pv_proveGo_45 {X : zkj_T} {S : zs_T} {P : ze_T} {l : Launch} {D : va_G} {sz0 : Nat} {rh : zs_H} (C : zk_C X km_Pv_proveGo (zs_G S l D sz0) { frames := 3, cells := 0, slots := 0, locals := 70 } (ze_E P)) (hR : zkj_R X (zd_PV S rh) (none)) (h : zs_H) (x1 : Int32) (e : f_Pv_proveGo_45 h x1 = some rh) : zk_Ab X (zs_W S h) 0 0 45 [(0, .ref (S.1 51)), (1, .int x1)] [] := by
  unfold f_Pv_proveGo_45 at e
  refine zk_aload_n C kd_Pv_proveGo_45 rfl 0 rfl rfl ?_
  refine zk_iload_n C kd_Pv_proveGo_46 rfl 1 rfl rfl ?_
  refine zk_lconst (v := 1) C kd_Pv_proveGo_47 (by decide) rfl ?_
  refine zk_aload_n C kd_Pv_proveGo_48 rfl 0 rfl rfl ?_
  refine zs_get (v := .ref (S.1 41)) C 51 1 rfl rfl rfl rfl ki_Pv (by decide) kw487 kd_Pv_proveGo_49 rfl ?_
  refine zs_get (v := .ref (S.1 43)) C 41 1 rfl rfl rfl rfl ki_Cd (by decide) kw405 kd_Pv_proveGo_52 rfl ?_
  refine zk_iload_n C kd_Pv_proveGo_55 rfl 1 rfl rfl ?_
  obtain ⟨q1, e⟩ := zd_g e
  refine zs_iald C 43 rfl (zd_vp q1) kd_Pv_proveGo_56 rfl ?_
  obtain ⟨h3, c2, e⟩ := zd_b e
  refine zs_callV (k := 51) (rn := { frames := 2, cells := 0, slots := 0, locals := 46 }) (As := [.int x1, .long 1, .int (h.2.1 43 x1.toNatClampNeg)]) (rest := []) C (zc_Pv_proveAfter h x1 (1 : Int64) (h.2.1 43 x1.toNatClampNeg) c2) ku_Pv_proveAfter kw1414 kv_Pv_proveAfter rfl ⟨by decide, by decide⟩ ⟨by decide, by decide⟩ rfl rfl rfl (Nat.le_of_ble_eq_true rfl) kd_Pv_proveGo_57 rfl (c1 := 0) (s1 := 0) rfl rfl (fun v w hp => ?_)
  obtain ⟨rfl, rfl⟩ := hp
  refine zk_stk (r' := []) rfl ?_
  exact zk_vret C hR kd_Pv_proveGo_60 rfl rfl (zd_rV e)
set_option maxHeartbeats 4000000 in
set_option maxRecDepth 100000 in
theorem zc_Pv_proveGo {l : Launch} {D : va_G} {sz0 : Nat} {S : zs_T} {P : ze_T} (h : zs_H) (x1 : Int32) {rh : zs_H} (e : f_Pv_proveGo h x1 = some rh) : zk_Sp (zs_G S l D sz0) (ze_E P) km_Pv_proveGo { frames := 3, cells := 0, slots := 0, locals := 70 } [.ref (S.1 51), .int x1] (zs_W S h) (zd_PV S rh) := by
  refine zk_met ku_Pv_proveGo (Nat.le_of_ble_eq_true rfl) (ze_Em P) ?_
  intro X C hR
  refine zk_lvs (lv' := [(0, .ref (S.1 51)), (1, .int x1)]) [0, 1] rfl ?_
  unfold f_Pv_proveGo at e
  refine zk_aload_n C kd_Pv_proveGo_0 rfl 0 rfl rfl ?_
  refine zs_get (v := .int (h.1 51 7)) C 51 7 rfl rfl rfl rfl ki_Pv (by decide) kw493 kd_Pv_proveGo_1 rfl ?_
  refine zk_if_le (tgt := 45) C kd_Pv_proveGo_4 (by decide) rfl (fun b1 => ?_) (fun b1 => ?_)
  · replace e := zd_pos b1 e
    refine zk_lvs (lv' := [(0, .ref (S.1 51)), (1, .int x1)]) [0, 1] rfl ?_
    exact zb_Pv_proveGo_45 C hR h x1 e
  · replace e := zd_neg b1 e
    refine zk_aload_n C kd_Pv_proveGo_7 rfl 0 rfl rfl ?_
    refine zs_get (v := .ref (S.1 41)) C 51 1 rfl rfl rfl rfl ki_Pv (by decide) kw487 kd_Pv_proveGo_8 rfl ?_
    refine zs_get (v := .ref (S.1 43)) C 41 1 rfl rfl rfl rfl ki_Cd (by decide) kw405 kd_Pv_proveGo_11 rfl ?_
    refine zk_iload_n C kd_Pv_proveGo_14 rfl 1 rfl rfl ?_
    obtain ⟨q2, e⟩ := zd_g e
    refine zs_iald C 43 rfl (zd_vp q2) kd_Pv_proveGo_15 rfl ?_
    refine zk_aload_n C kd_Pv_proveGo_16 rfl 0 rfl rfl ?_
    refine zs_get (v := .ref (S.1 57)) C 51 6 rfl rfl rfl rfl ki_Pv (by decide) kw492 kd_Pv_proveGo_17 rfl ?_
    refine zk_aload_n C kd_Pv_proveGo_20 rfl 0 rfl rfl ?_
    refine zs_get (v := .int (h.1 51 7)) C 51 7 rfl rfl rfl rfl ki_Pv (by decide) kw493 kd_Pv_proveGo_21 rfl ?_
    refine zk_iconst (v := 1) C kd_Pv_proveGo_24 (by decide) rfl ?_
    refine zk_isub C kd_Pv_proveGo_25 rfl ?_
    obtain ⟨q3, e⟩ := zd_g e
    refine zs_iald C 57 rfl (zd_vp q3) kd_Pv_proveGo_26 rfl ?_
    refine zk_icmp_le (tgt := 45) C kd_Pv_proveGo_27 (by decide) rfl (fun b4 => ?_) (fun b4 => ?_)
    · replace e := zd_pos b4 e
      refine zk_lvs (lv' := [(0, .ref (S.1 51)), (1, .int x1)]) [0, 1] rfl ?_
      exact zb_Pv_proveGo_45 C hR h x1 e
    · replace e := zd_neg b4 e
      refine zk_aload_n C kd_Pv_proveGo_30 rfl 0 rfl rfl ?_
      refine zk_iload_n C kd_Pv_proveGo_31 rfl 1 rfl rfl ?_
      refine zk_ldc2 (v := (-1)) C kw1405 kd_Pv_proveGo_32 rfl ?_
      refine zk_lconst (v := 1) C kd_Pv_proveGo_35 (by decide) rfl ?_
      refine zk_ldc2 (v := (-1)) C kw1405 kd_Pv_proveGo_36 rfl ?_
      obtain ⟨h6, c5, e⟩ := zd_b e
      refine zs_callV (k := 51) (rn := { frames := 0, cells := 0, slots := 0, locals := 0 }) (As := [.int x1, .long (-1), .long 1, .long (-1)]) (rest := []) C (zc_Pv_tell h x1 (-1 : Int64) (1 : Int64) (-1 : Int64) c5) ku_Pv_tell kw1406 kv_Pv_tell rfl ⟨by decide, by decide⟩ ⟨by decide, by decide⟩ rfl rfl rfl (Nat.le_of_ble_eq_true rfl) kd_Pv_proveGo_39 rfl (c1 := 0) (s1 := 0) rfl rfl (fun v w hp => ?_)
      obtain ⟨rfl, rfl⟩ := hp
      refine zk_stk (r' := []) rfl ?_
      refine zk_goto (tgt := 60) C kd_Pv_proveGo_42 (by decide) ?_
      exact zk_vret C hR kd_Pv_proveGo_60 rfl rfl (zd_rV e)
set_option maxHeartbeats 4000000 in
set_option maxRecDepth 100000 in
theorem zb_Pv_longest_168 {X : zkj_T} {S : zs_T} {P : ze_T} {l : Launch} {D : va_G} {sz0 : Nat} {rv : Int64} {rh : zs_H} (C : zk_C X km_Pv_longest (zs_G S l D sz0) { frames := 4, cells := 0, slots := 0, locals := 105 } (ze_E P)) (hR : zkj_R X (zd_PJ S rv rh) (some .long)) {k21 : zs_H → Int32 → Int32 → (Option (Int64 × zs_H))} (hk21 : ∀ (h : zs_H) (x1 : Int32) (x3 : Int32), k21 h x1 x3 = some (rv, rh) → zk_Ab X (zs_W S h) 0 0 21 [(0, .ref (S.1 51)), (1, .int x1), (3, .int x3)] []) (h : zs_H) (x1 : Int32) (x3 : Int32) (e : f_Pv_longest_168 k21 h x1 x3 = some (rv, rh)) : zk_Ab X (zs_W S h) 0 0 168 [(0, .ref (S.1 51)), (1, .int x1), (3, .int x3)] [] := by
  unfold f_Pv_longest_168 at e
  refine zk_iinc (v := (x3 + (-1))) (lv' := [(3, _), (0, _), (1, _)]) C kd_Pv_longest_168 2 rfl rfl (by decide) rfl rfl ?_
  refine zk_goto (tgt := 21) C kd_Pv_longest_171 (by decide) ?_
  refine zk_lvs (lv' := [(0, .ref (S.1 51)), (1, .int x1), (3, .int (x3 + (-1)))]) [1, 2, 0] rfl ?_
  exact hk21 h x1 (x3 + (-1)) e
set_option maxHeartbeats 4000000 in
set_option maxRecDepth 100000 in
theorem zb_Pv_longest_21 {X : zkj_T} {S : zs_T} {P : ze_T} {l : Launch} {D : va_G} {sz0 : Nat} {rv : Int64} {rh : zs_H} (C : zk_C X km_Pv_longest (zs_G S l D sz0) { frames := 4, cells := 0, slots := 0, locals := 105 } (ze_E P)) (hR : zkj_R X (zd_PJ S rv rh) (some .long)) {k21 : zs_H → Int32 → Int32 → (Option (Int64 × zs_H))} (hk21 : ∀ (h : zs_H) (x1 : Int32) (x3 : Int32), k21 h x1 x3 = some (rv, rh) → zk_Ab X (zs_W S h) 0 0 21 [(0, .ref (S.1 51)), (1, .int x1), (3, .int x3)] []) (h : zs_H) (x1 : Int32) (x3 : Int32) (e : f_Pv_longest_21 k21 h x1 x3 = some (rv, rh)) : zk_Ab X (zs_W S h) 0 0 21 [(0, .ref (S.1 51)), (1, .int x1), (3, .int x3)] [] := by
  unfold f_Pv_longest_21 at e
  refine zk_iload_n C kd_Pv_longest_21 rfl 2 rfl rfl ?_
  refine zk_iload_n C kd_Pv_longest_22 rfl 1 rfl rfl ?_
  refine zk_icmp_lt (tgt := 174) C kd_Pv_longest_23 (by decide) rfl (fun b1 => ?_) (fun b1 => ?_)
  · replace e := zd_pos b1 e
    refine zk_aload_n C kd_Pv_longest_174 rfl 0 rfl rfl ?_
    refine zs_get (v := .ref (S.1 54)) C 51 3 rfl rfl rfl rfl ki_Pv (by decide) kw489 kd_Pv_longest_175 rfl ?_
    refine zk_iload_n C kd_Pv_longest_178 rfl 1 rfl rfl ?_
    obtain ⟨q2, e⟩ := zd_g e
    refine zs_lald C 54 rfl (zd_vp q2) kd_Pv_longest_179 rfl ?_
    refine zk_aload_n C kd_Pv_longest_180 rfl 0 rfl rfl ?_
    refine zs_get (v := .ref (S.1 56)) C 51 5 rfl rfl rfl rfl ki_Pv (by decide) kw491 kd_Pv_longest_181 rfl ?_
    refine zk_iload_n C kd_Pv_longest_184 rfl 1 rfl rfl ?_
    refine zs_lald C 56 rfl (zd_vp q2) kd_Pv_longest_185 rfl ?_
    refine zk_mmaxl C kw1427 kw1428 kw19 (by decide) (Nat.le_of_ble_eq_true rfl) (Nat.le_refl _) (Nat.le_refl _) kd_Pv_longest_186 rfl ?_
    exact zk_lret C hR kd_Pv_longest_189 rfl rfl (zd_rJS e)
  · replace e := zd_neg b1 e
    refine zk_aload_n C kd_Pv_longest_26 rfl 0 rfl rfl ?_
    refine zs_get (v := .ref (S.1 41)) C 51 1 rfl rfl rfl rfl ki_Pv (by decide) kw487 kd_Pv_longest_27 rfl ?_
    refine zs_get (v := .ref (S.1 42)) C 41 0 rfl rfl rfl rfl ki_Cd (by decide) kw402 kd_Pv_longest_30 rfl ?_
    refine zk_iload_n C kd_Pv_longest_33 rfl 2 rfl rfl ?_
    obtain ⟨q3, e⟩ := zd_g e
    refine zs_bald C 42 rfl (zd_vp q3) kd_Pv_longest_34 rfl ?_
    by_cases b4 : (h.2.1 42 x3.toNatClampNeg) = 10
    · replace e := zd_pos b4 e
      refine zk_tableIn (tgt := 99) C kd_Pv_longest_35 (by rw [b4]; decide) (by rw [b4]; decide) (by rw [b4]; rfl) (by decide) ?_
      refine zk_aload_n C kd_Pv_longest_99 rfl 0 rfl rfl ?_
      refine zk_iload_n C kd_Pv_longest_100 rfl 2 rfl rfl ?_
      obtain ⟨h6, c5, e⟩ := zd_b e
      refine zs_callV (k := 51) (rn := { frames := 3, cells := 0, slots := 0, locals := 70 }) (As := [.int x3]) (rest := []) C (zc_Pv_proveGo h x3 c5) ku_Pv_proveGo kw1410 kv_Pv_proveGo rfl ⟨by decide, by decide⟩ ⟨by decide, by decide⟩ rfl rfl rfl (Nat.le_of_ble_eq_true rfl) kd_Pv_longest_101 rfl (c1 := 0) (s1 := 0) rfl rfl (fun v w hp => ?_)
      obtain ⟨rfl, rfl⟩ := hp
      refine zk_stk (r' := []) rfl ?_
      refine zk_goto (tgt := 168) C kd_Pv_longest_104 (by decide) ?_
      refine zk_lvs (lv' := [(0, .ref (S.1 51)), (1, .int x1), (3, .int x3)]) [0, 1, 2] rfl ?_
      exact zb_Pv_longest_168 C hR hk21 h6 x1 x3 e
    replace e := zd_neg b4 e
    by_cases b7 : (h.2.1 42 x3.toNatClampNeg) = 11
    · replace e := zd_pos b7 e
      refine zk_tableIn (tgt := 107) C kd_Pv_longest_35 (by rw [b7]; decide) (by rw [b7]; decide) (by rw [b7]; rfl) (by decide) ?_
      refine zk_aload_n C kd_Pv_longest_107 rfl 0 rfl rfl ?_
      refine zk_iload_n C kd_Pv_longest_108 rfl 2 rfl rfl ?_
      obtain ⟨h9, c8, e⟩ := zd_b e
      refine zs_callV (k := 51) (rn := { frames := 2, cells := 0, slots := 0, locals := 46 }) (As := [.int x3]) (rest := []) C (zc_Pv_proveUnless h x3 c8) ku_Pv_proveUnless kw1423 kv_Pv_proveUnless rfl ⟨by decide, by decide⟩ ⟨by decide, by decide⟩ rfl rfl rfl (Nat.le_of_ble_eq_true rfl) kd_Pv_longest_109 rfl (c1 := 0) (s1 := 0) rfl rfl (fun v w hp => ?_)
      obtain ⟨rfl, rfl⟩ := hp
      refine zk_stk (r' := []) rfl ?_
      refine zk_goto (tgt := 168) C kd_Pv_longest_112 (by decide) ?_
      refine zk_lvs (lv' := [(0, .ref (S.1 51)), (1, .int x1), (3, .int x3)]) [0, 1, 2] rfl ?_
      exact zb_Pv_longest_168 C hR hk21 h9 x1 x3 e
    replace e := zd_neg b7 e
    by_cases b10 : (h.2.1 42 x3.toNatClampNeg) = 13
    · replace e := zd_pos b10 e
      refine zk_tableIn (tgt := 123) C kd_Pv_longest_35 (by rw [b10]; decide) (by rw [b10]; decide) (by rw [b10]; rfl) (by decide) ?_
      refine zk_aload_n C kd_Pv_longest_123 rfl 0 rfl rfl ?_
      refine zk_iload_n C kd_Pv_longest_124 rfl 2 rfl rfl ?_
      obtain ⟨h12, c11, e⟩ := zd_b e
      refine zs_callV (k := 51) (rn := { frames := 3, cells := 0, slots := 0, locals := 70 }) (As := [.int x3]) (rest := []) C (zc_Pv_proveNext h x3 c11) ku_Pv_proveNext kw1434 kv_Pv_proveNext rfl ⟨by decide, by decide⟩ ⟨by decide, by decide⟩ rfl rfl rfl (Nat.le_of_ble_eq_true rfl) kd_Pv_longest_125 rfl (c1 := 0) (s1 := 0) rfl rfl (fun v w hp => ?_)
      obtain ⟨rfl, rfl⟩ := hp
      refine zk_stk (r' := []) rfl ?_
      refine zk_goto (tgt := 168) C kd_Pv_longest_128 (by decide) ?_
      refine zk_lvs (lv' := [(0, .ref (S.1 51)), (1, .int x1), (3, .int x3)]) [0, 1, 2] rfl ?_
      exact zb_Pv_longest_168 C hR hk21 h12 x1 x3 e
    replace e := zd_neg b10 e
    by_cases b13 : (h.2.1 42 x3.toNatClampNeg) = 14
    · replace e := zd_pos b13 e
      refine zk_tableIn (tgt := 115) C kd_Pv_longest_35 (by rw [b13]; decide) (by rw [b13]; decide) (by rw [b13]; rfl) (by decide) ?_
      refine zk_aload_n C kd_Pv_longest_115 rfl 0 rfl rfl ?_
      refine zk_iload_n C kd_Pv_longest_116 rfl 2 rfl rfl ?_
      obtain ⟨h15, c14, e⟩ := zd_b e
      refine zs_callV (k := 51) (rn := { frames := 1, cells := 0, slots := 0, locals := 27 }) (As := [.int x3]) (rest := []) C (zc_Pv_proveBack h x3 c14) ku_Pv_proveBack kw1430 kv_Pv_proveBack rfl ⟨by decide, by decide⟩ ⟨by decide, by decide⟩ rfl rfl rfl (Nat.le_of_ble_eq_true rfl) kd_Pv_longest_117 rfl (c1 := 0) (s1 := 0) rfl rfl (fun v w hp => ?_)
      obtain ⟨rfl, rfl⟩ := hp
      refine zk_stk (r' := []) rfl ?_
      refine zk_goto (tgt := 168) C kd_Pv_longest_120 (by decide) ?_
      refine zk_lvs (lv' := [(0, .ref (S.1 51)), (1, .int x1), (3, .int x3)]) [0, 1, 2] rfl ?_
      exact zb_Pv_longest_168 C hR hk21 h15 x1 x3 e
    replace e := zd_neg b13 e
    by_cases b16 : (h.2.1 42 x3.toNatClampNeg) = 15
    · replace e := zd_pos b16 e
      refine zk_tableIn (tgt := 131) C kd_Pv_longest_35 (by rw [b16]; decide) (by rw [b16]; decide) (by rw [b16]; rfl) (by decide) ?_
      refine zk_aload_n C kd_Pv_longest_131 rfl 0 rfl rfl ?_
      refine zk_iload_n C kd_Pv_longest_132 rfl 2 rfl rfl ?_
      refine zk_lconst (v := 1) C kd_Pv_longest_133 (by decide) rfl ?_
      refine zk_aload_n C kd_Pv_longest_134 rfl 0 rfl rfl ?_
      refine zs_get (v := .ref (S.1 52)) C 51 0 rfl rfl rfl rfl ki_Pv (by decide) kw485 kd_Pv_longest_135 rfl ?_
      refine zk_aload_n C kd_Pv_longest_138 rfl 0 rfl rfl ?_
      refine zs_get (v := .ref (S.1 41)) C 51 1 rfl rfl rfl rfl ki_Pv (by decide) kw487 kd_Pv_longest_139 rfl ?_
      refine zs_get (v := .ref (S.1 43)) C 41 1 rfl rfl rfl rfl ki_Cd (by decide) kw405 kd_Pv_longest_142 rfl ?_
      refine zk_iload_n C kd_Pv_longest_145 rfl 2 rfl rfl ?_
      refine zs_iald C 43 rfl (zd_vp q3) kd_Pv_longest_146 rfl ?_
      obtain ⟨q17, e⟩ := zd_g e
      refine zs_iald C 52 rfl (zd_vp q17) kd_Pv_longest_147 rfl ?_
      refine zk_i2l C kd_Pv_longest_148 rfl ?_
      refine zk_ladd C kd_Pv_longest_149 rfl ?_
      refine zk_iload_n C kd_Pv_longest_150 rfl 2 rfl rfl ?_
      refine zk_iconst (v := 1) C kd_Pv_longest_151 (by decide) rfl ?_
      refine zk_iadd C kd_Pv_longest_152 rfl ?_
      obtain ⟨h19, c18, e⟩ := zd_b e
      refine zs_callV (k := 51) (rn := { frames := 2, cells := 0, slots := 0, locals := 46 }) (As := [.int x3, .long ((1 : Int64) + ((h.2.1 52 (h.2.1 43 x3.toNatClampNeg).toNatClampNeg).toInt64)), .int (x3 + 1)]) (rest := []) C (zc_Pv_proveAfter h x3 ((1 : Int64) + ((h.2.1 52 (h.2.1 43 x3.toNatClampNeg).toNatClampNeg).toInt64)) (x3 + 1) c18) ku_Pv_proveAfter kw1414 kv_Pv_proveAfter rfl ⟨by decide, by decide⟩ ⟨by decide, by decide⟩ rfl rfl rfl (Nat.le_of_ble_eq_true rfl) kd_Pv_longest_153 rfl (c1 := 0) (s1 := 0) rfl rfl (fun v w hp => ?_)
      obtain ⟨rfl, rfl⟩ := hp
      refine zk_stk (r' := []) rfl ?_
      refine zk_goto (tgt := 168) C kd_Pv_longest_156 (by decide) ?_
      refine zk_lvs (lv' := [(0, .ref (S.1 51)), (1, .int x1), (3, .int x3)]) [0, 1, 2] rfl ?_
      exact zb_Pv_longest_168 C hR hk21 h19 x1 x3 e
    replace e := zd_neg b16 e
    by_cases b20 : (h.2.1 42 x3.toNatClampNeg) = 16
    · replace e := zd_pos b20 e
      refine zk_tableIn (tgt := 131) C kd_Pv_longest_35 (by rw [b20]; decide) (by rw [b20]; decide) (by rw [b20]; rfl) (by decide) ?_
      refine zk_aload_n C kd_Pv_longest_131 rfl 0 rfl rfl ?_
      refine zk_iload_n C kd_Pv_longest_132 rfl 2 rfl rfl ?_
      refine zk_lconst (v := 1) C kd_Pv_longest_133 (by decide) rfl ?_
      refine zk_aload_n C kd_Pv_longest_134 rfl 0 rfl rfl ?_
      refine zs_get (v := .ref (S.1 52)) C 51 0 rfl rfl rfl rfl ki_Pv (by decide) kw485 kd_Pv_longest_135 rfl ?_
      refine zk_aload_n C kd_Pv_longest_138 rfl 0 rfl rfl ?_
      refine zs_get (v := .ref (S.1 41)) C 51 1 rfl rfl rfl rfl ki_Pv (by decide) kw487 kd_Pv_longest_139 rfl ?_
      refine zs_get (v := .ref (S.1 43)) C 41 1 rfl rfl rfl rfl ki_Cd (by decide) kw405 kd_Pv_longest_142 rfl ?_
      refine zk_iload_n C kd_Pv_longest_145 rfl 2 rfl rfl ?_
      refine zs_iald C 43 rfl (zd_vp q3) kd_Pv_longest_146 rfl ?_
      obtain ⟨q21, e⟩ := zd_g e
      refine zs_iald C 52 rfl (zd_vp q21) kd_Pv_longest_147 rfl ?_
      refine zk_i2l C kd_Pv_longest_148 rfl ?_
      refine zk_ladd C kd_Pv_longest_149 rfl ?_
      refine zk_iload_n C kd_Pv_longest_150 rfl 2 rfl rfl ?_
      refine zk_iconst (v := 1) C kd_Pv_longest_151 (by decide) rfl ?_
      refine zk_iadd C kd_Pv_longest_152 rfl ?_
      obtain ⟨h23, c22, e⟩ := zd_b e
      refine zs_callV (k := 51) (rn := { frames := 2, cells := 0, slots := 0, locals := 46 }) (As := [.int x3, .long ((1 : Int64) + ((h.2.1 52 (h.2.1 43 x3.toNatClampNeg).toNatClampNeg).toInt64)), .int (x3 + 1)]) (rest := []) C (zc_Pv_proveAfter h x3 ((1 : Int64) + ((h.2.1 52 (h.2.1 43 x3.toNatClampNeg).toNatClampNeg).toInt64)) (x3 + 1) c22) ku_Pv_proveAfter kw1414 kv_Pv_proveAfter rfl ⟨by decide, by decide⟩ ⟨by decide, by decide⟩ rfl rfl rfl (Nat.le_of_ble_eq_true rfl) kd_Pv_longest_153 rfl (c1 := 0) (s1 := 0) rfl rfl (fun v w hp => ?_)
      obtain ⟨rfl, rfl⟩ := hp
      refine zk_stk (r' := []) rfl ?_
      refine zk_goto (tgt := 168) C kd_Pv_longest_156 (by decide) ?_
      refine zk_lvs (lv' := [(0, .ref (S.1 51)), (1, .int x1), (3, .int x3)]) [0, 1, 2] rfl ?_
      exact zb_Pv_longest_168 C hR hk21 h23 x1 x3 e
    replace e := zd_neg b20 e
    by_cases b24 : (h.2.1 42 x3.toNatClampNeg) = 18
    · replace e := zd_pos b24 e
      refine zk_tableIn (tgt := 84) C kd_Pv_longest_35 (by rw [b24]; decide) (by rw [b24]; decide) (by rw [b24]; rfl) (by decide) ?_
      refine zk_aload_n C kd_Pv_longest_84 rfl 0 rfl rfl ?_
      refine zk_iload_n C kd_Pv_longest_85 rfl 2 rfl rfl ?_
      refine zk_ldc2 (v := (-1)) C kw1405 kd_Pv_longest_86 rfl ?_
      refine zk_ldc2 (v := (-1)) C kw1405 kd_Pv_longest_89 rfl ?_
      refine zk_lconst (v := 1) C kd_Pv_longest_92 (by decide) rfl ?_
      obtain ⟨h26, c25, e⟩ := zd_b e
      refine zs_callV (k := 51) (rn := { frames := 0, cells := 0, slots := 0, locals := 0 }) (As := [.int x3, .long (-1), .long (-1), .long 1]) (rest := []) C (zc_Pv_tell h x3 (-1 : Int64) (-1 : Int64) (1 : Int64) c25) ku_Pv_tell kw1406 kv_Pv_tell rfl ⟨by decide, by decide⟩ ⟨by decide, by decide⟩ rfl rfl rfl (Nat.le_of_ble_eq_true rfl) kd_Pv_longest_93 rfl (c1 := 0) (s1 := 0) rfl rfl (fun v w hp => ?_)
      obtain ⟨rfl, rfl⟩ := hp
      refine zk_stk (r' := []) rfl ?_
      refine zk_goto (tgt := 168) C kd_Pv_longest_96 (by decide) ?_
      refine zk_lvs (lv' := [(0, .ref (S.1 51)), (1, .int x1), (3, .int x3)]) [0, 1, 2] rfl ?_
      exact zb_Pv_longest_168 C hR hk21 h26 x1 x3 e
    replace e := zd_neg b24 e
    refine zd_tableD (tgt := 159) C kd_Pv_longest_35 (by decide) [10, 11, 13, 14, 15, 16, 18] (by decide +kernel) (by have n0 := lv_neT b4 (a := 10) (by decide); have n1 := lv_neT b7 (a := 11) (by decide); have n2 := lv_neT b10 (a := 13) (by decide); have n3 := lv_neT b13 (a := 14) (by decide); have n4 := lv_neT b16 (a := 15) (by decide); have n5 := lv_neT b20 (a := 16) (by decide); have n6 := lv_neT b24 (a := 18) (by decide); simp only [List.mem_cons, List.not_mem_nil, or_false, not_or]; exact ⟨n0, n1, n2, n3, n4, n5, n6⟩) ?_
    refine zk_aload_n C kd_Pv_longest_159 rfl 0 rfl rfl ?_
    refine zk_iload_n C kd_Pv_longest_160 rfl 2 rfl rfl ?_
    refine zk_lconst (v := 1) C kd_Pv_longest_161 (by decide) rfl ?_
    refine zk_iload_n C kd_Pv_longest_162 rfl 2 rfl rfl ?_
    refine zk_iconst (v := 1) C kd_Pv_longest_163 (by decide) rfl ?_
    refine zk_iadd C kd_Pv_longest_164 rfl ?_
    obtain ⟨h28, c27, e⟩ := zd_b e
    refine zs_callV (k := 51) (rn := { frames := 2, cells := 0, slots := 0, locals := 46 }) (As := [.int x3, .long 1, .int (x3 + 1)]) (rest := []) C (zc_Pv_proveAfter h x3 (1 : Int64) (x3 + 1) c27) ku_Pv_proveAfter kw1414 kv_Pv_proveAfter rfl ⟨by decide, by decide⟩ ⟨by decide, by decide⟩ rfl rfl rfl (Nat.le_of_ble_eq_true rfl) kd_Pv_longest_165 rfl (c1 := 0) (s1 := 0) rfl rfl (fun v w hp => ?_)
    obtain ⟨rfl, rfl⟩ := hp
    refine zk_stk (r' := []) rfl ?_
    refine zk_lvs (lv' := [(0, .ref (S.1 51)), (1, .int x1), (3, .int x3)]) [0, 1, 2] rfl ?_
    exact zb_Pv_longest_168 C hR hk21 h28 x1 x3 e
theorem zl_Pv_longest_21 {X : zkj_T} {S : zs_T} {P : ze_T} {l : Launch} {D : va_G} {sz0 : Nat} {rv : Int64} {rh : zs_H} (C : zk_C X km_Pv_longest (zs_G S l D sz0) { frames := 4, cells := 0, slots := 0, locals := 105 } (ze_E P)) (hR : zkj_R X (zd_PJ S rv rh) (some .long)) (n : Nat) : ∀ (h : zs_H) (x1 : Int32) (x3 : Int32), f_Pv_longest_L21 n h x1 x3 = some (rv, rh) → zk_Ab X (zs_W S h) 0 0 21 [(0, .ref (S.1 51)), (1, .int x1), (3, .int x3)] [] := by
  induction n with
  | zero => intro h x1 x3 e; exact zd_no e
  | succ n ih => intro h x1 x3 e; exact zb_Pv_longest_21 (k21 := f_Pv_longest_L21  n) C hR ih h x1 x3 e
set_option maxHeartbeats 4000000 in
set_option maxRecDepth 100000 in
theorem zc_Pv_longest {l : Launch} {D : va_G} {sz0 : Nat} {S : zs_T} {P : ze_T} (h : zs_H) (x1 : Int32) (x2 : Int32) {rv : Int64} {rh : zs_H} (e : f_Pv_longest h x1 x2 = some (rv, rh)) : zk_Sp (zs_G S l D sz0) (ze_E P) km_Pv_longest { frames := 4, cells := 0, slots := 0, locals := 105 } [.ref (S.1 51), .int x1, .int x2] (zs_W S h) (zd_PJ S rv rh) := by
  refine zk_met ku_Pv_longest (Nat.le_of_ble_eq_true rfl) (ze_Em P) ?_
  intro X C hR
  refine zk_lvs (lv' := [(0, .ref (S.1 51)), (1, .int x1), (2, .int x2)]) [0, 1, 2] rfl ?_
  unfold f_Pv_longest at e
  refine zk_aload_n C kd_Pv_longest_0 rfl 0 rfl rfl ?_
  refine zk_iconst (v := 0) C kd_Pv_longest_1 (by decide) rfl ?_
  refine zs_put (ty := .int) C 51 7 0 rfl rfl rfl rfl ki_Pv ky_Pv ko_Pv kn_Pv (by decide) kw493 rfl rfl rfl rfl (by decide) kd_Pv_longest_2 rfl ?_
  refine zk_aload_n C kd_Pv_longest_5 rfl 0 rfl rfl ?_
  refine zk_iload_n C kd_Pv_longest_6 rfl 2 rfl rfl ?_
  refine zk_lconst (v := 0) C kd_Pv_longest_7 (by decide) rfl ?_
  refine zk_ldc2 (v := (-1)) C kw1405 kd_Pv_longest_8 rfl ?_
  refine zk_ldc2 (v := (-1)) C kw1405 kd_Pv_longest_11 rfl ?_
  obtain ⟨h2, c1, e⟩ := zd_b e
  refine zs_callV (k := 51) (rn := { frames := 0, cells := 0, slots := 0, locals := 0 }) (As := [.int x2, .long 0, .long (-1), .long (-1)]) (rest := []) C (zc_Pv_tell (zs_uF h 51 7 0) x2 (0 : Int64) (-1 : Int64) (-1 : Int64) c1) ku_Pv_tell kw1406 kv_Pv_tell rfl ⟨by decide, by decide⟩ ⟨by decide, by decide⟩ rfl rfl rfl (Nat.le_of_ble_eq_true rfl) kd_Pv_longest_14 rfl (c1 := 0) (s1 := 0) rfl rfl (fun v w hp => ?_)
  obtain ⟨rfl, rfl⟩ := hp
  refine zk_stk (r' := []) rfl ?_
  refine zk_iload_n C kd_Pv_longest_17 rfl 2 rfl rfl ?_
  refine zk_iconst (v := 1) C kd_Pv_longest_18 (by decide) rfl ?_
  refine zk_isub C kd_Pv_longest_19 rfl ?_
  refine zk_istore_n (lv' := [(3, _), (0, _), (1, _), (2, _)]) C kd_Pv_longest_20 rfl (by decide) rfl rfl ?_
  refine zk_lvs (lv' := [(0, .ref (S.1 51)), (1, .int x1), (3, .int (x2 - 1))]) [1, 2, 0] rfl ?_
  exact zl_Pv_longest_21 C hR zF h2 x1 (x2 - 1) e
set_option maxHeartbeats 4000000 in
set_option maxRecDepth 100000 in
theorem zc_Pv_prove {l : Launch} {D : va_G} {sz0 : Nat} {S : zs_T} {P : ze_T} (h : zs_H) (x1 : Int32) {rv : Int32} {rh : zs_H} (e : f_Pv_prove h x1 = some (rv, rh)) : zk_Sp (zs_G S l D sz0) (ze_E P) km_Pv_prove { frames := 5, cells := 0, slots := 0, locals := 128 } [.ref (S.1 51), .int x1] (zs_W S h) (zd_PI S rv rh) := by
  refine zk_met ku_Pv_prove (Nat.le_of_ble_eq_true rfl) (ze_Em P) ?_
  intro X C hR
  refine zk_lvs (lv' := [(0, .ref (S.1 51)), (1, .int x1)]) [0, 1] rfl ?_
  unfold f_Pv_prove at e
  refine zk_aload_n C kd_Pv_prove_0 rfl 0 rfl rfl ?_
  refine zs_get (v := .ref (S.1 41)) C 51 1 rfl rfl rfl rfl ki_Pv (by decide) kw487 kd_Pv_prove_1 rfl ?_
  refine zs_get (v := .ref (S.1 46)) C 41 4 rfl rfl rfl rfl ki_Cd (by decide) kw413 kd_Pv_prove_4 rfl ?_
  refine zk_iload_n C kd_Pv_prove_7 rfl 1 rfl rfl ?_
  obtain ⟨q1, e⟩ := zd_g e
  refine zs_iald C 46 rfl (zd_vp q1) kd_Pv_prove_8 rfl ?_
  refine zk_istore_n (lv' := [(2, _), (0, _), (1, _)]) C kd_Pv_prove_9 rfl (by decide) rfl rfl ?_
  refine zk_aload_n C kd_Pv_prove_10 rfl 1 rfl rfl ?_
  refine zs_get (v := .ref (S.1 41)) C 51 1 rfl rfl rfl rfl ki_Pv (by decide) kw487 kd_Pv_prove_11 rfl ?_
  refine zs_get (v := .ref (S.1 46)) C 41 4 rfl rfl rfl rfl ki_Cd (by decide) kw413 kd_Pv_prove_14 rfl ?_
  refine zk_iload_n C kd_Pv_prove_17 rfl 2 rfl rfl ?_
  refine zk_iconst (v := 1) C kd_Pv_prove_18 (by decide) rfl ?_
  refine zk_iadd C kd_Pv_prove_19 rfl ?_
  obtain ⟨q2, e⟩ := zd_g e
  refine zs_iald C 46 rfl (zd_vp q2) kd_Pv_prove_20 rfl ?_
  refine zk_istore_n (lv' := [(3, _), (2, _), (0, _), (1, _)]) C kd_Pv_prove_21 rfl (by decide) rfl rfl ?_
  refine zk_aload_n C kd_Pv_prove_22 rfl 2 rfl rfl ?_
  refine zk_iload_n C kd_Pv_prove_23 rfl 1 rfl rfl ?_
  refine zk_iload_n C kd_Pv_prove_24 rfl 0 rfl rfl ?_
  obtain ⟨v4, h5, c3, e⟩ := zd_Be e
  refine zs_callV (k := 51) (rn := { frames := 1, cells := 0, slots := 0, locals := 23 }) (As := [.int (h.2.1 46 x1.toNatClampNeg), .int (h.2.1 46 (x1 + 1).toNatClampNeg)]) (rest := []) C (zc_Pv_highest h (h.2.1 46 x1.toNatClampNeg) (h.2.1 46 (x1 + 1).toNatClampNeg) c3) ku_Pv_highest kw1394 kv_Pv_highest rfl ⟨by decide, by decide⟩ ⟨by decide, by decide⟩ rfl rfl rfl (Nat.le_of_ble_eq_true rfl) kd_Pv_prove_25 rfl (c1 := 0) (s1 := 0) rfl rfl (fun v w hp => ?_)
  obtain ⟨rfl, rfl⟩ := hp
  refine zk_stk (r' := [.int v4]) rfl ?_
  refine zk_bipush (v := 64) C kd_Pv_prove_28 (by decide) rfl ?_
  refine zk_icmp_le (tgt := 36) C kd_Pv_prove_30 (by decide) rfl (fun b6 => ?_) (fun b6 => ?_)
  · replace e := zd_pos b6 e
    refine zk_aload_n C kd_Pv_prove_36 rfl 2 rfl rfl ?_
    refine zk_iload_n C kd_Pv_prove_37 rfl 1 rfl rfl ?_
    refine zk_iload_n C kd_Pv_prove_38 rfl 0 rfl rfl ?_
    obtain ⟨v8, h9, c7, e⟩ := zd_Be e
    refine zs_callV (k := 51) (rn := { frames := 4, cells := 0, slots := 0, locals := 105 }) (As := [.int (h.2.1 46 x1.toNatClampNeg), .int (h.2.1 46 (x1 + 1).toNatClampNeg)]) (rest := []) C (zc_Pv_longest h5 (h.2.1 46 x1.toNatClampNeg) (h.2.1 46 (x1 + 1).toNatClampNeg) c7) ku_Pv_longest kw1401 kv_Pv_longest rfl ⟨by decide, by decide⟩ ⟨by decide, by decide⟩ rfl rfl rfl (Nat.le_of_ble_eq_true rfl) kd_Pv_prove_39 rfl (c1 := 0) (s1 := 0) rfl rfl (fun v w hp => ?_)
    obtain ⟨rfl, rfl⟩ := hp
    refine zk_stk (r' := [.long v8]) rfl ?_
    refine zk_lstore (lv' := [(4, _), (3, _), (2, _), (0, _), (1, _)]) C kd_Pv_prove_42 (by decide) rfl rfl ?_
    refine zk_aload_n C kd_Pv_prove_44 rfl 3 rfl rfl ?_
    refine zs_get (v := .ref (S.1 52)) C 51 0 rfl rfl rfl rfl ki_Pv (by decide) kw485 kd_Pv_prove_45 rfl ?_
    refine zk_iload_n C kd_Pv_prove_48 rfl 4 rfl rfl ?_
    refine zk_lload C kd_Pv_prove_49 0 rfl rfl ?_
    refine zk_ldc2 (v := 1000000001) C kw1438 kd_Pv_prove_51 rfl ?_
    refine zk_mminl C kw1422 kw760 kw19 (by decide) (Nat.le_of_ble_eq_true rfl) (Nat.le_refl _) (Nat.le_refl _) kd_Pv_prove_54 rfl ?_
    refine zk_l2i C kd_Pv_prove_57 rfl ?_
    obtain ⟨q10, e⟩ := zd_g e
    refine zs_iast C 52 rfl (zd_vp q10) kd_Pv_prove_58 rfl ?_
    refine zk_lload C kd_Pv_prove_59 0 rfl rfl ?_
    refine zk_ldc2 (v := 1000000000) C kw1439 kd_Pv_prove_61 rfl ?_
    refine zk_lcmp C kd_Pv_prove_64 rfl ?_
    refine zk_if_le (tgt := 73) C kd_Pv_prove_65 (by decide) rfl (fun b11 => ?_) (fun b11 => ?_)
    · replace e := zd_pos (zd_cle.mp b11) e
      refine zk_iconst (v := 0) C kd_Pv_prove_73 (by decide) rfl ?_
      exact zk_iret C hR kd_Pv_prove_74 rfl rfl (zd_rIS e)
    · replace e := zd_neg (fun z => b11 (zd_cle.mpr z)) e
      refine zk_bipush (v := 52) C kd_Pv_prove_68 (by decide) rfl ?_
      refine zk_goto (tgt := 74) C kd_Pv_prove_70 (by decide) ?_
      exact zk_iret C hR kd_Pv_prove_74 rfl rfl (zd_rIS e)
  · replace e := zd_neg b6 e
    refine zk_bipush (v := 51) C kd_Pv_prove_33 (by decide) rfl ?_
    exact zk_iret C hR kd_Pv_prove_35 rfl rfl (zd_rIS e)
set_option maxHeartbeats 4000000 in
set_option maxRecDepth 100000 in
theorem zb_Pk_proveAll_58 {X : zkj_T} {S : zs_T} {P : ze_T} {l : Launch} {D : va_G} {sz0 : Nat} {rh : zs_H} (C : zk_C X km_Pk_proveAll (zs_G S l D sz0) { frames := 6, cells := 0, slots := 0, locals := 153 } (ze_E P)) (hR : zkj_R X (zd_PV S rh) (none)) (h : zs_H) (x1 : Int32) (e : f_Pk_proveAll_58 h x1 = some rh) : zk_Ab X (zs_W S h) 0 0 58 [(0, .ref (S.1 0)), (1, .int x1)] [] := by
  unfold f_Pk_proveAll_58 at e
  refine zk_aload_n C kd_Pk_proveAll_58 rfl 0 rfl rfl ?_
  refine zs_get (v := .ref (S.1 20)) C 0 9 rfl rfl rfl rfl ki_Pk (by decide) kw628 kd_Pk_proveAll_59 rfl ?_
  refine zs_get (v := .int (h.1 20 19)) C 20 19 rfl rfl rfl rfl ki_Pl (by decide) kw295 kd_Pk_proveAll_62 rfl ?_
  refine zk_istore_n (lv' := [(2, _), (0, _), (1, _)]) C kd_Pk_proveAll_65 rfl (by decide) rfl rfl ?_
  refine zk_aload_n C kd_Pk_proveAll_66 rfl 1 rfl rfl ?_
  refine zs_get (v := .int (h.1 0 2)) C 0 2 rfl rfl rfl rfl ki_Pk (by decide) kw621 kd_Pk_proveAll_67 rfl ?_
  refine zk_if_ne (tgt := 112) C kd_Pk_proveAll_70 (by decide) rfl (fun b1 => ?_) (fun b1 => ?_)
  · replace e := zd_neg b1 e
    exact zk_vret C hR kd_Pk_proveAll_112 rfl rfl (zd_rV e)
  · replace e := zd_pos b1 e
    refine zk_aload_n C kd_Pk_proveAll_73 rfl 1 rfl rfl ?_
    refine zs_get (v := .ref (S.1 51)) C 0 13 rfl rfl rfl rfl ki_Pk (by decide) kw632 kd_Pk_proveAll_74 rfl ?_
    refine zs_get (v := .ref (S.1 52)) C 51 0 rfl rfl rfl rfl ki_Pv (by decide) kw486 kd_Pk_proveAll_77 rfl ?_
    refine zk_iload_n C kd_Pk_proveAll_80 rfl 0 rfl rfl ?_
    refine zk_bipush (v := 9) C kd_Pk_proveAll_81 (by decide) rfl ?_
    refine zk_isub C kd_Pk_proveAll_83 rfl ?_
    obtain ⟨q2, e⟩ := zd_g e
    refine zs_iald C 52 rfl (zd_vp q2) kd_Pk_proveAll_84 rfl ?_
    refine zk_iload_n C kd_Pk_proveAll_85 rfl 2 rfl rfl ?_
    refine zk_icmp_le (tgt := 112) C kd_Pk_proveAll_86 (by decide) rfl (fun b3 => ?_) (fun b3 => ?_)
    · replace e := zd_pos b3 e
      exact zk_vret C hR kd_Pk_proveAll_112 rfl rfl (zd_rV e)
    · replace e := zd_neg b3 e
      refine zk_aload_n C kd_Pk_proveAll_89 rfl 1 rfl rfl ?_
      refine zk_bipush (v := 53) C kd_Pk_proveAll_90 (by decide) rfl ?_
      refine zk_aload_n C kd_Pk_proveAll_92 rfl 1 rfl rfl ?_
      refine zs_get (v := .ref (S.1 12)) C 0 8 rfl rfl rfl rfl ki_Pk (by decide) kw627 kd_Pk_proveAll_93 rfl ?_
      refine zs_get (v := .ref (S.1 15)) C 12 2 rfl rfl rfl rfl ki_Tr (by decide) kw164 kd_Pk_proveAll_96 rfl ?_
      refine zk_aload_n C kd_Pk_proveAll_99 rfl 1 rfl rfl ?_
      refine zs_get (v := .ref (S.1 20)) C 0 9 rfl rfl rfl rfl ki_Pk (by decide) kw628 kd_Pk_proveAll_100 rfl ?_
      refine zs_get (v := .ref (S.1 22)) C 20 1 rfl rfl rfl rfl ki_Pl (by decide) kw238 kd_Pk_proveAll_103 rfl ?_
      refine zk_iload_n C kd_Pk_proveAll_106 rfl 0 rfl rfl ?_
      obtain ⟨q4, e⟩ := zd_g e
      refine zs_iald C 22 rfl (zd_vp q4) kd_Pk_proveAll_107 rfl ?_
      obtain ⟨q5, e⟩ := zd_g e
      refine zs_cald C 15 rfl (zd_vp q5) kd_Pk_proveAll_108 rfl ?_
      obtain ⟨h7, c6, e⟩ := zd_b e
      refine zs_callV (k := 0) (rn := { frames := 0, cells := 0, slots := 0, locals := 0 }) (As := [.int 53, .int (h.2.1 15 (h.2.1 22 (h.1 20 19).toNatClampNeg).toNatClampNeg)]) (rest := []) C (zc_Pk_note h 53 (h.2.1 15 (h.2.1 22 (h.1 20 19).toNatClampNeg).toNatClampNeg) c6) ku_Pk_note kw994 kv_Pk_note rfl ⟨by decide, by decide⟩ ⟨by decide, by decide⟩ rfl rfl rfl (Nat.le_of_ble_eq_true rfl) kd_Pk_proveAll_109 rfl (c1 := 0) (s1 := 0) rfl rfl (fun v w hp => ?_)
      obtain ⟨rfl, rfl⟩ := hp
      refine zk_stk (r' := []) rfl ?_
      exact zk_vret C hR kd_Pk_proveAll_112 rfl rfl (zd_rV e)
set_option maxHeartbeats 4000000 in
set_option maxRecDepth 100000 in
theorem zb_Pk_proveAll_2 {X : zkj_T} {S : zs_T} {P : ze_T} {l : Launch} {D : va_G} {sz0 : Nat} {rh : zs_H} (C : zk_C X km_Pk_proveAll (zs_G S l D sz0) { frames := 6, cells := 0, slots := 0, locals := 153 } (ze_E P)) (hR : zkj_R X (zd_PV S rh) (none)) {k2 : zs_H → Int32 → Int32 → (Option zs_H)} (hk2 : ∀ (h : zs_H) (x1 : Int32) (x2 : Int32), k2 h x1 x2 = some rh → zk_Ab X (zs_W S h) 0 0 2 [(0, .ref (S.1 0)), (1, .int x1), (2, .int x2)] []) (h : zs_H) (x1 : Int32) (x2 : Int32) (e : f_Pk_proveAll_2 k2 h x1 x2 = some rh) : zk_Ab X (zs_W S h) 0 0 2 [(0, .ref (S.1 0)), (1, .int x1), (2, .int x2)] [] := by
  unfold f_Pk_proveAll_2 at e
  refine zk_iload_n C kd_Pk_proveAll_2 rfl 2 rfl rfl ?_
  refine zk_aload_n C kd_Pk_proveAll_3 rfl 0 rfl rfl ?_
  refine zs_get (v := .ref (S.1 41)) C 0 11 rfl rfl rfl rfl ki_Pk (by decide) kw630 kd_Pk_proveAll_4 rfl ?_
  refine zs_get (v := .int (h.1 41 6)) C 41 6 rfl rfl rfl rfl ki_Cd (by decide) kw419 kd_Pk_proveAll_7 rfl ?_
  refine zk_icmp_ge (tgt := 58) C kd_Pk_proveAll_10 (by decide) rfl (fun b1 => ?_) (fun b1 => ?_)
  · replace e := zd_pos b1 e
    refine zk_lvs (lv' := [(0, .ref (S.1 0)), (1, .int x1)]) [0, 1] rfl ?_
    exact zb_Pk_proveAll_58 C hR h x1 e
  · replace e := zd_neg b1 e
    refine zk_aload_n C kd_Pk_proveAll_13 rfl 0 rfl rfl ?_
    refine zs_get (v := .int (h.1 0 2)) C 0 2 rfl rfl rfl rfl ki_Pk (by decide) kw621 kd_Pk_proveAll_14 rfl ?_
    refine zk_if_ne (tgt := 58) C kd_Pk_proveAll_17 (by decide) rfl (fun b2 => ?_) (fun b2 => ?_)
    · replace e := zd_neg b2 e
      refine zk_lvs (lv' := [(0, .ref (S.1 0)), (1, .int x1)]) [0, 1] rfl ?_
      exact zb_Pk_proveAll_58 C hR h x1 e
    · replace e := zd_pos b2 e
      refine zk_aload_n C kd_Pk_proveAll_20 rfl 0 rfl rfl ?_
      refine zk_aload_n C kd_Pk_proveAll_21 rfl 0 rfl rfl ?_
      refine zs_get (v := .ref (S.1 51)) C 0 13 rfl rfl rfl rfl ki_Pk (by decide) kw632 kd_Pk_proveAll_22 rfl ?_
      refine zk_iload_n C kd_Pk_proveAll_25 rfl 2 rfl rfl ?_
      obtain ⟨v4, h5, c3, e⟩ := zd_Be e
      refine zs_callV (k := 51) (rn := { frames := 5, cells := 0, slots := 0, locals := 128 }) (As := [.int x2]) (rest := [.ref (S.1 0)]) C (zc_Pv_prove h x2 c3) ku_Pv_prove kw1390 kv_Pv_prove rfl ⟨by decide, by decide⟩ ⟨by decide, by decide⟩ rfl rfl rfl (Nat.le_of_ble_eq_true rfl) kd_Pk_proveAll_26 rfl (c1 := 0) (s1 := 0) rfl rfl (fun v w hp => ?_)
      obtain ⟨rfl, rfl⟩ := hp
      refine zk_stk (r' := [.int v4, .ref (S.1 0)]) rfl ?_
      refine zk_aload_n C kd_Pk_proveAll_29 rfl 0 rfl rfl ?_
      refine zs_get (v := .ref (S.1 12)) C 0 8 rfl rfl rfl rfl ki_Pk (by decide) kw627 kd_Pk_proveAll_30 rfl ?_
      refine zs_get (v := .ref (S.1 15)) C 12 2 rfl rfl rfl rfl ki_Tr (by decide) kw164 kd_Pk_proveAll_33 rfl ?_
      refine zk_aload_n C kd_Pk_proveAll_36 rfl 0 rfl rfl ?_
      refine zs_get (v := .ref (S.1 20)) C 0 9 rfl rfl rfl rfl ki_Pk (by decide) kw628 kd_Pk_proveAll_37 rfl ?_
      refine zs_get (v := .ref (S.1 22)) C 20 1 rfl rfl rfl rfl ki_Pl (by decide) kw238 kd_Pk_proveAll_40 rfl ?_
      refine zk_bipush (v := 9) C kd_Pk_proveAll_43 (by decide) rfl ?_
      refine zk_iload_n C kd_Pk_proveAll_45 rfl 2 rfl rfl ?_
      refine zk_iadd C kd_Pk_proveAll_46 rfl ?_
      obtain ⟨q6, e⟩ := zd_g e
      refine zs_iald C 22 rfl (zd_vp q6) kd_Pk_proveAll_47 rfl ?_
      obtain ⟨q7, e⟩ := zd_g e
      refine zs_cald C 15 rfl (zd_vp q7) kd_Pk_proveAll_48 rfl ?_
      obtain ⟨h9, c8, e⟩ := zd_b e
      refine zs_callV (k := 0) (rn := { frames := 0, cells := 0, slots := 0, locals := 0 }) (As := [.int v4, .int (h5.2.1 15 (h5.2.1 22 (9 + x2).toNatClampNeg).toNatClampNeg)]) (rest := []) C (zc_Pk_note h5 v4 (h5.2.1 15 (h5.2.1 22 (9 + x2).toNatClampNeg).toNatClampNeg) c8) ku_Pk_note kw994 kv_Pk_note rfl ⟨by decide, by decide⟩ ⟨by decide, by decide⟩ rfl rfl rfl (Nat.le_of_ble_eq_true rfl) kd_Pk_proveAll_49 rfl (c1 := 0) (s1 := 0) rfl rfl (fun v w hp => ?_)
      obtain ⟨rfl, rfl⟩ := hp
      refine zk_stk (r' := []) rfl ?_
      refine zk_iinc (v := (x2 + 1)) (lv' := [(2, _), (0, _), (1, _)]) C kd_Pk_proveAll_52 2 rfl rfl (by decide) rfl rfl ?_
      refine zk_goto (tgt := 2) C kd_Pk_proveAll_55 (by decide) ?_
      refine zk_lvs (lv' := [(0, .ref (S.1 0)), (1, .int x1), (2, .int (x2 + 1))]) [1, 2, 0] rfl ?_
      exact hk2 h9 x1 (x2 + 1) e
theorem zl_Pk_proveAll_2 {X : zkj_T} {S : zs_T} {P : ze_T} {l : Launch} {D : va_G} {sz0 : Nat} {rh : zs_H} (C : zk_C X km_Pk_proveAll (zs_G S l D sz0) { frames := 6, cells := 0, slots := 0, locals := 153 } (ze_E P)) (hR : zkj_R X (zd_PV S rh) (none)) (n : Nat) : ∀ (h : zs_H) (x1 : Int32) (x2 : Int32), f_Pk_proveAll_L2 n h x1 x2 = some rh → zk_Ab X (zs_W S h) 0 0 2 [(0, .ref (S.1 0)), (1, .int x1), (2, .int x2)] [] := by
  induction n with
  | zero => intro h x1 x2 e; exact zd_no e
  | succ n ih => intro h x1 x2 e; exact zb_Pk_proveAll_2 (k2 := f_Pk_proveAll_L2  n) C hR ih h x1 x2 e
set_option maxHeartbeats 4000000 in
set_option maxRecDepth 100000 in
theorem zc_Pk_proveAll {l : Launch} {D : va_G} {sz0 : Nat} {S : zs_T} {P : ze_T} (h : zs_H) (x1 : Int32) {rh : zs_H} (e : f_Pk_proveAll h x1 = some rh) : zk_Sp (zs_G S l D sz0) (ze_E P) km_Pk_proveAll { frames := 6, cells := 0, slots := 0, locals := 153 } [.ref (S.1 0), .int x1] (zs_W S h) (zd_PV S rh) := by
  refine zk_met ku_Pk_proveAll (Nat.le_of_ble_eq_true rfl) (ze_Em P) ?_
  intro X C hR
  refine zk_lvs (lv' := [(0, .ref (S.1 0)), (1, .int x1)]) [0, 1] rfl ?_
  unfold f_Pk_proveAll at e
  refine zk_iconst (v := 0) C kd_Pk_proveAll_0 (by decide) rfl ?_
  refine zk_istore_n (lv' := [(2, _), (0, _), (1, _)]) C kd_Pk_proveAll_1 rfl (by decide) rfl rfl ?_
  refine zk_lvs (lv' := [(0, .ref (S.1 0)), (1, .int x1), (2, .int 0)]) [1, 2, 0] rfl ?_
  exact zl_Pk_proveAll_2 C hR zF h x1 0 e
set_option maxHeartbeats 4000000 in
set_option maxRecDepth 100000 in
theorem zc_Mc_begin {l : Launch} {D : va_G} {sz0 : Nat} {S : zs_T} {P : ze_T} (h : zs_H) (x1 : Int32) {rh : zs_H} (e : f_Mc_begin h x1 = some rh) : zk_Sp (zs_G S l D sz0) (ze_E P) km_Mc_begin { frames := 403, cells := 0, slots := 0, locals := 10908 } [.ref (S.1 58), .int x1] (zs_W S h) (zd_PV S rh) := by
  refine zk_met ku_Mc_begin (Nat.le_of_ble_eq_true rfl) (ze_Em P) ?_
  intro X C hR
  refine zk_lvs (lv' := [(0, .ref (S.1 58)), (1, .int x1)]) [0, 1] rfl ?_
  unfold f_Mc_begin at e
  refine zk_aload_n C kd_Mc_begin_0 rfl 0 rfl rfl ?_
  refine zk_iconst (v := 1) C kd_Mc_begin_1 (by decide) rfl ?_
  refine zs_put (ty := .boolean) C 58 3 1 rfl rfl rfl rfl ki_Mc ky_Mc ko_Mc kn_Mc (by decide) kw522 rfl rfl rfl rfl (by decide) kd_Mc_begin_2 rfl ?_
  refine zk_aload_n C kd_Mc_begin_5 rfl 0 rfl rfl ?_
  refine zk_iload_n C kd_Mc_begin_6 rfl 1 rfl rfl ?_
  refine zs_put (ty := .int) C 58 5 x1 rfl rfl rfl rfl ki_Mc ky_Mc ko_Mc kn_Mc (by decide) kw527 rfl rfl rfl rfl (by decide) kd_Mc_begin_7 rfl ?_
  refine zk_aload_n C kd_Mc_begin_10 rfl 0 rfl rfl ?_
  obtain ⟨h2, c1, e⟩ := zd_b e
  refine zs_callV (k := 58) (rn := { frames := 402, cells := 0, slots := 0, locals := 10887 }) (As := []) (rest := []) C (zc_Mc_beginAnew (zs_uF (zs_uF h 58 3 1) 58 5 x1) c1) ku_Mc_beginAnew kw1444 kv_Mc_beginAnew rfl ⟨by decide, by decide⟩ ⟨by decide, by decide⟩ rfl rfl rfl (Nat.le_of_ble_eq_true rfl) kd_Mc_begin_11 rfl (c1 := 0) (s1 := 0) rfl rfl (fun v w hp => ?_)
  obtain ⟨rfl, rfl⟩ := hp
  refine zk_stk (r' := []) rfl ?_
  exact zk_vret C hR kd_Mc_begin_14 rfl rfl (zd_rV e)
set_option maxHeartbeats 4000000 in
set_option maxRecDepth 100000 in
theorem zb_Pk_load_165 {X : zkj_T} {S : zs_T} {P : ze_T} {l : Launch} {D : va_G} {sz0 : Nat} {rv : Int32} {rh : zs_H} (C : zk_C X km_Pk_load (zs_G S l D sz0) { frames := 808, cells := 0, slots := 0, locals := 22541 } (ze_E P)) (hR : zkj_R X (zd_PI S rv rh) (some .int)) (h : zs_H) (e : f_Pk_load_165 h = some (rv, rh)) : zk_Ab X (zs_W S h) 0 0 165 [(0, .ref (S.1 0))] [] := by
  unfold f_Pk_load_165 at e
  refine zk_aload_n C kd_Pk_load_165 rfl 0 rfl rfl ?_
  refine zs_get (v := .int (h.1 0 2)) C 0 2 rfl rfl rfl rfl ki_Pk (by decide) kw621 kd_Pk_load_166 rfl ?_
  exact zk_iret C hR kd_Pk_load_169 rfl rfl (zd_rIS e)
set_option maxHeartbeats 4000000 in
set_option maxRecDepth 100000 in
theorem zb_Pk_load_133 {X : zkj_T} {S : zs_T} {P : ze_T} {l : Launch} {D : va_G} {sz0 : Nat} {rv : Int32} {rh : zs_H} (C : zk_C X km_Pk_load (zs_G S l D sz0) { frames := 808, cells := 0, slots := 0, locals := 22541 } (ze_E P)) (hR : zkj_R X (zd_PI S rv rh) (some .int)) (h : zs_H) (e : f_Pk_load_133 h = some (rv, rh)) : zk_Ab X (zs_W S h) 0 0 133 [(0, .ref (S.1 0))] [] := by
  unfold f_Pk_load_133 at e
  refine zk_aload_n C kd_Pk_load_133 rfl 0 rfl rfl ?_
  refine zs_get (v := .int (h.1 0 2)) C 0 2 rfl rfl rfl rfl ki_Pk (by decide) kw621 kd_Pk_load_134 rfl ?_
  refine zk_if_ne (tgt := 165) C kd_Pk_load_137 (by decide) rfl (fun b1 => ?_) (fun b1 => ?_)
  · replace e := zd_neg b1 e
    refine zk_lvs (lv' := [(0, .ref (S.1 0))]) [0] rfl ?_
    exact zb_Pk_load_165 C hR h e
  · replace e := zd_pos b1 e
    refine zk_aload_n C kd_Pk_load_140 rfl 0 rfl rfl ?_
    refine zs_get (v := .ref (S.1 58)) C 0 14 rfl rfl rfl rfl ki_Pk (by decide) kw633 kd_Pk_load_141 rfl ?_
    refine zk_aload_n C kd_Pk_load_144 rfl 0 rfl rfl ?_
    refine zs_get (v := .ref (S.1 51)) C 0 13 rfl rfl rfl rfl ki_Pk (by decide) kw632 kd_Pk_load_145 rfl ?_
    refine zs_get (v := .ref (S.1 52)) C 51 0 rfl rfl rfl rfl ki_Pv (by decide) kw486 kd_Pk_load_148 rfl ?_
    refine zk_aload_n C kd_Pk_load_151 rfl 0 rfl rfl ?_
    refine zs_get (v := .ref (S.1 20)) C 0 9 rfl rfl rfl rfl ki_Pk (by decide) kw628 kd_Pk_load_152 rfl ?_
    refine zs_get (v := .int (h.1 20 19)) C 20 19 rfl rfl rfl rfl ki_Pl (by decide) kw295 kd_Pk_load_155 rfl ?_
    refine zk_bipush (v := 9) C kd_Pk_load_158 (by decide) rfl ?_
    refine zk_isub C kd_Pk_load_160 rfl ?_
    obtain ⟨q2, e⟩ := zd_g e
    refine zs_iald C 52 rfl (zd_vp q2) kd_Pk_load_161 rfl ?_
    obtain ⟨h4, c3, e⟩ := zd_b e
    refine zs_callV (k := 58) (rn := { frames := 403, cells := 0, slots := 0, locals := 10908 }) (As := [.int (h.2.1 52 ((h.1 20 19) - 9).toNatClampNeg)]) (rest := []) C (zc_Mc_begin h (h.2.1 52 ((h.1 20 19) - 9).toNatClampNeg) c3) ku_Mc_begin kw1440 kv_Mc_begin rfl ⟨by decide, by decide⟩ ⟨by decide, by decide⟩ rfl rfl rfl (Nat.le_of_ble_eq_true rfl) kd_Pk_load_162 rfl (c1 := 0) (s1 := 0) rfl rfl (fun v w hp => ?_)
    obtain ⟨rfl, rfl⟩ := hp
    refine zk_stk (r' := []) rfl ?_
    refine zk_lvs (lv' := [(0, .ref (S.1 0))]) [0] rfl ?_
    exact zb_Pk_load_165 C hR h4 e
set_option maxHeartbeats 4000000 in
set_option maxRecDepth 100000 in
theorem zb_Pk_load_121 {X : zkj_T} {S : zs_T} {P : ze_T} {l : Launch} {D : va_G} {sz0 : Nat} {rv : Int32} {rh : zs_H} (C : zk_C X km_Pk_load (zs_G S l D sz0) { frames := 808, cells := 0, slots := 0, locals := 22541 } (ze_E P)) (hR : zkj_R X (zd_PI S rv rh) (some .int)) (h : zs_H) (x1 : Int32) (e : f_Pk_load_121 h x1 = some (rv, rh)) : zk_Ab X (zs_W S h) 0 0 121 [(0, .ref (S.1 0)), (1, .int x1)] [] := by
  unfold f_Pk_load_121 at e
  refine zk_aload_n C kd_Pk_load_121 rfl 0 rfl rfl ?_
  refine zs_get (v := .int (h.1 0 2)) C 0 2 rfl rfl rfl rfl ki_Pk (by decide) kw621 kd_Pk_load_122 rfl ?_
  refine zk_if_ne (tgt := 133) C kd_Pk_load_125 (by decide) rfl (fun b1 => ?_) (fun b1 => ?_)
  · replace e := zd_neg b1 e
    refine zk_lvs (lv' := [(0, .ref (S.1 0))]) [0] rfl ?_
    exact zb_Pk_load_133 C hR h e
  · replace e := zd_pos b1 e
    refine zk_aload_n C kd_Pk_load_128 rfl 0 rfl rfl ?_
    refine zk_iload_n C kd_Pk_load_129 rfl 1 rfl rfl ?_
    obtain ⟨h3, c2, e⟩ := zd_b e
    refine zs_callV (k := 0) (rn := { frames := 6, cells := 0, slots := 0, locals := 153 }) (As := [.int x1]) (rest := []) C (zc_Pk_proveAll h x1 c2) ku_Pk_proveAll kw1386 kv_Pk_proveAll rfl ⟨by decide, by decide⟩ ⟨by decide, by decide⟩ rfl rfl rfl (Nat.le_of_ble_eq_true rfl) kd_Pk_load_130 rfl (c1 := 0) (s1 := 0) rfl rfl (fun v w hp => ?_)
    obtain ⟨rfl, rfl⟩ := hp
    refine zk_stk (r' := []) rfl ?_
    refine zk_lvs (lv' := [(0, .ref (S.1 0))]) [0] rfl ?_
    exact zb_Pk_load_133 C hR h3 e
set_option maxHeartbeats 4000000 in
set_option maxRecDepth 100000 in
theorem zb_Pk_load_102 {X : zkj_T} {S : zs_T} {P : ze_T} {l : Launch} {D : va_G} {sz0 : Nat} {rv : Int32} {rh : zs_H} (C : zk_C X km_Pk_load (zs_G S l D sz0) { frames := 808, cells := 0, slots := 0, locals := 22541 } (ze_E P)) (hR : zkj_R X (zd_PI S rv rh) (some .int)) (h : zs_H) (x1 : Int32) (e : f_Pk_load_102 h x1 = some (rv, rh)) : zk_Ab X (zs_W S h) 0 0 102 [(0, .ref (S.1 0)), (1, .int x1)] [] := by
  unfold f_Pk_load_102 at e
  refine zk_aload_n C kd_Pk_load_102 rfl 0 rfl rfl ?_
  refine zs_get (v := .int (h.1 0 2)) C 0 2 rfl rfl rfl rfl ki_Pk (by decide) kw621 kd_Pk_load_103 rfl ?_
  refine zk_if_ne (tgt := 121) C kd_Pk_load_106 (by decide) rfl (fun b1 => ?_) (fun b1 => ?_)
  · replace e := zd_neg b1 e
    refine zk_lvs (lv' := [(0, .ref (S.1 0)), (1, .int x1)]) [0, 1] rfl ?_
    exact zb_Pk_load_121 C hR h x1 e
  · replace e := zd_pos b1 e
    refine zk_aload_n C kd_Pk_load_109 rfl 0 rfl rfl ?_
    refine zk_aload_n C kd_Pk_load_110 rfl 0 rfl rfl ?_
    refine zs_get (v := .ref (S.1 47)) C 0 12 rfl rfl rfl rfl ki_Pk (by decide) kw631 kd_Pk_load_111 rfl ?_
    obtain ⟨v3, h4, c2, e⟩ := zd_Be e
    refine zs_callV (k := 47) (rn := { frames := 805, cells := 0, slots := 0, locals := 22520 }) (As := []) (rest := [.ref (S.1 0)]) C (zc_Cr_codeAll h c2) ku_Cr_codeAll kw1262 kv_Cr_codeAll rfl ⟨by decide, by decide⟩ ⟨by decide, by decide⟩ rfl rfl rfl (Nat.le_of_ble_eq_true rfl) kd_Pk_load_114 rfl (c1 := 0) (s1 := 0) rfl rfl (fun v w hp => ?_)
    obtain ⟨rfl, rfl⟩ := hp
    refine zk_stk (r' := [.int v3, .ref (S.1 0)]) rfl ?_
    refine zk_iconst (v := 0) C kd_Pk_load_117 (by decide) rfl ?_
    obtain ⟨h6, c5, e⟩ := zd_b e
    refine zs_callV (k := 0) (rn := { frames := 0, cells := 0, slots := 0, locals := 0 }) (As := [.int v3, .int 0]) (rest := []) C (zc_Pk_note h4 v3 0 c5) ku_Pk_note kw994 kv_Pk_note rfl ⟨by decide, by decide⟩ ⟨by decide, by decide⟩ rfl rfl rfl (Nat.le_of_ble_eq_true rfl) kd_Pk_load_118 rfl (c1 := 0) (s1 := 0) rfl rfl (fun v w hp => ?_)
    obtain ⟨rfl, rfl⟩ := hp
    refine zk_stk (r' := []) rfl ?_
    refine zk_lvs (lv' := [(0, .ref (S.1 0)), (1, .int x1)]) [0, 1] rfl ?_
    exact zb_Pk_load_121 C hR h6 x1 e
set_option maxHeartbeats 4000000 in
set_option maxRecDepth 100000 in
theorem zc_Pk_load {l : Launch} {D : va_G} {sz0 : Nat} {S : zs_T} {P : ze_T} (h : zs_H) (x1 : Int32) {rv : Int32} {rh : zs_H} (e : f_Pk_load h x1 = some (rv, rh)) : zk_Sp (zs_G S l D sz0) (ze_E P) km_Pk_load { frames := 808, cells := 0, slots := 0, locals := 22541 } [.ref (S.1 0), .int x1] (zs_W S h) (zd_PI S rv rh) := by
  refine zk_met ku_Pk_load (Nat.le_of_ble_eq_true rfl) (ze_Em P) ?_
  intro X C hR
  refine zk_lvs (lv' := [(0, .ref (S.1 0)), (1, .int x1)]) [0, 1] rfl ?_
  unfold f_Pk_load at e
  refine zk_iload_n C kd_Pk_load_0 rfl 1 rfl rfl ?_
  refine zk_bipush (v := 100) C kd_Pk_load_1 (by decide) rfl ?_
  refine zk_icmp_lt (tgt := 12) C kd_Pk_load_3 (by decide) rfl (fun b1 => ?_) (fun b1 => ?_)
  · replace e := zd_pos b1 e
    refine zk_iconst (v := (-1)) C kd_Pk_load_12 (by decide) rfl ?_
    exact zk_iret C hR kd_Pk_load_13 rfl rfl (zd_rIS e)
  · replace e := zd_neg b1 e
    refine zk_iload_n C kd_Pk_load_6 rfl 1 rfl rfl ?_
    refine zk_ldc (v := 100000) C kw684 kd_Pk_load_7 rfl ?_
    refine zk_icmp_le (tgt := 14) C kd_Pk_load_9 (by decide) rfl (fun b2 => ?_) (fun b2 => ?_)
    · replace e := zd_pos b2 e
      refine zk_aload_n C kd_Pk_load_14 rfl 0 rfl rfl ?_
      refine zs_get (v := .ref (S.1 58)) C 0 14 rfl rfl rfl rfl ki_Pk (by decide) kw633 kd_Pk_load_15 rfl ?_
      obtain ⟨h4, c3, e⟩ := zd_b e
      refine zs_callV (k := 58) (rn := { frames := 0, cells := 0, slots := 0, locals := 0 }) (As := []) (rest := []) C (zc_Mc_forget h c3) ku_Mc_forget kw685 kv_Mc_forget rfl ⟨by decide, by decide⟩ ⟨by decide, by decide⟩ rfl rfl rfl (Nat.le_of_ble_eq_true rfl) kd_Pk_load_18 rfl (c1 := 0) (s1 := 0) rfl rfl (fun v w hp => ?_)
      obtain ⟨rfl, rfl⟩ := hp
      refine zk_stk (r' := []) rfl ?_
      refine zk_aload_n C kd_Pk_load_21 rfl 0 rfl rfl ?_
      refine zk_iconst (v := 0) C kd_Pk_load_22 (by decide) rfl ?_
      refine zs_put (ty := .int) C 0 2 0 rfl rfl rfl rfl ki_Pk ky_Pk ko_Pk kn_Pk (by decide) kw621 rfl rfl rfl rfl (by decide) kd_Pk_load_23 rfl ?_
      refine zk_aload_n C kd_Pk_load_26 rfl 0 rfl rfl ?_
      refine zk_bipush (v := (-5)) C kd_Pk_load_27 (by decide) rfl ?_
      refine zs_put (ty := .int) C 0 3 (-5) rfl rfl rfl rfl ki_Pk ky_Pk ko_Pk kn_Pk (by decide) kw622 rfl rfl rfl rfl (by decide) kd_Pk_load_29 rfl ?_
      refine zk_aload_n C kd_Pk_load_32 rfl 0 rfl rfl ?_
      refine zs_get (v := .ref (S.1 2)) C 0 5 rfl rfl rfl rfl ki_Pk (by decide) kw624 kd_Pk_load_33 rfl ?_
      obtain ⟨h6, c5, e⟩ := zd_b e
      refine zs_callV (k := 2) (rn := { frames := 4, cells := 0, slots := 0, locals := 96 }) (As := []) (rest := []) C (zc_Nm_forget (zs_uF (zs_uF h4 0 2 0) 0 3 (-5)) c5) ku_Nm_forget kw689 kv_Nm_forget rfl ⟨by decide, by decide⟩ ⟨by decide, by decide⟩ rfl rfl rfl (Nat.le_of_ble_eq_true rfl) kd_Pk_load_36 rfl (c1 := 0) (s1 := 0) rfl rfl (fun v w hp => ?_)
      obtain ⟨rfl, rfl⟩ := hp
      refine zk_stk (r' := []) rfl ?_
      refine zk_aload_n C kd_Pk_load_39 rfl 0 rfl rfl ?_
      refine zs_get (v := .ref (S.1 8)) C 0 6 rfl rfl rfl rfl ki_Pk (by decide) kw625 kd_Pk_load_40 rfl ?_
      refine zk_aload_n C kd_Pk_load_43 rfl 0 rfl rfl ?_
      refine zs_get (v := .ref (S.1 1)) C 0 0 rfl rfl rfl rfl ki_Pk (by decide) kw619 kd_Pk_load_44 rfl ?_
      refine zk_aload_n C kd_Pk_load_47 rfl 0 rfl rfl ?_
      refine zs_get (v := .int (h6.1 0 1)) C 0 1 rfl rfl rfl rfl ki_Pk (by decide) kw620 kd_Pk_load_48 rfl ?_
      obtain ⟨h8, c7, e⟩ := zd_b e
      refine zs_callV (k := 8) (rn := { frames := 6, cells := 0, slots := 0, locals := 140 }) (As := [.ref (S.1 1), .int (h6.1 0 1)]) (rest := []) C (zc_Tk_read_c1 h6 (h6.1 0 1) c7) ku_Tk_read kw714 kv_Tk_read rfl ⟨by decide, by decide⟩ ⟨by decide, by decide⟩ rfl rfl rfl (Nat.le_of_ble_eq_true rfl) kd_Pk_load_51 rfl (c1 := 0) (s1 := 0) rfl rfl (fun v w hp => ?_)
      obtain ⟨rfl, rfl⟩ := hp
      refine zk_stk (r' := []) rfl ?_
      refine zk_aload_n C kd_Pk_load_54 rfl 0 rfl rfl ?_
      refine zk_iconst (v := 0) C kd_Pk_load_55 (by decide) rfl ?_
      refine zs_put (ty := .int) C 0 1 0 rfl rfl rfl rfl ki_Pk ky_Pk ko_Pk kn_Pk (by decide) kw620 rfl rfl rfl rfl (by decide) kd_Pk_load_56 rfl ?_
      refine zk_aload_n C kd_Pk_load_59 rfl 0 rfl rfl ?_
      refine zk_aload_n C kd_Pk_load_60 rfl 0 rfl rfl ?_
      refine zs_get (v := .ref (S.1 19)) C 0 7 rfl rfl rfl rfl ki_Pk (by decide) kw626 kd_Pk_load_61 rfl ?_
      obtain ⟨v10, h11, c9, e⟩ := zd_Be e
      refine zs_callV (k := 19) (rn := { frames := 807, cells := 0, slots := 0, locals := 20167 }) (As := []) (rest := [.ref (S.1 0)]) C (zc_Ps_parse (zs_uF h8 0 1 0) c9) ku_Ps_parse kw862 kv_Ps_parse rfl ⟨by decide, by decide⟩ ⟨by decide, by decide⟩ rfl rfl rfl (Nat.le_of_ble_eq_true rfl) kd_Pk_load_64 rfl (c1 := 0) (s1 := 0) rfl rfl (fun v w hp => ?_)
      obtain ⟨rfl, rfl⟩ := hp
      refine zk_stk (r' := [.int v10, .ref (S.1 0)]) rfl ?_
      refine zk_aload_n C kd_Pk_load_67 rfl 0 rfl rfl ?_
      refine zs_get (v := .ref (S.1 19)) C 0 7 rfl rfl rfl rfl ki_Pk (by decide) kw626 kd_Pk_load_68 rfl ?_
      refine zs_get (v := .int (h11.1 19 0)) C 19 0 rfl rfl rfl rfl ki_Ps (by decide) kw201 kd_Pk_load_71 rfl ?_
      obtain ⟨h13, c12, e⟩ := zd_b e
      refine zs_callV (k := 0) (rn := { frames := 0, cells := 0, slots := 0, locals := 0 }) (As := [.int v10, .int (h11.1 19 0)]) (rest := []) C (zc_Pk_note h11 v10 (h11.1 19 0) c12) ku_Pk_note kw994 kv_Pk_note rfl ⟨by decide, by decide⟩ ⟨by decide, by decide⟩ rfl rfl rfl (Nat.le_of_ble_eq_true rfl) kd_Pk_load_74 rfl (c1 := 0) (s1 := 0) rfl rfl (fun v w hp => ?_)
      obtain ⟨rfl, rfl⟩ := hp
      refine zk_stk (r' := []) rfl ?_
      refine zk_aload_n C kd_Pk_load_77 rfl 0 rfl rfl ?_
      refine zs_get (v := .int (h13.1 0 2)) C 0 2 rfl rfl rfl rfl ki_Pk (by decide) kw621 kd_Pk_load_78 rfl ?_
      refine zk_if_ne (tgt := 102) C kd_Pk_load_81 (by decide) rfl (fun b14 => ?_) (fun b14 => ?_)
      · replace e := zd_neg b14 e
        refine zk_lvs (lv' := [(0, .ref (S.1 0)), (1, .int x1)]) [0, 1] rfl ?_
        exact zb_Pk_load_102 C hR h13 x1 e
      · replace e := zd_pos b14 e
        refine zk_aload_n C kd_Pk_load_84 rfl 0 rfl rfl ?_
        refine zk_aload_n C kd_Pk_load_85 rfl 0 rfl rfl ?_
        refine zs_get (v := .ref (S.1 38)) C 0 10 rfl rfl rfl rfl ki_Pk (by decide) kw629 kd_Pk_load_86 rfl ?_
        obtain ⟨v16, h17, c15, e⟩ := zd_Be e
        refine zs_callV (k := 38) (rn := { frames := 407, cells := 0, slots := 0, locals := 9775 }) (As := []) (rest := [.ref (S.1 0)]) C (zc_Jd_judge h13 c15) ku_Jd_judge kw998 kv_Jd_judge rfl ⟨by decide, by decide⟩ ⟨by decide, by decide⟩ rfl rfl rfl (Nat.le_of_ble_eq_true rfl) kd_Pk_load_89 rfl (c1 := 0) (s1 := 0) rfl rfl (fun v w hp => ?_)
        obtain ⟨rfl, rfl⟩ := hp
        refine zk_stk (r' := [.int v16, .ref (S.1 0)]) rfl ?_
        refine zk_aload_n C kd_Pk_load_92 rfl 0 rfl rfl ?_
        refine zs_get (v := .ref (S.1 38)) C 0 10 rfl rfl rfl rfl ki_Pk (by decide) kw629 kd_Pk_load_93 rfl ?_
        refine zs_get (v := .int (h17.1 38 0)) C 38 0 rfl rfl rfl rfl ki_Jd (by decide) kw351 kd_Pk_load_96 rfl ?_
        obtain ⟨h19, c18, e⟩ := zd_b e
        refine zs_callV (k := 0) (rn := { frames := 0, cells := 0, slots := 0, locals := 0 }) (As := [.int v16, .int (h17.1 38 0)]) (rest := []) C (zc_Pk_note h17 v16 (h17.1 38 0) c18) ku_Pk_note kw994 kv_Pk_note rfl ⟨by decide, by decide⟩ ⟨by decide, by decide⟩ rfl rfl rfl (Nat.le_of_ble_eq_true rfl) kd_Pk_load_99 rfl (c1 := 0) (s1 := 0) rfl rfl (fun v w hp => ?_)
        obtain ⟨rfl, rfl⟩ := hp
        refine zk_stk (r' := []) rfl ?_
        refine zk_lvs (lv' := [(0, .ref (S.1 0)), (1, .int x1)]) [0, 1] rfl ?_
        exact zb_Pk_load_102 C hR h19 x1 e
    · replace e := zd_neg b2 e
      refine zk_iconst (v := (-1)) C kd_Pk_load_12 (by decide) rfl ?_
      exact zk_iret C hR kd_Pk_load_13 rfl rfl (zd_rIS e)
set_option maxHeartbeats 4000000 in
set_option maxRecDepth 100000 in
theorem zc_Pk_end {l : Launch} {D : va_G} {sz0 : Nat} {S : zs_T} {P : ze_T} (h : zs_H) (x1 : Int32) {rv : Int32} {rh : zs_H} (e : f_Pk_end h x1 = some (rv, rh)) : zk_Sp (zs_G S l D sz0) (ze_E P) km_Pk_end { frames := 0, cells := 0, slots := 0, locals := 0 } [.ref (S.1 0), .int x1] (zs_W S h) (zd_PI S rv rh) := by
  refine zk_met ku_Pk_end (Nat.le_of_ble_eq_true rfl) (ze_Em P) ?_
  intro X C hR
  refine zk_lvs (lv' := [(0, .ref (S.1 0)), (1, .int x1)]) [0, 1] rfl ?_
  unfold f_Pk_end at e
  refine zk_iload_n C kd_Pk_end_0 rfl 1 rfl rfl ?_
  refine zk_if_lt (tgt := 19) C kd_Pk_end_1 (by decide) rfl (fun b1 => ?_) (fun b1 => ?_)
  · replace e := zd_pos b1 e
    refine zk_iconst (v := (-1)) C kd_Pk_end_19 (by decide) rfl ?_
    exact zk_iret C hR kd_Pk_end_20 rfl rfl (zd_rIS e)
  · replace e := zd_neg b1 e
    refine zk_iload_n C kd_Pk_end_4 rfl 1 rfl rfl ?_
    refine zk_bipush (v := 20) C kd_Pk_end_5 (by decide) rfl ?_
    refine zk_icmp_gt (tgt := 19) C kd_Pk_end_7 (by decide) rfl (fun b2 => ?_) (fun b2 => ?_)
    · replace e := zd_pos b2 e
      refine zk_iconst (v := (-1)) C kd_Pk_end_19 (by decide) rfl ?_
      exact zk_iret C hR kd_Pk_end_20 rfl rfl (zd_rIS e)
    · replace e := zd_neg b2 e
      refine zk_aload_n C kd_Pk_end_10 rfl 0 rfl rfl ?_
      refine zs_get (v := .int (h.1 0 1)) C 0 1 rfl rfl rfl rfl ki_Pk (by decide) kw620 kd_Pk_end_11 rfl ?_
      refine zk_bipush (v := 20) C kd_Pk_end_14 (by decide) rfl ?_
      refine zk_icmp_ge (tgt := 21) C kd_Pk_end_16 (by decide) rfl (fun b3 => ?_) (fun b3 => ?_)
      · replace e := zd_pos b3 e
        refine zk_aload_n C kd_Pk_end_21 rfl 0 rfl rfl ?_
        refine zk_aload_n C kd_Pk_end_22 rfl 0 rfl rfl ?_
        refine zs_get (v := .int (h.1 0 1)) C 0 1 rfl rfl rfl rfl ki_Pk (by decide) kw620 kd_Pk_end_23 rfl ?_
        refine zk_bipush (v := 20) C kd_Pk_end_26 (by decide) rfl ?_
        refine zk_isub C kd_Pk_end_28 rfl ?_
        refine zk_iload_n C kd_Pk_end_29 rfl 1 rfl rfl ?_
        refine zk_iadd C kd_Pk_end_30 rfl ?_
        refine zs_put (ty := .int) C 0 1 (((h.1 0 1) - 20) + x1) rfl rfl rfl rfl ki_Pk ky_Pk ko_Pk kn_Pk (by decide) kw620 rfl rfl rfl rfl (by decide) kd_Pk_end_31 rfl ?_
        refine zk_aload_n C kd_Pk_end_34 rfl 0 rfl rfl ?_
        refine zs_get (v := .int (((h.1 0 1) - 20) + x1)) C 0 1 rfl rfl rfl rfl ki_Pk (by decide) kw620 kd_Pk_end_35 rfl ?_
        exact zk_iret C hR kd_Pk_end_38 rfl rfl (zd_rIS e)
      · replace e := zd_neg b3 e
        refine zk_iconst (v := (-1)) C kd_Pk_end_19 (by decide) rfl ?_
        exact zk_iret C hR kd_Pk_end_20 rfl rfl (zd_rIS e)
set_option maxHeartbeats 4000000 in
set_option maxRecDepth 100000 in
theorem zb_Pk_append_3 {X : zkj_T} {S : zs_T} {P : ze_T} {l : Launch} {D : va_G} {sz0 : Nat} {rh : zs_H} (C : zk_C X km_Pk_append (zs_G S l D sz0) { frames := 0, cells := 0, slots := 0, locals := 0 } (ze_E P)) (hR : zkj_R X (zd_PV S rh) (none)) {k3 : zs_H → Int32 → Int32 → (Option zs_H)} (hk3 : ∀ (h : zs_H) (x1 : Int32) (x2 : Int32), k3 h x1 x2 = some rh → zk_Ab X (zs_W S h) 0 0 3 [(0, .ref (S.1 0)), (1, .int x1), (2, .int x2)] []) (h : zs_H) (x1 : Int32) (x2 : Int32) (e : f_Pk_append_3 k3 h x1 x2 = some rh) : zk_Ab X (zs_W S h) 0 0 3 [(0, .ref (S.1 0)), (1, .int x1), (2, .int x2)] [] := by
  unfold f_Pk_append_3 at e
  refine zk_iload_n C kd_Pk_append_3 rfl 2 rfl rfl ?_
  refine zk_if_lt (tgt := 46) C kd_Pk_append_4 (by decide) rfl (fun b1 => ?_) (fun b1 => ?_)
  · replace e := zd_pos b1 e
    exact zk_vret C hR kd_Pk_append_46 rfl rfl (zd_rV e)
  · replace e := zd_neg b1 e
    refine zk_aload_n C kd_Pk_append_7 rfl 0 rfl rfl ?_
    refine zs_get (v := .int (h.1 0 1)) C 0 1 rfl rfl rfl rfl ki_Pk (by decide) kw620 kd_Pk_append_8 rfl ?_
    refine zk_sipush (v := 16384) C kd_Pk_append_11 (by decide) rfl ?_
    refine zk_icmp_ge (tgt := 46) C kd_Pk_append_14 (by decide) rfl (fun b2 => ?_) (fun b2 => ?_)
    · replace e := zd_pos b2 e
      exact zk_vret C hR kd_Pk_append_46 rfl rfl (zd_rV e)
    · replace e := zd_neg b2 e
      refine zk_aload_n C kd_Pk_append_17 rfl 0 rfl rfl ?_
      refine zs_get (v := .ref (S.1 1)) C 0 0 rfl rfl rfl rfl ki_Pk (by decide) kw619 kd_Pk_append_18 rfl ?_
      refine zk_aload_n C kd_Pk_append_21 rfl 0 rfl rfl ?_
      refine zs_get (v := .int (h.1 0 1)) C 0 1 rfl rfl rfl rfl ki_Pk (by decide) kw620 kd_Pk_append_22 rfl ?_
      refine zk_iload_n C kd_Pk_append_25 rfl 1 rfl rfl ?_
      refine zk_iload_n C kd_Pk_append_26 rfl 2 rfl rfl ?_
      refine zk_ishr C kd_Pk_append_27 rfl ?_
      refine zk_i2b C kd_Pk_append_28 rfl ?_
      obtain ⟨q3, e⟩ := zd_g e
      refine zs_bast C 1 rfl (zd_vp q3) kd_Pk_append_29 rfl ?_
      refine zk_aload_n C kd_Pk_append_30 rfl 0 rfl rfl ?_
      refine zk_dup C kd_Pk_append_31 rfl rfl ?_
      refine zs_get (v := .int (h.1 0 1)) C 0 1 rfl rfl rfl rfl ki_Pk (by decide) kw620 kd_Pk_append_32 rfl ?_
      refine zk_iconst (v := 1) C kd_Pk_append_35 (by decide) rfl ?_
      refine zk_iadd C kd_Pk_append_36 rfl ?_
      refine zs_put (ty := .int) C 0 1 ((h.1 0 1) + 1) rfl rfl rfl rfl ki_Pk ky_Pk ko_Pk kn_Pk (by decide) kw620 rfl rfl rfl rfl (by decide) kd_Pk_append_37 rfl ?_
      refine zk_iinc (v := (x2 + (-8))) (lv' := [(2, _), (0, _), (1, _)]) C kd_Pk_append_40 2 rfl rfl (by decide) rfl rfl ?_
      refine zk_goto (tgt := 3) C kd_Pk_append_43 (by decide) ?_
      refine zk_lvs (lv' := [(0, .ref (S.1 0)), (1, .int x1), (2, .int (x2 + (-8)))]) [1, 2, 0] rfl ?_
      exact hk3 (zs_uF (zs_uM h 1 (h.1 0 1).toNatClampNeg (vp_nar .byte ((x1 >>> (x2 &&& 31)).toInt8.toInt32))) 0 1 ((h.1 0 1) + 1)) x1 (x2 + (-8)) e
theorem zl_Pk_append_3 {X : zkj_T} {S : zs_T} {P : ze_T} {l : Launch} {D : va_G} {sz0 : Nat} {rh : zs_H} (C : zk_C X km_Pk_append (zs_G S l D sz0) { frames := 0, cells := 0, slots := 0, locals := 0 } (ze_E P)) (hR : zkj_R X (zd_PV S rh) (none)) (n : Nat) : ∀ (h : zs_H) (x1 : Int32) (x2 : Int32), f_Pk_append_L3 n h x1 x2 = some rh → zk_Ab X (zs_W S h) 0 0 3 [(0, .ref (S.1 0)), (1, .int x1), (2, .int x2)] [] := by
  induction n with
  | zero => intro h x1 x2 e; exact zd_no e
  | succ n ih => intro h x1 x2 e; exact zb_Pk_append_3 (k3 := f_Pk_append_L3  n) C hR ih h x1 x2 e
set_option maxHeartbeats 4000000 in
set_option maxRecDepth 100000 in
theorem zc_Pk_append {l : Launch} {D : va_G} {sz0 : Nat} {S : zs_T} {P : ze_T} (h : zs_H) (x1 : Int32) {rh : zs_H} (e : f_Pk_append h x1 = some rh) : zk_Sp (zs_G S l D sz0) (ze_E P) km_Pk_append { frames := 0, cells := 0, slots := 0, locals := 0 } [.ref (S.1 0), .int x1] (zs_W S h) (zd_PV S rh) := by
  refine zk_met ku_Pk_append (Nat.le_of_ble_eq_true rfl) (ze_Em P) ?_
  intro X C hR
  refine zk_lvs (lv' := [(0, .ref (S.1 0)), (1, .int x1)]) [0, 1] rfl ?_
  unfold f_Pk_append at e
  refine zk_bipush (v := 24) C kd_Pk_append_0 (by decide) rfl ?_
  refine zk_istore_n (lv' := [(2, _), (0, _), (1, _)]) C kd_Pk_append_2 rfl (by decide) rfl rfl ?_
  refine zk_lvs (lv' := [(0, .ref (S.1 0)), (1, .int x1), (2, .int 24)]) [1, 2, 0] rfl ?_
  exact zl_Pk_append_3 C hR zF h x1 24 e
set_option maxHeartbeats 4000000 in
set_option maxRecDepth 100000 in
theorem zc_Pk_feed {l : Launch} {D : va_G} {sz0 : Nat} {S : zs_T} {P : ze_T} (h : zs_H) (x1 : Int32) (x2 : Int32) (x3 : Int32) (x4 : Int32) (x5 : Int32) {rv : Int32} {rh : zs_H} (e : f_Pk_feed h x1 x2 x3 x4 x5 = some (rv, rh)) : zk_Sp (zs_G S l D sz0) (ze_E P) km_Pk_feed { frames := 1, cells := 0, slots := 0, locals := 22 } [.ref (S.1 0), .int x1, .int x2, .int x3, .int x4, .int x5] (zs_W S h) (zd_PI S rv rh) := by
  refine zk_met ku_Pk_feed (Nat.le_of_ble_eq_true rfl) (ze_Em P) ?_
  intro X C hR
  refine zk_lvs (lv' := [(0, .ref (S.1 0)), (1, .int x1), (2, .int x2), (3, .int x3), (4, .int x4), (5, .int x5)]) [0, 1, 2, 3, 4, 5] rfl ?_
  unfold f_Pk_feed at e
  refine zk_aload_n C kd_Pk_feed_0 rfl 0 rfl rfl ?_
  refine zs_get (v := .int (h.1 0 1)) C 0 1 rfl rfl rfl rfl ki_Pk (by decide) kw620 kd_Pk_feed_1 rfl ?_
  refine zk_bipush (v := 20) C kd_Pk_feed_4 (by decide) rfl ?_
  refine zk_iadd C kd_Pk_feed_6 rfl ?_
  refine zk_sipush (v := 16384) C kd_Pk_feed_7 (by decide) rfl ?_
  refine zk_icmp_le (tgt := 15) C kd_Pk_feed_10 (by decide) rfl (fun b1 => ?_) (fun b1 => ?_)
  · replace e := zd_pos b1 e
    refine zk_aload_n C kd_Pk_feed_15 rfl 0 rfl rfl ?_
    refine zk_iload_n C kd_Pk_feed_16 rfl 1 rfl rfl ?_
    obtain ⟨h3, c2, e⟩ := zd_b e
    refine zs_callV (k := 0) (rn := { frames := 0, cells := 0, slots := 0, locals := 0 }) (As := [.int x1]) (rest := []) C (zc_Pk_append h x1 c2) ku_Pk_append kw672 kv_Pk_append rfl ⟨by decide, by decide⟩ ⟨by decide, by decide⟩ rfl rfl rfl (Nat.le_of_ble_eq_true rfl) kd_Pk_feed_17 rfl (c1 := 0) (s1 := 0) rfl rfl (fun v w hp => ?_)
    obtain ⟨rfl, rfl⟩ := hp
    refine zk_stk (r' := []) rfl ?_
    refine zk_aload_n C kd_Pk_feed_20 rfl 0 rfl rfl ?_
    refine zk_iload_n C kd_Pk_feed_21 rfl 2 rfl rfl ?_
    obtain ⟨h5, c4, e⟩ := zd_b e
    refine zs_callV (k := 0) (rn := { frames := 0, cells := 0, slots := 0, locals := 0 }) (As := [.int x2]) (rest := []) C (zc_Pk_append h3 x2 c4) ku_Pk_append kw672 kv_Pk_append rfl ⟨by decide, by decide⟩ ⟨by decide, by decide⟩ rfl rfl rfl (Nat.le_of_ble_eq_true rfl) kd_Pk_feed_22 rfl (c1 := 0) (s1 := 0) rfl rfl (fun v w hp => ?_)
    obtain ⟨rfl, rfl⟩ := hp
    refine zk_stk (r' := []) rfl ?_
    refine zk_aload_n C kd_Pk_feed_25 rfl 0 rfl rfl ?_
    refine zk_iload_n C kd_Pk_feed_26 rfl 3 rfl rfl ?_
    obtain ⟨h7, c6, e⟩ := zd_b e
    refine zs_callV (k := 0) (rn := { frames := 0, cells := 0, slots := 0, locals := 0 }) (As := [.int x3]) (rest := []) C (zc_Pk_append h5 x3 c6) ku_Pk_append kw672 kv_Pk_append rfl ⟨by decide, by decide⟩ ⟨by decide, by decide⟩ rfl rfl rfl (Nat.le_of_ble_eq_true rfl) kd_Pk_feed_27 rfl (c1 := 0) (s1 := 0) rfl rfl (fun v w hp => ?_)
    obtain ⟨rfl, rfl⟩ := hp
    refine zk_stk (r' := []) rfl ?_
    refine zk_aload_n C kd_Pk_feed_30 rfl 0 rfl rfl ?_
    refine zk_iload C kd_Pk_feed_31 4 rfl rfl ?_
    obtain ⟨h9, c8, e⟩ := zd_b e
    refine zs_callV (k := 0) (rn := { frames := 0, cells := 0, slots := 0, locals := 0 }) (As := [.int x4]) (rest := []) C (zc_Pk_append h7 x4 c8) ku_Pk_append kw672 kv_Pk_append rfl ⟨by decide, by decide⟩ ⟨by decide, by decide⟩ rfl rfl rfl (Nat.le_of_ble_eq_true rfl) kd_Pk_feed_33 rfl (c1 := 0) (s1 := 0) rfl rfl (fun v w hp => ?_)
    obtain ⟨rfl, rfl⟩ := hp
    refine zk_stk (r' := []) rfl ?_
    refine zk_aload_n C kd_Pk_feed_36 rfl 0 rfl rfl ?_
    refine zk_iload C kd_Pk_feed_37 5 rfl rfl ?_
    obtain ⟨h11, c10, e⟩ := zd_b e
    refine zs_callV (k := 0) (rn := { frames := 0, cells := 0, slots := 0, locals := 0 }) (As := [.int x5]) (rest := []) C (zc_Pk_append h9 x5 c10) ku_Pk_append kw672 kv_Pk_append rfl ⟨by decide, by decide⟩ ⟨by decide, by decide⟩ rfl rfl rfl (Nat.le_of_ble_eq_true rfl) kd_Pk_feed_39 rfl (c1 := 0) (s1 := 0) rfl rfl (fun v w hp => ?_)
    obtain ⟨rfl, rfl⟩ := hp
    refine zk_stk (r' := []) rfl ?_
    refine zk_aload_n C kd_Pk_feed_42 rfl 0 rfl rfl ?_
    refine zs_get (v := .int (h11.1 0 1)) C 0 1 rfl rfl rfl rfl ki_Pk (by decide) kw620 kd_Pk_feed_43 rfl ?_
    exact zk_iret C hR kd_Pk_feed_46 rfl rfl (zd_rIS e)
  · replace e := zd_neg b1 e
    refine zk_iconst (v := (-1)) C kd_Pk_feed_13 (by decide) rfl ?_
    exact zk_iret C hR kd_Pk_feed_14 rfl rfl (zd_rIS e)
