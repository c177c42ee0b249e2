set_option maxHeartbeats 4000000 in
set_option maxRecDepth 100000 in
theorem jz_env {s : State} {args : Array Value} (hts : ∀ w ∈ lw_tbl, w.before args s = true) (hgv : jz_T.before args s = true) : ∃ P : ze_T, ze_E P s.heap.size s := by
  have h := flat_of_before _ hgv
  have hA : ∀ a : Nat, a < s.heap.size → ¬ zk_A s.heap.size a := fun a ha q => absurd ha (Nat.not_lt.mpr q)
  obtain ⟨a0, v0, e0, s0⟩ := jz_str h 290 (.string "PlantKeeper$Names" 11) (ze_n 0) (ze_f 0) (A := zk_A s.heap.size) (by decide) (by decide +kernel) (by decide +kernel) (by decide +kernel) (by decide +kernel) jz_s0 hA
  obtain ⟨a1, v1, e1, s1⟩ := jz_str h 564 (.string "PlantKeeper$Names" 19) (ze_n 1) (ze_f 1) (A := zk_A s.heap.size) (by decide) (by decide +kernel) (by decide +kernel) (by decide +kernel) (by decide +kernel) jz_s1 hA
  obtain ⟨a2, v2, e2, s2⟩ := jz_str h 608 (.string "PlantKeeper$Names" 21) (ze_n 2) (ze_f 2) (A := zk_A s.heap.size) (by decide) (by decide +kernel) (by decide +kernel) (by decide +kernel) (by decide +kernel) jz_s2 hA
  obtain ⟨a3, v3, e3, s3⟩ := jz_str h 667 (.string "PlantKeeper$Names" 23) (ze_n 3) (ze_f 3) (A := zk_A s.heap.size) (by decide) (by decide +kernel) (by decide +kernel) (by decide +kernel) (by decide +kernel) jz_s3 hA
  obtain ⟨a4, v4, e4, s4⟩ := jz_str h 717 (.string "PlantKeeper$Tokens" 127) (ze_n 4) (ze_f 4) (A := zk_A s.heap.size) (by decide) (by decide +kernel) (by decide +kernel) (by decide +kernel) (by decide +kernel) jz_s4 hA
  obtain ⟨a5, v5, e5, s5⟩ := jz_str h 728 (.string "PlantKeeper$Tokens" 137) (ze_n 5) (ze_f 5) (A := zk_A s.heap.size) (by decide) (by decide +kernel) (by decide +kernel) (by decide +kernel) (by decide +kernel) jz_s5 hA
  obtain ⟨a6, v6, e6, s6⟩ := jz_str h 739 (.string "PlantKeeper$Tokens" 139) (ze_n 6) (ze_f 6) (A := zk_A s.heap.size) (by decide) (by decide +kernel) (by decide +kernel) (by decide +kernel) (by decide +kernel) jz_s6 hA
  obtain ⟨a7, v7, e7, s7⟩ := jz_str h 766 (.string "PlantKeeperModel" 248) (ze_n 7) (ze_f 7) (A := zk_A s.heap.size) (by decide) (by decide +kernel) (by decide +kernel) (by decide +kernel) (by decide +kernel) jz_s7 hA
  obtain ⟨a8, v8, e8, s8⟩ := jz_str h 1048 (.string "PlantKeeperModel" 285) (ze_n 8) (ze_f 8) (A := zk_A s.heap.size) (by decide) (by decide +kernel) (by decide +kernel) (by decide +kernel) (by decide +kernel) jz_s8 hA
  obtain ⟨a9, v9, e9, s9⟩ := jz_str h 1072 (.string "PlantKeeperModel" 291) (ze_n 9) (ze_f 9) (A := zk_A s.heap.size) (by decide) (by decide +kernel) (by decide +kernel) (by decide +kernel) (by decide +kernel) jz_s9 hA
  obtain ⟨a10, v10, e10, s10⟩ := jz_str h 1102 (.string "PlantKeeperModel" 454) (ze_n 10) (ze_f 10) (A := zk_A s.heap.size) (by decide) (by decide +kernel) (by decide +kernel) (by decide +kernel) (by decide +kernel) jz_s10 hA
  obtain ⟨a11, v11, e11, s11⟩ := jz_str h 1156 (.string "PlantKeeperModel" 460) (ze_n 11) (ze_f 11) (A := zk_A s.heap.size) (by decide) (by decide +kernel) (by decide +kernel) (by decide +kernel) (by decide +kernel) jz_s11 hA
  obtain ⟨a12, v12, e12, s12⟩ := jz_str h 1225 (.string "PlantKeeperModel" 469) (ze_n 12) (ze_f 12) (A := zk_A s.heap.size) (by decide) (by decide +kernel) (by decide +kernel) (by decide +kernel) (by decide +kernel) jz_s12 hA
  obtain ⟨a13, v13, e13, s13⟩ := jz_str h 1247 (.string "PlantKeeperModel" 471) (ze_n 13) (ze_f 13) (A := zk_A s.heap.size) (by decide) (by decide +kernel) (by decide +kernel) (by decide +kernel) (by decide +kernel) jz_s13 hA
  obtain ⟨a14, v14, e14, s14⟩ := jz_str h 1272 (.string "PlantKeeperModel" 474) (ze_n 14) (ze_f 14) (A := zk_A s.heap.size) (by decide) (by decide +kernel) (by decide +kernel) (by decide +kernel) (by decide +kernel) jz_s14 hA
  obtain ⟨a15, v15, e15, s15⟩ := jz_str h 1299 (.string "PlantKeeperModel" 477) (ze_n 15) (ze_f 15) (A := zk_A s.heap.size) (by decide) (by decide +kernel) (by decide +kernel) (by decide +kernel) (by decide +kernel) jz_s15 hA
  obtain ⟨a16, v16, e16, s16⟩ := jz_str h 1322 (.string "PlantKeeperModel" 479) (ze_n 16) (ze_f 16) (A := zk_A s.heap.size) (by decide) (by decide +kernel) (by decide +kernel) (by decide +kernel) (by decide +kernel) jz_s16 hA
  obtain ⟨a17, v17, e17, s17⟩ := jz_str h 1347 (.string "PlantKeeperModel" 481) (ze_n 17) (ze_f 17) (A := zk_A s.heap.size) (by decide) (by decide +kernel) (by decide +kernel) (by decide +kernel) (by decide +kernel) jz_s17 hA
  obtain ⟨a18, v18, e18, s18⟩ := jz_str h 1373 (.string "PlantKeeperModel" 483) (ze_n 18) (ze_f 18) (A := zk_A s.heap.size) (by decide) (by decide +kernel) (by decide +kernel) (by decide +kernel) (by decide +kernel) jz_s18 hA
  obtain ⟨a19, v19, e19, s19⟩ := jz_str h 1400 (.string "PlantKeeperModel" 486) (ze_n 19) (ze_f 19) (A := zk_A s.heap.size) (by decide) (by decide +kernel) (by decide +kernel) (by decide +kernel) (by decide +kernel) jz_s19 hA
  obtain ⟨a20, v20, e20, s20⟩ := jz_str h 1428 (.string "PlantKeeperModel" 488) (ze_n 20) (ze_f 20) (A := zk_A s.heap.size) (by decide) (by decide +kernel) (by decide +kernel) (by decide +kernel) (by decide +kernel) jz_s20 hA
  obtain ⟨a21, v21, e21, s21⟩ := jz_str h 1454 (.string "PlantKeeperModel" 490) (ze_n 21) (ze_f 21) (A := zk_A s.heap.size) (by decide) (by decide +kernel) (by decide +kernel) (by decide +kernel) (by decide +kernel) jz_s21 hA
  obtain ⟨t0, z0, y0⟩ := jz_tab h 10 "PlantKeeper$Parser" "LEVEL" jz_x0 (A := zk_A s.heap.size) (by decide) (by decide +kernel) (by decide +kernel) jz_t0 (jz_w hts 969 (by decide +kernel)) (jz_w hts 9 (by decide +kernel)) hA
  obtain ⟨t1, z1, y1⟩ := jz_tab h 27 "PlantKeeper$Plan" "STANDARD_VARIABLES" jz_x1 (A := zk_A s.heap.size) (by decide) (by decide +kernel) (by decide +kernel) jz_t1 (jz_w hts 1013 (by decide +kernel)) (jz_w hts 10 (by decide +kernel)) hA
  obtain ⟨t2, z2, y2⟩ := jz_tab h 190 "PlantKeeper$Plan" "STANDARD_CELLS" jz_x2 (A := zk_A s.heap.size) (by decide) (by decide +kernel) (by decide +kernel) jz_t2 (jz_w hts 1023 (by decide +kernel)) (jz_w hts 10 (by decide +kernel)) hA
  obtain ⟨t3, z3, y3⟩ := jz_tab h 202 "PlantKeeper" "AREA_START" jz_x3 (A := zk_A s.heap.size) (by decide) (by decide +kernel) (by decide +kernel) jz_t3 (jz_w hts 1101 (by decide +kernel)) (jz_w hts 1 (by decide +kernel)) hA
  obtain ⟨t4, z4, y4⟩ := jz_tab h 212 "PlantKeeper$Code" "ARGUMENTS" jz_x4 (A := zk_A s.heap.size) (by decide) (by decide +kernel) (by decide +kernel) jz_t4 (jz_w hts 1204 (by decide +kernel)) (jz_w hts 12 (by decide +kernel)) hA
  obtain ⟨t5, z5, y5⟩ := jz_tab h 225 "PlantKeeper$Code" "RISE" jz_x5 (A := zk_A s.heap.size) (by decide) (by decide +kernel) (by decide +kernel) jz_t5 (jz_w hts 1399 (by decide +kernel)) (jz_w hts 12 (by decide +kernel)) hA
  obtain ⟨t6, z6, y6⟩ := jz_tab h 247 "PlantKeeperModel" "TAKEN" jz_x6 (A := zk_A s.heap.size) (by decide) (by decide +kernel) (by decide +kernel) jz_t6 (jz_w hts 2673 (by decide +kernel)) (jz_w hts 17 (by decide +kernel)) hA
  obtain ⟨t7, z7, y7⟩ := jz_tab h 269 "PlantKeeperModel" "LEFT" jz_x7 (A := zk_A s.heap.size) (by decide) (by decide +kernel) (by decide +kernel) jz_t7 (jz_w hts 2675 (by decide +kernel)) (jz_w hts 17 (by decide +kernel)) hA
  refine ⟨(fun i => [a0, a1, a2, a3, a4, a5, a6, a7, a8, a9, a10, a11, a12, a13, a14, a15, a16, a17, a18, a19, a20, a21].getD i 0, fun i => [v0, v1, v2, v3, v4, v5, v6, v7, v8, v9, v10, v11, v12, v13, v14, v15, v16, v17, v18, v19, v20, v21].getD i 0, fun i => [t0, t1, t2, t3, t4, t5, t6, t7].getD i 0), ?_, ?_, ?_, ?_, ?_, ?_⟩
  · intro i hi
    match i, hi with
    | 0, _ => exact s0
    | 1, _ => exact s1
    | 2, _ => exact s2
    | 3, _ => exact s3
    | 4, _ => exact s4
    | 5, _ => exact s5
    | 6, _ => exact s6
    | 7, _ => exact s7
    | 8, _ => exact s8
    | 9, _ => exact s9
    | 10, _ => exact s10
    | 11, _ => exact s11
    | 12, _ => exact s12
    | 13, _ => exact s13
    | 14, _ => exact s14
    | 15, _ => exact s15
    | 16, _ => exact s16
    | 17, _ => exact s17
    | 18, _ => exact s18
    | 19, _ => exact s19
    | 20, _ => exact s20
    | 21, _ => exact s21
    | i + 22, hi => exact absurd hi (by omega)
  · intro q hq
    simp only [ze_str, List.mem_cons, List.not_mem_nil, or_false] at hq
    rcases hq with rfl | rfl | rfl | rfl | rfl | rfl | rfl | rfl | rfl | rfl | rfl | rfl | rfl | rfl | rfl | rfl | rfl | rfl | rfl | rfl | rfl | rfl
    · exact vk_R.of (jz_w hts 36 (by decide +kernel)) e0
    · exact vk_R.of (jz_w hts 47 (by decide +kernel)) e1
    · exact vk_R.of (jz_w hts 48 (by decide +kernel)) e2
    · exact vk_R.of (jz_w hts 49 (by decide +kernel)) e3
    · exact vk_R.of (jz_w hts 795 (by decide +kernel)) e4
    · exact vk_R.of (jz_w hts 856 (by decide +kernel)) e5
    · exact vk_R.of (jz_w hts 861 (by decide +kernel)) e6
    · exact vk_R.of (jz_w hts 2059 (by decide +kernel)) e7
    · exact vk_R.of (jz_w hts 2076 (by decide +kernel)) e8
    · exact vk_R.of (jz_w hts 2083 (by decide +kernel)) e9
    · exact vk_R.of (jz_w hts 2272 (by decide +kernel)) e10
    · exact vk_R.of (jz_w hts 2277 (by decide +kernel)) e11
    · exact vk_R.of (jz_w hts 2370 (by decide +kernel)) e12
    · exact vk_R.of (jz_w hts 2371 (by decide +kernel)) e13
    · exact vk_R.of (jz_w hts 2373 (by decide +kernel)) e14
    · exact vk_R.of (jz_w hts 2375 (by decide +kernel)) e15
    · exact vk_R.of (jz_w hts 2376 (by decide +kernel)) e16
    · exact vk_R.of (jz_w hts 2377 (by decide +kernel)) e17
    · exact vk_R.of (jz_w hts 2378 (by decide +kernel)) e18
    · exact vk_R.of (jz_w hts 2379 (by decide +kernel)) e19
    · exact vk_R.of (jz_w hts 2380 (by decide +kernel)) e20
    · exact vk_R.of (jz_w hts 2381 (by decide +kernel)) e21
  · exact va_Zof (jz_w hts 46 (by decide +kernel)) (jz_w hts 3 (by decide +kernel)) (va_eqi (h _ (List.mem_of_getElem? (i := 4) (by decide +kernel)))) hA
  · exact va_Zqof (jz_w hts 68 (by decide +kernel)) (jz_w hts 5 (by decide +kernel)) (h _ (List.mem_of_getElem? (i := 5) (by decide +kernel))) hA
  · intro k q hq
    match k, hq with
    | 0, hq => obtain rfl : _ = q := Option.some.inj hq; exact ⟨z0, y0⟩
    | 1, hq => obtain rfl : _ = q := Option.some.inj hq; exact ⟨z1, y1⟩
    | 2, hq => obtain rfl : _ = q := Option.some.inj hq; exact ⟨z2, y2⟩
    | 3, hq => obtain rfl : _ = q := Option.some.inj hq; exact ⟨z3, y3⟩
    | 4, hq => obtain rfl : _ = q := Option.some.inj hq; exact ⟨z4, y4⟩
    | 5, hq => obtain rfl : _ = q := Option.some.inj hq; exact ⟨z5, y5⟩
    | 6, hq => obtain rfl : _ = q := Option.some.inj hq; exact ⟨z6, y6⟩
    | 7, hq => obtain rfl : _ = q := Option.some.inj hq; exact ⟨z7, y7⟩
    | k + 8, hq => exact absurd hq (by simp [ze_tab])
  · intro q hq
    simp only [ze_nest, List.mem_cons, List.not_mem_nil, or_false] at hq
    rcases hq with rfl | rfl
    · exact va_Nw.of rfl (jz_w hts 1100 (by decide +kernel))
    · exact va_Nw.of rfl (jz_w hts 1468 (by decide +kernel))
