section ZK4
variable {X : zk_T} {M : zk_MT} {G : zk_GT} {rm : Room} {E : Nat → State → Prop} {ws : va_W} {cells slots pc n : Nat} {lv : List (Nat × Value)} {r : List Value}
theorem zk_ldcw {index : Nat} {v : Int32} (C : zk_C X M G rm E) (hc : Cond.constant M.1.cls index v ∈ zk_BW) (d : decode M.2.1 pc = .ok (.ldc_w index, 3)) (hpc : pc + 3 = n) (k : zk_Ab X ws cells slots n lv (.int v :: r)) : zk_Ab X ws cells slots pc lv r := by
  obtain ⟨p, l, e, R, s, m, args, below, meth, c, Q, D, cl, tys, sz0, nL⟩ := X
  obtain ⟨⟨hx, hb, hml, hown, hts⟩, hK, hsz, hE, hEm, hG9, hnL9, hrm9, hin0⟩ := C; subst hG9; subst hnL9; subst hrm9
  subst hpc
  exact fun H locs ls hP hD hS h => lv_ldcw hx hb hown (hts _ hc) d (k H locs ls hP hD hS h)
end ZK4
theorem zp_01 {v : Int32} (h1 : ¬ v < 0) (h2 : ¬ 1 < v) : v = 0 ∨ v = 1 := by
  obtain ⟨j, hj, rfl⟩ := nI_of2 (M := 1) (n := 1) rfl h1 (Int32.not_lt.mp h2)
  match j, hj with
  | 0, _ => exact Or.inl rfl
  | 1, _ => exact Or.inr rfl
theorem zp_dec {x : Int32} {n : Nat} (h : decide (¬ (x < 0 ∨ n ≤ x.toNatClampNeg)) = true) : vp_in x n := by unfold vp_in; exact of_decide_eq_true h
theorem zp_wid {x : Int32} {n m : Nat} (h : vp_in x n) (hm : n ≤ m) : vp_in x m := fun q => q.elim (fun z => h (Or.inl z)) (fun z => h (Or.inr (Nat.le_trans hm z)))
/-- which place of an area is there -/
def zp_t (a : Int32) : Int32 := ([0, 256, 512, 768, 832, 896, 960] : List Int32).getD a.toNatClampNeg 0
def zp_ok (a i : Int32) : Prop := ¬ a < 0 ∧ ¬ 5 < a ∧ ¬ i < 0 ∧ ((¬ 3 ≤ a ∧ i < 256) ∨ (3 ≤ a ∧ i < 64))
def zp_val (a v : Int32) : Prop := (¬ 3 ≤ a ∧ ¬ v < 0 ∧ ¬ 1 < v) ∨ (3 ≤ a ∧ ¬ v < -32768 ∧ ¬ 32767 < v)
theorem zp_6 {a : Int32} (h1 : ¬ a < 0) (h2 : ¬ 5 < a) : a = 0 ∨ a = 1 ∨ a = 2 ∨ a = 3 ∨ a = 4 ∨ a = 5 := by
  obtain ⟨j, hj, rfl⟩ := nI_of2 (M := 5) (n := 5) rfl h1 (Int32.not_lt.mp h2)
  match j, hj with
  | 0, _ => exact Or.inl rfl
  | 1, _ => exact Or.inr (Or.inl rfl)
  | 2, _ => exact Or.inr (Or.inr (Or.inl rfl))
  | 3, _ => exact Or.inr (Or.inr (Or.inr (Or.inl rfl)))
  | 4, _ => exact Or.inr (Or.inr (Or.inr (Or.inr (Or.inl rfl))))
  | 5, _ => exact Or.inr (Or.inr (Or.inr (Or.inr (Or.inr rfl))))
theorem zp_ia {a : Int32} (h1 : ¬ a < 0) (h2 : ¬ 5 < a) : vp_in (a + 1) 7 ∧ vp_in a 7 := by
  rcases zp_6 h1 h2 with rfl | rfl | rfl | rfl | rfl | rfl <;> exact ⟨by unfold vp_in; decide, by unfold vp_in; decide⟩
theorem zp_sz {a : Int32} (h1 : ¬ a < 0) (h2 : ¬ 5 < a) : zp_t (a + 1) - zp_t a = if 3 ≤ a then 64 else 256 := by
  rcases zp_6 h1 h2 with rfl | rfl | rfl | rfl | rfl | rfl <;> decide
theorem zp_okI {a i : Int32} (h1 : ¬ a < 0) (h2 : ¬ 5 < a) (h3 : ¬ i < 0) (h4 : ¬ (zp_t (a + 1) - zp_t a) ≤ i) : zp_ok a i := by
  rw [zp_sz h1 h2] at h4
  by_cases h : 3 ≤ a
  · rw [if_pos h] at h4; exact ⟨h1, h2, h3, Or.inr ⟨h, Int32.not_le.mp h4⟩⟩
  · rw [if_neg h] at h4; exact ⟨h1, h2, h3, Or.inl ⟨h, Int32.not_le.mp h4⟩⟩
theorem zp_okN {a i : Int32} (h1 : ¬ a < 0) (h2 : ¬ 5 < a) (h4 : (zp_t (a + 1) - zp_t a) ≤ i) : ¬ zp_ok a i := by
  rw [zp_sz h1 h2] at h4
  intro q
  rcases q.2.2.2 with ⟨h, h5⟩ | ⟨h, h5⟩
  · rw [if_neg h] at h4; exact absurd h4 (Int32.not_le.mpr h5)
  · rw [if_pos h] at h4; exact absurd h4 (Int32.not_le.mpr h5)
theorem zp_lt {i : Int32} {n : Nat} {M : Int32} (hM : M = nI n) (hn : n < 2 ^ 31) (h0 : ¬ i < 0) (h : i < M) : ∃ j : Nat, j < n ∧ i = nI j := by
  subst hM
  obtain ⟨j, hj, rfl⟩ := nI_of h0
  exact ⟨j, (nI_ltI hj hn).mp h, rfl⟩
theorem zp_k1 {a i : Int32} (h : zp_ok a i) : vp_in a 7 ∧ vp_in (zp_t a + i) 960 := by
  obtain ⟨h1, h2, h3, h4⟩ := h
  refine ⟨(zp_ia h1 h2).2, ?_⟩
  rcases zp_6 h1 h2 with rfl | rfl | rfl | rfl | rfl | rfl
  · rcases h4 with ⟨-, h5⟩ | ⟨h, -⟩
    · obtain ⟨j, hj, rfl⟩ := zp_lt (n := 256) rfl (by decide) h3 h5
      show vp_in (nI 0 + nI j) 960
      rw [nI_add]; exact vp_in_nI (by omega) (by decide)
    · exact absurd h (by decide)
  · rcases h4 with ⟨-, h5⟩ | ⟨h, -⟩
    · obtain ⟨j, hj, rfl⟩ := zp_lt (n := 256) rfl (by decide) h3 h5
      show vp_in (nI 256 + nI j) 960
      rw [nI_add]; exact vp_in_nI (by omega) (by decide)
    · exact absurd h (by decide)
  · rcases h4 with ⟨-, h5⟩ | ⟨h, -⟩
    · obtain ⟨j, hj, rfl⟩ := zp_lt (n := 256) rfl (by decide) h3 h5
      show vp_in (nI 512 + nI j) 960
      rw [nI_add]; exact vp_in_nI (by omega) (by decide)
    · exact absurd h (by decide)
  · rcases h4 with ⟨h, -⟩ | ⟨-, h5⟩
    · exact absurd (by decide) h
    · obtain ⟨j, hj, rfl⟩ := zp_lt (n := 64) rfl (by decide) h3 h5
      show vp_in (nI 768 + nI j) 960
      rw [nI_add]; exact vp_in_nI (by omega) (by decide)
  · rcases h4 with ⟨h, -⟩ | ⟨-, h5⟩
    · exact absurd (by decide) h
    · obtain ⟨j, hj, rfl⟩ := zp_lt (n := 64) rfl (by decide) h3 h5
      show vp_in (nI 832 + nI j) 960
      rw [nI_add]; exact vp_in_nI (by omega) (by decide)
  · rcases h4 with ⟨h, -⟩ | ⟨-, h5⟩
    · exact absurd (by decide) h
    · obtain ⟨j, hj, rfl⟩ := zp_lt (n := 64) rfl (by decide) h3 h5
      show vp_in (nI 896 + nI j) 960
      rw [nI_add]; exact vp_in_nI (by omega) (by decide)
theorem zp_in1 {i : Int32} {n m : Nat} (hn : n ≤ m) (hm : m < 2 ^ 31) (h0 : ¬ i < 0) (h : i < nI n) : vp_in i m := by
  obtain ⟨j, hj, rfl⟩ := zp_lt rfl (by omega) h0 h
  exact vp_in_nI (by omega) hm
theorem zp_m1 {a i : Int32} (h : zp_ok a i) (h3 : ¬ 3 ≤ a) : vp_in i 320 := by
  obtain ⟨-, -, h0, ⟨-, h⟩ | ⟨h, -⟩⟩ := h
  · exact zp_in1 (n := 256) (by decide) (by decide) h0 h
  · exact absurd h h3
theorem zp_m2 {a i : Int32} (h : zp_ok a i) (h3 : 3 ≤ a) : vp_in (256 + i) 320 := by
  obtain ⟨-, -, h0, ⟨h, -⟩ | ⟨-, h⟩⟩ := h
  · exact absurd h3 h
  · obtain ⟨j, hj, rfl⟩ := zp_lt (n := 64) rfl (by decide) h0 h
    show vp_in (nI 256 + nI j) 320
    rw [nI_add]; exact vp_in_nI (by omega) (by decide)
theorem zp_cl {a i : Int32} (h : zp_ok a i) : a = 0 ∨ a = 1 ∨ a = 2 ∨ a = 3 ∨ a = 4 ∨ a = 5 := zp_6 h.1 h.2.1
theorem kw521 : Jvm.Cond.fieldLink "PlantKeeper" (191 : Nat) "PlantKeeper$Machine" "safeOutputs" "[I" ∈ zk_BW := zk_inT 521 (by decide +kernel) rfl
theorem kw522 : Jvm.Cond.fieldLink "PlantKeeper$Machine" (41 : Nat) "PlantKeeper$Machine" "loaded" "Z" ∈ zk_BW := zk_inT 522 (by decide +kernel) rfl
theorem kw523 : Jvm.Cond.fieldLink "PlantKeeper$Line" (30 : Nat) "PlantKeeper$Machine" "loaded" "Z" ∈ zk_BW := zk_inT 523 (by decide +kernel) rfl
theorem kw524 : Jvm.Cond.fieldLink "PlantKeeper" (169 : Nat) "PlantKeeper$Machine" "loaded" "Z" ∈ zk_BW := zk_inT 524 (by decide +kernel) rfl
theorem kw526 : Jvm.Cond.fieldLink "PlantKeeper" (197 : Nat) "PlantKeeper$Machine" "stopped" "Z" ∈ zk_BW := zk_inT 526 (by decide +kernel) rfl
theorem kw528 : Jvm.Cond.fieldLink "PlantKeeper" (272 : Nat) "PlantKeeper$Machine" "bound" "I" ∈ zk_BW := zk_inT 528 (by decide +kernel) rfl
theorem kw530 : Jvm.Cond.fieldLink "PlantKeeper" (281 : Nat) "PlantKeeper$Machine" "steps" "I" ∈ zk_BW := zk_inT 530 (by decide +kernel) rfl
theorem kw532 : Jvm.Cond.fieldLink "PlantKeeper" (284 : Nat) "PlantKeeper$Machine" "scans" "I" ∈ zk_BW := zk_inT 532 (by decide +kernel) rfl
theorem kw534 : Jvm.Cond.fieldLink "PlantKeeper" (287 : Nat) "PlantKeeper$Machine" "scansAbove" "I" ∈ zk_BW := zk_inT 534 (by decide +kernel) rfl
theorem kw536 : Jvm.Cond.fieldLink "PlantKeeper" (290 : Nat) "PlantKeeper$Machine" "now" "I" ∈ zk_BW := zk_inT 536 (by decide +kernel) rfl
theorem kw599 : Jvm.Cond.fieldLink "PlantKeeper$Line" (23 : Nat) "PlantKeeper$Line" "outSize" "I" ∈ zk_BW := zk_inT 599 (by decide +kernel) rfl
theorem kw600 : Jvm.Cond.fieldLink "PlantKeeper" (266 : Nat) "PlantKeeper$Line" "outSize" "I" ∈ zk_BW := zk_inT 600 (by decide +kernel) rfl
theorem kw602 : Jvm.Cond.fieldLink "PlantKeeper" (263 : Nat) "PlantKeeper$Line" "station" "I" ∈ zk_BW := zk_inT 602 (by decide +kernel) rfl
theorem kw620 : Jvm.Cond.fieldLink "PlantKeeper" (108 : Nat) "PlantKeeper" "tapeSize" "I" ∈ zk_BW := zk_inT 620 (by decide +kernel) rfl
theorem kw621 : Jvm.Cond.fieldLink "PlantKeeper" (119 : Nat) "PlantKeeper" "fault" "I" ∈ zk_BW := zk_inT 621 (by decide +kernel) rfl
theorem kw623 : Jvm.Cond.fieldLink "PlantKeeper" (253 : Nat) "PlantKeeper" "watchedValue" "I" ∈ zk_BW := zk_inT 623 (by decide +kernel) rfl
theorem kw669 : Jvm.Cond.instanceMethod ({ cls := "PlantKeeper", name := "feed", desc := "(IIIII)I" } : Jvm.MethodName) ∈ zk_BW := zk_inT 669 (by decide +kernel) rfl
theorem kw670 : Jvm.Cond.selects "PlantKeeper" ({ cls := "PlantKeeper", name := "feed", desc := "(IIIII)I" } : Jvm.MethodName) ({ cls := "PlantKeeper", name := "feed", desc := "(IIIII)I" } : Jvm.MethodName) ∈ zk_BW := zk_inT 670 (by decide +kernel) rfl
theorem kw671 : Jvm.Cond.code ({ cls := "PlantKeeper", name := "feed", desc := "(IIIII)I" } : Jvm.MethodName) prog_1_method_2_code (6 : Nat) (Option.some FieldType.int) ∈ zk_BW := zk_inT 671 (by decide +kernel) rfl
theorem kw672 : Jvm.Cond.methodLink "PlantKeeper" (111 : Nat) ({ cls := "PlantKeeper", name := "append", desc := "(I)V" } : Jvm.MethodName) ∈ zk_BW := zk_inT 672 (by decide +kernel) rfl
theorem kw674 : Jvm.Cond.instanceMethod ({ cls := "PlantKeeper", name := "append", desc := "(I)V" } : Jvm.MethodName) ∈ zk_BW := zk_inT 674 (by decide +kernel) rfl
theorem kw675 : Jvm.Cond.code ({ cls := "PlantKeeper", name := "append", desc := "(I)V" } : Jvm.MethodName) prog_1_method_3_code (3 : Nat) (Option.none : Option FieldType) ∈ zk_BW := zk_inT 675 (by decide +kernel) rfl
theorem kw677 : Jvm.Cond.instanceMethod ({ cls := "PlantKeeper", name := "end", desc := "(I)I" } : Jvm.MethodName) ∈ zk_BW := zk_inT 677 (by decide +kernel) rfl
theorem kw678 : Jvm.Cond.selects "PlantKeeper" ({ cls := "PlantKeeper", name := "end", desc := "(I)I" } : Jvm.MethodName) ({ cls := "PlantKeeper", name := "end", desc := "(I)I" } : Jvm.MethodName) ∈ zk_BW := zk_inT 678 (by decide +kernel) rfl
theorem kw679 : Jvm.Cond.code ({ cls := "PlantKeeper", name := "end", desc := "(I)I" } : Jvm.MethodName) prog_1_method_4_code (2 : Nat) (Option.some FieldType.int) ∈ zk_BW := zk_inT 679 (by decide +kernel) rfl
theorem kw684 : Jvm.Cond.constant "PlantKeeper" (115 : Nat) (100000 : Int32) ∈ zk_BW := zk_inT 684 (by decide +kernel) rfl
theorem kw1470 : Jvm.Cond.instanceMethod ({ cls := "PlantKeeper", name := "restart", desc := "()I" } : Jvm.MethodName) ∈ zk_BW := zk_inT 1470 (by decide +kernel) rfl
theorem kw1471 : Jvm.Cond.selects "PlantKeeper" ({ cls := "PlantKeeper", name := "restart", desc := "()I" } : Jvm.MethodName) ({ cls := "PlantKeeper", name := "restart", desc := "()I" } : Jvm.MethodName) ∈ zk_BW := zk_inT 1471 (by decide +kernel) rfl
theorem kw1472 : Jvm.Cond.code ({ cls := "PlantKeeper", name := "restart", desc := "()I" } : Jvm.MethodName) prog_1_method_8_code (1 : Nat) (Option.some FieldType.int) ∈ zk_BW := zk_inT 1472 (by decide +kernel) rfl
theorem kw1475 : Jvm.Cond.instanceMethod ({ cls := "PlantKeeper", name := "put", desc := "(III)I" } : Jvm.MethodName) ∈ zk_BW := zk_inT 1475 (by decide +kernel) rfl
theorem kw1476 : Jvm.Cond.selects "PlantKeeper" ({ cls := "PlantKeeper", name := "put", desc := "(III)I" } : Jvm.MethodName) ({ cls := "PlantKeeper", name := "put", desc := "(III)I" } : Jvm.MethodName) ∈ zk_BW := zk_inT 1476 (by decide +kernel) rfl
theorem kw1477 : Jvm.Cond.code ({ cls := "PlantKeeper", name := "put", desc := "(III)I" } : Jvm.MethodName) prog_1_method_9_code (4 : Nat) (Option.some FieldType.int) ∈ zk_BW := zk_inT 1477 (by decide +kernel) rfl
theorem kw1478 : Jvm.Cond.methodLink "PlantKeeper" (176 : Nat) ({ cls := "PlantKeeper", name := "isPlace", desc := "(II)Z" } : Jvm.MethodName) ∈ zk_BW := zk_inT 1478 (by decide +kernel) rfl
theorem kw1479 : Jvm.Cond.static ({ cls := "PlantKeeper", name := "isPlace", desc := "(II)Z" } : Jvm.MethodName) ∈ zk_BW := zk_inT 1479 (by decide +kernel) rfl
theorem kw1480 : Jvm.Cond.code ({ cls := "PlantKeeper", name := "isPlace", desc := "(II)Z" } : Jvm.MethodName) prog_1_method_12_code (2 : Nat) (Option.some FieldType.boolean) ∈ zk_BW := zk_inT 1480 (by decide +kernel) rfl
theorem kw1481 : Jvm.Cond.fieldLink "PlantKeeper" (194 : Nat) "PlantKeeper" "AREA_START" "[I" ∈ zk_BW := zk_inT 1481 (by decide +kernel) rfl
theorem kw1482 : Jvm.Cond.methodLink "PlantKeeper" (180 : Nat) ({ cls := "PlantKeeper", name := "isValue", desc := "(II)Z" } : Jvm.MethodName) ∈ zk_BW := zk_inT 1482 (by decide +kernel) rfl
theorem kw1483 : Jvm.Cond.static ({ cls := "PlantKeeper", name := "isValue", desc := "(II)Z" } : Jvm.MethodName) ∈ zk_BW := zk_inT 1483 (by decide +kernel) rfl
theorem kw1484 : Jvm.Cond.code ({ cls := "PlantKeeper", name := "isValue", desc := "(II)Z" } : Jvm.MethodName) prog_1_method_13_code (2 : Nat) (Option.some FieldType.boolean) ∈ zk_BW := zk_inT 1484 (by decide +kernel) rfl
theorem kw1485 : Jvm.Cond.methodLink "PlantKeeper" (183 : Nat) ({ cls := "PlantKeeper$Machine", name := "change", desc := "(III)I" } : Jvm.MethodName) ∈ zk_BW := zk_inT 1485 (by decide +kernel) rfl
theorem kw1486 : Jvm.Cond.instanceMethod ({ cls := "PlantKeeper$Machine", name := "change", desc := "(III)I" } : Jvm.MethodName) ∈ zk_BW := zk_inT 1486 (by decide +kernel) rfl
theorem kw1487 : Jvm.Cond.selects "PlantKeeper$Machine" ({ cls := "PlantKeeper$Machine", name := "change", desc := "(III)I" } : Jvm.MethodName) ({ cls := "PlantKeeper$Machine", name := "change", desc := "(III)I" } : Jvm.MethodName) ∈ zk_BW := zk_inT 1487 (by decide +kernel) rfl
theorem kw1488 : Jvm.Cond.code ({ cls := "PlantKeeper$Machine", name := "change", desc := "(III)I" } : Jvm.MethodName) prog_6_method_12_code (5 : Nat) (Option.some FieldType.int) ∈ zk_BW := zk_inT 1488 (by decide +kernel) rfl
theorem kw1490 : Jvm.Cond.instanceMethod ({ cls := "PlantKeeper", name := "get", desc := "(II)I" } : Jvm.MethodName) ∈ zk_BW := zk_inT 1490 (by decide +kernel) rfl
theorem kw1491 : Jvm.Cond.selects "PlantKeeper" ({ cls := "PlantKeeper", name := "get", desc := "(II)I" } : Jvm.MethodName) ({ cls := "PlantKeeper", name := "get", desc := "(II)I" } : Jvm.MethodName) ∈ zk_BW := zk_inT 1491 (by decide +kernel) rfl
theorem kw1492 : Jvm.Cond.code ({ cls := "PlantKeeper", name := "get", desc := "(II)I" } : Jvm.MethodName) prog_1_method_10_code (3 : Nat) (Option.some FieldType.int) ∈ zk_BW := zk_inT 1492 (by decide +kernel) rfl
theorem kw1493 : Jvm.Cond.methodLink "PlantKeeper" (187 : Nat) ({ cls := "PlantKeeper$Machine", name := "seen", desc := "(II)I" } : Jvm.MethodName) ∈ zk_BW := zk_inT 1493 (by decide +kernel) rfl
theorem kw1494 : Jvm.Cond.instanceMethod ({ cls := "PlantKeeper$Machine", name := "seen", desc := "(II)I" } : Jvm.MethodName) ∈ zk_BW := zk_inT 1494 (by decide +kernel) rfl
theorem kw1495 : Jvm.Cond.selects "PlantKeeper$Machine" ({ cls := "PlantKeeper$Machine", name := "seen", desc := "(II)I" } : Jvm.MethodName) ({ cls := "PlantKeeper$Machine", name := "seen", desc := "(II)I" } : Jvm.MethodName) ∈ zk_BW := zk_inT 1495 (by decide +kernel) rfl
theorem kw1496 : Jvm.Cond.code ({ cls := "PlantKeeper$Machine", name := "seen", desc := "(II)I" } : Jvm.MethodName) prog_6_method_11_code (4 : Nat) (Option.some FieldType.int) ∈ zk_BW := zk_inT 1496 (by decide +kernel) rfl
theorem kw1498 : Jvm.Cond.instanceMethod ({ cls := "PlantKeeper", name := "safe", desc := "(III)I" } : Jvm.MethodName) ∈ zk_BW := zk_inT 1498 (by decide +kernel) rfl
theorem kw1499 : Jvm.Cond.selects "PlantKeeper" ({ cls := "PlantKeeper", name := "safe", desc := "(III)I" } : Jvm.MethodName) ({ cls := "PlantKeeper", name := "safe", desc := "(III)I" } : Jvm.MethodName) ∈ zk_BW := zk_inT 1499 (by decide +kernel) rfl
theorem kw1500 : Jvm.Cond.code ({ cls := "PlantKeeper", name := "safe", desc := "(III)I" } : Jvm.MethodName) prog_1_method_11_code (4 : Nat) (Option.some FieldType.int) ∈ zk_BW := zk_inT 1500 (by decide +kernel) rfl
theorem kw1502 : Jvm.Cond.instanceMethod ({ cls := "PlantKeeper", name := "scan", desc := "(I)I" } : Jvm.MethodName) ∈ zk_BW := zk_inT 1502 (by decide +kernel) rfl
theorem kw1503 : Jvm.Cond.selects "PlantKeeper" ({ cls := "PlantKeeper", name := "scan", desc := "(I)I" } : Jvm.MethodName) ({ cls := "PlantKeeper", name := "scan", desc := "(I)I" } : Jvm.MethodName) ∈ zk_BW := zk_inT 1503 (by decide +kernel) rfl
theorem kw1504 : Jvm.Cond.code ({ cls := "PlantKeeper", name := "scan", desc := "(I)I" } : Jvm.MethodName) prog_1_method_14_code (2 : Nat) (Option.some FieldType.int) ∈ zk_BW := zk_inT 1504 (by decide +kernel) rfl
theorem kw1572 : Jvm.Cond.instanceMethod ({ cls := "PlantKeeper", name := "watch", desc := "()I" } : Jvm.MethodName) ∈ zk_BW := zk_inT 1572 (by decide +kernel) rfl
theorem kw1573 : Jvm.Cond.selects "PlantKeeper" ({ cls := "PlantKeeper", name := "watch", desc := "()I" } : Jvm.MethodName) ({ cls := "PlantKeeper", name := "watch", desc := "()I" } : Jvm.MethodName) ∈ zk_BW := zk_inT 1573 (by decide +kernel) rfl
theorem kw1574 : Jvm.Cond.code ({ cls := "PlantKeeper", name := "watch", desc := "()I" } : Jvm.MethodName) prog_1_method_15_code (2 : Nat) (Option.some FieldType.int) ∈ zk_BW := zk_inT 1574 (by decide +kernel) rfl
theorem kw1600 : Jvm.Cond.instanceMethod ({ cls := "PlantKeeper", name := "watched", desc := "()I" } : Jvm.MethodName) ∈ zk_BW := zk_inT 1600 (by decide +kernel) rfl
theorem kw1601 : Jvm.Cond.selects "PlantKeeper" ({ cls := "PlantKeeper", name := "watched", desc := "()I" } : Jvm.MethodName) ({ cls := "PlantKeeper", name := "watched", desc := "()I" } : Jvm.MethodName) ∈ zk_BW := zk_inT 1601 (by decide +kernel) rfl
theorem kw1602 : Jvm.Cond.code ({ cls := "PlantKeeper", name := "watched", desc := "()I" } : Jvm.MethodName) prog_1_method_20_code (1 : Nat) (Option.some FieldType.int) ∈ zk_BW := zk_inT 1602 (by decide +kernel) rfl
theorem kw1604 : Jvm.Cond.instanceMethod ({ cls := "PlantKeeper", name := "frame", desc := "()I" } : Jvm.MethodName) ∈ zk_BW := zk_inT 1604 (by decide +kernel) rfl
theorem kw1605 : Jvm.Cond.selects "PlantKeeper" ({ cls := "PlantKeeper", name := "frame", desc := "()I" } : Jvm.MethodName) ({ cls := "PlantKeeper", name := "frame", desc := "()I" } : Jvm.MethodName) ∈ zk_BW := zk_inT 1605 (by decide +kernel) rfl
theorem kw1606 : Jvm.Cond.code ({ cls := "PlantKeeper", name := "frame", desc := "()I" } : Jvm.MethodName) prog_1_method_21_code (2 : Nat) (Option.some FieldType.int) ∈ zk_BW := zk_inT 1606 (by decide +kernel) rfl
theorem kw1607 : Jvm.Cond.methodLink "PlantKeeper" (259 : Nat) ({ cls := "PlantKeeper$Line", name := "answer", desc := "([BI)I" } : Jvm.MethodName) ∈ zk_BW := zk_inT 1607 (by decide +kernel) rfl
theorem kw1608 : Jvm.Cond.instanceMethod ({ cls := "PlantKeeper$Line", name := "answer", desc := "([BI)I" } : Jvm.MethodName) ∈ zk_BW := zk_inT 1608 (by decide +kernel) rfl
theorem kw1609 : Jvm.Cond.selects "PlantKeeper$Line" ({ cls := "PlantKeeper$Line", name := "answer", desc := "([BI)I" } : Jvm.MethodName) ({ cls := "PlantKeeper$Line", name := "answer", desc := "([BI)I" } : Jvm.MethodName) ∈ zk_BW := zk_inT 1609 (by decide +kernel) rfl
theorem kw1610 : Jvm.Cond.code ({ cls := "PlantKeeper$Line", name := "answer", desc := "([BI)I" } : Jvm.MethodName) prog_5_method_2_code (8 : Nat) (Option.some FieldType.int) ∈ zk_BW := zk_inT 1610 (by decide +kernel) rfl
theorem kw1664 : Jvm.Cond.instanceMethod ({ cls := "PlantKeeper", name := "station", desc := "(I)I" } : Jvm.MethodName) ∈ zk_BW := zk_inT 1664 (by decide +kernel) rfl
theorem kw1665 : Jvm.Cond.selects "PlantKeeper" ({ cls := "PlantKeeper", name := "station", desc := "(I)I" } : Jvm.MethodName) ({ cls := "PlantKeeper", name := "station", desc := "(I)I" } : Jvm.MethodName) ∈ zk_BW := zk_inT 1665 (by decide +kernel) rfl
theorem kw1666 : Jvm.Cond.code ({ cls := "PlantKeeper", name := "station", desc := "(I)I" } : Jvm.MethodName) prog_1_method_22_code (3 : Nat) (Option.some FieldType.int) ∈ zk_BW := zk_inT 1666 (by decide +kernel) rfl
theorem kw1668 : Jvm.Cond.instanceMethod ({ cls := "PlantKeeper", name := "byteAt", desc := "(I)I" } : Jvm.MethodName) ∈ zk_BW := zk_inT 1668 (by decide +kernel) rfl
theorem kw1669 : Jvm.Cond.selects "PlantKeeper" ({ cls := "PlantKeeper", name := "byteAt", desc := "(I)I" } : Jvm.MethodName) ({ cls := "PlantKeeper", name := "byteAt", desc := "(I)I" } : Jvm.MethodName) ∈ zk_BW := zk_inT 1669 (by decide +kernel) rfl
theorem kw1670 : Jvm.Cond.code ({ cls := "PlantKeeper", name := "byteAt", desc := "(I)I" } : Jvm.MethodName) prog_1_method_23_code (2 : Nat) (Option.some FieldType.int) ∈ zk_BW := zk_inT 1670 (by decide +kernel) rfl
theorem kw1672 : Jvm.Cond.instanceMethod ({ cls := "PlantKeeper", name := "count", desc := "(I)I" } : Jvm.MethodName) ∈ zk_BW := zk_inT 1672 (by decide +kernel) rfl
theorem kw1673 : Jvm.Cond.selects "PlantKeeper" ({ cls := "PlantKeeper", name := "count", desc := "(I)I" } : Jvm.MethodName) ({ cls := "PlantKeeper", name := "count", desc := "(I)I" } : Jvm.MethodName) ∈ zk_BW := zk_inT 1673 (by decide +kernel) rfl
theorem kw1674 : Jvm.Cond.code ({ cls := "PlantKeeper", name := "count", desc := "(I)I" } : Jvm.MethodName) prog_1_method_24_code (2 : Nat) (Option.some FieldType.int) ∈ zk_BW := zk_inT 1674 (by decide +kernel) rfl
theorem kw1761 : Jvm.Cond.fieldLink "PlantKeeperModel" (844 : Nat) "PlantKeeperModel" "taped" "I" ∈ zk_BW := zk_inT 1761 (by decide +kernel) rfl
theorem kw1763 : Jvm.Cond.fieldLink "PlantKeeperModel" (856 : Nat) "PlantKeeperModel" "loadFault" "I" ∈ zk_BW := zk_inT 1763 (by decide +kernel) rfl
theorem kw1765 : Jvm.Cond.fieldLink "PlantKeeperModel" (874 : Nat) "PlantKeeperModel" "has" "Z" ∈ zk_BW := zk_inT 1765 (by decide +kernel) rfl
theorem kw1770 : Jvm.Cond.fieldLink "PlantKeeperModel" (937 : Nat) "PlantKeeperModel" "seen" "I" ∈ zk_BW := zk_inT 1770 (by decide +kernel) rfl
theorem kw1771 : Jvm.Cond.fieldLink "PlantKeeperModel" (956 : Nat) "PlantKeeperModel" "outSize" "I" ∈ zk_BW := zk_inT 1771 (by decide +kernel) rfl
theorem kw1777 : Jvm.Cond.fieldLink "PlantKeeperModel" (904 : Nat) "PlantKeeperModel" "pathEnd" "I" ∈ zk_BW := zk_inT 1777 (by decide +kernel) rfl
theorem kw1973 : Jvm.Cond.instanceMethod ({ cls := "PlantKeeperModel", name := "feed", desc := "(IIIII)I" } : Jvm.MethodName) ∈ zk_BW := zk_inT 1973 (by decide +kernel) rfl
theorem kw1974 : Jvm.Cond.selects "PlantKeeperModel" ({ cls := "PlantKeeperModel", name := "feed", desc := "(IIIII)I" } : Jvm.MethodName) ({ cls := "PlantKeeperModel", name := "feed", desc := "(IIIII)I" } : Jvm.MethodName) ∈ zk_BW := zk_inT 1974 (by decide +kernel) rfl
theorem kw1975 : Jvm.Cond.code ({ cls := "PlantKeeperModel", name := "feed", desc := "(IIIII)I" } : Jvm.MethodName) prog_14_method_162_code (6 : Nat) (Option.some FieldType.int) ∈ zk_BW := zk_inT 1975 (by decide +kernel) rfl
theorem kw1976 : Jvm.Cond.methodLink "PlantKeeperModel" (847 : Nat) ({ cls := "PlantKeeperModel", name := "bring", desc := "(I)V" } : Jvm.MethodName) ∈ zk_BW := zk_inT 1976 (by decide +kernel) rfl
theorem kw1978 : Jvm.Cond.instanceMethod ({ cls := "PlantKeeperModel", name := "bring", desc := "(I)V" } : Jvm.MethodName) ∈ zk_BW := zk_inT 1978 (by decide +kernel) rfl
theorem kw1979 : Jvm.Cond.code ({ cls := "PlantKeeperModel", name := "bring", desc := "(I)V" } : Jvm.MethodName) prog_14_method_161_code (3 : Nat) (Option.none : Option FieldType) ∈ zk_BW := zk_inT 1979 (by decide +kernel) rfl
theorem kw1981 : Jvm.Cond.instanceMethod ({ cls := "PlantKeeperModel", name := "end", desc := "(I)I" } : Jvm.MethodName) ∈ zk_BW := zk_inT 1981 (by decide +kernel) rfl
theorem kw1982 : Jvm.Cond.selects "PlantKeeperModel" ({ cls := "PlantKeeperModel", name := "end", desc := "(I)I" } : Jvm.MethodName) ({ cls := "PlantKeeperModel", name := "end", desc := "(I)I" } : Jvm.MethodName) ∈ zk_BW := zk_inT 1982 (by decide +kernel) rfl
theorem kw1983 : Jvm.Cond.code ({ cls := "PlantKeeperModel", name := "end", desc := "(I)I" } : Jvm.MethodName) prog_14_method_163_code (2 : Nat) (Option.some FieldType.int) ∈ zk_BW := zk_inT 1983 (by decide +kernel) rfl
theorem kw1988 : Jvm.Cond.constant "PlantKeeperModel" (498 : Nat) (100000 : Int32) ∈ zk_BW := zk_inT 1988 (by decide +kernel) rfl
theorem kw1989 : Jvm.Cond.methodLink "PlantKeeperModel" (850 : Nat) ({ cls := "PlantKeeperModel", name := "useTape", desc := "()I" } : Jvm.MethodName) ∈ zk_BW := zk_inT 1989 (by decide +kernel) rfl
theorem kw1991 : Jvm.Cond.instanceMethod ({ cls := "PlantKeeperModel", name := "useTape", desc := "()I" } : Jvm.MethodName) ∈ zk_BW := zk_inT 1991 (by decide +kernel) rfl
theorem kw1992 : Jvm.Cond.code ({ cls := "PlantKeeperModel", name := "useTape", desc := "()I" } : Jvm.MethodName) prog_14_method_164_code (2 : Nat) (Option.some FieldType.int) ∈ zk_BW := zk_inT 1992 (by decide +kernel) rfl
theorem kw2716 : Jvm.Cond.instanceMethod ({ cls := "PlantKeeperModel", name := "restart", desc := "()I" } : Jvm.MethodName) ∈ zk_BW := zk_inT 2716 (by decide +kernel) rfl
theorem kw2717 : Jvm.Cond.selects "PlantKeeperModel" ({ cls := "PlantKeeperModel", name := "restart", desc := "()I" } : Jvm.MethodName) ({ cls := "PlantKeeperModel", name := "restart", desc := "()I" } : Jvm.MethodName) ∈ zk_BW := zk_inT 2717 (by decide +kernel) rfl
theorem kw2718 : Jvm.Cond.code ({ cls := "PlantKeeperModel", name := "restart", desc := "()I" } : Jvm.MethodName) prog_14_method_169_code (1 : Nat) (Option.some FieldType.int) ∈ zk_BW := zk_inT 2718 (by decide +kernel) rfl
theorem kw2720 : Jvm.Cond.instanceMethod ({ cls := "PlantKeeperModel", name := "put", desc := "(III)I" } : Jvm.MethodName) ∈ zk_BW := zk_inT 2720 (by decide +kernel) rfl
theorem kw2721 : Jvm.Cond.selects "PlantKeeperModel" ({ cls := "PlantKeeperModel", name := "put", desc := "(III)I" } : Jvm.MethodName) ({ cls := "PlantKeeperModel", name := "put", desc := "(III)I" } : Jvm.MethodName) ∈ zk_BW := zk_inT 2721 (by decide +kernel) rfl
theorem kw2722 : Jvm.Cond.code ({ cls := "PlantKeeperModel", name := "put", desc := "(III)I" } : Jvm.MethodName) prog_14_method_173_code (4 : Nat) (Option.some FieldType.int) ∈ zk_BW := zk_inT 2722 (by decide +kernel) rfl
theorem kw2723 : Jvm.Cond.methodLink "PlantKeeperModel" (895 : Nat) ({ cls := "PlantKeeperModel", name := "noPlace", desc := "(II)Z" } : Jvm.MethodName) ∈ zk_BW := zk_inT 2723 (by decide +kernel) rfl
theorem kw2724 : Jvm.Cond.static ({ cls := "PlantKeeperModel", name := "noPlace", desc := "(II)Z" } : Jvm.MethodName) ∈ zk_BW := zk_inT 2724 (by decide +kernel) rfl
theorem kw2725 : Jvm.Cond.code ({ cls := "PlantKeeperModel", name := "noPlace", desc := "(II)Z" } : Jvm.MethodName) prog_14_method_170_code (2 : Nat) (Option.some FieldType.boolean) ∈ zk_BW := zk_inT 2725 (by decide +kernel) rfl
theorem kw2726 : Jvm.Cond.methodLink "PlantKeeperModel" (898 : Nat) ({ cls := "PlantKeeperModel", name := "noValue", desc := "(II)Z" } : Jvm.MethodName) ∈ zk_BW := zk_inT 2726 (by decide +kernel) rfl
theorem kw2727 : Jvm.Cond.static ({ cls := "PlantKeeperModel", name := "noValue", desc := "(II)Z" } : Jvm.MethodName) ∈ zk_BW := zk_inT 2727 (by decide +kernel) rfl
theorem kw2728 : Jvm.Cond.code ({ cls := "PlantKeeperModel", name := "noValue", desc := "(II)Z" } : Jvm.MethodName) prog_14_method_171_code (2 : Nat) (Option.some FieldType.boolean) ∈ zk_BW := zk_inT 2728 (by decide +kernel) rfl
theorem kw2729 : Jvm.Cond.methodLink "PlantKeeperModel" (901 : Nat) ({ cls := "PlantKeeperModel", name := "spot", desc := "(II)I" } : Jvm.MethodName) ∈ zk_BW := zk_inT 2729 (by decide +kernel) rfl
theorem kw2730 : Jvm.Cond.static ({ cls := "PlantKeeperModel", name := "spot", desc := "(II)I" } : Jvm.MethodName) ∈ zk_BW := zk_inT 2730 (by decide +kernel) rfl
theorem kw2731 : Jvm.Cond.code ({ cls := "PlantKeeperModel", name := "spot", desc := "(II)I" } : Jvm.MethodName) prog_14_method_172_code (2 : Nat) (Option.some FieldType.int) ∈ zk_BW := zk_inT 2731 (by decide +kernel) rfl
theorem kw2733 : Jvm.Cond.instanceMethod ({ cls := "PlantKeeperModel", name := "get", desc := "(II)I" } : Jvm.MethodName) ∈ zk_BW := zk_inT 2733 (by decide +kernel) rfl
theorem kw2734 : Jvm.Cond.selects "PlantKeeperModel" ({ cls := "PlantKeeperModel", name := "get", desc := "(II)I" } : Jvm.MethodName) ({ cls := "PlantKeeperModel", name := "get", desc := "(II)I" } : Jvm.MethodName) ∈ zk_BW := zk_inT 2734 (by decide +kernel) rfl
theorem kw2735 : Jvm.Cond.code ({ cls := "PlantKeeperModel", name := "get", desc := "(II)I" } : Jvm.MethodName) prog_14_method_174_code (3 : Nat) (Option.some FieldType.int) ∈ zk_BW := zk_inT 2735 (by decide +kernel) rfl
theorem kw2737 : Jvm.Cond.instanceMethod ({ cls := "PlantKeeperModel", name := "safe", desc := "(III)I" } : Jvm.MethodName) ∈ zk_BW := zk_inT 2737 (by decide +kernel) rfl
theorem kw2738 : Jvm.Cond.selects "PlantKeeperModel" ({ cls := "PlantKeeperModel", name := "safe", desc := "(III)I" } : Jvm.MethodName) ({ cls := "PlantKeeperModel", name := "safe", desc := "(III)I" } : Jvm.MethodName) ∈ zk_BW := zk_inT 2738 (by decide +kernel) rfl
theorem kw2739 : Jvm.Cond.code ({ cls := "PlantKeeperModel", name := "safe", desc := "(III)I" } : Jvm.MethodName) prog_14_method_175_code (4 : Nat) (Option.some FieldType.int) ∈ zk_BW := zk_inT 2739 (by decide +kernel) rfl
theorem kw2741 : Jvm.Cond.instanceMethod ({ cls := "PlantKeeperModel", name := "scan", desc := "(I)I" } : Jvm.MethodName) ∈ zk_BW := zk_inT 2741 (by decide +kernel) rfl
theorem kw2742 : Jvm.Cond.selects "PlantKeeperModel" ({ cls := "PlantKeeperModel", name := "scan", desc := "(I)I" } : Jvm.MethodName) ({ cls := "PlantKeeperModel", name := "scan", desc := "(I)I" } : Jvm.MethodName) ∈ zk_BW := zk_inT 2742 (by decide +kernel) rfl
theorem kw2743 : Jvm.Cond.code ({ cls := "PlantKeeperModel", name := "scan", desc := "(I)I" } : Jvm.MethodName) prog_14_method_176_code (3 : Nat) (Option.some FieldType.int) ∈ zk_BW := zk_inT 2743 (by decide +kernel) rfl
theorem kw2773 : Jvm.Cond.instanceMethod ({ cls := "PlantKeeperModel", name := "watch", desc := "()I" } : Jvm.MethodName) ∈ zk_BW := zk_inT 2773 (by decide +kernel) rfl
theorem kw2774 : Jvm.Cond.selects "PlantKeeperModel" ({ cls := "PlantKeeperModel", name := "watch", desc := "()I" } : Jvm.MethodName) ({ cls := "PlantKeeperModel", name := "watch", desc := "()I" } : Jvm.MethodName) ∈ zk_BW := zk_inT 2774 (by decide +kernel) rfl
theorem kw2775 : Jvm.Cond.code ({ cls := "PlantKeeperModel", name := "watch", desc := "()I" } : Jvm.MethodName) prog_14_method_182_code (6 : Nat) (Option.some FieldType.int) ∈ zk_BW := zk_inT 2775 (by decide +kernel) rfl
theorem kw2817 : Jvm.Cond.instanceMethod ({ cls := "PlantKeeperModel", name := "watched", desc := "()I" } : Jvm.MethodName) ∈ zk_BW := zk_inT 2817 (by decide +kernel) rfl
theorem kw2818 : Jvm.Cond.selects "PlantKeeperModel" ({ cls := "PlantKeeperModel", name := "watched", desc := "()I" } : Jvm.MethodName) ({ cls := "PlantKeeperModel", name := "watched", desc := "()I" } : Jvm.MethodName) ∈ zk_BW := zk_inT 2818 (by decide +kernel) rfl
theorem kw2819 : Jvm.Cond.code ({ cls := "PlantKeeperModel", name := "watched", desc := "()I" } : Jvm.MethodName) prog_14_method_187_code (1 : Nat) (Option.some FieldType.int) ∈ zk_BW := zk_inT 2819 (by decide +kernel) rfl
theorem kw2821 : Jvm.Cond.instanceMethod ({ cls := "PlantKeeperModel", name := "frame", desc := "()I" } : Jvm.MethodName) ∈ zk_BW := zk_inT 2821 (by decide +kernel) rfl
theorem kw2822 : Jvm.Cond.selects "PlantKeeperModel" ({ cls := "PlantKeeperModel", name := "frame", desc := "()I" } : Jvm.MethodName) ({ cls := "PlantKeeperModel", name := "frame", desc := "()I" } : Jvm.MethodName) ∈ zk_BW := zk_inT 2822 (by decide +kernel) rfl
theorem kw2823 : Jvm.Cond.code ({ cls := "PlantKeeperModel", name := "frame", desc := "()I" } : Jvm.MethodName) prog_14_method_192_code (6 : Nat) (Option.some FieldType.int) ∈ zk_BW := zk_inT 2823 (by decide +kernel) rfl
theorem kw2861 : Jvm.Cond.instanceMethod ({ cls := "PlantKeeperModel", name := "station", desc := "(I)I" } : Jvm.MethodName) ∈ zk_BW := zk_inT 2861 (by decide +kernel) rfl
theorem kw2862 : Jvm.Cond.selects "PlantKeeperModel" ({ cls := "PlantKeeperModel", name := "station", desc := "(I)I" } : Jvm.MethodName) ({ cls := "PlantKeeperModel", name := "station", desc := "(I)I" } : Jvm.MethodName) ∈ zk_BW := zk_inT 2862 (by decide +kernel) rfl
theorem kw2863 : Jvm.Cond.code ({ cls := "PlantKeeperModel", name := "station", desc := "(I)I" } : Jvm.MethodName) prog_14_method_198_code (3 : Nat) (Option.some FieldType.int) ∈ zk_BW := zk_inT 2863 (by decide +kernel) rfl
theorem kw2865 : Jvm.Cond.instanceMethod ({ cls := "PlantKeeperModel", name := "byteAt", desc := "(I)I" } : Jvm.MethodName) ∈ zk_BW := zk_inT 2865 (by decide +kernel) rfl
theorem kw2866 : Jvm.Cond.selects "PlantKeeperModel" ({ cls := "PlantKeeperModel", name := "byteAt", desc := "(I)I" } : Jvm.MethodName) ({ cls := "PlantKeeperModel", name := "byteAt", desc := "(I)I" } : Jvm.MethodName) ∈ zk_BW := zk_inT 2866 (by decide +kernel) rfl
theorem kw2867 : Jvm.Cond.code ({ cls := "PlantKeeperModel", name := "byteAt", desc := "(I)I" } : Jvm.MethodName) prog_14_method_199_code (2 : Nat) (Option.some FieldType.int) ∈ zk_BW := zk_inT 2867 (by decide +kernel) rfl
theorem kw2869 : Jvm.Cond.instanceMethod ({ cls := "PlantKeeperModel", name := "count", desc := "(I)I" } : Jvm.MethodName) ∈ zk_BW := zk_inT 2869 (by decide +kernel) rfl
theorem kw2870 : Jvm.Cond.selects "PlantKeeperModel" ({ cls := "PlantKeeperModel", name := "count", desc := "(I)I" } : Jvm.MethodName) ({ cls := "PlantKeeperModel", name := "count", desc := "(I)I" } : Jvm.MethodName) ∈ zk_BW := zk_inT 2870 (by decide +kernel) rfl
theorem kw2871 : Jvm.Cond.code ({ cls := "PlantKeeperModel", name := "count", desc := "(I)I" } : Jvm.MethodName) prog_14_method_200_code (2 : Nat) (Option.some FieldType.int) ∈ zk_BW := zk_inT 2871 (by decide +kernel) rfl
abbrev kc_Pk_watched : ByteArray := prog_1_method_20_code
def km_Pk_watched : zk_MT := (⟨"PlantKeeper", "watched", "()I"⟩, kc_Pk_watched, 1, some .int, 0)
theorem ku_Pk_watched : zk_My km_Pk_watched := ⟨kw1602, kw1, by decide, by decide, by decide, by decide +kernel⟩
theorem kv_Pk_watched : zk_Mv km_Pk_watched := ⟨kw1600, kw1601⟩
abbrev kc_Pk_end : ByteArray := prog_1_method_4_code
def km_Pk_end : zk_MT := (⟨"PlantKeeper", "end", "(I)I"⟩, kc_Pk_end, 2, some .int, 1)
theorem ku_Pk_end : zk_My km_Pk_end := ⟨kw679, kw1, by decide, by decide, by decide, by decide +kernel⟩
theorem kv_Pk_end : zk_Mv km_Pk_end := ⟨kw677, kw678⟩
abbrev kc_Pk_restart : ByteArray := prog_1_method_8_code
def km_Pk_restart : zk_MT := (⟨"PlantKeeper", "restart", "()I"⟩, kc_Pk_restart, 1, some .int, 0)
theorem ku_Pk_restart : zk_My km_Pk_restart := ⟨kw1472, kw1, by decide, by decide, by decide, by decide +kernel⟩
theorem kv_Pk_restart : zk_Mv km_Pk_restart := ⟨kw1470, kw1471⟩
abbrev kc_Pk_scan : ByteArray := prog_1_method_14_code
def km_Pk_scan : zk_MT := (⟨"PlantKeeper", "scan", "(I)I"⟩, kc_Pk_scan, 2, some .int, 1)
theorem ku_Pk_scan : zk_My km_Pk_scan := ⟨kw1504, kw1, by decide, by decide, by decide, by decide +kernel⟩
theorem kv_Pk_scan : zk_Mv km_Pk_scan := ⟨kw1502, kw1503⟩
abbrev kc_Pk_watch : ByteArray := prog_1_method_15_code
def km_Pk_watch : zk_MT := (⟨"PlantKeeper", "watch", "()I"⟩, kc_Pk_watch, 2, some .int, 0)
theorem ku_Pk_watch : zk_My km_Pk_watch := ⟨kw1574, kw1, by decide, by decide, by decide, by decide +kernel⟩
theorem kv_Pk_watch : zk_Mv km_Pk_watch := ⟨kw1572, kw1573⟩
abbrev kc_Pk_station : ByteArray := prog_1_method_22_code
def km_Pk_station : zk_MT := (⟨"PlantKeeper", "station", "(I)I"⟩, kc_Pk_station, 3, some .int, 1)
theorem ku_Pk_station : zk_My km_Pk_station := ⟨kw1666, kw1, by decide, by decide, by decide, by decide +kernel⟩
theorem kv_Pk_station : zk_Mv km_Pk_station := ⟨kw1664, kw1665⟩
abbrev kc_Pk_byteAt : ByteArray := prog_1_method_23_code
def km_Pk_byteAt : zk_MT := (⟨"PlantKeeper", "byteAt", "(I)I"⟩, kc_Pk_byteAt, 2, some .int, 1)
theorem ku_Pk_byteAt : zk_My km_Pk_byteAt := ⟨kw1670, kw1, by decide, by decide, by decide, by decide +kernel⟩
theorem kv_Pk_byteAt : zk_Mv km_Pk_byteAt := ⟨kw1668, kw1669⟩
abbrev kc_Pk_count : ByteArray := prog_1_method_24_code
def km_Pk_count : zk_MT := (⟨"PlantKeeper", "count", "(I)I"⟩, kc_Pk_count, 2, some .int, 1)
theorem ku_Pk_count : zk_My km_Pk_count := ⟨kw1674, kw1, by decide, by decide, by decide, by decide +kernel⟩
theorem kv_Pk_count : zk_Mv km_Pk_count := ⟨kw1672, kw1673⟩
abbrev kc_Pk_isPlace : ByteArray := prog_1_method_12_code
def km_Pk_isPlace : zk_MT := (⟨"PlantKeeper", "isPlace", "(II)Z"⟩, kc_Pk_isPlace, 2, some .boolean, 2)
theorem ku_Pk_isPlace : zk_My km_Pk_isPlace := ⟨kw1480, kw1, by decide, by decide, by decide, by decide +kernel⟩
theorem ks_Pk_isPlace : Cond.static km_Pk_isPlace.1 ∈ zk_BW := kw1479
abbrev kc_Pk_isValue : ByteArray := prog_1_method_13_code
def km_Pk_isValue : zk_MT := (⟨"PlantKeeper", "isValue", "(II)Z"⟩, kc_Pk_isValue, 2, some .boolean, 2)
theorem ku_Pk_isValue : zk_My km_Pk_isValue := ⟨kw1484, kw1, by decide, by decide, by decide, by decide +kernel⟩
theorem ks_Pk_isValue : Cond.static km_Pk_isValue.1 ∈ zk_BW := kw1483
abbrev kc_Mc_change : ByteArray := prog_6_method_12_code
def km_Mc_change : zk_MT := (⟨"PlantKeeper$Machine", "change", "(III)I"⟩, kc_Mc_change, 5, some .int, 3)
theorem ku_Mc_change : zk_My km_Mc_change := ⟨kw1488, kw15, by decide, by decide, by decide, by decide +kernel⟩
theorem kv_Mc_change : zk_Mv km_Mc_change := ⟨kw1486, kw1487⟩
abbrev kc_Mc_seen : ByteArray := prog_6_method_11_code
def km_Mc_seen : zk_MT := (⟨"PlantKeeper$Machine", "seen", "(II)I"⟩, kc_Mc_seen, 4, some .int, 2)
theorem ku_Mc_seen : zk_My km_Mc_seen := ⟨kw1496, kw15, by decide, by decide, by decide, by decide +kernel⟩
theorem kv_Mc_seen : zk_Mv km_Mc_seen := ⟨kw1494, kw1495⟩
abbrev kc_Pk_put : ByteArray := prog_1_method_9_code
def km_Pk_put : zk_MT := (⟨"PlantKeeper", "put", "(III)I"⟩, kc_Pk_put, 4, some .int, 3)
theorem ku_Pk_put : zk_My km_Pk_put := ⟨kw1477, kw1, by decide, by decide, by decide, by decide +kernel⟩
theorem kv_Pk_put : zk_Mv km_Pk_put := ⟨kw1475, kw1476⟩
abbrev kc_Pk_get : ByteArray := prog_1_method_10_code
def km_Pk_get : zk_MT := (⟨"PlantKeeper", "get", "(II)I"⟩, kc_Pk_get, 3, some .int, 2)
theorem ku_Pk_get : zk_My km_Pk_get := ⟨kw1492, kw1, by decide, by decide, by decide, by decide +kernel⟩
theorem kv_Pk_get : zk_Mv km_Pk_get := ⟨kw1490, kw1491⟩
abbrev kc_Pk_safe : ByteArray := prog_1_method_11_code
def km_Pk_safe : zk_MT := (⟨"PlantKeeper", "safe", "(III)I"⟩, kc_Pk_safe, 4, some .int, 3)
theorem ku_Pk_safe : zk_My km_Pk_safe := ⟨kw1500, kw1, by decide, by decide, by decide, by decide +kernel⟩
theorem kv_Pk_safe : zk_Mv km_Pk_safe := ⟨kw1498, kw1499⟩
abbrev kc_Ln_answer : ByteArray := prog_5_method_2_code
def km_Ln_answer : zk_MT := (⟨"PlantKeeper$Line", "answer", "([BI)I"⟩, kc_Ln_answer, 8, some .int, 2)
theorem ku_Ln_answer : zk_My km_Ln_answer := ⟨kw1610, kw16, by decide, by decide, by decide, by decide +kernel⟩
theorem kv_Ln_answer : zk_Mv km_Ln_answer := ⟨kw1608, kw1609⟩
abbrev kc_Pk_frame : ByteArray := prog_1_method_21_code
def km_Pk_frame : zk_MT := (⟨"PlantKeeper", "frame", "()I"⟩, kc_Pk_frame, 2, some .int, 0)
theorem ku_Pk_frame : zk_My km_Pk_frame := ⟨kw1606, kw1, by decide, by decide, by decide, by decide +kernel⟩
theorem kv_Pk_frame : zk_Mv km_Pk_frame := ⟨kw1604, kw1605⟩
abbrev kc_Pk_append : ByteArray := prog_1_method_3_code
def km_Pk_append : zk_MT := (⟨"PlantKeeper", "append", "(I)V"⟩, kc_Pk_append, 3, none, 1)
theorem ku_Pk_append : zk_My km_Pk_append := ⟨kw675, kw1, by decide, by decide, by decide, by decide +kernel⟩
theorem kv_Pk_append : zk_Mv km_Pk_append := ⟨kw674, zk_inS 0 (q := (⟨"PlantKeeper", "append", "(I)V"⟩, 16)) (by decide +kernel)⟩
abbrev kc_Pk_feed : ByteArray := prog_1_method_2_code
def km_Pk_feed : zk_MT := (⟨"PlantKeeper", "feed", "(IIIII)I"⟩, kc_Pk_feed, 6, some .int, 5)
theorem ku_Pk_feed : zk_My km_Pk_feed := ⟨kw671, kw1, by decide, by decide, by decide, by decide +kernel⟩
theorem kv_Pk_feed : zk_Mv km_Pk_feed := ⟨kw669, kw670⟩
abbrev kc_Mo_watched : ByteArray := prog_14_method_187_code
def km_Mo_watched : zk_MT := (⟨"PlantKeeperModel", "watched", "()I"⟩, kc_Mo_watched, 1, some .int, 0)
theorem ku_Mo_watched : zk_My km_Mo_watched := ⟨kw2819, kw17, by decide, by decide, by decide, by decide +kernel⟩
theorem kv_Mo_watched : zk_Mv km_Mo_watched := ⟨kw2817, kw2818⟩
abbrev kc_Mo_end : ByteArray := prog_14_method_163_code
def km_Mo_end : zk_MT := (⟨"PlantKeeperModel", "end", "(I)I"⟩, kc_Mo_end, 2, some .int, 1)
theorem ku_Mo_end : zk_My km_Mo_end := ⟨kw1983, kw17, by decide, by decide, by decide, by decide +kernel⟩
theorem kv_Mo_end : zk_Mv km_Mo_end := ⟨kw1981, kw1982⟩
abbrev kc_Mo_restart : ByteArray := prog_14_method_169_code
def km_Mo_restart : zk_MT := (⟨"PlantKeeperModel", "restart", "()I"⟩, kc_Mo_restart, 1, some .int, 0)
theorem ku_Mo_restart : zk_My km_Mo_restart := ⟨kw2718, kw17, by decide, by decide, by decide, by decide +kernel⟩
theorem kv_Mo_restart : zk_Mv km_Mo_restart := ⟨kw2716, kw2717⟩
abbrev kc_Mo_scan : ByteArray := prog_14_method_176_code
def km_Mo_scan : zk_MT := (⟨"PlantKeeperModel", "scan", "(I)I"⟩, kc_Mo_scan, 3, some .int, 1)
theorem ku_Mo_scan : zk_My km_Mo_scan := ⟨kw2743, kw17, by decide, by decide, by decide, by decide +kernel⟩
theorem kv_Mo_scan : zk_Mv km_Mo_scan := ⟨kw2741, kw2742⟩
abbrev kc_Mo_useTape : ByteArray := prog_14_method_164_code
def km_Mo_useTape : zk_MT := (⟨"PlantKeeperModel", "useTape", "()I"⟩, kc_Mo_useTape, 2, some .int, 0)
theorem ku_Mo_useTape : zk_My km_Mo_useTape := ⟨kw1992, kw17, by decide, by decide, by decide, by decide +kernel⟩
theorem kv_Mo_useTape : zk_Mv km_Mo_useTape := ⟨kw1991, zk_inS 147 (q := (⟨"PlantKeeperModel", "useTape", "()I"⟩, 96)) (by decide +kernel)⟩
abbrev kc_Mo_watch : ByteArray := prog_14_method_182_code
def km_Mo_watch : zk_MT := (⟨"PlantKeeperModel", "watch", "()I"⟩, kc_Mo_watch, 6, some .int, 0)
theorem ku_Mo_watch : zk_My km_Mo_watch := ⟨kw2775, kw17, by decide, by decide, by decide, by decide +kernel⟩
theorem kv_Mo_watch : zk_Mv km_Mo_watch := ⟨kw2773, kw2774⟩
abbrev kc_Mo_frame : ByteArray := prog_14_method_192_code
def km_Mo_frame : zk_MT := (⟨"PlantKeeperModel", "frame", "()I"⟩, kc_Mo_frame, 6, some .int, 0)
theorem ku_Mo_frame : zk_My km_Mo_frame := ⟨kw2823, kw17, by decide, by decide, by decide, by decide +kernel⟩
theorem kv_Mo_frame : zk_Mv km_Mo_frame := ⟨kw2821, kw2822⟩
abbrev kc_Mo_station : ByteArray := prog_14_method_198_code
def km_Mo_station : zk_MT := (⟨"PlantKeeperModel", "station", "(I)I"⟩, kc_Mo_station, 3, some .int, 1)
theorem ku_Mo_station : zk_My km_Mo_station := ⟨kw2863, kw17, by decide, by decide, by decide, by decide +kernel⟩
theorem kv_Mo_station : zk_Mv km_Mo_station := ⟨kw2861, kw2862⟩
abbrev kc_Mo_byteAt : ByteArray := prog_14_method_199_code
def km_Mo_byteAt : zk_MT := (⟨"PlantKeeperModel", "byteAt", "(I)I"⟩, kc_Mo_byteAt, 2, some .int, 1)
theorem ku_Mo_byteAt : zk_My km_Mo_byteAt := ⟨kw2867, kw17, by decide, by decide, by decide, by decide +kernel⟩
theorem kv_Mo_byteAt : zk_Mv km_Mo_byteAt := ⟨kw2865, kw2866⟩
abbrev kc_Mo_count : ByteArray := prog_14_method_200_code
def km_Mo_count : zk_MT := (⟨"PlantKeeperModel", "count", "(I)I"⟩, kc_Mo_count, 2, some .int, 1)
theorem ku_Mo_count : zk_My km_Mo_count := ⟨kw2871, kw17, by decide, by decide, by decide, by decide +kernel⟩
theorem kv_Mo_count : zk_Mv km_Mo_count := ⟨kw2869, kw2870⟩
abbrev kc_Mo_noPlace : ByteArray := prog_14_method_170_code
def km_Mo_noPlace : zk_MT := (⟨"PlantKeeperModel", "noPlace", "(II)Z"⟩, kc_Mo_noPlace, 2, some .boolean, 2)
theorem ku_Mo_noPlace : zk_My km_Mo_noPlace := ⟨kw2725, kw17, by decide, by decide, by decide, by decide +kernel⟩
theorem ks_Mo_noPlace : Cond.static km_Mo_noPlace.1 ∈ zk_BW := kw2724
abbrev kc_Mo_noValue : ByteArray := prog_14_method_171_code
def km_Mo_noValue : zk_MT := (⟨"PlantKeeperModel", "noValue", "(II)Z"⟩, kc_Mo_noValue, 2, some .boolean, 2)
theorem ku_Mo_noValue : zk_My km_Mo_noValue := ⟨kw2728, kw17, by decide, by decide, by decide, by decide +kernel⟩
theorem ks_Mo_noValue : Cond.static km_Mo_noValue.1 ∈ zk_BW := kw2727
abbrev kc_Mo_spot : ByteArray := prog_14_method_172_code
def km_Mo_spot : zk_MT := (⟨"PlantKeeperModel", "spot", "(II)I"⟩, kc_Mo_spot, 2, some .int, 2)
theorem ku_Mo_spot : zk_My km_Mo_spot := ⟨kw2731, kw17, by decide, by decide, by decide, by decide +kernel⟩
theorem ks_Mo_spot : Cond.static km_Mo_spot.1 ∈ zk_BW := kw2730
abbrev kc_Mo_put : ByteArray := prog_14_method_173_code
def km_Mo_put : zk_MT := (⟨"PlantKeeperModel", "put", "(III)I"⟩, kc_Mo_put, 4, some .int, 3)
theorem ku_Mo_put : zk_My km_Mo_put := ⟨kw2722, kw17, by decide, by decide, by decide, by decide +kernel⟩
theorem kv_Mo_put : zk_Mv km_Mo_put := ⟨kw2720, kw2721⟩
abbrev kc_Mo_get : ByteArray := prog_14_method_174_code
def km_Mo_get : zk_MT := (⟨"PlantKeeperModel", "get", "(II)I"⟩, kc_Mo_get, 3, some .int, 2)
theorem ku_Mo_get : zk_My km_Mo_get := ⟨kw2735, kw17, by decide, by decide, by decide, by decide +kernel⟩
theorem kv_Mo_get : zk_Mv km_Mo_get := ⟨kw2733, kw2734⟩
abbrev kc_Mo_safe : ByteArray := prog_14_method_175_code
def km_Mo_safe : zk_MT := (⟨"PlantKeeperModel", "safe", "(III)I"⟩, kc_Mo_safe, 4, some .int, 3)
theorem ku_Mo_safe : zk_My km_Mo_safe := ⟨kw2739, kw17, by decide, by decide, by decide, by decide +kernel⟩
theorem kv_Mo_safe : zk_Mv km_Mo_safe := ⟨kw2737, kw2738⟩
abbrev kc_Mo_bring : ByteArray := prog_14_method_161_code
def km_Mo_bring : zk_MT := (⟨"PlantKeeperModel", "bring", "(I)V"⟩, kc_Mo_bring, 3, none, 1)
theorem ku_Mo_bring : zk_My km_Mo_bring := ⟨kw1979, kw17, by decide, by decide, by decide, by decide +kernel⟩
theorem kv_Mo_bring : zk_Mv km_Mo_bring := ⟨kw1978, zk_inS 146 (q := (⟨"PlantKeeperModel", "bring", "(I)V"⟩, 96)) (by decide +kernel)⟩
abbrev kc_Mo_feed : ByteArray := prog_14_method_162_code
def km_Mo_feed : zk_MT := (⟨"PlantKeeperModel", "feed", "(IIIII)I"⟩, kc_Mo_feed, 6, some .int, 5)
theorem ku_Mo_feed : zk_My km_Mo_feed := ⟨kw1975, kw17, by decide, by decide, by decide, by decide +kernel⟩
theorem kv_Mo_feed : zk_Mv km_Mo_feed := ⟨kw1973, kw1974⟩
theorem kd_Pk_watched_0 : decode kc_Pk_watched 0 = .ok (.aload_n 0, 1) := by decide +kernel
theorem kd_Pk_watched_1 : decode kc_Pk_watched 1 = .ok (.getfield 253, 3) := by decide +kernel
theorem kd_Pk_watched_4 : decode kc_Pk_watched 4 = .ok (.ireturn, 1) := by decide +kernel
theorem kd_Pk_end_0 : decode kc_Pk_end 0 = .ok (.iload_n 1, 1) := by decide +kernel
theorem kd_Pk_end_1 : decode kc_Pk_end 1 = .ok (.ifCond .lt 18, 3) := by decide +kernel
theorem kd_Pk_end_4 : decode kc_Pk_end 4 = .ok (.iload_n 1, 1) := by decide +kernel
theorem kd_Pk_end_5 : decode kc_Pk_end 5 = .ok (.bipush 20, 2) := by decide +kernel
theorem kd_Pk_end_7 : decode kc_Pk_end 7 = .ok (.if_icmp .gt 12, 3) := by decide +kernel
theorem kd_Pk_end_10 : decode kc_Pk_end 10 = .ok (.aload_n 0, 1) := by decide +kernel
theorem kd_Pk_end_11 : decode kc_Pk_end 11 = .ok (.getfield 108, 3) := by decide +kernel
theorem kd_Pk_end_14 : decode kc_Pk_end 14 = .ok (.bipush 20, 2) := by decide +kernel
theorem kd_Pk_end_16 : decode kc_Pk_end 16 = .ok (.if_icmp .ge 5, 3) := by decide +kernel
theorem kd_Pk_end_19 : decode kc_Pk_end 19 = .ok (.iconst (-1), 1) := by decide +kernel
theorem kd_Pk_end_20 : decode kc_Pk_end 20 = .ok (.ireturn, 1) := by decide +kernel
theorem kd_Pk_end_21 : decode kc_Pk_end 21 = .ok (.aload_n 0, 1) := by decide +kernel
theorem kd_Pk_end_22 : decode kc_Pk_end 22 = .ok (.aload_n 0, 1) := by decide +kernel
theorem kd_Pk_end_23 : decode kc_Pk_end 23 = .ok (.getfield 108, 3) := by decide +kernel
theorem kd_Pk_end_26 : decode kc_Pk_end 26 = .ok (.bipush 20, 2) := by decide +kernel
theorem kd_Pk_end_28 : decode kc_Pk_end 28 = .ok (.isub, 1) := by decide +kernel
theorem kd_Pk_end_29 : decode kc_Pk_end 29 = .ok (.iload_n 1, 1) := by decide +kernel
theorem kd_Pk_end_30 : decode kc_Pk_end 30 = .ok (.iadd, 1) := by decide +kernel
theorem kd_Pk_end_31 : decode kc_Pk_end 31 = .ok (.putfield 108, 3) := by decide +kernel
theorem kd_Pk_end_34 : decode kc_Pk_end 34 = .ok (.aload_n 0, 1) := by decide +kernel
theorem kd_Pk_end_35 : decode kc_Pk_end 35 = .ok (.getfield 108, 3) := by decide +kernel
theorem kd_Pk_end_38 : decode kc_Pk_end 38 = .ok (.ireturn, 1) := by decide +kernel
theorem kd_Pk_restart_0 : decode kc_Pk_restart 0 = .ok (.aload_n 0, 1) := by decide +kernel
theorem kd_Pk_restart_1 : decode kc_Pk_restart 1 = .ok (.getfield 95, 3) := by decide +kernel
theorem kd_Pk_restart_4 : decode kc_Pk_restart 4 = .ok (.getfield 169, 3) := by decide +kernel
theorem kd_Pk_restart_7 : decode kc_Pk_restart 7 = .ok (.ifCond .ne 6, 3) := by decide +kernel
theorem kd_Pk_restart_10 : decode kc_Pk_restart 10 = .ok (.bipush (-5), 2) := by decide +kernel
theorem kd_Pk_restart_12 : decode kc_Pk_restart 12 = .ok (.ireturn, 1) := by decide +kernel
theorem kd_Pk_restart_13 : decode kc_Pk_restart 13 = .ok (.aload_n 0, 1) := by decide +kernel
theorem kd_Pk_restart_14 : decode kc_Pk_restart 14 = .ok (.getfield 95, 3) := by decide +kernel
theorem kd_Pk_restart_17 : decode kc_Pk_restart 17 = .ok (.invokevirtual 173, 3) := by decide +kernel
theorem kd_Pk_restart_20 : decode kc_Pk_restart 20 = .ok (.iconst 0, 1) := by decide +kernel
theorem kd_Pk_restart_21 : decode kc_Pk_restart 21 = .ok (.ireturn, 1) := by decide +kernel
theorem kd_Pk_scan_0 : decode kc_Pk_scan 0 = .ok (.iload_n 1, 1) := by decide +kernel
theorem kd_Pk_scan_1 : decode kc_Pk_scan 1 = .ok (.ifCond .lt 9, 3) := by decide +kernel
theorem kd_Pk_scan_4 : decode kc_Pk_scan 4 = .ok (.iload_n 1, 1) := by decide +kernel
theorem kd_Pk_scan_5 : decode kc_Pk_scan 5 = .ok (.ldc 115, 2) := by decide +kernel
theorem kd_Pk_scan_7 : decode kc_Pk_scan 7 = .ok (.if_icmp .le 5, 3) := by decide +kernel
theorem kd_Pk_scan_10 : decode kc_Pk_scan 10 = .ok (.iconst (-1), 1) := by decide +kernel
theorem kd_Pk_scan_11 : decode kc_Pk_scan 11 = .ok (.ireturn, 1) := by decide +kernel
theorem kd_Pk_scan_12 : decode kc_Pk_scan 12 = .ok (.aload_n 0, 1) := by decide +kernel
theorem kd_Pk_scan_13 : decode kc_Pk_scan 13 = .ok (.getfield 95, 3) := by decide +kernel
theorem kd_Pk_scan_16 : decode kc_Pk_scan 16 = .ok (.getfield 169, 3) := by decide +kernel
theorem kd_Pk_scan_19 : decode kc_Pk_scan 19 = .ok (.ifCond .ne 6, 3) := by decide +kernel
theorem kd_Pk_scan_22 : decode kc_Pk_scan 22 = .ok (.bipush (-5), 2) := by decide +kernel
theorem kd_Pk_scan_24 : decode kc_Pk_scan 24 = .ok (.ireturn, 1) := by decide +kernel
theorem kd_Pk_scan_25 : decode kc_Pk_scan 25 = .ok (.aload_n 0, 1) := by decide +kernel
theorem kd_Pk_scan_26 : decode kc_Pk_scan 26 = .ok (.getfield 95, 3) := by decide +kernel
theorem kd_Pk_scan_29 : decode kc_Pk_scan 29 = .ok (.getfield 197, 3) := by decide +kernel
theorem kd_Pk_scan_32 : decode kc_Pk_scan 32 = .ok (.ifCond .eq 8, 3) := by decide +kernel
theorem kd_Pk_scan_35 : decode kc_Pk_scan 35 = .ok (.bipush (-2), 2) := by decide +kernel
theorem kd_Pk_scan_37 : decode kc_Pk_scan 37 = .ok (.goto 11, 3) := by decide +kernel
theorem kd_Pk_scan_40 : decode kc_Pk_scan 40 = .ok (.aload_n 0, 1) := by decide +kernel
theorem kd_Pk_scan_41 : decode kc_Pk_scan 41 = .ok (.getfield 95, 3) := by decide +kernel
theorem kd_Pk_scan_44 : decode kc_Pk_scan 44 = .ok (.iload_n 1, 1) := by decide +kernel
theorem kd_Pk_scan_45 : decode kc_Pk_scan 45 = .ok (.invokevirtual 200, 3) := by decide +kernel
theorem kd_Pk_scan_48 : decode kc_Pk_scan 48 = .ok (.ireturn, 1) := by decide +kernel
theorem kd_Pk_watch_0 : decode kc_Pk_watch 0 = .ok (.aload_n 0, 1) := by decide +kernel
theorem kd_Pk_watch_1 : decode kc_Pk_watch 1 = .ok (.getfield 108, 3) := by decide +kernel
theorem kd_Pk_watch_4 : decode kc_Pk_watch 4 = .ok (.istore_n 1, 1) := by decide +kernel
theorem kd_Pk_watch_5 : decode kc_Pk_watch 5 = .ok (.aload_n 0, 1) := by decide +kernel
theorem kd_Pk_watch_6 : decode kc_Pk_watch 6 = .ok (.iconst 0, 1) := by decide +kernel
theorem kd_Pk_watch_7 : decode kc_Pk_watch 7 = .ok (.putfield 108, 3) := by decide +kernel
theorem kd_Pk_watch_10 : decode kc_Pk_watch 10 = .ok (.aload_n 0, 1) := by decide +kernel
theorem kd_Pk_watch_11 : decode kc_Pk_watch 11 = .ok (.getfield 95, 3) := by decide +kernel
theorem kd_Pk_watch_14 : decode kc_Pk_watch 14 = .ok (.getfield 169, 3) := by decide +kernel
theorem kd_Pk_watch_17 : decode kc_Pk_watch 17 = .ok (.ifCond .ne 6, 3) := by decide +kernel
theorem kd_Pk_watch_20 : decode kc_Pk_watch 20 = .ok (.bipush (-5), 2) := by decide +kernel
theorem kd_Pk_watch_22 : decode kc_Pk_watch 22 = .ok (.ireturn, 1) := by decide +kernel
theorem kd_Pk_watch_23 : decode kc_Pk_watch 23 = .ok (.aload_n 0, 1) := by decide +kernel
theorem kd_Pk_watch_24 : decode kc_Pk_watch 24 = .ok (.iload_n 1, 1) := by decide +kernel
theorem kd_Pk_watch_25 : decode kc_Pk_watch 25 = .ok (.invokevirtual 203, 3) := by decide +kernel
theorem kd_Pk_watch_28 : decode kc_Pk_watch 28 = .ok (.ireturn, 1) := by decide +kernel
theorem kd_Pk_station_0 : decode kc_Pk_station 0 = .ok (.iload_n 1, 1) := by decide +kernel
theorem kd_Pk_station_1 : decode kc_Pk_station 1 = .ok (.iconst 1, 1) := by decide +kernel
theorem kd_Pk_station_2 : decode kc_Pk_station 2 = .ok (.if_icmp .lt 10, 3) := by decide +kernel
theorem kd_Pk_station_5 : decode kc_Pk_station 5 = .ok (.iload_n 1, 1) := by decide +kernel
theorem kd_Pk_station_6 : decode kc_Pk_station 6 = .ok (.sipush 247, 3) := by decide +kernel
theorem kd_Pk_station_9 : decode kc_Pk_station 9 = .ok (.if_icmp .le 5, 3) := by decide +kernel
theorem kd_Pk_station_12 : decode kc_Pk_station 12 = .ok (.iconst (-1), 1) := by decide +kernel
theorem kd_Pk_station_13 : decode kc_Pk_station 13 = .ok (.ireturn, 1) := by decide +kernel
theorem kd_Pk_station_14 : decode kc_Pk_station 14 = .ok (.aload_n 0, 1) := by decide +kernel
theorem kd_Pk_station_15 : decode kc_Pk_station 15 = .ok (.getfield 104, 3) := by decide +kernel
theorem kd_Pk_station_18 : decode kc_Pk_station 18 = .ok (.getfield 263, 3) := by decide +kernel
theorem kd_Pk_station_21 : decode kc_Pk_station 21 = .ok (.istore_n 2, 1) := by decide +kernel
theorem kd_Pk_station_22 : decode kc_Pk_station 22 = .ok (.aload_n 0, 1) := by decide +kernel
theorem kd_Pk_station_23 : decode kc_Pk_station 23 = .ok (.getfield 104, 3) := by decide +kernel
theorem kd_Pk_station_26 : decode kc_Pk_station 26 = .ok (.iload_n 1, 1) := by decide +kernel
theorem kd_Pk_station_27 : decode kc_Pk_station 27 = .ok (.putfield 263, 3) := by decide +kernel
theorem kd_Pk_station_30 : decode kc_Pk_station 30 = .ok (.iload_n 2, 1) := by decide +kernel
theorem kd_Pk_station_31 : decode kc_Pk_station 31 = .ok (.ireturn, 1) := by decide +kernel
theorem kd_Pk_byteAt_0 : decode kc_Pk_byteAt 0 = .ok (.iload_n 1, 1) := by decide +kernel
theorem kd_Pk_byteAt_1 : decode kc_Pk_byteAt 1 = .ok (.ifCond .lt 14, 3) := by decide +kernel
theorem kd_Pk_byteAt_4 : decode kc_Pk_byteAt 4 = .ok (.iload_n 1, 1) := by decide +kernel
theorem kd_Pk_byteAt_5 : decode kc_Pk_byteAt 5 = .ok (.aload_n 0, 1) := by decide +kernel
theorem kd_Pk_byteAt_6 : decode kc_Pk_byteAt 6 = .ok (.getfield 104, 3) := by decide +kernel
theorem kd_Pk_byteAt_9 : decode kc_Pk_byteAt 9 = .ok (.getfield 266, 3) := by decide +kernel
theorem kd_Pk_byteAt_12 : decode kc_Pk_byteAt 12 = .ok (.if_icmp .lt 7, 3) := by decide +kernel
theorem kd_Pk_byteAt_15 : decode kc_Pk_byteAt 15 = .ok (.iconst (-1), 1) := by decide +kernel
theorem kd_Pk_byteAt_16 : decode kc_Pk_byteAt 16 = .ok (.goto 16, 3) := by decide +kernel
theorem kd_Pk_byteAt_19 : decode kc_Pk_byteAt 19 = .ok (.aload_n 0, 1) := by decide +kernel
theorem kd_Pk_byteAt_20 : decode kc_Pk_byteAt 20 = .ok (.getfield 104, 3) := by decide +kernel
theorem kd_Pk_byteAt_23 : decode kc_Pk_byteAt 23 = .ok (.getfield 269, 3) := by decide +kernel
theorem kd_Pk_byteAt_26 : decode kc_Pk_byteAt 26 = .ok (.iload_n 1, 1) := by decide +kernel
theorem kd_Pk_byteAt_27 : decode kc_Pk_byteAt 27 = .ok (.baload, 1) := by decide +kernel
theorem kd_Pk_byteAt_28 : decode kc_Pk_byteAt 28 = .ok (.sipush 255, 3) := by decide +kernel
theorem kd_Pk_byteAt_31 : decode kc_Pk_byteAt 31 = .ok (.iand, 1) := by decide +kernel
theorem kd_Pk_byteAt_32 : decode kc_Pk_byteAt 32 = .ok (.ireturn, 1) := by decide +kernel
theorem kd_Pk_count_0 : decode kc_Pk_count 0 = .ok (.iload_n 1, 1) := by decide +kernel
theorem kd_Pk_count_1 : decode kc_Pk_count 1 = .ok (.tableswitch 165 0 9 #[55, 60, 65, 73, 95, 117, 125, 133, 141, 149], 55) := by decide +kernel
theorem kd_Pk_count_56 : decode kc_Pk_count 56 = .ok (.aload_n 0, 1) := by decide +kernel
theorem kd_Pk_count_57 : decode kc_Pk_count 57 = .ok (.getfield 119, 3) := by decide +kernel
theorem kd_Pk_count_60 : decode kc_Pk_count 60 = .ok (.ireturn, 1) := by decide +kernel
theorem kd_Pk_count_61 : decode kc_Pk_count 61 = .ok (.aload_n 0, 1) := by decide +kernel
theorem kd_Pk_count_62 : decode kc_Pk_count 62 = .ok (.getfield 13, 3) := by decide +kernel
theorem kd_Pk_count_65 : decode kc_Pk_count 65 = .ok (.ireturn, 1) := by decide +kernel
theorem kd_Pk_count_66 : decode kc_Pk_count 66 = .ok (.aload_n 0, 1) := by decide +kernel
theorem kd_Pk_count_67 : decode kc_Pk_count 67 = .ok (.getfield 95, 3) := by decide +kernel
theorem kd_Pk_count_70 : decode kc_Pk_count 70 = .ok (.getfield 272, 3) := by decide +kernel
theorem kd_Pk_count_73 : decode kc_Pk_count 73 = .ok (.ireturn, 1) := by decide +kernel
theorem kd_Pk_count_74 : decode kc_Pk_count 74 = .ok (.aload_n 0, 1) := by decide +kernel
theorem kd_Pk_count_75 : decode kc_Pk_count 75 = .ok (.getfield 95, 3) := by decide +kernel
theorem kd_Pk_count_78 : decode kc_Pk_count 78 = .ok (.getfield 169, 3) := by decide +kernel
theorem kd_Pk_count_81 : decode kc_Pk_count 81 = .ok (.ifCond .eq 13, 3) := by decide +kernel
theorem kd_Pk_count_84 : decode kc_Pk_count 84 = .ok (.aload_n 0, 1) := by decide +kernel
theorem kd_Pk_count_85 : decode kc_Pk_count 85 = .ok (.getfield 68, 3) := by decide +kernel
theorem kd_Pk_count_88 : decode kc_Pk_count 88 = .ok (.getfield 275, 3) := by decide +kernel
theorem kd_Pk_count_91 : decode kc_Pk_count 91 = .ok (.goto 4, 3) := by decide +kernel
theorem kd_Pk_count_94 : decode kc_Pk_count 94 = .ok (.iconst 0, 1) := by decide +kernel
theorem kd_Pk_count_95 : decode kc_Pk_count 95 = .ok (.ireturn, 1) := by decide +kernel
theorem kd_Pk_count_96 : decode kc_Pk_count 96 = .ok (.aload_n 0, 1) := by decide +kernel
theorem kd_Pk_count_97 : decode kc_Pk_count 97 = .ok (.getfield 95, 3) := by decide +kernel
theorem kd_Pk_count_100 : decode kc_Pk_count 100 = .ok (.getfield 169, 3) := by decide +kernel
theorem kd_Pk_count_103 : decode kc_Pk_count 103 = .ok (.ifCond .eq 13, 3) := by decide +kernel
theorem kd_Pk_count_106 : decode kc_Pk_count 106 = .ok (.aload_n 0, 1) := by decide +kernel
theorem kd_Pk_count_107 : decode kc_Pk_count 107 = .ok (.getfield 52, 3) := by decide +kernel
theorem kd_Pk_count_110 : decode kc_Pk_count 110 = .ok (.getfield 278, 3) := by decide +kernel
theorem kd_Pk_count_113 : decode kc_Pk_count 113 = .ok (.goto 4, 3) := by decide +kernel
theorem kd_Pk_count_116 : decode kc_Pk_count 116 = .ok (.iconst 0, 1) := by decide +kernel
theorem kd_Pk_count_117 : decode kc_Pk_count 117 = .ok (.ireturn, 1) := by decide +kernel
theorem kd_Pk_count_118 : decode kc_Pk_count 118 = .ok (.aload_n 0, 1) := by decide +kernel
theorem kd_Pk_count_119 : decode kc_Pk_count 119 = .ok (.getfield 95, 3) := by decide +kernel
theorem kd_Pk_count_122 : decode kc_Pk_count 122 = .ok (.getfield 281, 3) := by decide +kernel
theorem kd_Pk_count_125 : decode kc_Pk_count 125 = .ok (.ireturn, 1) := by decide +kernel
theorem kd_Pk_count_126 : decode kc_Pk_count 126 = .ok (.aload_n 0, 1) := by decide +kernel
theorem kd_Pk_count_127 : decode kc_Pk_count 127 = .ok (.getfield 95, 3) := by decide +kernel
theorem kd_Pk_count_130 : decode kc_Pk_count 130 = .ok (.getfield 284, 3) := by decide +kernel
theorem kd_Pk_count_133 : decode kc_Pk_count 133 = .ok (.ireturn, 1) := by decide +kernel
theorem kd_Pk_count_134 : decode kc_Pk_count 134 = .ok (.aload_n 0, 1) := by decide +kernel
theorem kd_Pk_count_135 : decode kc_Pk_count 135 = .ok (.getfield 95, 3) := by decide +kernel
theorem kd_Pk_count_138 : decode kc_Pk_count 138 = .ok (.getfield 287, 3) := by decide +kernel
theorem kd_Pk_count_141 : decode kc_Pk_count 141 = .ok (.ireturn, 1) := by decide +kernel
theorem kd_Pk_count_142 : decode kc_Pk_count 142 = .ok (.aload_n 0, 1) := by decide +kernel
theorem kd_Pk_count_143 : decode kc_Pk_count 143 = .ok (.getfield 95, 3) := by decide +kernel
theorem kd_Pk_count_146 : decode kc_Pk_count 146 = .ok (.getfield 290, 3) := by decide +kernel
theorem kd_Pk_count_149 : decode kc_Pk_count 149 = .ok (.ireturn, 1) := by decide +kernel
theorem kd_Pk_count_150 : decode kc_Pk_count 150 = .ok (.aload_n 0, 1) := by decide +kernel
theorem kd_Pk_count_151 : decode kc_Pk_count 151 = .ok (.getfield 95, 3) := by decide +kernel
theorem kd_Pk_count_154 : decode kc_Pk_count 154 = .ok (.getfield 197, 3) := by decide +kernel
theorem kd_Pk_count_157 : decode kc_Pk_count 157 = .ok (.ifCond .eq 7, 3) := by decide +kernel
theorem kd_Pk_count_160 : decode kc_Pk_count 160 = .ok (.iconst 1, 1) := by decide +kernel
theorem kd_Pk_count_161 : decode kc_Pk_count 161 = .ok (.goto 4, 3) := by decide +kernel
theorem kd_Pk_count_164 : decode kc_Pk_count 164 = .ok (.iconst 0, 1) := by decide +kernel
theorem kd_Pk_count_165 : decode kc_Pk_count 165 = .ok (.ireturn, 1) := by decide +kernel
theorem kd_Pk_count_166 : decode kc_Pk_count 166 = .ok (.iconst (-1), 1) := by decide +kernel
theorem kd_Pk_count_167 : decode kc_Pk_count 167 = .ok (.ireturn, 1) := by decide +kernel
theorem kd_Pk_isPlace_0 : decode kc_Pk_isPlace 0 = .ok (.iload_n 0, 1) := by decide +kernel
theorem kd_Pk_isPlace_1 : decode kc_Pk_isPlace 1 = .ok (.ifCond .lt 33, 3) := by decide +kernel
theorem kd_Pk_isPlace_4 : decode kc_Pk_isPlace 4 = .ok (.iload_n 0, 1) := by decide +kernel
theorem kd_Pk_isPlace_5 : decode kc_Pk_isPlace 5 = .ok (.iconst 5, 1) := by decide +kernel
theorem kd_Pk_isPlace_6 : decode kc_Pk_isPlace 6 = .ok (.if_icmp .gt 28, 3) := by decide +kernel
theorem kd_Pk_isPlace_9 : decode kc_Pk_isPlace 9 = .ok (.iload_n 1, 1) := by decide +kernel
theorem kd_Pk_isPlace_10 : decode kc_Pk_isPlace 10 = .ok (.ifCond .lt 24, 3) := by decide +kernel
theorem kd_Pk_isPlace_13 : decode kc_Pk_isPlace 13 = .ok (.iload_n 1, 1) := by decide +kernel
theorem kd_Pk_isPlace_14 : decode kc_Pk_isPlace 14 = .ok (.getstatic 194, 3) := by decide +kernel
theorem kd_Pk_isPlace_17 : decode kc_Pk_isPlace 17 = .ok (.iload_n 0, 1) := by decide +kernel
theorem kd_Pk_isPlace_18 : decode kc_Pk_isPlace 18 = .ok (.iconst 1, 1) := by decide +kernel
theorem kd_Pk_isPlace_19 : decode kc_Pk_isPlace 19 = .ok (.iadd, 1) := by decide +kernel
theorem kd_Pk_isPlace_20 : decode kc_Pk_isPlace 20 = .ok (.iaload, 1) := by decide +kernel
theorem kd_Pk_isPlace_21 : decode kc_Pk_isPlace 21 = .ok (.getstatic 194, 3) := by decide +kernel
theorem kd_Pk_isPlace_24 : decode kc_Pk_isPlace 24 = .ok (.iload_n 0, 1) := by decide +kernel
theorem kd_Pk_isPlace_25 : decode kc_Pk_isPlace 25 = .ok (.iaload, 1) := by decide +kernel
theorem kd_Pk_isPlace_26 : decode kc_Pk_isPlace 26 = .ok (.isub, 1) := by decide +kernel
theorem kd_Pk_isPlace_27 : decode kc_Pk_isPlace 27 = .ok (.if_icmp .ge 7, 3) := by decide +kernel
theorem kd_Pk_isPlace_30 : decode kc_Pk_isPlace 30 = .ok (.iconst 1, 1) := by decide +kernel
theorem kd_Pk_isPlace_31 : decode kc_Pk_isPlace 31 = .ok (.goto 4, 3) := by decide +kernel
theorem kd_Pk_isPlace_34 : decode kc_Pk_isPlace 34 = .ok (.iconst 0, 1) := by decide +kernel
theorem kd_Pk_isPlace_35 : decode kc_Pk_isPlace 35 = .ok (.ireturn, 1) := by decide +kernel
theorem kd_Pk_isValue_0 : decode kc_Pk_isValue 0 = .ok (.iload_n 0, 1) := by decide +kernel
theorem kd_Pk_isValue_1 : decode kc_Pk_isValue 1 = .ok (.iconst 3, 1) := by decide +kernel
theorem kd_Pk_isValue_2 : decode kc_Pk_isValue 2 = .ok (.if_icmp .ge 20, 3) := by decide +kernel
theorem kd_Pk_isValue_5 : decode kc_Pk_isValue 5 = .ok (.iload_n 1, 1) := by decide +kernel
theorem kd_Pk_isValue_6 : decode kc_Pk_isValue 6 = .ok (.ifCond .eq 8, 3) := by decide +kernel
theorem kd_Pk_isValue_9 : decode kc_Pk_isValue 9 = .ok (.iload_n 1, 1) := by decide +kernel
theorem kd_Pk_isValue_10 : decode kc_Pk_isValue 10 = .ok (.iconst 1, 1) := by decide +kernel
theorem kd_Pk_isValue_11 : decode kc_Pk_isValue 11 = .ok (.if_icmp .ne 7, 3) := by decide +kernel
theorem kd_Pk_isValue_14 : decode kc_Pk_isValue 14 = .ok (.iconst 1, 1) := by decide +kernel
theorem kd_Pk_isValue_15 : decode kc_Pk_isValue 15 = .ok (.goto 26, 3) := by decide +kernel
theorem kd_Pk_isValue_18 : decode kc_Pk_isValue 18 = .ok (.iconst 0, 1) := by decide +kernel
theorem kd_Pk_isValue_19 : decode kc_Pk_isValue 19 = .ok (.goto 22, 3) := by decide +kernel
theorem kd_Pk_isValue_22 : decode kc_Pk_isValue 22 = .ok (.iload_n 1, 1) := by decide +kernel
theorem kd_Pk_isValue_23 : decode kc_Pk_isValue 23 = .ok (.sipush (-32768), 3) := by decide +kernel
theorem kd_Pk_isValue_26 : decode kc_Pk_isValue 26 = .ok (.if_icmp .lt 14, 3) := by decide +kernel
theorem kd_Pk_isValue_29 : decode kc_Pk_isValue 29 = .ok (.iload_n 1, 1) := by decide +kernel
theorem kd_Pk_isValue_30 : decode kc_Pk_isValue 30 = .ok (.sipush 32767, 3) := by decide +kernel
theorem kd_Pk_isValue_33 : decode kc_Pk_isValue 33 = .ok (.if_icmp .gt 7, 3) := by decide +kernel
theorem kd_Pk_isValue_36 : decode kc_Pk_isValue 36 = .ok (.iconst 1, 1) := by decide +kernel
theorem kd_Pk_isValue_37 : decode kc_Pk_isValue 37 = .ok (.goto 4, 3) := by decide +kernel
theorem kd_Pk_isValue_40 : decode kc_Pk_isValue 40 = .ok (.iconst 0, 1) := by decide +kernel
theorem kd_Pk_isValue_41 : decode kc_Pk_isValue 41 = .ok (.ireturn, 1) := by decide +kernel
theorem kd_Mc_change_0 : decode kc_Mc_change 0 = .ok (.getstatic 126, 3) := by decide +kernel
theorem kd_Mc_change_3 : decode kc_Mc_change 3 = .ok (.iload_n 1, 1) := by decide +kernel
theorem kd_Mc_change_4 : decode kc_Mc_change 4 = .ok (.iaload, 1) := by decide +kernel
theorem kd_Mc_change_5 : decode kc_Mc_change 5 = .ok (.iload_n 2, 1) := by decide +kernel
theorem kd_Mc_change_6 : decode kc_Mc_change 6 = .ok (.iadd, 1) := by decide +kernel
theorem kd_Mc_change_7 : decode kc_Mc_change 7 = .ok (.istore 4, 2) := by decide +kernel
theorem kd_Mc_change_9 : decode kc_Mc_change 9 = .ok (.iload_n 1, 1) := by decide +kernel
theorem kd_Mc_change_10 : decode kc_Mc_change 10 = .ok (.ifCond .eq 8, 3) := by decide +kernel
theorem kd_Mc_change_13 : decode kc_Mc_change 13 = .ok (.iload_n 1, 1) := by decide +kernel
theorem kd_Mc_change_14 : decode kc_Mc_change 14 = .ok (.iconst 3, 1) := by decide +kernel
theorem kd_Mc_change_15 : decode kc_Mc_change 15 = .ok (.if_icmp .ne 14, 3) := by decide +kernel
theorem kd_Mc_change_18 : decode kc_Mc_change 18 = .ok (.aload_n 0, 1) := by decide +kernel
theorem kd_Mc_change_19 : decode kc_Mc_change 19 = .ok (.getfield 19, 3) := by decide +kernel
theorem kd_Mc_change_22 : decode kc_Mc_change 22 = .ok (.iload 4, 2) := by decide +kernel
theorem kd_Mc_change_24 : decode kc_Mc_change 24 = .ok (.iload_n 3, 1) := by decide +kernel
theorem kd_Mc_change_25 : decode kc_Mc_change 25 = .ok (.iastore, 1) := by decide +kernel
theorem kd_Mc_change_26 : decode kc_Mc_change 26 = .ok (.goto 24, 3) := by decide +kernel
theorem kd_Mc_change_29 : decode kc_Mc_change 29 = .ok (.aload_n 0, 1) := by decide +kernel
theorem kd_Mc_change_30 : decode kc_Mc_change 30 = .ok (.getfield 41, 3) := by decide +kernel
theorem kd_Mc_change_33 : decode kc_Mc_change 33 = .ok (.ifCond .eq 14, 3) := by decide +kernel
theorem kd_Mc_change_36 : decode kc_Mc_change 36 = .ok (.aload_n 0, 1) := by decide +kernel
theorem kd_Mc_change_37 : decode kc_Mc_change 37 = .ok (.getfield 29, 3) := by decide +kernel
theorem kd_Mc_change_40 : decode kc_Mc_change 40 = .ok (.iload 4, 2) := by decide +kernel
theorem kd_Mc_change_42 : decode kc_Mc_change 42 = .ok (.iload_n 3, 1) := by decide +kernel
theorem kd_Mc_change_43 : decode kc_Mc_change 43 = .ok (.iastore, 1) := by decide +kernel
theorem kd_Mc_change_44 : decode kc_Mc_change 44 = .ok (.goto 6, 3) := by decide +kernel
theorem kd_Mc_change_47 : decode kc_Mc_change 47 = .ok (.bipush (-5), 2) := by decide +kernel
theorem kd_Mc_change_49 : decode kc_Mc_change 49 = .ok (.ireturn, 1) := by decide +kernel
theorem kd_Mc_change_50 : decode kc_Mc_change 50 = .ok (.iconst 0, 1) := by decide +kernel
theorem kd_Mc_change_51 : decode kc_Mc_change 51 = .ok (.ireturn, 1) := by decide +kernel
theorem kd_Mc_seen_0 : decode kc_Mc_seen 0 = .ok (.getstatic 126, 3) := by decide +kernel
theorem kd_Mc_seen_3 : decode kc_Mc_seen 3 = .ok (.iload_n 1, 1) := by decide +kernel
theorem kd_Mc_seen_4 : decode kc_Mc_seen 4 = .ok (.iaload, 1) := by decide +kernel
theorem kd_Mc_seen_5 : decode kc_Mc_seen 5 = .ok (.iload_n 2, 1) := by decide +kernel
theorem kd_Mc_seen_6 : decode kc_Mc_seen 6 = .ok (.iadd, 1) := by decide +kernel
theorem kd_Mc_seen_7 : decode kc_Mc_seen 7 = .ok (.istore_n 3, 1) := by decide +kernel
theorem kd_Mc_seen_8 : decode kc_Mc_seen 8 = .ok (.iload_n 1, 1) := by decide +kernel
theorem kd_Mc_seen_9 : decode kc_Mc_seen 9 = .ok (.iconst 2, 1) := by decide +kernel
theorem kd_Mc_seen_10 : decode kc_Mc_seen 10 = .ok (.if_icmp .eq 8, 3) := by decide +kernel
theorem kd_Mc_seen_13 : decode kc_Mc_seen 13 = .ok (.iload_n 1, 1) := by decide +kernel
theorem kd_Mc_seen_14 : decode kc_Mc_seen 14 = .ok (.iconst 5, 1) := by decide +kernel
theorem kd_Mc_seen_15 : decode kc_Mc_seen 15 = .ok (.if_icmp .ne 10, 3) := by decide +kernel
theorem kd_Mc_seen_18 : decode kc_Mc_seen 18 = .ok (.aload_n 0, 1) := by decide +kernel
theorem kd_Mc_seen_19 : decode kc_Mc_seen 19 = .ok (.getfield 29, 3) := by decide +kernel
theorem kd_Mc_seen_22 : decode kc_Mc_seen 22 = .ok (.iload_n 3, 1) := by decide +kernel
theorem kd_Mc_seen_23 : decode kc_Mc_seen 23 = .ok (.iaload, 1) := by decide +kernel
theorem kd_Mc_seen_24 : decode kc_Mc_seen 24 = .ok (.ireturn, 1) := by decide +kernel
theorem kd_Mc_seen_25 : decode kc_Mc_seen 25 = .ok (.iload_n 1, 1) := by decide +kernel
theorem kd_Mc_seen_26 : decode kc_Mc_seen 26 = .ok (.iconst 1, 1) := by decide +kernel
theorem kd_Mc_seen_27 : decode kc_Mc_seen 27 = .ok (.if_icmp .eq 8, 3) := by decide +kernel
theorem kd_Mc_seen_30 : decode kc_Mc_seen 30 = .ok (.iload_n 1, 1) := by decide +kernel
theorem kd_Mc_seen_31 : decode kc_Mc_seen 31 = .ok (.iconst 4, 1) := by decide +kernel
theorem kd_Mc_seen_32 : decode kc_Mc_seen 32 = .ok (.if_icmp .ne 12, 3) := by decide +kernel
theorem kd_Mc_seen_35 : decode kc_Mc_seen 35 = .ok (.aload_n 0, 1) := by decide +kernel
theorem kd_Mc_seen_36 : decode kc_Mc_seen 36 = .ok (.getfield 23, 3) := by decide +kernel
theorem kd_Mc_seen_39 : decode kc_Mc_seen 39 = .ok (.iload_n 3, 1) := by decide +kernel
theorem kd_Mc_seen_40 : decode kc_Mc_seen 40 = .ok (.iaload, 1) := by decide +kernel
theorem kd_Mc_seen_41 : decode kc_Mc_seen 41 = .ok (.goto 9, 3) := by decide +kernel
theorem kd_Mc_seen_44 : decode kc_Mc_seen 44 = .ok (.aload_n 0, 1) := by decide +kernel
theorem kd_Mc_seen_45 : decode kc_Mc_seen 45 = .ok (.getfield 19, 3) := by decide +kernel
theorem kd_Mc_seen_48 : decode kc_Mc_seen 48 = .ok (.iload_n 3, 1) := by decide +kernel
theorem kd_Mc_seen_49 : decode kc_Mc_seen 49 = .ok (.iaload, 1) := by decide +kernel
theorem kd_Mc_seen_50 : decode kc_Mc_seen 50 = .ok (.ireturn, 1) := by decide +kernel
theorem kd_Pk_put_0 : decode kc_Pk_put 0 = .ok (.iload_n 1, 1) := by decide +kernel
theorem kd_Pk_put_1 : decode kc_Pk_put 1 = .ok (.iload_n 2, 1) := by decide +kernel
theorem kd_Pk_put_2 : decode kc_Pk_put 2 = .ok (.invokestatic 176, 3) := by decide +kernel
theorem kd_Pk_put_5 : decode kc_Pk_put 5 = .ok (.ifCond .eq 21, 3) := by decide +kernel
theorem kd_Pk_put_8 : decode kc_Pk_put 8 = .ok (.iload_n 1, 1) := by decide +kernel
theorem kd_Pk_put_9 : decode kc_Pk_put 9 = .ok (.iconst 1, 1) := by decide +kernel
theorem kd_Pk_put_10 : decode kc_Pk_put 10 = .ok (.if_icmp .eq 16, 3) := by decide +kernel
theorem kd_Pk_put_13 : decode kc_Pk_put 13 = .ok (.iload_n 1, 1) := by decide +kernel
theorem kd_Pk_put_14 : decode kc_Pk_put 14 = .ok (.iconst 4, 1) := by decide +kernel
theorem kd_Pk_put_15 : decode kc_Pk_put 15 = .ok (.if_icmp .eq 11, 3) := by decide +kernel
theorem kd_Pk_put_18 : decode kc_Pk_put 18 = .ok (.iload_n 1, 1) := by decide +kernel
theorem kd_Pk_put_19 : decode kc_Pk_put 19 = .ok (.iload_n 3, 1) := by decide +kernel
theorem kd_Pk_put_20 : decode kc_Pk_put 20 = .ok (.invokestatic 180, 3) := by decide +kernel
theorem kd_Pk_put_23 : decode kc_Pk_put 23 = .ok (.ifCond .ne 5, 3) := by decide +kernel
theorem kd_Pk_put_26 : decode kc_Pk_put 26 = .ok (.iconst (-1), 1) := by decide +kernel
theorem kd_Pk_put_27 : decode kc_Pk_put 27 = .ok (.ireturn, 1) := by decide +kernel
theorem kd_Pk_put_28 : decode kc_Pk_put 28 = .ok (.aload_n 0, 1) := by decide +kernel
theorem kd_Pk_put_29 : decode kc_Pk_put 29 = .ok (.getfield 95, 3) := by decide +kernel
theorem kd_Pk_put_32 : decode kc_Pk_put 32 = .ok (.iload_n 1, 1) := by decide +kernel
theorem kd_Pk_put_33 : decode kc_Pk_put 33 = .ok (.iload_n 2, 1) := by decide +kernel
theorem kd_Pk_put_34 : decode kc_Pk_put 34 = .ok (.iload_n 3, 1) := by decide +kernel
theorem kd_Pk_put_35 : decode kc_Pk_put 35 = .ok (.invokevirtual 183, 3) := by decide +kernel
theorem kd_Pk_put_38 : decode kc_Pk_put 38 = .ok (.ireturn, 1) := by decide +kernel
theorem kd_Pk_get_0 : decode kc_Pk_get 0 = .ok (.iload_n 1, 1) := by decide +kernel
theorem kd_Pk_get_1 : decode kc_Pk_get 1 = .ok (.iload_n 2, 1) := by decide +kernel
theorem kd_Pk_get_2 : decode kc_Pk_get 2 = .ok (.invokestatic 176, 3) := by decide +kernel
theorem kd_Pk_get_5 : decode kc_Pk_get 5 = .ok (.ifCond .ne 5, 3) := by decide +kernel
theorem kd_Pk_get_8 : decode kc_Pk_get 8 = .ok (.iconst (-1), 1) := by decide +kernel
theorem kd_Pk_get_9 : decode kc_Pk_get 9 = .ok (.ireturn, 1) := by decide +kernel
theorem kd_Pk_get_10 : decode kc_Pk_get 10 = .ok (.aload_n 0, 1) := by decide +kernel
theorem kd_Pk_get_11 : decode kc_Pk_get 11 = .ok (.getfield 95, 3) := by decide +kernel
theorem kd_Pk_get_14 : decode kc_Pk_get 14 = .ok (.getfield 169, 3) := by decide +kernel
theorem kd_Pk_get_17 : decode kc_Pk_get 17 = .ok (.ifCond .ne 15, 3) := by decide +kernel
theorem kd_Pk_get_20 : decode kc_Pk_get 20 = .ok (.iload_n 1, 1) := by decide +kernel
theorem kd_Pk_get_21 : decode kc_Pk_get 21 = .ok (.ifCond .eq 11, 3) := by decide +kernel
theorem kd_Pk_get_24 : decode kc_Pk_get 24 = .ok (.iload_n 1, 1) := by decide +kernel
theorem kd_Pk_get_25 : decode kc_Pk_get 25 = .ok (.iconst 3, 1) := by decide +kernel
theorem kd_Pk_get_26 : decode kc_Pk_get 26 = .ok (.if_icmp .eq 6, 3) := by decide +kernel
theorem kd_Pk_get_29 : decode kc_Pk_get 29 = .ok (.bipush (-5), 2) := by decide +kernel
theorem kd_Pk_get_31 : decode kc_Pk_get 31 = .ok (.ireturn, 1) := by decide +kernel
theorem kd_Pk_get_32 : decode kc_Pk_get 32 = .ok (.aload_n 0, 1) := by decide +kernel
theorem kd_Pk_get_33 : decode kc_Pk_get 33 = .ok (.getfield 95, 3) := by decide +kernel
theorem kd_Pk_get_36 : decode kc_Pk_get 36 = .ok (.iload_n 1, 1) := by decide +kernel
theorem kd_Pk_get_37 : decode kc_Pk_get 37 = .ok (.iload_n 2, 1) := by decide +kernel
theorem kd_Pk_get_38 : decode kc_Pk_get 38 = .ok (.invokevirtual 187, 3) := by decide +kernel
theorem kd_Pk_get_41 : decode kc_Pk_get 41 = .ok (.ireturn, 1) := by decide +kernel
theorem kd_Pk_safe_0 : decode kc_Pk_safe 0 = .ok (.iload_n 1, 1) := by decide +kernel
theorem kd_Pk_safe_1 : decode kc_Pk_safe 1 = .ok (.iconst 1, 1) := by decide +kernel
theorem kd_Pk_safe_2 : decode kc_Pk_safe 2 = .ok (.if_icmp .eq 8, 3) := by decide +kernel
theorem kd_Pk_safe_5 : decode kc_Pk_safe 5 = .ok (.iload_n 1, 1) := by decide +kernel
theorem kd_Pk_safe_6 : decode kc_Pk_safe 6 = .ok (.iconst 4, 1) := by decide +kernel
theorem kd_Pk_safe_7 : decode kc_Pk_safe 7 = .ok (.if_icmp .ne 19, 3) := by decide +kernel
theorem kd_Pk_safe_10 : decode kc_Pk_safe 10 = .ok (.iload_n 1, 1) := by decide +kernel
theorem kd_Pk_safe_11 : decode kc_Pk_safe 11 = .ok (.iload_n 2, 1) := by decide +kernel
theorem kd_Pk_safe_12 : decode kc_Pk_safe 12 = .ok (.invokestatic 176, 3) := by decide +kernel
theorem kd_Pk_safe_15 : decode kc_Pk_safe 15 = .ok (.ifCond .eq 11, 3) := by decide +kernel
theorem kd_Pk_safe_18 : decode kc_Pk_safe 18 = .ok (.iload_n 1, 1) := by decide +kernel
theorem kd_Pk_safe_19 : decode kc_Pk_safe 19 = .ok (.iload_n 3, 1) := by decide +kernel
theorem kd_Pk_safe_20 : decode kc_Pk_safe 20 = .ok (.invokestatic 180, 3) := by decide +kernel
theorem kd_Pk_safe_23 : decode kc_Pk_safe 23 = .ok (.ifCond .ne 5, 3) := by decide +kernel
theorem kd_Pk_safe_26 : decode kc_Pk_safe 26 = .ok (.iconst (-1), 1) := by decide +kernel
theorem kd_Pk_safe_27 : decode kc_Pk_safe 27 = .ok (.ireturn, 1) := by decide +kernel
theorem kd_Pk_safe_28 : decode kc_Pk_safe 28 = .ok (.aload_n 0, 1) := by decide +kernel
theorem kd_Pk_safe_29 : decode kc_Pk_safe 29 = .ok (.getfield 95, 3) := by decide +kernel
theorem kd_Pk_safe_32 : decode kc_Pk_safe 32 = .ok (.getfield 191, 3) := by decide +kernel
theorem kd_Pk_safe_35 : decode kc_Pk_safe 35 = .ok (.getstatic 194, 3) := by decide +kernel
theorem kd_Pk_safe_38 : decode kc_Pk_safe 38 = .ok (.iload_n 1, 1) := by decide +kernel
theorem kd_Pk_safe_39 : decode kc_Pk_safe 39 = .ok (.iaload, 1) := by decide +kernel
theorem kd_Pk_safe_40 : decode kc_Pk_safe 40 = .ok (.iload_n 2, 1) := by decide +kernel
theorem kd_Pk_safe_41 : decode kc_Pk_safe 41 = .ok (.iadd, 1) := by decide +kernel
theorem kd_Pk_safe_42 : decode kc_Pk_safe 42 = .ok (.iload_n 3, 1) := by decide +kernel
theorem kd_Pk_safe_43 : decode kc_Pk_safe 43 = .ok (.iastore, 1) := by decide +kernel
theorem kd_Pk_safe_44 : decode kc_Pk_safe 44 = .ok (.iconst 0, 1) := by decide +kernel
theorem kd_Pk_safe_45 : decode kc_Pk_safe 45 = .ok (.ireturn, 1) := by decide +kernel
theorem kd_Ln_answer_0 : decode kc_Ln_answer 0 = .ok (.aload_n 0, 1) := by decide +kernel
theorem kd_Ln_answer_1 : decode kc_Ln_answer 1 = .ok (.iconst 0, 1) := by decide +kernel
theorem kd_Ln_answer_2 : decode kc_Ln_answer 2 = .ok (.putfield 23, 3) := by decide +kernel
theorem kd_Ln_answer_5 : decode kc_Ln_answer 5 = .ok (.iload_n 2, 1) := by decide +kernel
theorem kd_Ln_answer_6 : decode kc_Ln_answer 6 = .ok (.iconst 4, 1) := by decide +kernel
theorem kd_Ln_answer_7 : decode kc_Ln_answer 7 = .ok (.if_icmp .lt 47, 3) := by decide +kernel
theorem kd_Ln_answer_10 : decode kc_Ln_answer 10 = .ok (.iload_n 2, 1) := by decide +kernel
theorem kd_Ln_answer_11 : decode kc_Ln_answer 11 = .ok (.sipush 256, 3) := by decide +kernel
theorem kd_Ln_answer_14 : decode kc_Ln_answer 14 = .ok (.if_icmp .gt 40, 3) := by decide +kernel
theorem kd_Ln_answer_17 : decode kc_Ln_answer 17 = .ok (.aload_n 1, 1) := by decide +kernel
theorem kd_Ln_answer_18 : decode kc_Ln_answer 18 = .ok (.iload_n 2, 1) := by decide +kernel
theorem kd_Ln_answer_19 : decode kc_Ln_answer 19 = .ok (.iconst 2, 1) := by decide +kernel
theorem kd_Ln_answer_20 : decode kc_Ln_answer 20 = .ok (.isub, 1) := by decide +kernel
theorem kd_Ln_answer_21 : decode kc_Ln_answer 21 = .ok (.invokestatic 26, 3) := by decide +kernel
theorem kd_Ln_answer_24 : decode kc_Ln_answer 24 = .ok (.aload_n 1, 1) := by decide +kernel
theorem kd_Ln_answer_25 : decode kc_Ln_answer 25 = .ok (.iload_n 2, 1) := by decide +kernel
theorem kd_Ln_answer_26 : decode kc_Ln_answer 26 = .ok (.iconst 2, 1) := by decide +kernel
theorem kd_Ln_answer_27 : decode kc_Ln_answer 27 = .ok (.isub, 1) := by decide +kernel
theorem kd_Ln_answer_28 : decode kc_Ln_answer 28 = .ok (.baload, 1) := by decide +kernel
theorem kd_Ln_answer_29 : decode kc_Ln_answer 29 = .ok (.sipush 255, 3) := by decide +kernel
theorem kd_Ln_answer_32 : decode kc_Ln_answer 32 = .ok (.iand, 1) := by decide +kernel
theorem kd_Ln_answer_33 : decode kc_Ln_answer 33 = .ok (.sipush 256, 3) := by decide +kernel
theorem kd_Ln_answer_36 : decode kc_Ln_answer 36 = .ok (.aload_n 1, 1) := by decide +kernel
theorem kd_Ln_answer_37 : decode kc_Ln_answer 37 = .ok (.iload_n 2, 1) := by decide +kernel
theorem kd_Ln_answer_38 : decode kc_Ln_answer 38 = .ok (.iconst 1, 1) := by decide +kernel
theorem kd_Ln_answer_39 : decode kc_Ln_answer 39 = .ok (.isub, 1) := by decide +kernel
theorem kd_Ln_answer_40 : decode kc_Ln_answer 40 = .ok (.baload, 1) := by decide +kernel
theorem kd_Ln_answer_41 : decode kc_Ln_answer 41 = .ok (.sipush 255, 3) := by decide +kernel
theorem kd_Ln_answer_44 : decode kc_Ln_answer 44 = .ok (.iand, 1) := by decide +kernel
theorem kd_Ln_answer_45 : decode kc_Ln_answer 45 = .ok (.imul, 1) := by decide +kernel
theorem kd_Ln_answer_46 : decode kc_Ln_answer 46 = .ok (.iadd, 1) := by decide +kernel
theorem kd_Ln_answer_47 : decode kc_Ln_answer 47 = .ok (.if_icmp .ne 7, 3) := by decide +kernel
theorem kd_Ln_answer_50 : decode kc_Ln_answer 50 = .ok (.iconst 1, 1) := by decide +kernel
theorem kd_Ln_answer_51 : decode kc_Ln_answer 51 = .ok (.goto 4, 3) := by decide +kernel
theorem kd_Ln_answer_54 : decode kc_Ln_answer 54 = .ok (.iconst 0, 1) := by decide +kernel
theorem kd_Ln_answer_55 : decode kc_Ln_answer 55 = .ok (.istore_n 3, 1) := by decide +kernel
theorem kd_Ln_answer_56 : decode kc_Ln_answer 56 = .ok (.aload_n 1, 1) := by decide +kernel
theorem kd_Ln_answer_57 : decode kc_Ln_answer 57 = .ok (.iconst 0, 1) := by decide +kernel
theorem kd_Ln_answer_58 : decode kc_Ln_answer 58 = .ok (.baload, 1) := by decide +kernel
theorem kd_Ln_answer_59 : decode kc_Ln_answer 59 = .ok (.sipush 255, 3) := by decide +kernel
theorem kd_Ln_answer_62 : decode kc_Ln_answer 62 = .ok (.iand, 1) := by decide +kernel
theorem kd_Ln_answer_63 : decode kc_Ln_answer 63 = .ok (.istore 4, 2) := by decide +kernel
theorem kd_Ln_answer_65 : decode kc_Ln_answer 65 = .ok (.aload_n 0, 1) := by decide +kernel
theorem kd_Ln_answer_66 : decode kc_Ln_answer 66 = .ok (.getfield 9, 3) := by decide +kernel
theorem kd_Ln_answer_69 : decode kc_Ln_answer 69 = .ok (.getfield 30, 3) := by decide +kernel
theorem kd_Ln_answer_72 : decode kc_Ln_answer 72 = .ok (.ifCond .eq 21, 3) := by decide +kernel
theorem kd_Ln_answer_75 : decode kc_Ln_answer 75 = .ok (.iload_n 3, 1) := by decide +kernel
theorem kd_Ln_answer_76 : decode kc_Ln_answer 76 = .ok (.ifCond .eq 17, 3) := by decide +kernel
theorem kd_Ln_answer_79 : decode kc_Ln_answer 79 = .ok (.iload 4, 2) := by decide +kernel
theorem kd_Ln_answer_81 : decode kc_Ln_answer 81 = .ok (.ifCond .eq 14, 3) := by decide +kernel
theorem kd_Ln_answer_84 : decode kc_Ln_answer 84 = .ok (.iload 4, 2) := by decide +kernel
theorem kd_Ln_answer_86 : decode kc_Ln_answer 86 = .ok (.aload_n 0, 1) := by decide +kernel
theorem kd_Ln_answer_87 : decode kc_Ln_answer 87 = .ok (.getfield 19, 3) := by decide +kernel
theorem kd_Ln_answer_90 : decode kc_Ln_answer 90 = .ok (.if_icmp .eq 5, 3) := by decide +kernel
theorem kd_Ln_answer_93 : decode kc_Ln_answer 93 = .ok (.iconst 0, 1) := by decide +kernel
theorem kd_Ln_answer_94 : decode kc_Ln_answer 94 = .ok (.ireturn, 1) := by decide +kernel
theorem kd_Ln_answer_95 : decode kc_Ln_answer 95 = .ok (.aload_n 0, 1) := by decide +kernel
theorem kd_Ln_answer_96 : decode kc_Ln_answer 96 = .ok (.aload_n 1, 1) := by decide +kernel
theorem kd_Ln_answer_97 : decode kc_Ln_answer 97 = .ok (.putfield 36, 3) := by decide +kernel
theorem kd_Ln_answer_100 : decode kc_Ln_answer 100 = .ok (.aload_n 0, 1) := by decide +kernel
theorem kd_Ln_answer_101 : decode kc_Ln_answer 101 = .ok (.iload_n 2, 1) := by decide +kernel
theorem kd_Ln_answer_102 : decode kc_Ln_answer 102 = .ok (.iconst 4, 1) := by decide +kernel
theorem kd_Ln_answer_103 : decode kc_Ln_answer 103 = .ok (.isub, 1) := by decide +kernel
theorem kd_Ln_answer_104 : decode kc_Ln_answer 104 = .ok (.putfield 39, 3) := by decide +kernel
theorem kd_Ln_answer_107 : decode kc_Ln_answer 107 = .ok (.aload_n 1, 1) := by decide +kernel
theorem kd_Ln_answer_108 : decode kc_Ln_answer 108 = .ok (.iconst 1, 1) := by decide +kernel
theorem kd_Ln_answer_109 : decode kc_Ln_answer 109 = .ok (.baload, 1) := by decide +kernel
theorem kd_Ln_answer_110 : decode kc_Ln_answer 110 = .ok (.sipush 255, 3) := by decide +kernel
theorem kd_Ln_answer_113 : decode kc_Ln_answer 113 = .ok (.iand, 1) := by decide +kernel
theorem kd_Ln_answer_114 : decode kc_Ln_answer 114 = .ok (.istore 5, 2) := by decide +kernel
theorem kd_Ln_answer_116 : decode kc_Ln_answer 116 = .ok (.aload_n 0, 1) := by decide +kernel
theorem kd_Ln_answer_117 : decode kc_Ln_answer 117 = .ok (.iload 5, 2) := by decide +kernel
theorem kd_Ln_answer_119 : decode kc_Ln_answer 119 = .ok (.invokevirtual 42, 3) := by decide +kernel
theorem kd_Ln_answer_122 : decode kc_Ln_answer 122 = .ok (.istore 6, 2) := by decide +kernel
theorem kd_Ln_answer_124 : decode kc_Ln_answer 124 = .ok (.iload 6, 2) := by decide +kernel
theorem kd_Ln_answer_126 : decode kc_Ln_answer 126 = .ok (.ifCond .ne 9, 3) := by decide +kernel
theorem kd_Ln_answer_129 : decode kc_Ln_answer 129 = .ok (.aload_n 0, 1) := by decide +kernel
theorem kd_Ln_answer_130 : decode kc_Ln_answer 130 = .ok (.iload 5, 2) := by decide +kernel
theorem kd_Ln_answer_132 : decode kc_Ln_answer 132 = .ok (.invokevirtual 46, 3) := by decide +kernel
theorem kd_Ln_answer_135 : decode kc_Ln_answer 135 = .ok (.iload 4, 2) := by decide +kernel
theorem kd_Ln_answer_137 : decode kc_Ln_answer 137 = .ok (.ifCond .eq 67, 3) := by decide +kernel
theorem kd_Ln_answer_140 : decode kc_Ln_answer 140 = .ok (.aload_n 0, 1) := by decide +kernel
theorem kd_Ln_answer_141 : decode kc_Ln_answer 141 = .ok (.iload 4, 2) := by decide +kernel
theorem kd_Ln_answer_143 : decode kc_Ln_answer 143 = .ok (.invokevirtual 50, 3) := by decide +kernel
theorem kd_Ln_answer_146 : decode kc_Ln_answer 146 = .ok (.iload 6, 2) := by decide +kernel
theorem kd_Ln_answer_148 : decode kc_Ln_answer 148 = .ok (.ifCond .ne 12, 3) := by decide +kernel
theorem kd_Ln_answer_151 : decode kc_Ln_answer 151 = .ok (.aload_n 0, 1) := by decide +kernel
theorem kd_Ln_answer_152 : decode kc_Ln_answer 152 = .ok (.iload 5, 2) := by decide +kernel
theorem kd_Ln_answer_154 : decode kc_Ln_answer 154 = .ok (.invokevirtual 53, 3) := by decide +kernel
theorem kd_Ln_answer_157 : decode kc_Ln_answer 157 = .ok (.goto 19, 3) := by decide +kernel
theorem kd_Ln_answer_160 : decode kc_Ln_answer 160 = .ok (.aload_n 0, 1) := by decide +kernel
theorem kd_Ln_answer_161 : decode kc_Ln_answer 161 = .ok (.iload 5, 2) := by decide +kernel
theorem kd_Ln_answer_163 : decode kc_Ln_answer 163 = .ok (.sipush 128, 3) := by decide +kernel
theorem kd_Ln_answer_166 : decode kc_Ln_answer 166 = .ok (.ior, 1) := by decide +kernel
theorem kd_Ln_answer_167 : decode kc_Ln_answer 167 = .ok (.invokevirtual 50, 3) := by decide +kernel
theorem kd_Ln_answer_170 : decode kc_Ln_answer 170 = .ok (.aload_n 0, 1) := by decide +kernel
theorem kd_Ln_answer_171 : decode kc_Ln_answer 171 = .ok (.iload 6, 2) := by decide +kernel
theorem kd_Ln_answer_173 : decode kc_Ln_answer 173 = .ok (.invokevirtual 50, 3) := by decide +kernel
theorem kd_Ln_answer_176 : decode kc_Ln_answer 176 = .ok (.aload_n 0, 1) := by decide +kernel
theorem kd_Ln_answer_177 : decode kc_Ln_answer 177 = .ok (.getfield 15, 3) := by decide +kernel
theorem kd_Ln_answer_180 : decode kc_Ln_answer 180 = .ok (.aload_n 0, 1) := by decide +kernel
theorem kd_Ln_answer_181 : decode kc_Ln_answer 181 = .ok (.getfield 23, 3) := by decide +kernel
theorem kd_Ln_answer_184 : decode kc_Ln_answer 184 = .ok (.invokestatic 26, 3) := by decide +kernel
theorem kd_Ln_answer_187 : decode kc_Ln_answer 187 = .ok (.istore 7, 2) := by decide +kernel
theorem kd_Ln_answer_189 : decode kc_Ln_answer 189 = .ok (.aload_n 0, 1) := by decide +kernel
theorem kd_Ln_answer_190 : decode kc_Ln_answer 190 = .ok (.iload 7, 2) := by decide +kernel
theorem kd_Ln_answer_192 : decode kc_Ln_answer 192 = .ok (.invokevirtual 50, 3) := by decide +kernel
theorem kd_Ln_answer_195 : decode kc_Ln_answer 195 = .ok (.aload_n 0, 1) := by decide +kernel
theorem kd_Ln_answer_196 : decode kc_Ln_answer 196 = .ok (.iload 7, 2) := by decide +kernel
theorem kd_Ln_answer_198 : decode kc_Ln_answer 198 = .ok (.bipush 8, 2) := by decide +kernel
theorem kd_Ln_answer_200 : decode kc_Ln_answer 200 = .ok (.ishr, 1) := by decide +kernel
theorem kd_Ln_answer_201 : decode kc_Ln_answer 201 = .ok (.invokevirtual 50, 3) := by decide +kernel
theorem kd_Ln_answer_204 : decode kc_Ln_answer 204 = .ok (.aload_n 0, 1) := by decide +kernel
theorem kd_Ln_answer_205 : decode kc_Ln_answer 205 = .ok (.getfield 23, 3) := by decide +kernel
theorem kd_Ln_answer_208 : decode kc_Ln_answer 208 = .ok (.ireturn, 1) := by decide +kernel
theorem kd_Pk_frame_0 : decode kc_Pk_frame 0 = .ok (.aload_n 0, 1) := by decide +kernel
theorem kd_Pk_frame_1 : decode kc_Pk_frame 1 = .ok (.getfield 108, 3) := by decide +kernel
theorem kd_Pk_frame_4 : decode kc_Pk_frame 4 = .ok (.istore_n 1, 1) := by decide +kernel
theorem kd_Pk_frame_5 : decode kc_Pk_frame 5 = .ok (.aload_n 0, 1) := by decide +kernel
theorem kd_Pk_frame_6 : decode kc_Pk_frame 6 = .ok (.iconst 0, 1) := by decide +kernel
theorem kd_Pk_frame_7 : decode kc_Pk_frame 7 = .ok (.putfield 108, 3) := by decide +kernel
theorem kd_Pk_frame_10 : decode kc_Pk_frame 10 = .ok (.aload_n 0, 1) := by decide +kernel
theorem kd_Pk_frame_11 : decode kc_Pk_frame 11 = .ok (.getfield 104, 3) := by decide +kernel
theorem kd_Pk_frame_14 : decode kc_Pk_frame 14 = .ok (.aload_n 0, 1) := by decide +kernel
theorem kd_Pk_frame_15 : decode kc_Pk_frame 15 = .ok (.getfield 9, 3) := by decide +kernel
theorem kd_Pk_frame_18 : decode kc_Pk_frame 18 = .ok (.iload_n 1, 1) := by decide +kernel
theorem kd_Pk_frame_19 : decode kc_Pk_frame 19 = .ok (.invokevirtual 259, 3) := by decide +kernel
theorem kd_Pk_frame_22 : decode kc_Pk_frame 22 = .ok (.ireturn, 1) := by decide +kernel
theorem kd_Pk_append_0 : decode kc_Pk_append 0 = .ok (.bipush 24, 2) := by decide +kernel
theorem kd_Pk_append_2 : decode kc_Pk_append 2 = .ok (.istore_n 2, 1) := by decide +kernel
theorem kd_Pk_append_3 : decode kc_Pk_append 3 = .ok (.iload_n 2, 1) := by decide +kernel
theorem kd_Pk_append_4 : decode kc_Pk_append 4 = .ok (.ifCond .lt 42, 3) := by decide +kernel
theorem kd_Pk_append_7 : decode kc_Pk_append 7 = .ok (.aload_n 0, 1) := by decide +kernel
theorem kd_Pk_append_8 : decode kc_Pk_append 8 = .ok (.getfield 108, 3) := by decide +kernel
theorem kd_Pk_append_11 : decode kc_Pk_append 11 = .ok (.sipush 16384, 3) := by decide +kernel
theorem kd_Pk_append_14 : decode kc_Pk_append 14 = .ok (.if_icmp .ge 32, 3) := by decide +kernel
theorem kd_Pk_append_17 : decode kc_Pk_append 17 = .ok (.aload_n 0, 1) := by decide +kernel
theorem kd_Pk_append_18 : decode kc_Pk_append 18 = .ok (.getfield 9, 3) := by decide +kernel
theorem kd_Pk_append_21 : decode kc_Pk_append 21 = .ok (.aload_n 0, 1) := by decide +kernel
theorem kd_Pk_append_22 : decode kc_Pk_append 22 = .ok (.getfield 108, 3) := by decide +kernel
theorem kd_Pk_append_25 : decode kc_Pk_append 25 = .ok (.iload_n 1, 1) := by decide +kernel
theorem kd_Pk_append_26 : decode kc_Pk_append 26 = .ok (.iload_n 2, 1) := by decide +kernel
theorem kd_Pk_append_27 : decode kc_Pk_append 27 = .ok (.ishr, 1) := by decide +kernel
theorem kd_Pk_append_28 : decode kc_Pk_append 28 = .ok (.i2b, 1) := by decide +kernel
theorem kd_Pk_append_29 : decode kc_Pk_append 29 = .ok (.bastore, 1) := by decide +kernel
theorem kd_Pk_append_30 : decode kc_Pk_append 30 = .ok (.aload_n 0, 1) := by decide +kernel
theorem kd_Pk_append_31 : decode kc_Pk_append 31 = .ok (.dup, 1) := by decide +kernel
theorem kd_Pk_append_32 : decode kc_Pk_append 32 = .ok (.getfield 108, 3) := by decide +kernel
theorem kd_Pk_append_35 : decode kc_Pk_append 35 = .ok (.iconst 1, 1) := by decide +kernel
theorem kd_Pk_append_36 : decode kc_Pk_append 36 = .ok (.iadd, 1) := by decide +kernel
theorem kd_Pk_append_37 : decode kc_Pk_append 37 = .ok (.putfield 108, 3) := by decide +kernel
theorem kd_Pk_append_40 : decode kc_Pk_append 40 = .ok (.iinc 2 (-8), 3) := by decide +kernel
theorem kd_Pk_append_43 : decode kc_Pk_append 43 = .ok (.goto (-40), 3) := by decide +kernel
theorem kd_Pk_append_46 : decode kc_Pk_append 46 = .ok (.return_, 1) := by decide +kernel
theorem kd_Pk_feed_0 : decode kc_Pk_feed 0 = .ok (.aload_n 0, 1) := by decide +kernel
theorem kd_Pk_feed_1 : decode kc_Pk_feed 1 = .ok (.getfield 108, 3) := by decide +kernel
theorem kd_Pk_feed_4 : decode kc_Pk_feed 4 = .ok (.bipush 20, 2) := by decide +kernel
theorem kd_Pk_feed_6 : decode kc_Pk_feed 6 = .ok (.iadd, 1) := by decide +kernel
theorem kd_Pk_feed_7 : decode kc_Pk_feed 7 = .ok (.sipush 16384, 3) := by decide +kernel
theorem kd_Pk_feed_10 : decode kc_Pk_feed 10 = .ok (.if_icmp .le 5, 3) := by decide +kernel
theorem kd_Pk_feed_13 : decode kc_Pk_feed 13 = .ok (.iconst (-1), 1) := by decide +kernel
theorem kd_Pk_feed_14 : decode kc_Pk_feed 14 = .ok (.ireturn, 1) := by decide +kernel
theorem kd_Pk_feed_15 : decode kc_Pk_feed 15 = .ok (.aload_n 0, 1) := by decide +kernel
theorem kd_Pk_feed_16 : decode kc_Pk_feed 16 = .ok (.iload_n 1, 1) := by decide +kernel
theorem kd_Pk_feed_17 : decode kc_Pk_feed 17 = .ok (.invokevirtual 111, 3) := by decide +kernel
theorem kd_Pk_feed_20 : decode kc_Pk_feed 20 = .ok (.aload_n 0, 1) := by decide +kernel
theorem kd_Pk_feed_21 : decode kc_Pk_feed 21 = .ok (.iload_n 2, 1) := by decide +kernel
theorem kd_Pk_feed_22 : decode kc_Pk_feed 22 = .ok (.invokevirtual 111, 3) := by decide +kernel
theorem kd_Pk_feed_25 : decode kc_Pk_feed 25 = .ok (.aload_n 0, 1) := by decide +kernel
theorem kd_Pk_feed_26 : decode kc_Pk_feed 26 = .ok (.iload_n 3, 1) := by decide +kernel
theorem kd_Pk_feed_27 : decode kc_Pk_feed 27 = .ok (.invokevirtual 111, 3) := by decide +kernel
theorem kd_Pk_feed_30 : decode kc_Pk_feed 30 = .ok (.aload_n 0, 1) := by decide +kernel
theorem kd_Pk_feed_31 : decode kc_Pk_feed 31 = .ok (.iload 4, 2) := by decide +kernel
theorem kd_Pk_feed_33 : decode kc_Pk_feed 33 = .ok (.invokevirtual 111, 3) := by decide +kernel
theorem kd_Pk_feed_36 : decode kc_Pk_feed 36 = .ok (.aload_n 0, 1) := by decide +kernel
theorem kd_Pk_feed_37 : decode kc_Pk_feed 37 = .ok (.iload 5, 2) := by decide +kernel
theorem kd_Pk_feed_39 : decode kc_Pk_feed 39 = .ok (.invokevirtual 111, 3) := by decide +kernel
theorem kd_Pk_feed_42 : decode kc_Pk_feed 42 = .ok (.aload_n 0, 1) := by decide +kernel
theorem kd_Pk_feed_43 : decode kc_Pk_feed 43 = .ok (.getfield 108, 3) := by decide +kernel
theorem kd_Pk_feed_46 : decode kc_Pk_feed 46 = .ok (.ireturn, 1) := by decide +kernel
theorem kd_Mo_watched_0 : decode kc_Mo_watched 0 = .ok (.aload_n 0, 1) := by decide +kernel
theorem kd_Mo_watched_1 : decode kc_Mo_watched 1 = .ok (.getfield 937, 3) := by decide +kernel
theorem kd_Mo_watched_4 : decode kc_Mo_watched 4 = .ok (.ireturn, 1) := by decide +kernel
theorem kd_Mo_end_0 : decode kc_Mo_end 0 = .ok (.iload_n 1, 1) := by decide +kernel
theorem kd_Mo_end_1 : decode kc_Mo_end 1 = .ok (.ifCond .lt 18, 3) := by decide +kernel
theorem kd_Mo_end_4 : decode kc_Mo_end 4 = .ok (.iload_n 1, 1) := by decide +kernel
theorem kd_Mo_end_5 : decode kc_Mo_end 5 = .ok (.bipush 20, 2) := by decide +kernel
theorem kd_Mo_end_7 : decode kc_Mo_end 7 = .ok (.if_icmp .gt 12, 3) := by decide +kernel
theorem kd_Mo_end_10 : decode kc_Mo_end 10 = .ok (.aload_n 0, 1) := by decide +kernel
theorem kd_Mo_end_11 : decode kc_Mo_end 11 = .ok (.getfield 844, 3) := by decide +kernel
theorem kd_Mo_end_14 : decode kc_Mo_end 14 = .ok (.bipush 20, 2) := by decide +kernel
theorem kd_Mo_end_16 : decode kc_Mo_end 16 = .ok (.if_icmp .ge 5, 3) := by decide +kernel
theorem kd_Mo_end_19 : decode kc_Mo_end 19 = .ok (.iconst (-1), 1) := by decide +kernel
theorem kd_Mo_end_20 : decode kc_Mo_end 20 = .ok (.ireturn, 1) := by decide +kernel
theorem kd_Mo_end_21 : decode kc_Mo_end 21 = .ok (.aload_n 0, 1) := by decide +kernel
theorem kd_Mo_end_22 : decode kc_Mo_end 22 = .ok (.aload_n 0, 1) := by decide +kernel
theorem kd_Mo_end_23 : decode kc_Mo_end 23 = .ok (.getfield 844, 3) := by decide +kernel
theorem kd_Mo_end_26 : decode kc_Mo_end 26 = .ok (.bipush 20, 2) := by decide +kernel
theorem kd_Mo_end_28 : decode kc_Mo_end 28 = .ok (.isub, 1) := by decide +kernel
theorem kd_Mo_end_29 : decode kc_Mo_end 29 = .ok (.iload_n 1, 1) := by decide +kernel
theorem kd_Mo_end_30 : decode kc_Mo_end 30 = .ok (.iadd, 1) := by decide +kernel
theorem kd_Mo_end_31 : decode kc_Mo_end 31 = .ok (.putfield 844, 3) := by decide +kernel
theorem kd_Mo_end_34 : decode kc_Mo_end 34 = .ok (.aload_n 0, 1) := by decide +kernel
theorem kd_Mo_end_35 : decode kc_Mo_end 35 = .ok (.getfield 844, 3) := by decide +kernel
theorem kd_Mo_end_38 : decode kc_Mo_end 38 = .ok (.ireturn, 1) := by decide +kernel
theorem kd_Mo_restart_0 : decode kc_Mo_restart 0 = .ok (.aload_n 0, 1) := by decide +kernel
theorem kd_Mo_restart_1 : decode kc_Mo_restart 1 = .ok (.getfield 874, 3) := by decide +kernel
theorem kd_Mo_restart_4 : decode kc_Mo_restart 4 = .ok (.ifCond .ne 6, 3) := by decide +kernel
theorem kd_Mo_restart_7 : decode kc_Mo_restart 7 = .ok (.bipush (-5), 2) := by decide +kernel
theorem kd_Mo_restart_9 : decode kc_Mo_restart 9 = .ok (.ireturn, 1) := by decide +kernel
theorem kd_Mo_restart_10 : decode kc_Mo_restart 10 = .ok (.aload_n 0, 1) := by decide +kernel
theorem kd_Mo_restart_11 : decode kc_Mo_restart 11 = .ok (.invokevirtual 883, 3) := by decide +kernel
theorem kd_Mo_restart_14 : decode kc_Mo_restart 14 = .ok (.iconst 0, 1) := by decide +kernel
theorem kd_Mo_restart_15 : decode kc_Mo_restart 15 = .ok (.ireturn, 1) := by decide +kernel
theorem kd_Mo_scan_0 : decode kc_Mo_scan 0 = .ok (.iload_n 1, 1) := by decide +kernel
theorem kd_Mo_scan_1 : decode kc_Mo_scan 1 = .ok (.ifCond .lt 10, 3) := by decide +kernel
theorem kd_Mo_scan_4 : decode kc_Mo_scan 4 = .ok (.iload_n 1, 1) := by decide +kernel
theorem kd_Mo_scan_5 : decode kc_Mo_scan 5 = .ok (.ldc_w 498, 3) := by decide +kernel
theorem kd_Mo_scan_8 : decode kc_Mo_scan 8 = .ok (.if_icmp .le 5, 3) := by decide +kernel
theorem kd_Mo_scan_11 : decode kc_Mo_scan 11 = .ok (.iconst (-1), 1) := by decide +kernel
theorem kd_Mo_scan_12 : decode kc_Mo_scan 12 = .ok (.ireturn, 1) := by decide +kernel
theorem kd_Mo_scan_13 : decode kc_Mo_scan 13 = .ok (.aload_n 0, 1) := by decide +kernel
theorem kd_Mo_scan_14 : decode kc_Mo_scan 14 = .ok (.getfield 874, 3) := by decide +kernel
theorem kd_Mo_scan_17 : decode kc_Mo_scan 17 = .ok (.ifCond .ne 6, 3) := by decide +kernel
theorem kd_Mo_scan_20 : decode kc_Mo_scan 20 = .ok (.bipush (-5), 2) := by decide +kernel
theorem kd_Mo_scan_22 : decode kc_Mo_scan 22 = .ok (.ireturn, 1) := by decide +kernel
theorem kd_Mo_scan_23 : decode kc_Mo_scan 23 = .ok (.aload_n 0, 1) := by decide +kernel
theorem kd_Mo_scan_24 : decode kc_Mo_scan 24 = .ok (.getfield 892, 3) := by decide +kernel
theorem kd_Mo_scan_27 : decode kc_Mo_scan 27 = .ok (.ifCond .eq 6, 3) := by decide +kernel
theorem kd_Mo_scan_30 : decode kc_Mo_scan 30 = .ok (.bipush (-2), 2) := by decide +kernel
theorem kd_Mo_scan_32 : decode kc_Mo_scan 32 = .ok (.ireturn, 1) := by decide +kernel
theorem kd_Mo_scan_33 : decode kc_Mo_scan 33 = .ok (.aload_n 0, 1) := by decide +kernel
theorem kd_Mo_scan_34 : decode kc_Mo_scan 34 = .ok (.dup, 1) := by decide +kernel
theorem kd_Mo_scan_35 : decode kc_Mo_scan 35 = .ok (.getfield 832, 3) := by decide +kernel
theorem kd_Mo_scan_38 : decode kc_Mo_scan 38 = .ok (.iload_n 1, 1) := by decide +kernel
theorem kd_Mo_scan_39 : decode kc_Mo_scan 39 = .ok (.iadd, 1) := by decide +kernel
theorem kd_Mo_scan_40 : decode kc_Mo_scan 40 = .ok (.putfield 832, 3) := by decide +kernel
theorem kd_Mo_scan_43 : decode kc_Mo_scan 43 = .ok (.iconst 0, 1) := by decide +kernel
theorem kd_Mo_scan_44 : decode kc_Mo_scan 44 = .ok (.istore_n 2, 1) := by decide +kernel
theorem kd_Mo_scan_45 : decode kc_Mo_scan 45 = .ok (.iload_n 2, 1) := by decide +kernel
theorem kd_Mo_scan_46 : decode kc_Mo_scan 46 = .ok (.sipush 320, 3) := by decide +kernel
theorem kd_Mo_scan_49 : decode kc_Mo_scan 49 = .ok (.if_icmp .ge 40, 3) := by decide +kernel
theorem kd_Mo_scan_52 : decode kc_Mo_scan 52 = .ok (.aload_n 0, 1) := by decide +kernel
theorem kd_Mo_scan_53 : decode kc_Mo_scan 53 = .ok (.getfield 150, 3) := by decide +kernel
theorem kd_Mo_scan_56 : decode kc_Mo_scan 56 = .ok (.iload_n 2, 1) := by decide +kernel
theorem kd_Mo_scan_57 : decode kc_Mo_scan 57 = .ok (.sipush 256, 3) := by decide +kernel
theorem kd_Mo_scan_60 : decode kc_Mo_scan 60 = .ok (.if_icmp .ge 7, 3) := by decide +kernel
theorem kd_Mo_scan_63 : decode kc_Mo_scan 63 = .ok (.iload_n 2, 1) := by decide +kernel
theorem kd_Mo_scan_64 : decode kc_Mo_scan 64 = .ok (.goto 12, 3) := by decide +kernel
theorem kd_Mo_scan_67 : decode kc_Mo_scan 67 = .ok (.sipush 768, 3) := by decide +kernel
theorem kd_Mo_scan_70 : decode kc_Mo_scan 70 = .ok (.iload_n 2, 1) := by decide +kernel
theorem kd_Mo_scan_71 : decode kc_Mo_scan 71 = .ok (.iadd, 1) := by decide +kernel
theorem kd_Mo_scan_72 : decode kc_Mo_scan 72 = .ok (.sipush 256, 3) := by decide +kernel
theorem kd_Mo_scan_75 : decode kc_Mo_scan 75 = .ok (.isub, 1) := by decide +kernel
theorem kd_Mo_scan_76 : decode kc_Mo_scan 76 = .ok (.aload_n 0, 1) := by decide +kernel
theorem kd_Mo_scan_77 : decode kc_Mo_scan 77 = .ok (.getfield 169, 3) := by decide +kernel
theorem kd_Mo_scan_80 : decode kc_Mo_scan 80 = .ok (.iload_n 2, 1) := by decide +kernel
theorem kd_Mo_scan_81 : decode kc_Mo_scan 81 = .ok (.iaload, 1) := by decide +kernel
theorem kd_Mo_scan_82 : decode kc_Mo_scan 82 = .ok (.iastore, 1) := by decide +kernel
theorem kd_Mo_scan_83 : decode kc_Mo_scan 83 = .ok (.iinc 2 1, 3) := by decide +kernel
theorem kd_Mo_scan_86 : decode kc_Mo_scan 86 = .ok (.goto (-41), 3) := by decide +kernel
theorem kd_Mo_scan_89 : decode kc_Mo_scan 89 = .ok (.aload_n 0, 1) := by decide +kernel
theorem kd_Mo_scan_90 : decode kc_Mo_scan 90 = .ok (.dup, 1) := by decide +kernel
theorem kd_Mo_scan_91 : decode kc_Mo_scan 91 = .ok (.getfield 877, 3) := by decide +kernel
theorem kd_Mo_scan_94 : decode kc_Mo_scan 94 = .ok (.iconst 1, 1) := by decide +kernel
theorem kd_Mo_scan_95 : decode kc_Mo_scan 95 = .ok (.iadd, 1) := by decide +kernel
theorem kd_Mo_scan_96 : decode kc_Mo_scan 96 = .ok (.putfield 877, 3) := by decide +kernel
theorem kd_Mo_scan_99 : decode kc_Mo_scan 99 = .ok (.aload_n 0, 1) := by decide +kernel
theorem kd_Mo_scan_100 : decode kc_Mo_scan 100 = .ok (.iconst 0, 1) := by decide +kernel
theorem kd_Mo_scan_101 : decode kc_Mo_scan 101 = .ok (.putfield 817, 3) := by decide +kernel
theorem kd_Mo_scan_104 : decode kc_Mo_scan 104 = .ok (.aload_n 0, 1) := by decide +kernel
theorem kd_Mo_scan_105 : decode kc_Mo_scan 105 = .ok (.iconst 0, 1) := by decide +kernel
theorem kd_Mo_scan_106 : decode kc_Mo_scan 106 = .ok (.putfield 814, 3) := by decide +kernel
theorem kd_Mo_scan_109 : decode kc_Mo_scan 109 = .ok (.aload_n 0, 1) := by decide +kernel
theorem kd_Mo_scan_110 : decode kc_Mo_scan 110 = .ok (.iconst 0, 1) := by decide +kernel
theorem kd_Mo_scan_111 : decode kc_Mo_scan 111 = .ok (.putfield 811, 3) := by decide +kernel
theorem kd_Mo_scan_114 : decode kc_Mo_scan 114 = .ok (.aload_n 0, 1) := by decide +kernel
theorem kd_Mo_scan_115 : decode kc_Mo_scan 115 = .ok (.aload_n 0, 1) := by decide +kernel
theorem kd_Mo_scan_116 : decode kc_Mo_scan 116 = .ok (.getfield 462, 3) := by decide +kernel
theorem kd_Mo_scan_119 : decode kc_Mo_scan 119 = .ok (.iconst 1, 1) := by decide +kernel
theorem kd_Mo_scan_120 : decode kc_Mo_scan 120 = .ok (.isub, 1) := by decide +kernel
theorem kd_Mo_scan_121 : decode kc_Mo_scan 121 = .ok (.iconst 0, 1) := by decide +kernel
theorem kd_Mo_scan_122 : decode kc_Mo_scan 122 = .ok (.invokevirtual 826, 3) := by decide +kernel
theorem kd_Mo_scan_125 : decode kc_Mo_scan 125 = .ok (.aload_n 0, 1) := by decide +kernel
theorem kd_Mo_scan_126 : decode kc_Mo_scan 126 = .ok (.dup, 1) := by decide +kernel
theorem kd_Mo_scan_127 : decode kc_Mo_scan 127 = .ok (.getfield 880, 3) := by decide +kernel
theorem kd_Mo_scan_130 : decode kc_Mo_scan 130 = .ok (.aload_n 0, 1) := by decide +kernel
theorem kd_Mo_scan_131 : decode kc_Mo_scan 131 = .ok (.getfield 817, 3) := by decide +kernel
theorem kd_Mo_scan_134 : decode kc_Mo_scan 134 = .ok (.i2l, 1) := by decide +kernel
theorem kd_Mo_scan_135 : decode kc_Mo_scan 135 = .ok (.aload_n 0, 1) := by decide +kernel
theorem kd_Mo_scan_136 : decode kc_Mo_scan 136 = .ok (.getfield 133, 3) := by decide +kernel
theorem kd_Mo_scan_139 : decode kc_Mo_scan 139 = .ok (.aload_n 0, 1) := by decide +kernel
theorem kd_Mo_scan_140 : decode kc_Mo_scan 140 = .ok (.getfield 462, 3) := by decide +kernel
theorem kd_Mo_scan_143 : decode kc_Mo_scan 143 = .ok (.iconst 1, 1) := by decide +kernel
theorem kd_Mo_scan_144 : decode kc_Mo_scan 144 = .ok (.isub, 1) := by decide +kernel
theorem kd_Mo_scan_145 : decode kc_Mo_scan 145 = .ok (.laload, 1) := by decide +kernel
theorem kd_Mo_scan_146 : decode kc_Mo_scan 146 = .ok (.lcmp, 1) := by decide +kernel
theorem kd_Mo_scan_147 : decode kc_Mo_scan 147 = .ok (.ifCond .le 7, 3) := by decide +kernel
theorem kd_Mo_scan_150 : decode kc_Mo_scan 150 = .ok (.iconst 1, 1) := by decide +kernel
theorem kd_Mo_scan_151 : decode kc_Mo_scan 151 = .ok (.goto 4, 3) := by decide +kernel
theorem kd_Mo_scan_154 : decode kc_Mo_scan 154 = .ok (.iconst 0, 1) := by decide +kernel
theorem kd_Mo_scan_155 : decode kc_Mo_scan 155 = .ok (.iadd, 1) := by decide +kernel
theorem kd_Mo_scan_156 : decode kc_Mo_scan 156 = .ok (.putfield 880, 3) := by decide +kernel
theorem kd_Mo_scan_159 : decode kc_Mo_scan 159 = .ok (.aload_n 0, 1) := by decide +kernel
theorem kd_Mo_scan_160 : decode kc_Mo_scan 160 = .ok (.getfield 814, 3) := by decide +kernel
theorem kd_Mo_scan_163 : decode kc_Mo_scan 163 = .ok (.ifCond .eq 17, 3) := by decide +kernel
theorem kd_Mo_scan_166 : decode kc_Mo_scan 166 = .ok (.aload_n 0, 1) := by decide +kernel
theorem kd_Mo_scan_167 : decode kc_Mo_scan 167 = .ok (.iconst 1, 1) := by decide +kernel
theorem kd_Mo_scan_168 : decode kc_Mo_scan 168 = .ok (.putfield 892, 3) := by decide +kernel
theorem kd_Mo_scan_171 : decode kc_Mo_scan 171 = .ok (.aload_n 0, 1) := by decide +kernel
theorem kd_Mo_scan_172 : decode kc_Mo_scan 172 = .ok (.invokevirtual 889, 3) := by decide +kernel
theorem kd_Mo_scan_175 : decode kc_Mo_scan 175 = .ok (.aload_n 0, 1) := by decide +kernel
theorem kd_Mo_scan_176 : decode kc_Mo_scan 176 = .ok (.getfield 814, 3) := by decide +kernel
theorem kd_Mo_scan_179 : decode kc_Mo_scan 179 = .ok (.ireturn, 1) := by decide +kernel
theorem kd_Mo_scan_180 : decode kc_Mo_scan 180 = .ok (.iconst 0, 1) := by decide +kernel
theorem kd_Mo_scan_181 : decode kc_Mo_scan 181 = .ok (.istore_n 2, 1) := by decide +kernel
theorem kd_Mo_scan_182 : decode kc_Mo_scan 182 = .ok (.iload_n 2, 1) := by decide +kernel
theorem kd_Mo_scan_183 : decode kc_Mo_scan 183 = .ok (.sipush 320, 3) := by decide +kernel
theorem kd_Mo_scan_186 : decode kc_Mo_scan 186 = .ok (.if_icmp .ge 44, 3) := by decide +kernel
theorem kd_Mo_scan_189 : decode kc_Mo_scan 189 = .ok (.aload_n 0, 1) := by decide +kernel
theorem kd_Mo_scan_190 : decode kc_Mo_scan 190 = .ok (.getfield 172, 3) := by decide +kernel
theorem kd_Mo_scan_193 : decode kc_Mo_scan 193 = .ok (.iload_n 2, 1) := by decide +kernel
theorem kd_Mo_scan_194 : decode kc_Mo_scan 194 = .ok (.aload_n 0, 1) := by decide +kernel
theorem kd_Mo_scan_195 : decode kc_Mo_scan 195 = .ok (.getfield 150, 3) := by decide +kernel
theorem kd_Mo_scan_198 : decode kc_Mo_scan 198 = .ok (.iload_n 2, 1) := by decide +kernel
theorem kd_Mo_scan_199 : decode kc_Mo_scan 199 = .ok (.sipush 256, 3) := by decide +kernel
theorem kd_Mo_scan_202 : decode kc_Mo_scan 202 = .ok (.if_icmp .ge 11, 3) := by decide +kernel
theorem kd_Mo_scan_205 : decode kc_Mo_scan 205 = .ok (.sipush 256, 3) := by decide +kernel
theorem kd_Mo_scan_208 : decode kc_Mo_scan 208 = .ok (.iload_n 2, 1) := by decide +kernel
theorem kd_Mo_scan_209 : decode kc_Mo_scan 209 = .ok (.iadd, 1) := by decide +kernel
theorem kd_Mo_scan_210 : decode kc_Mo_scan 210 = .ok (.goto 12, 3) := by decide +kernel
theorem kd_Mo_scan_213 : decode kc_Mo_scan 213 = .ok (.sipush 832, 3) := by decide +kernel
theorem kd_Mo_scan_216 : decode kc_Mo_scan 216 = .ok (.iload_n 2, 1) := by decide +kernel
theorem kd_Mo_scan_217 : decode kc_Mo_scan 217 = .ok (.iadd, 1) := by decide +kernel
theorem kd_Mo_scan_218 : decode kc_Mo_scan 218 = .ok (.sipush 256, 3) := by decide +kernel
theorem kd_Mo_scan_221 : decode kc_Mo_scan 221 = .ok (.isub, 1) := by decide +kernel
theorem kd_Mo_scan_222 : decode kc_Mo_scan 222 = .ok (.iaload, 1) := by decide +kernel
theorem kd_Mo_scan_223 : decode kc_Mo_scan 223 = .ok (.iastore, 1) := by decide +kernel
theorem kd_Mo_scan_224 : decode kc_Mo_scan 224 = .ok (.iinc 2 1, 3) := by decide +kernel
theorem kd_Mo_scan_227 : decode kc_Mo_scan 227 = .ok (.goto (-45), 3) := by decide +kernel
theorem kd_Mo_scan_230 : decode kc_Mo_scan 230 = .ok (.aload_n 0, 1) := by decide +kernel
theorem kd_Mo_scan_231 : decode kc_Mo_scan 231 = .ok (.getfield 817, 3) := by decide +kernel
theorem kd_Mo_scan_234 : decode kc_Mo_scan 234 = .ok (.ireturn, 1) := by decide +kernel
theorem kd_Mo_useTape_0 : decode kc_Mo_useTape 0 = .ok (.aload_n 0, 1) := by decide +kernel
theorem kd_Mo_useTape_1 : decode kc_Mo_useTape 1 = .ok (.getfield 844, 3) := by decide +kernel
theorem kd_Mo_useTape_4 : decode kc_Mo_useTape 4 = .ok (.istore_n 1, 1) := by decide +kernel
theorem kd_Mo_useTape_5 : decode kc_Mo_useTape 5 = .ok (.aload_n 0, 1) := by decide +kernel
theorem kd_Mo_useTape_6 : decode kc_Mo_useTape 6 = .ok (.iconst 0, 1) := by decide +kernel
theorem kd_Mo_useTape_7 : decode kc_Mo_useTape 7 = .ok (.putfield 844, 3) := by decide +kernel
theorem kd_Mo_useTape_10 : decode kc_Mo_useTape 10 = .ok (.iload_n 1, 1) := by decide +kernel
theorem kd_Mo_useTape_11 : decode kc_Mo_useTape 11 = .ok (.ireturn, 1) := by decide +kernel
theorem kd_Mo_watch_0 : decode kc_Mo_watch 0 = .ok (.aload_n 0, 1) := by decide +kernel
theorem kd_Mo_watch_1 : decode kc_Mo_watch 1 = .ok (.aload_n 0, 1) := by decide +kernel
theorem kd_Mo_watch_2 : decode kc_Mo_watch 2 = .ok (.invokevirtual 850, 3) := by decide +kernel
theorem kd_Mo_watch_5 : decode kc_Mo_watch 5 = .ok (.putfield 904, 3) := by decide +kernel
theorem kd_Mo_watch_8 : decode kc_Mo_watch 8 = .ok (.aload_n 0, 1) := by decide +kernel
theorem kd_Mo_watch_9 : decode kc_Mo_watch 9 = .ok (.getfield 874, 3) := by decide +kernel
theorem kd_Mo_watch_12 : decode kc_Mo_watch 12 = .ok (.ifCond .ne 6, 3) := by decide +kernel
theorem kd_Mo_watch_15 : decode kc_Mo_watch 15 = .ok (.bipush (-5), 2) := by decide +kernel
theorem kd_Mo_watch_17 : decode kc_Mo_watch 17 = .ok (.ireturn, 1) := by decide +kernel
theorem kd_Mo_watch_18 : decode kc_Mo_watch 18 = .ok (.aload_n 0, 1) := by decide +kernel
theorem kd_Mo_watch_19 : decode kc_Mo_watch 19 = .ok (.iconst 0, 1) := by decide +kernel
theorem kd_Mo_watch_20 : decode kc_Mo_watch 20 = .ok (.putfield 907, 3) := by decide +kernel
theorem kd_Mo_watch_23 : decode kc_Mo_watch 23 = .ok (.aload_n 0, 1) := by decide +kernel
theorem kd_Mo_watch_24 : decode kc_Mo_watch 24 = .ok (.getfield 462, 3) := by decide +kernel
theorem kd_Mo_watch_27 : decode kc_Mo_watch 27 = .ok (.iconst 1, 1) := by decide +kernel
theorem kd_Mo_watch_28 : decode kc_Mo_watch 28 = .ok (.isub, 1) := by decide +kernel
theorem kd_Mo_watch_29 : decode kc_Mo_watch 29 = .ok (.istore_n 1, 1) := by decide +kernel
theorem kd_Mo_watch_30 : decode kc_Mo_watch 30 = .ok (.iconst 0, 1) := by decide +kernel
theorem kd_Mo_watch_31 : decode kc_Mo_watch 31 = .ok (.istore_n 2, 1) := by decide +kernel
theorem kd_Mo_watch_32 : decode kc_Mo_watch 32 = .ok (.iconst 1, 1) := by decide +kernel
theorem kd_Mo_watch_33 : decode kc_Mo_watch 33 = .ok (.istore_n 3, 1) := by decide +kernel
theorem kd_Mo_watch_34 : decode kc_Mo_watch 34 = .ok (.iconst (-1), 1) := by decide +kernel
theorem kd_Mo_watch_35 : decode kc_Mo_watch 35 = .ok (.istore 4, 2) := by decide +kernel
theorem kd_Mo_watch_37 : decode kc_Mo_watch 37 = .ok (.iload_n 3, 1) := by decide +kernel
theorem kd_Mo_watch_38 : decode kc_Mo_watch 38 = .ok (.ifCond .eq 90, 3) := by decide +kernel
theorem kd_Mo_watch_41 : decode kc_Mo_watch 41 = .ok (.aload_n 0, 1) := by decide +kernel
theorem kd_Mo_watch_42 : decode kc_Mo_watch 42 = .ok (.invokevirtual 916, 3) := by decide +kernel
theorem kd_Mo_watch_45 : decode kc_Mo_watch 45 = .ok (.ifCond .eq 11, 3) := by decide +kernel
theorem kd_Mo_watch_48 : decode kc_Mo_watch 48 = .ok (.aload_n 0, 1) := by decide +kernel
theorem kd_Mo_watch_49 : decode kc_Mo_watch 49 = .ok (.iload_n 1, 1) := by decide +kernel
theorem kd_Mo_watch_50 : decode kc_Mo_watch 50 = .ok (.invokevirtual 919, 3) := by decide +kernel
theorem kd_Mo_watch_53 : decode kc_Mo_watch 53 = .ok (.goto 4, 3) := by decide +kernel
theorem kd_Mo_watch_56 : decode kc_Mo_watch 56 = .ok (.iconst (-1), 1) := by decide +kernel
theorem kd_Mo_watch_57 : decode kc_Mo_watch 57 = .ok (.istore 4, 2) := by decide +kernel
theorem kd_Mo_watch_59 : decode kc_Mo_watch 59 = .ok (.iload 4, 2) := by decide +kernel
theorem kd_Mo_watch_61 : decode kc_Mo_watch 61 = .ok (.ifCond .lt 40, 3) := by decide +kernel
theorem kd_Mo_watch_64 : decode kc_Mo_watch 64 = .ok (.aload_n 0, 1) := by decide +kernel
theorem kd_Mo_watch_65 : decode kc_Mo_watch 65 = .ok (.getfield 82, 3) := by decide +kernel
theorem kd_Mo_watch_68 : decode kc_Mo_watch 68 = .ok (.iload 4, 2) := by decide +kernel
theorem kd_Mo_watch_70 : decode kc_Mo_watch 70 = .ok (.iaload, 1) := by decide +kernel
theorem kd_Mo_watch_71 : decode kc_Mo_watch 71 = .ok (.iconst 2, 1) := by decide +kernel
theorem kd_Mo_watch_72 : decode kc_Mo_watch 72 = .ok (.if_icmp .ne 29, 3) := by decide +kernel
theorem kd_Mo_watch_75 : decode kc_Mo_watch 75 = .ok (.aload_n 0, 1) := by decide +kernel
theorem kd_Mo_watch_76 : decode kc_Mo_watch 76 = .ok (.getfield 85, 3) := by decide +kernel
theorem kd_Mo_watch_79 : decode kc_Mo_watch 79 = .ok (.iload 4, 2) := by decide +kernel
theorem kd_Mo_watch_81 : decode kc_Mo_watch 81 = .ok (.iaload, 1) := by decide +kernel
theorem kd_Mo_watch_82 : decode kc_Mo_watch 82 = .ok (.ldc_w 498, 3) := by decide +kernel
theorem kd_Mo_watch_85 : decode kc_Mo_watch 85 = .ok (.if_icmp .ge 16, 3) := by decide +kernel
theorem kd_Mo_watch_88 : decode kc_Mo_watch 88 = .ok (.aload_n 0, 1) := by decide +kernel
theorem kd_Mo_watch_89 : decode kc_Mo_watch 89 = .ok (.bipush 46, 2) := by decide +kernel
theorem kd_Mo_watch_91 : decode kc_Mo_watch 91 = .ok (.invokevirtual 922, 3) := by decide +kernel
theorem kd_Mo_watch_94 : decode kc_Mo_watch 94 = .ok (.ifCond .eq 7, 3) := by decide +kernel
theorem kd_Mo_watch_97 : decode kc_Mo_watch 97 = .ok (.iconst 1, 1) := by decide +kernel
theorem kd_Mo_watch_98 : decode kc_Mo_watch 98 = .ok (.goto 4, 3) := by decide +kernel
theorem kd_Mo_watch_101 : decode kc_Mo_watch 101 = .ok (.iconst 0, 1) := by decide +kernel
theorem kd_Mo_watch_102 : decode kc_Mo_watch 102 = .ok (.istore_n 3, 1) := by decide +kernel
theorem kd_Mo_watch_103 : decode kc_Mo_watch 103 = .ok (.iload_n 3, 1) := by decide +kernel
theorem kd_Mo_watch_104 : decode kc_Mo_watch 104 = .ok (.ifCond .eq (-67), 3) := by decide +kernel
theorem kd_Mo_watch_107 : decode kc_Mo_watch 107 = .ok (.iload_n 2, 1) := by decide +kernel
theorem kd_Mo_watch_108 : decode kc_Mo_watch 108 = .ok (.aload_n 0, 1) := by decide +kernel
theorem kd_Mo_watch_109 : decode kc_Mo_watch 109 = .ok (.getfield 88, 3) := by decide +kernel
theorem kd_Mo_watch_112 : decode kc_Mo_watch 112 = .ok (.iload 4, 2) := by decide +kernel
theorem kd_Mo_watch_114 : decode kc_Mo_watch 114 = .ok (.iaload, 1) := by decide +kernel
theorem kd_Mo_watch_115 : decode kc_Mo_watch 115 = .ok (.iadd, 1) := by decide +kernel
theorem kd_Mo_watch_116 : decode kc_Mo_watch 116 = .ok (.istore_n 2, 1) := by decide +kernel
theorem kd_Mo_watch_117 : decode kc_Mo_watch 117 = .ok (.aload_n 0, 1) := by decide +kernel
theorem kd_Mo_watch_118 : decode kc_Mo_watch 118 = .ok (.getfield 85, 3) := by decide +kernel
theorem kd_Mo_watch_121 : decode kc_Mo_watch 121 = .ok (.iload 4, 2) := by decide +kernel
theorem kd_Mo_watch_123 : decode kc_Mo_watch 123 = .ok (.iaload, 1) := by decide +kernel
theorem kd_Mo_watch_124 : decode kc_Mo_watch 124 = .ok (.istore_n 1, 1) := by decide +kernel
theorem kd_Mo_watch_125 : decode kc_Mo_watch 125 = .ok (.goto (-88), 3) := by decide +kernel
theorem kd_Mo_watch_128 : decode kc_Mo_watch 128 = .ok (.iload 4, 2) := by decide +kernel
theorem kd_Mo_watch_130 : decode kc_Mo_watch 130 = .ok (.ifCond .lt 27, 3) := by decide +kernel
theorem kd_Mo_watch_133 : decode kc_Mo_watch 133 = .ok (.aload_n 0, 1) := by decide +kernel
theorem kd_Mo_watch_134 : decode kc_Mo_watch 134 = .ok (.getfield 82, 3) := by decide +kernel
theorem kd_Mo_watch_137 : decode kc_Mo_watch 137 = .ok (.iload 4, 2) := by decide +kernel
theorem kd_Mo_watch_139 : decode kc_Mo_watch 139 = .ok (.iaload, 1) := by decide +kernel
theorem kd_Mo_watch_140 : decode kc_Mo_watch 140 = .ok (.iconst 2, 1) := by decide +kernel
theorem kd_Mo_watch_141 : decode kc_Mo_watch 141 = .ok (.if_icmp .ne 18, 3) := by decide +kernel
theorem kd_Mo_watch_144 : decode kc_Mo_watch 144 = .ok (.aload_n 0, 1) := by decide +kernel
theorem kd_Mo_watch_145 : decode kc_Mo_watch 145 = .ok (.getfield 85, 3) := by decide +kernel
theorem kd_Mo_watch_148 : decode kc_Mo_watch 148 = .ok (.iload 4, 2) := by decide +kernel
theorem kd_Mo_watch_150 : decode kc_Mo_watch 150 = .ok (.iaload, 1) := by decide +kernel
theorem kd_Mo_watch_151 : decode kc_Mo_watch 151 = .ok (.ldc_w 498, 3) := by decide +kernel
theorem kd_Mo_watch_154 : decode kc_Mo_watch 154 = .ok (.if_icmp .ge 5, 3) := by decide +kernel
theorem kd_Mo_watch_157 : decode kc_Mo_watch 157 = .ok (.iconst (-1), 1) := by decide +kernel
theorem kd_Mo_watch_158 : decode kc_Mo_watch 158 = .ok (.ireturn, 1) := by decide +kernel
theorem kd_Mo_watch_159 : decode kc_Mo_watch 159 = .ok (.iload_n 2, 1) := by decide +kernel
theorem kd_Mo_watch_160 : decode kc_Mo_watch 160 = .ok (.aload_n 0, 1) := by decide +kernel
theorem kd_Mo_watch_161 : decode kc_Mo_watch 161 = .ok (.getfield 88, 3) := by decide +kernel
theorem kd_Mo_watch_164 : decode kc_Mo_watch 164 = .ok (.iload 4, 2) := by decide +kernel
theorem kd_Mo_watch_166 : decode kc_Mo_watch 166 = .ok (.iaload, 1) := by decide +kernel
theorem kd_Mo_watch_167 : decode kc_Mo_watch 167 = .ok (.iadd, 1) := by decide +kernel
theorem kd_Mo_watch_168 : decode kc_Mo_watch 168 = .ok (.istore_n 2, 1) := by decide +kernel
theorem kd_Mo_watch_169 : decode kc_Mo_watch 169 = .ok (.aload_n 0, 1) := by decide +kernel
theorem kd_Mo_watch_170 : decode kc_Mo_watch 170 = .ok (.getfield 82, 3) := by decide +kernel
theorem kd_Mo_watch_173 : decode kc_Mo_watch 173 = .ok (.iload 4, 2) := by decide +kernel
theorem kd_Mo_watch_175 : decode kc_Mo_watch 175 = .ok (.iaload, 1) := by decide +kernel
theorem kd_Mo_watch_176 : decode kc_Mo_watch 176 = .ok (.iconst 2, 1) := by decide +kernel
theorem kd_Mo_watch_177 : decode kc_Mo_watch 177 = .ok (.if_icmp .ne 16, 3) := by decide +kernel
theorem kd_Mo_watch_180 : decode kc_Mo_watch 180 = .ok (.aload_n 0, 1) := by decide +kernel
theorem kd_Mo_watch_181 : decode kc_Mo_watch 181 = .ok (.aload_n 0, 1) := by decide +kernel
theorem kd_Mo_watch_182 : decode kc_Mo_watch 182 = .ok (.getfield 85, 3) := by decide +kernel
theorem kd_Mo_watch_185 : decode kc_Mo_watch 185 = .ok (.iload 4, 2) := by decide +kernel
theorem kd_Mo_watch_187 : decode kc_Mo_watch 187 = .ok (.iaload, 1) := by decide +kernel
theorem kd_Mo_watch_188 : decode kc_Mo_watch 188 = .ok (.iload_n 2, 1) := by decide +kernel
theorem kd_Mo_watch_189 : decode kc_Mo_watch 189 = .ok (.invokevirtual 925, 3) := by decide +kernel
theorem kd_Mo_watch_192 : decode kc_Mo_watch 192 = .ok (.ireturn, 1) := by decide +kernel
theorem kd_Mo_watch_193 : decode kc_Mo_watch 193 = .ok (.aload_n 0, 1) := by decide +kernel
theorem kd_Mo_watch_194 : decode kc_Mo_watch 194 = .ok (.getfield 82, 3) := by decide +kernel
theorem kd_Mo_watch_197 : decode kc_Mo_watch 197 = .ok (.iload 4, 2) := by decide +kernel
theorem kd_Mo_watch_199 : decode kc_Mo_watch 199 = .ok (.iaload, 1) := by decide +kernel
theorem kd_Mo_watch_200 : decode kc_Mo_watch 200 = .ok (.iconst 1, 1) := by decide +kernel
theorem kd_Mo_watch_201 : decode kc_Mo_watch 201 = .ok (.if_icmp .ne 61, 3) := by decide +kernel
theorem kd_Mo_watch_204 : decode kc_Mo_watch 204 = .ok (.aload_n 0, 1) := by decide +kernel
theorem kd_Mo_watch_205 : decode kc_Mo_watch 205 = .ok (.invokevirtual 928, 3) := by decide +kernel
theorem kd_Mo_watch_208 : decode kc_Mo_watch 208 = .ok (.aload_n 0, 1) := by decide +kernel
theorem kd_Mo_watch_209 : decode kc_Mo_watch 209 = .ok (.getfield 97, 3) := by decide +kernel
theorem kd_Mo_watch_212 : decode kc_Mo_watch 212 = .ok (.iload 4, 2) := by decide +kernel
theorem kd_Mo_watch_214 : decode kc_Mo_watch 214 = .ok (.iaload, 1) := by decide +kernel
theorem kd_Mo_watch_215 : decode kc_Mo_watch 215 = .ok (.isub, 1) := by decide +kernel
theorem kd_Mo_watch_216 : decode kc_Mo_watch 216 = .ok (.istore 5, 2) := by decide +kernel
theorem kd_Mo_watch_218 : decode kc_Mo_watch 218 = .ok (.aload_n 0, 1) := by decide +kernel
theorem kd_Mo_watch_219 : decode kc_Mo_watch 219 = .ok (.getfield 907, 3) := by decide +kernel
theorem kd_Mo_watch_222 : decode kc_Mo_watch 222 = .ok (.ifCond .lt 20, 3) := by decide +kernel
theorem kd_Mo_watch_225 : decode kc_Mo_watch 225 = .ok (.iload 5, 2) := by decide +kernel
theorem kd_Mo_watch_227 : decode kc_Mo_watch 227 = .ok (.ifCond .lt 15, 3) := by decide +kernel
theorem kd_Mo_watch_230 : decode kc_Mo_watch 230 = .ok (.iload 5, 2) := by decide +kernel
theorem kd_Mo_watch_232 : decode kc_Mo_watch 232 = .ok (.aload_n 0, 1) := by decide +kernel
theorem kd_Mo_watch_233 : decode kc_Mo_watch 233 = .ok (.getfield 100, 3) := by decide +kernel
theorem kd_Mo_watch_236 : decode kc_Mo_watch 236 = .ok (.iload 4, 2) := by decide +kernel
theorem kd_Mo_watch_238 : decode kc_Mo_watch 238 = .ok (.iaload, 1) := by decide +kernel
theorem kd_Mo_watch_239 : decode kc_Mo_watch 239 = .ok (.if_icmp .lt 7, 3) := by decide +kernel
theorem kd_Mo_watch_242 : decode kc_Mo_watch 242 = .ok (.iconst (-1), 1) := by decide +kernel
theorem kd_Mo_watch_243 : decode kc_Mo_watch 243 = .ok (.goto 18, 3) := by decide +kernel
theorem kd_Mo_watch_246 : decode kc_Mo_watch 246 = .ok (.aload_n 0, 1) := by decide +kernel
theorem kd_Mo_watch_247 : decode kc_Mo_watch 247 = .ok (.aload_n 0, 1) := by decide +kernel
theorem kd_Mo_watch_248 : decode kc_Mo_watch 248 = .ok (.getfield 85, 3) := by decide +kernel
theorem kd_Mo_watch_251 : decode kc_Mo_watch 251 = .ok (.iload 4, 2) := by decide +kernel
theorem kd_Mo_watch_253 : decode kc_Mo_watch 253 = .ok (.iaload, 1) := by decide +kernel
theorem kd_Mo_watch_254 : decode kc_Mo_watch 254 = .ok (.iload_n 2, 1) := by decide +kernel
theorem kd_Mo_watch_255 : decode kc_Mo_watch 255 = .ok (.iload 5, 2) := by decide +kernel
theorem kd_Mo_watch_257 : decode kc_Mo_watch 257 = .ok (.iadd, 1) := by decide +kernel
theorem kd_Mo_watch_258 : decode kc_Mo_watch 258 = .ok (.invokevirtual 931, 3) := by decide +kernel
theorem kd_Mo_watch_261 : decode kc_Mo_watch 261 = .ok (.ireturn, 1) := by decide +kernel
theorem kd_Mo_watch_262 : decode kc_Mo_watch 262 = .ok (.aload_n 0, 1) := by decide +kernel
theorem kd_Mo_watch_263 : decode kc_Mo_watch 263 = .ok (.getfield 907, 3) := by decide +kernel
theorem kd_Mo_watch_266 : decode kc_Mo_watch 266 = .ok (.aload_n 0, 1) := by decide +kernel
theorem kd_Mo_watch_267 : decode kc_Mo_watch 267 = .ok (.getfield 904, 3) := by decide +kernel
theorem kd_Mo_watch_270 : decode kc_Mo_watch 270 = .ok (.if_icmp .ge 7, 3) := by decide +kernel
theorem kd_Mo_watch_273 : decode kc_Mo_watch 273 = .ok (.iconst (-1), 1) := by decide +kernel
theorem kd_Mo_watch_274 : decode kc_Mo_watch 274 = .ok (.goto 15, 3) := by decide +kernel
theorem kd_Mo_watch_277 : decode kc_Mo_watch 277 = .ok (.aload_n 0, 1) := by decide +kernel
theorem kd_Mo_watch_278 : decode kc_Mo_watch 278 = .ok (.aload_n 0, 1) := by decide +kernel
theorem kd_Mo_watch_279 : decode kc_Mo_watch 279 = .ok (.getfield 85, 3) := by decide +kernel
theorem kd_Mo_watch_282 : decode kc_Mo_watch 282 = .ok (.iload 4, 2) := by decide +kernel
theorem kd_Mo_watch_284 : decode kc_Mo_watch 284 = .ok (.iaload, 1) := by decide +kernel
theorem kd_Mo_watch_285 : decode kc_Mo_watch 285 = .ok (.iload_n 2, 1) := by decide +kernel
theorem kd_Mo_watch_286 : decode kc_Mo_watch 286 = .ok (.invokevirtual 931, 3) := by decide +kernel
theorem kd_Mo_watch_289 : decode kc_Mo_watch 289 = .ok (.ireturn, 1) := by decide +kernel
theorem kd_Mo_frame_0 : decode kc_Mo_frame 0 = .ok (.aload_n 0, 1) := by decide +kernel
theorem kd_Mo_frame_1 : decode kc_Mo_frame 1 = .ok (.invokevirtual 850, 3) := by decide +kernel
theorem kd_Mo_frame_4 : decode kc_Mo_frame 4 = .ok (.istore_n 1, 1) := by decide +kernel
theorem kd_Mo_frame_5 : decode kc_Mo_frame 5 = .ok (.aload_n 0, 1) := by decide +kernel
theorem kd_Mo_frame_6 : decode kc_Mo_frame 6 = .ok (.iconst 0, 1) := by decide +kernel
theorem kd_Mo_frame_7 : decode kc_Mo_frame 7 = .ok (.putfield 956, 3) := by decide +kernel
theorem kd_Mo_frame_10 : decode kc_Mo_frame 10 = .ok (.aload_n 0, 1) := by decide +kernel
theorem kd_Mo_frame_11 : decode kc_Mo_frame 11 = .ok (.getfield 874, 3) := by decide +kernel
theorem kd_Mo_frame_14 : decode kc_Mo_frame 14 = .ok (.ifCond .eq 15, 3) := by decide +kernel
theorem kd_Mo_frame_17 : decode kc_Mo_frame 17 = .ok (.iload_n 1, 1) := by decide +kernel
theorem kd_Mo_frame_18 : decode kc_Mo_frame 18 = .ok (.iconst 4, 1) := by decide +kernel
theorem kd_Mo_frame_19 : decode kc_Mo_frame 19 = .ok (.if_icmp .lt 10, 3) := by decide +kernel
theorem kd_Mo_frame_22 : decode kc_Mo_frame 22 = .ok (.iload_n 1, 1) := by decide +kernel
theorem kd_Mo_frame_23 : decode kc_Mo_frame 23 = .ok (.sipush 256, 3) := by decide +kernel
theorem kd_Mo_frame_26 : decode kc_Mo_frame 26 = .ok (.if_icmp .le 5, 3) := by decide +kernel
theorem kd_Mo_frame_29 : decode kc_Mo_frame 29 = .ok (.iconst 0, 1) := by decide +kernel
theorem kd_Mo_frame_30 : decode kc_Mo_frame 30 = .ok (.ireturn, 1) := by decide +kernel
theorem kd_Mo_frame_31 : decode kc_Mo_frame 31 = .ok (.ldc_w 801, 3) := by decide +kernel
theorem kd_Mo_frame_34 : decode kc_Mo_frame 34 = .ok (.istore_n 2, 1) := by decide +kernel
theorem kd_Mo_frame_35 : decode kc_Mo_frame 35 = .ok (.iconst 0, 1) := by decide +kernel
theorem kd_Mo_frame_36 : decode kc_Mo_frame 36 = .ok (.istore_n 3, 1) := by decide +kernel
theorem kd_Mo_frame_37 : decode kc_Mo_frame 37 = .ok (.iload_n 3, 1) := by decide +kernel
theorem kd_Mo_frame_38 : decode kc_Mo_frame 38 = .ok (.iload_n 1, 1) := by decide +kernel
theorem kd_Mo_frame_39 : decode kc_Mo_frame 39 = .ok (.iconst 2, 1) := by decide +kernel
theorem kd_Mo_frame_40 : decode kc_Mo_frame 40 = .ok (.isub, 1) := by decide +kernel
theorem kd_Mo_frame_41 : decode kc_Mo_frame 41 = .ok (.if_icmp .ge 19, 3) := by decide +kernel
theorem kd_Mo_frame_44 : decode kc_Mo_frame 44 = .ok (.iload_n 2, 1) := by decide +kernel
theorem kd_Mo_frame_45 : decode kc_Mo_frame 45 = .ok (.aload_n 0, 1) := by decide +kernel
theorem kd_Mo_frame_46 : decode kc_Mo_frame 46 = .ok (.iload_n 3, 1) := by decide +kernel
theorem kd_Mo_frame_47 : decode kc_Mo_frame 47 = .ok (.invokevirtual 953, 3) := by decide +kernel
theorem kd_Mo_frame_50 : decode kc_Mo_frame 50 = .ok (.invokestatic 959, 3) := by decide +kernel
theorem kd_Mo_frame_53 : decode kc_Mo_frame 53 = .ok (.istore_n 2, 1) := by decide +kernel
theorem kd_Mo_frame_54 : decode kc_Mo_frame 54 = .ok (.iinc 3 1, 3) := by decide +kernel
theorem kd_Mo_frame_57 : decode kc_Mo_frame 57 = .ok (.goto (-20), 3) := by decide +kernel
theorem kd_Mo_frame_60 : decode kc_Mo_frame 60 = .ok (.aload_n 0, 1) := by decide +kernel
theorem kd_Mo_frame_61 : decode kc_Mo_frame 61 = .ok (.iconst 0, 1) := by decide +kernel
theorem kd_Mo_frame_62 : decode kc_Mo_frame 62 = .ok (.invokevirtual 953, 3) := by decide +kernel
theorem kd_Mo_frame_65 : decode kc_Mo_frame 65 = .ok (.ifCond .eq 15, 3) := by decide +kernel
theorem kd_Mo_frame_68 : decode kc_Mo_frame 68 = .ok (.aload_n 0, 1) := by decide +kernel
theorem kd_Mo_frame_69 : decode kc_Mo_frame 69 = .ok (.iconst 0, 1) := by decide +kernel
theorem kd_Mo_frame_70 : decode kc_Mo_frame 70 = .ok (.invokevirtual 953, 3) := by decide +kernel
theorem kd_Mo_frame_73 : decode kc_Mo_frame 73 = .ok (.aload_n 0, 1) := by decide +kernel
theorem kd_Mo_frame_74 : decode kc_Mo_frame 74 = .ok (.getfield 163, 3) := by decide +kernel
theorem kd_Mo_frame_77 : decode kc_Mo_frame 77 = .ok (.if_icmp .ne 7, 3) := by decide +kernel
theorem kd_Mo_frame_80 : decode kc_Mo_frame 80 = .ok (.iconst 1, 1) := by decide +kernel
theorem kd_Mo_frame_81 : decode kc_Mo_frame 81 = .ok (.goto 4, 3) := by decide +kernel
theorem kd_Mo_frame_84 : decode kc_Mo_frame 84 = .ok (.iconst 0, 1) := by decide +kernel
theorem kd_Mo_frame_85 : decode kc_Mo_frame 85 = .ok (.istore_n 3, 1) := by decide +kernel
theorem kd_Mo_frame_86 : decode kc_Mo_frame 86 = .ok (.aload_n 0, 1) := by decide +kernel
theorem kd_Mo_frame_87 : decode kc_Mo_frame 87 = .ok (.iload_n 1, 1) := by decide +kernel
theorem kd_Mo_frame_88 : decode kc_Mo_frame 88 = .ok (.iconst 2, 1) := by decide +kernel
theorem kd_Mo_frame_89 : decode kc_Mo_frame 89 = .ok (.isub, 1) := by decide +kernel
theorem kd_Mo_frame_90 : decode kc_Mo_frame 90 = .ok (.invokevirtual 953, 3) := by decide +kernel
theorem kd_Mo_frame_93 : decode kc_Mo_frame 93 = .ok (.iload_n 2, 1) := by decide +kernel
theorem kd_Mo_frame_94 : decode kc_Mo_frame 94 = .ok (.sipush 256, 3) := by decide +kernel
theorem kd_Mo_frame_97 : decode kc_Mo_frame 97 = .ok (.irem, 1) := by decide +kernel
theorem kd_Mo_frame_98 : decode kc_Mo_frame 98 = .ok (.if_icmp .ne 22, 3) := by decide +kernel
theorem kd_Mo_frame_101 : decode kc_Mo_frame 101 = .ok (.aload_n 0, 1) := by decide +kernel
theorem kd_Mo_frame_102 : decode kc_Mo_frame 102 = .ok (.iload_n 1, 1) := by decide +kernel
theorem kd_Mo_frame_103 : decode kc_Mo_frame 103 = .ok (.iconst 1, 1) := by decide +kernel
theorem kd_Mo_frame_104 : decode kc_Mo_frame 104 = .ok (.isub, 1) := by decide +kernel
theorem kd_Mo_frame_105 : decode kc_Mo_frame 105 = .ok (.invokevirtual 953, 3) := by decide +kernel
theorem kd_Mo_frame_108 : decode kc_Mo_frame 108 = .ok (.iload_n 2, 1) := by decide +kernel
theorem kd_Mo_frame_109 : decode kc_Mo_frame 109 = .ok (.sipush 256, 3) := by decide +kernel
theorem kd_Mo_frame_112 : decode kc_Mo_frame 112 = .ok (.idiv, 1) := by decide +kernel
theorem kd_Mo_frame_113 : decode kc_Mo_frame 113 = .ok (.if_icmp .ne 7, 3) := by decide +kernel
theorem kd_Mo_frame_116 : decode kc_Mo_frame 116 = .ok (.iload_n 3, 1) := by decide +kernel
theorem kd_Mo_frame_117 : decode kc_Mo_frame 117 = .ok (.ifCond .ne 5, 3) := by decide +kernel
theorem kd_Mo_frame_120 : decode kc_Mo_frame 120 = .ok (.iconst 0, 1) := by decide +kernel
theorem kd_Mo_frame_121 : decode kc_Mo_frame 121 = .ok (.ireturn, 1) := by decide +kernel
theorem kd_Mo_frame_122 : decode kc_Mo_frame 122 = .ok (.aload_n 0, 1) := by decide +kernel
theorem kd_Mo_frame_123 : decode kc_Mo_frame 123 = .ok (.iconst 1, 1) := by decide +kernel
theorem kd_Mo_frame_124 : decode kc_Mo_frame 124 = .ok (.invokevirtual 953, 3) := by decide +kernel
theorem kd_Mo_frame_127 : decode kc_Mo_frame 127 = .ok (.istore 4, 2) := by decide +kernel
theorem kd_Mo_frame_129 : decode kc_Mo_frame 129 = .ok (.aload_n 0, 1) := by decide +kernel
theorem kd_Mo_frame_130 : decode kc_Mo_frame 130 = .ok (.iload 4, 2) := by decide +kernel
theorem kd_Mo_frame_132 : decode kc_Mo_frame 132 = .ok (.iload_n 1, 1) := by decide +kernel
theorem kd_Mo_frame_133 : decode kc_Mo_frame 133 = .ok (.iconst 4, 1) := by decide +kernel
theorem kd_Mo_frame_134 : decode kc_Mo_frame 134 = .ok (.isub, 1) := by decide +kernel
theorem kd_Mo_frame_135 : decode kc_Mo_frame 135 = .ok (.invokevirtual 962, 3) := by decide +kernel
theorem kd_Mo_frame_138 : decode kc_Mo_frame 138 = .ok (.istore 5, 2) := by decide +kernel
theorem kd_Mo_frame_140 : decode kc_Mo_frame 140 = .ok (.iload 5, 2) := by decide +kernel
theorem kd_Mo_frame_142 : decode kc_Mo_frame 142 = .ok (.ifCond .ne 9, 3) := by decide +kernel
theorem kd_Mo_frame_145 : decode kc_Mo_frame 145 = .ok (.aload_n 0, 1) := by decide +kernel
theorem kd_Mo_frame_146 : decode kc_Mo_frame 146 = .ok (.iload 4, 2) := by decide +kernel
theorem kd_Mo_frame_148 : decode kc_Mo_frame 148 = .ok (.invokevirtual 965, 3) := by decide +kernel
theorem kd_Mo_frame_151 : decode kc_Mo_frame 151 = .ok (.aload_n 0, 1) := by decide +kernel
theorem kd_Mo_frame_152 : decode kc_Mo_frame 152 = .ok (.iconst 0, 1) := by decide +kernel
theorem kd_Mo_frame_153 : decode kc_Mo_frame 153 = .ok (.invokevirtual 953, 3) := by decide +kernel
theorem kd_Mo_frame_156 : decode kc_Mo_frame 156 = .ok (.ifCond .le 11, 3) := by decide +kernel
theorem kd_Mo_frame_159 : decode kc_Mo_frame 159 = .ok (.aload_n 0, 1) := by decide +kernel
theorem kd_Mo_frame_160 : decode kc_Mo_frame 160 = .ok (.iload 4, 2) := by decide +kernel
theorem kd_Mo_frame_162 : decode kc_Mo_frame 162 = .ok (.iload 5, 2) := by decide +kernel
theorem kd_Mo_frame_164 : decode kc_Mo_frame 164 = .ok (.invokevirtual 968, 3) := by decide +kernel
theorem kd_Mo_frame_167 : decode kc_Mo_frame 167 = .ok (.aload_n 0, 1) := by decide +kernel
theorem kd_Mo_frame_168 : decode kc_Mo_frame 168 = .ok (.getfield 956, 3) := by decide +kernel
theorem kd_Mo_frame_171 : decode kc_Mo_frame 171 = .ok (.ireturn, 1) := by decide +kernel
theorem kd_Mo_station_0 : decode kc_Mo_station 0 = .ok (.iload_n 1, 1) := by decide +kernel
theorem kd_Mo_station_1 : decode kc_Mo_station 1 = .ok (.iconst 1, 1) := by decide +kernel
theorem kd_Mo_station_2 : decode kc_Mo_station 2 = .ok (.if_icmp .lt 10, 3) := by decide +kernel
theorem kd_Mo_station_5 : decode kc_Mo_station 5 = .ok (.iload_n 1, 1) := by decide +kernel
theorem kd_Mo_station_6 : decode kc_Mo_station 6 = .ok (.sipush 247, 3) := by decide +kernel
theorem kd_Mo_station_9 : decode kc_Mo_station 9 = .ok (.if_icmp .le 5, 3) := by decide +kernel
theorem kd_Mo_station_12 : decode kc_Mo_station 12 = .ok (.iconst (-1), 1) := by decide +kernel
theorem kd_Mo_station_13 : decode kc_Mo_station 13 = .ok (.ireturn, 1) := by decide +kernel
theorem kd_Mo_station_14 : decode kc_Mo_station 14 = .ok (.aload_n 0, 1) := by decide +kernel
theorem kd_Mo_station_15 : decode kc_Mo_station 15 = .ok (.getfield 163, 3) := by decide +kernel
theorem kd_Mo_station_18 : decode kc_Mo_station 18 = .ok (.istore_n 2, 1) := by decide +kernel
theorem kd_Mo_station_19 : decode kc_Mo_station 19 = .ok (.aload_n 0, 1) := by decide +kernel
theorem kd_Mo_station_20 : decode kc_Mo_station 20 = .ok (.iload_n 1, 1) := by decide +kernel
theorem kd_Mo_station_21 : decode kc_Mo_station 21 = .ok (.putfield 163, 3) := by decide +kernel
theorem kd_Mo_station_24 : decode kc_Mo_station 24 = .ok (.iload_n 2, 1) := by decide +kernel
theorem kd_Mo_station_25 : decode kc_Mo_station 25 = .ok (.ireturn, 1) := by decide +kernel
theorem kd_Mo_byteAt_0 : decode kc_Mo_byteAt 0 = .ok (.iload_n 1, 1) := by decide +kernel
theorem kd_Mo_byteAt_1 : decode kc_Mo_byteAt 1 = .ok (.ifCond .lt 11, 3) := by decide +kernel
theorem kd_Mo_byteAt_4 : decode kc_Mo_byteAt 4 = .ok (.iload_n 1, 1) := by decide +kernel
theorem kd_Mo_byteAt_5 : decode kc_Mo_byteAt 5 = .ok (.aload_n 0, 1) := by decide +kernel
theorem kd_Mo_byteAt_6 : decode kc_Mo_byteAt 6 = .ok (.getfield 956, 3) := by decide +kernel
theorem kd_Mo_byteAt_9 : decode kc_Mo_byteAt 9 = .ok (.if_icmp .lt 7, 3) := by decide +kernel
theorem kd_Mo_byteAt_12 : decode kc_Mo_byteAt 12 = .ok (.iconst (-1), 1) := by decide +kernel
theorem kd_Mo_byteAt_13 : decode kc_Mo_byteAt 13 = .ok (.goto 9, 3) := by decide +kernel
theorem kd_Mo_byteAt_16 : decode kc_Mo_byteAt 16 = .ok (.aload_n 0, 1) := by decide +kernel
theorem kd_Mo_byteAt_17 : decode kc_Mo_byteAt 17 = .ok (.getfield 166, 3) := by decide +kernel
theorem kd_Mo_byteAt_20 : decode kc_Mo_byteAt 20 = .ok (.iload_n 1, 1) := by decide +kernel
theorem kd_Mo_byteAt_21 : decode kc_Mo_byteAt 21 = .ok (.iaload, 1) := by decide +kernel
theorem kd_Mo_byteAt_22 : decode kc_Mo_byteAt 22 = .ok (.ireturn, 1) := by decide +kernel
theorem kd_Mo_count_0 : decode kc_Mo_count 0 = .ok (.iload_n 1, 1) := by decide +kernel
theorem kd_Mo_count_1 : decode kc_Mo_count 1 = .ok (.tableswitch 217 0 9 #[55, 60, 77, 101, 117, 133, 149, 165, 181, 197], 55) := by decide +kernel
theorem kd_Mo_count_56 : decode kc_Mo_count 56 = .ok (.aload_n 0, 1) := by decide +kernel
theorem kd_Mo_count_57 : decode kc_Mo_count 57 = .ok (.getfield 856, 3) := by decide +kernel
theorem kd_Mo_count_60 : decode kc_Mo_count 60 = .ok (.ireturn, 1) := by decide +kernel
theorem kd_Mo_count_61 : decode kc_Mo_count 61 = .ok (.aload_n 0, 1) := by decide +kernel
theorem kd_Mo_count_62 : decode kc_Mo_count 62 = .ok (.getfield 856, 3) := by decide +kernel
theorem kd_Mo_count_65 : decode kc_Mo_count 65 = .ok (.ifCond .ne 8, 3) := by decide +kernel
theorem kd_Mo_count_68 : decode kc_Mo_count 68 = .ok (.bipush (-5), 2) := by decide +kernel
theorem kd_Mo_count_70 : decode kc_Mo_count 70 = .ok (.goto 7, 3) := by decide +kernel
theorem kd_Mo_count_73 : decode kc_Mo_count 73 = .ok (.aload_n 0, 1) := by decide +kernel
theorem kd_Mo_count_74 : decode kc_Mo_count 74 = .ok (.getfield 159, 3) := by decide +kernel
theorem kd_Mo_count_77 : decode kc_Mo_count 77 = .ok (.ireturn, 1) := by decide +kernel
theorem kd_Mo_count_78 : decode kc_Mo_count 78 = .ok (.aload_n 0, 1) := by decide +kernel
theorem kd_Mo_count_79 : decode kc_Mo_count 79 = .ok (.getfield 874, 3) := by decide +kernel
theorem kd_Mo_count_82 : decode kc_Mo_count 82 = .ok (.ifCond .eq 18, 3) := by decide +kernel
theorem kd_Mo_count_85 : decode kc_Mo_count 85 = .ok (.aload_n 0, 1) := by decide +kernel
theorem kd_Mo_count_86 : decode kc_Mo_count 86 = .ok (.getfield 133, 3) := by decide +kernel
theorem kd_Mo_count_89 : decode kc_Mo_count 89 = .ok (.aload_n 0, 1) := by decide +kernel
theorem kd_Mo_count_90 : decode kc_Mo_count 90 = .ok (.getfield 462, 3) := by decide +kernel
theorem kd_Mo_count_93 : decode kc_Mo_count 93 = .ok (.iconst 1, 1) := by decide +kernel
theorem kd_Mo_count_94 : decode kc_Mo_count 94 = .ok (.isub, 1) := by decide +kernel
theorem kd_Mo_count_95 : decode kc_Mo_count 95 = .ok (.laload, 1) := by decide +kernel
theorem kd_Mo_count_96 : decode kc_Mo_count 96 = .ok (.l2i, 1) := by decide +kernel
theorem kd_Mo_count_97 : decode kc_Mo_count 97 = .ok (.goto 4, 3) := by decide +kernel
theorem kd_Mo_count_100 : decode kc_Mo_count 100 = .ok (.iconst 0, 1) := by decide +kernel
theorem kd_Mo_count_101 : decode kc_Mo_count 101 = .ok (.ireturn, 1) := by decide +kernel
theorem kd_Mo_count_102 : decode kc_Mo_count 102 = .ok (.aload_n 0, 1) := by decide +kernel
theorem kd_Mo_count_103 : decode kc_Mo_count 103 = .ok (.getfield 874, 3) := by decide +kernel
theorem kd_Mo_count_106 : decode kc_Mo_count 106 = .ok (.ifCond .eq 10, 3) := by decide +kernel
theorem kd_Mo_count_109 : decode kc_Mo_count 109 = .ok (.aload_n 0, 1) := by decide +kernel
theorem kd_Mo_count_110 : decode kc_Mo_count 110 = .ok (.getfield 652, 3) := by decide +kernel
theorem kd_Mo_count_113 : decode kc_Mo_count 113 = .ok (.goto 4, 3) := by decide +kernel
theorem kd_Mo_count_116 : decode kc_Mo_count 116 = .ok (.iconst 0, 1) := by decide +kernel
theorem kd_Mo_count_117 : decode kc_Mo_count 117 = .ok (.ireturn, 1) := by decide +kernel
theorem kd_Mo_count_118 : decode kc_Mo_count 118 = .ok (.aload_n 0, 1) := by decide +kernel
theorem kd_Mo_count_119 : decode kc_Mo_count 119 = .ok (.getfield 874, 3) := by decide +kernel
theorem kd_Mo_count_122 : decode kc_Mo_count 122 = .ok (.ifCond .eq 10, 3) := by decide +kernel
theorem kd_Mo_count_125 : decode kc_Mo_count 125 = .ok (.aload_n 0, 1) := by decide +kernel
theorem kd_Mo_count_126 : decode kc_Mo_count 126 = .ok (.getfield 590, 3) := by decide +kernel
theorem kd_Mo_count_129 : decode kc_Mo_count 129 = .ok (.goto 4, 3) := by decide +kernel
theorem kd_Mo_count_132 : decode kc_Mo_count 132 = .ok (.iconst 0, 1) := by decide +kernel
theorem kd_Mo_count_133 : decode kc_Mo_count 133 = .ok (.ireturn, 1) := by decide +kernel
theorem kd_Mo_count_134 : decode kc_Mo_count 134 = .ok (.aload_n 0, 1) := by decide +kernel
theorem kd_Mo_count_135 : decode kc_Mo_count 135 = .ok (.getfield 874, 3) := by decide +kernel
theorem kd_Mo_count_138 : decode kc_Mo_count 138 = .ok (.ifCond .eq 10, 3) := by decide +kernel
theorem kd_Mo_count_141 : decode kc_Mo_count 141 = .ok (.aload_n 0, 1) := by decide +kernel
theorem kd_Mo_count_142 : decode kc_Mo_count 142 = .ok (.getfield 817, 3) := by decide +kernel
theorem kd_Mo_count_145 : decode kc_Mo_count 145 = .ok (.goto 4, 3) := by decide +kernel
theorem kd_Mo_count_148 : decode kc_Mo_count 148 = .ok (.iconst 0, 1) := by decide +kernel
theorem kd_Mo_count_149 : decode kc_Mo_count 149 = .ok (.ireturn, 1) := by decide +kernel
theorem kd_Mo_count_150 : decode kc_Mo_count 150 = .ok (.aload_n 0, 1) := by decide +kernel
theorem kd_Mo_count_151 : decode kc_Mo_count 151 = .ok (.getfield 874, 3) := by decide +kernel
theorem kd_Mo_count_154 : decode kc_Mo_count 154 = .ok (.ifCond .eq 10, 3) := by decide +kernel
theorem kd_Mo_count_157 : decode kc_Mo_count 157 = .ok (.aload_n 0, 1) := by decide +kernel
theorem kd_Mo_count_158 : decode kc_Mo_count 158 = .ok (.getfield 877, 3) := by decide +kernel
theorem kd_Mo_count_161 : decode kc_Mo_count 161 = .ok (.goto 4, 3) := by decide +kernel
theorem kd_Mo_count_164 : decode kc_Mo_count 164 = .ok (.iconst 0, 1) := by decide +kernel
theorem kd_Mo_count_165 : decode kc_Mo_count 165 = .ok (.ireturn, 1) := by decide +kernel
theorem kd_Mo_count_166 : decode kc_Mo_count 166 = .ok (.aload_n 0, 1) := by decide +kernel
theorem kd_Mo_count_167 : decode kc_Mo_count 167 = .ok (.getfield 874, 3) := by decide +kernel
theorem kd_Mo_count_170 : decode kc_Mo_count 170 = .ok (.ifCond .eq 10, 3) := by decide +kernel
theorem kd_Mo_count_173 : decode kc_Mo_count 173 = .ok (.aload_n 0, 1) := by decide +kernel
theorem kd_Mo_count_174 : decode kc_Mo_count 174 = .ok (.getfield 880, 3) := by decide +kernel
theorem kd_Mo_count_177 : decode kc_Mo_count 177 = .ok (.goto 4, 3) := by decide +kernel
theorem kd_Mo_count_180 : decode kc_Mo_count 180 = .ok (.iconst 0, 1) := by decide +kernel
theorem kd_Mo_count_181 : decode kc_Mo_count 181 = .ok (.ireturn, 1) := by decide +kernel
theorem kd_Mo_count_182 : decode kc_Mo_count 182 = .ok (.aload_n 0, 1) := by decide +kernel
theorem kd_Mo_count_183 : decode kc_Mo_count 183 = .ok (.getfield 874, 3) := by decide +kernel
theorem kd_Mo_count_186 : decode kc_Mo_count 186 = .ok (.ifCond .eq 10, 3) := by decide +kernel
theorem kd_Mo_count_189 : decode kc_Mo_count 189 = .ok (.aload_n 0, 1) := by decide +kernel
theorem kd_Mo_count_190 : decode kc_Mo_count 190 = .ok (.getfield 832, 3) := by decide +kernel
theorem kd_Mo_count_193 : decode kc_Mo_count 193 = .ok (.goto 4, 3) := by decide +kernel
theorem kd_Mo_count_196 : decode kc_Mo_count 196 = .ok (.iconst 0, 1) := by decide +kernel
theorem kd_Mo_count_197 : decode kc_Mo_count 197 = .ok (.ireturn, 1) := by decide +kernel
theorem kd_Mo_count_198 : decode kc_Mo_count 198 = .ok (.aload_n 0, 1) := by decide +kernel
theorem kd_Mo_count_199 : decode kc_Mo_count 199 = .ok (.getfield 874, 3) := by decide +kernel
theorem kd_Mo_count_202 : decode kc_Mo_count 202 = .ok (.ifCond .eq 14, 3) := by decide +kernel
theorem kd_Mo_count_205 : decode kc_Mo_count 205 = .ok (.aload_n 0, 1) := by decide +kernel
theorem kd_Mo_count_206 : decode kc_Mo_count 206 = .ok (.getfield 892, 3) := by decide +kernel
theorem kd_Mo_count_209 : decode kc_Mo_count 209 = .ok (.ifCond .eq 7, 3) := by decide +kernel
theorem kd_Mo_count_212 : decode kc_Mo_count 212 = .ok (.iconst 1, 1) := by decide +kernel
theorem kd_Mo_count_213 : decode kc_Mo_count 213 = .ok (.goto 4, 3) := by decide +kernel
theorem kd_Mo_count_216 : decode kc_Mo_count 216 = .ok (.iconst 0, 1) := by decide +kernel
theorem kd_Mo_count_217 : decode kc_Mo_count 217 = .ok (.ireturn, 1) := by decide +kernel
theorem kd_Mo_count_218 : decode kc_Mo_count 218 = .ok (.iconst (-1), 1) := by decide +kernel
theorem kd_Mo_count_219 : decode kc_Mo_count 219 = .ok (.ireturn, 1) := by decide +kernel
theorem kd_Mo_noPlace_0 : decode kc_Mo_noPlace 0 = .ok (.iload_n 0, 1) := by decide +kernel
theorem kd_Mo_noPlace_1 : decode kc_Mo_noPlace 1 = .ok (.ifCond .lt 29, 3) := by decide +kernel
theorem kd_Mo_noPlace_4 : decode kc_Mo_noPlace 4 = .ok (.iload_n 0, 1) := by decide +kernel
theorem kd_Mo_noPlace_5 : decode kc_Mo_noPlace 5 = .ok (.iconst 5, 1) := by decide +kernel
theorem kd_Mo_noPlace_6 : decode kc_Mo_noPlace 6 = .ok (.if_icmp .gt 24, 3) := by decide +kernel
theorem kd_Mo_noPlace_9 : decode kc_Mo_noPlace 9 = .ok (.iload_n 1, 1) := by decide +kernel
theorem kd_Mo_noPlace_10 : decode kc_Mo_noPlace 10 = .ok (.ifCond .lt 20, 3) := by decide +kernel
theorem kd_Mo_noPlace_13 : decode kc_Mo_noPlace 13 = .ok (.iload_n 1, 1) := by decide +kernel
theorem kd_Mo_noPlace_14 : decode kc_Mo_noPlace 14 = .ok (.iload_n 0, 1) := by decide +kernel
theorem kd_Mo_noPlace_15 : decode kc_Mo_noPlace 15 = .ok (.iconst 3, 1) := by decide +kernel
theorem kd_Mo_noPlace_16 : decode kc_Mo_noPlace 16 = .ok (.if_icmp .ge 9, 3) := by decide +kernel
theorem kd_Mo_noPlace_19 : decode kc_Mo_noPlace 19 = .ok (.sipush 256, 3) := by decide +kernel
theorem kd_Mo_noPlace_22 : decode kc_Mo_noPlace 22 = .ok (.goto 5, 3) := by decide +kernel
theorem kd_Mo_noPlace_25 : decode kc_Mo_noPlace 25 = .ok (.bipush 64, 2) := by decide +kernel
theorem kd_Mo_noPlace_27 : decode kc_Mo_noPlace 27 = .ok (.if_icmp .lt 7, 3) := by decide +kernel
theorem kd_Mo_noPlace_30 : decode kc_Mo_noPlace 30 = .ok (.iconst 1, 1) := by decide +kernel
theorem kd_Mo_noPlace_31 : decode kc_Mo_noPlace 31 = .ok (.goto 4, 3) := by decide +kernel
theorem kd_Mo_noPlace_34 : decode kc_Mo_noPlace 34 = .ok (.iconst 0, 1) := by decide +kernel
theorem kd_Mo_noPlace_35 : decode kc_Mo_noPlace 35 = .ok (.ireturn, 1) := by decide +kernel
theorem kd_Mo_noValue_0 : decode kc_Mo_noValue 0 = .ok (.iload_n 0, 1) := by decide +kernel
theorem kd_Mo_noValue_1 : decode kc_Mo_noValue 1 = .ok (.iconst 3, 1) := by decide +kernel
theorem kd_Mo_noValue_2 : decode kc_Mo_noValue 2 = .ok (.if_icmp .ge 20, 3) := by decide +kernel
theorem kd_Mo_noValue_5 : decode kc_Mo_noValue 5 = .ok (.iload_n 1, 1) := by decide +kernel
theorem kd_Mo_noValue_6 : decode kc_Mo_noValue 6 = .ok (.ifCond .lt 8, 3) := by decide +kernel
theorem kd_Mo_noValue_9 : decode kc_Mo_noValue 9 = .ok (.iload_n 1, 1) := by decide +kernel
theorem kd_Mo_noValue_10 : decode kc_Mo_noValue 10 = .ok (.iconst 1, 1) := by decide +kernel
theorem kd_Mo_noValue_11 : decode kc_Mo_noValue 11 = .ok (.if_icmp .le 7, 3) := by decide +kernel
theorem kd_Mo_noValue_14 : decode kc_Mo_noValue 14 = .ok (.iconst 1, 1) := by decide +kernel
theorem kd_Mo_noValue_15 : decode kc_Mo_noValue 15 = .ok (.goto 26, 3) := by decide +kernel
theorem kd_Mo_noValue_18 : decode kc_Mo_noValue 18 = .ok (.iconst 0, 1) := by decide +kernel
theorem kd_Mo_noValue_19 : decode kc_Mo_noValue 19 = .ok (.goto 22, 3) := by decide +kernel
theorem kd_Mo_noValue_22 : decode kc_Mo_noValue 22 = .ok (.iload_n 1, 1) := by decide +kernel
theorem kd_Mo_noValue_23 : decode kc_Mo_noValue 23 = .ok (.sipush (-32768), 3) := by decide +kernel
theorem kd_Mo_noValue_26 : decode kc_Mo_noValue 26 = .ok (.if_icmp .lt 10, 3) := by decide +kernel
theorem kd_Mo_noValue_29 : decode kc_Mo_noValue 29 = .ok (.iload_n 1, 1) := by decide +kernel
theorem kd_Mo_noValue_30 : decode kc_Mo_noValue 30 = .ok (.sipush 32767, 3) := by decide +kernel
theorem kd_Mo_noValue_33 : decode kc_Mo_noValue 33 = .ok (.if_icmp .le 7, 3) := by decide +kernel
theorem kd_Mo_noValue_36 : decode kc_Mo_noValue 36 = .ok (.iconst 1, 1) := by decide +kernel
theorem kd_Mo_noValue_37 : decode kc_Mo_noValue 37 = .ok (.goto 4, 3) := by decide +kernel
theorem kd_Mo_noValue_40 : decode kc_Mo_noValue 40 = .ok (.iconst 0, 1) := by decide +kernel
theorem kd_Mo_noValue_41 : decode kc_Mo_noValue 41 = .ok (.ireturn, 1) := by decide +kernel
theorem kd_Mo_spot_0 : decode kc_Mo_spot 0 = .ok (.iload_n 0, 1) := by decide +kernel
theorem kd_Mo_spot_1 : decode kc_Mo_spot 1 = .ok (.iconst 3, 1) := by decide +kernel
theorem kd_Mo_spot_2 : decode kc_Mo_spot 2 = .ok (.if_icmp .ge 7, 3) := by decide +kernel
theorem kd_Mo_spot_5 : decode kc_Mo_spot 5 = .ok (.iload_n 1, 1) := by decide +kernel
theorem kd_Mo_spot_6 : decode kc_Mo_spot 6 = .ok (.goto 8, 3) := by decide +kernel
theorem kd_Mo_spot_9 : decode kc_Mo_spot 9 = .ok (.sipush 256, 3) := by decide +kernel
theorem kd_Mo_spot_12 : decode kc_Mo_spot 12 = .ok (.iload_n 1, 1) := by decide +kernel
theorem kd_Mo_spot_13 : decode kc_Mo_spot 13 = .ok (.iadd, 1) := by decide +kernel
theorem kd_Mo_spot_14 : decode kc_Mo_spot 14 = .ok (.ireturn, 1) := by decide +kernel
theorem kd_Mo_put_0 : decode kc_Mo_put 0 = .ok (.iload_n 1, 1) := by decide +kernel
theorem kd_Mo_put_1 : decode kc_Mo_put 1 = .ok (.iload_n 2, 1) := by decide +kernel
theorem kd_Mo_put_2 : decode kc_Mo_put 2 = .ok (.invokestatic 895, 3) := by decide +kernel
theorem kd_Mo_put_5 : decode kc_Mo_put 5 = .ok (.ifCond .ne 21, 3) := by decide +kernel
theorem kd_Mo_put_8 : decode kc_Mo_put 8 = .ok (.iload_n 1, 1) := by decide +kernel
theorem kd_Mo_put_9 : decode kc_Mo_put 9 = .ok (.iload_n 3, 1) := by decide +kernel
theorem kd_Mo_put_10 : decode kc_Mo_put 10 = .ok (.invokestatic 898, 3) := by decide +kernel
theorem kd_Mo_put_13 : decode kc_Mo_put 13 = .ok (.ifCond .ne 13, 3) := by decide +kernel
theorem kd_Mo_put_16 : decode kc_Mo_put 16 = .ok (.iload_n 1, 1) := by decide +kernel
theorem kd_Mo_put_17 : decode kc_Mo_put 17 = .ok (.iconst 1, 1) := by decide +kernel
theorem kd_Mo_put_18 : decode kc_Mo_put 18 = .ok (.if_icmp .eq 8, 3) := by decide +kernel
theorem kd_Mo_put_21 : decode kc_Mo_put 21 = .ok (.iload_n 1, 1) := by decide +kernel
theorem kd_Mo_put_22 : decode kc_Mo_put 22 = .ok (.iconst 4, 1) := by decide +kernel
theorem kd_Mo_put_23 : decode kc_Mo_put 23 = .ok (.if_icmp .ne 5, 3) := by decide +kernel
theorem kd_Mo_put_26 : decode kc_Mo_put 26 = .ok (.iconst (-1), 1) := by decide +kernel
theorem kd_Mo_put_27 : decode kc_Mo_put 27 = .ok (.ireturn, 1) := by decide +kernel
theorem kd_Mo_put_28 : decode kc_Mo_put 28 = .ok (.iload_n 1, 1) := by decide +kernel
theorem kd_Mo_put_29 : decode kc_Mo_put 29 = .ok (.ifCond .eq 8, 3) := by decide +kernel
theorem kd_Mo_put_32 : decode kc_Mo_put 32 = .ok (.iload_n 1, 1) := by decide +kernel
theorem kd_Mo_put_33 : decode kc_Mo_put 33 = .ok (.iconst 3, 1) := by decide +kernel
theorem kd_Mo_put_34 : decode kc_Mo_put 34 = .ok (.if_icmp .ne 16, 3) := by decide +kernel
theorem kd_Mo_put_37 : decode kc_Mo_put 37 = .ok (.aload_n 0, 1) := by decide +kernel
theorem kd_Mo_put_38 : decode kc_Mo_put 38 = .ok (.getfield 169, 3) := by decide +kernel
theorem kd_Mo_put_41 : decode kc_Mo_put 41 = .ok (.iload_n 1, 1) := by decide +kernel
theorem kd_Mo_put_42 : decode kc_Mo_put 42 = .ok (.iload_n 2, 1) := by decide +kernel
theorem kd_Mo_put_43 : decode kc_Mo_put 43 = .ok (.invokestatic 901, 3) := by decide +kernel
theorem kd_Mo_put_46 : decode kc_Mo_put 46 = .ok (.iload_n 3, 1) := by decide +kernel
theorem kd_Mo_put_47 : decode kc_Mo_put 47 = .ok (.iastore, 1) := by decide +kernel
theorem kd_Mo_put_48 : decode kc_Mo_put 48 = .ok (.iconst 0, 1) := by decide +kernel
theorem kd_Mo_put_49 : decode kc_Mo_put 49 = .ok (.ireturn, 1) := by decide +kernel
theorem kd_Mo_put_50 : decode kc_Mo_put 50 = .ok (.aload_n 0, 1) := by decide +kernel
theorem kd_Mo_put_51 : decode kc_Mo_put 51 = .ok (.getfield 874, 3) := by decide +kernel
theorem kd_Mo_put_54 : decode kc_Mo_put 54 = .ok (.ifCond .ne 6, 3) := by decide +kernel
theorem kd_Mo_put_57 : decode kc_Mo_put 57 = .ok (.bipush (-5), 2) := by decide +kernel
theorem kd_Mo_put_59 : decode kc_Mo_put 59 = .ok (.ireturn, 1) := by decide +kernel
theorem kd_Mo_put_60 : decode kc_Mo_put 60 = .ok (.aload_n 0, 1) := by decide +kernel
theorem kd_Mo_put_61 : decode kc_Mo_put 61 = .ok (.getfield 150, 3) := by decide +kernel
theorem kd_Mo_put_64 : decode kc_Mo_put 64 = .ok (.iload_n 1, 1) := by decide +kernel
theorem kd_Mo_put_65 : decode kc_Mo_put 65 = .ok (.iconst 2, 1) := by decide +kernel
theorem kd_Mo_put_66 : decode kc_Mo_put 66 = .ok (.if_icmp .ne 11, 3) := by decide +kernel
theorem kd_Mo_put_69 : decode kc_Mo_put 69 = .ok (.sipush 512, 3) := by decide +kernel
theorem kd_Mo_put_72 : decode kc_Mo_put 72 = .ok (.iload_n 2, 1) := by decide +kernel
theorem kd_Mo_put_73 : decode kc_Mo_put 73 = .ok (.iadd, 1) := by decide +kernel
theorem kd_Mo_put_74 : decode kc_Mo_put 74 = .ok (.goto 8, 3) := by decide +kernel
theorem kd_Mo_put_77 : decode kc_Mo_put 77 = .ok (.sipush 896, 3) := by decide +kernel
theorem kd_Mo_put_80 : decode kc_Mo_put 80 = .ok (.iload_n 2, 1) := by decide +kernel
theorem kd_Mo_put_81 : decode kc_Mo_put 81 = .ok (.iadd, 1) := by decide +kernel
theorem kd_Mo_put_82 : decode kc_Mo_put 82 = .ok (.iload_n 3, 1) := by decide +kernel
theorem kd_Mo_put_83 : decode kc_Mo_put 83 = .ok (.iastore, 1) := by decide +kernel
theorem kd_Mo_put_84 : decode kc_Mo_put 84 = .ok (.iconst 0, 1) := by decide +kernel
theorem kd_Mo_put_85 : decode kc_Mo_put 85 = .ok (.ireturn, 1) := by decide +kernel
theorem kd_Mo_get_0 : decode kc_Mo_get 0 = .ok (.iload_n 1, 1) := by decide +kernel
theorem kd_Mo_get_1 : decode kc_Mo_get 1 = .ok (.iload_n 2, 1) := by decide +kernel
theorem kd_Mo_get_2 : decode kc_Mo_get 2 = .ok (.invokestatic 895, 3) := by decide +kernel
theorem kd_Mo_get_5 : decode kc_Mo_get 5 = .ok (.ifCond .eq 5, 3) := by decide +kernel
theorem kd_Mo_get_8 : decode kc_Mo_get 8 = .ok (.iconst (-1), 1) := by decide +kernel
theorem kd_Mo_get_9 : decode kc_Mo_get 9 = .ok (.ireturn, 1) := by decide +kernel
theorem kd_Mo_get_10 : decode kc_Mo_get 10 = .ok (.iload_n 1, 1) := by decide +kernel
theorem kd_Mo_get_11 : decode kc_Mo_get 11 = .ok (.ifCond .eq 8, 3) := by decide +kernel
theorem kd_Mo_get_14 : decode kc_Mo_get 14 = .ok (.iload_n 1, 1) := by decide +kernel
theorem kd_Mo_get_15 : decode kc_Mo_get 15 = .ok (.iconst 3, 1) := by decide +kernel
theorem kd_Mo_get_16 : decode kc_Mo_get 16 = .ok (.if_icmp .ne 14, 3) := by decide +kernel
theorem kd_Mo_get_19 : decode kc_Mo_get 19 = .ok (.aload_n 0, 1) := by decide +kernel
theorem kd_Mo_get_20 : decode kc_Mo_get 20 = .ok (.getfield 169, 3) := by decide +kernel
theorem kd_Mo_get_23 : decode kc_Mo_get 23 = .ok (.iload_n 1, 1) := by decide +kernel
theorem kd_Mo_get_24 : decode kc_Mo_get 24 = .ok (.iload_n 2, 1) := by decide +kernel
theorem kd_Mo_get_25 : decode kc_Mo_get 25 = .ok (.invokestatic 901, 3) := by decide +kernel
theorem kd_Mo_get_28 : decode kc_Mo_get 28 = .ok (.iaload, 1) := by decide +kernel
theorem kd_Mo_get_29 : decode kc_Mo_get 29 = .ok (.ireturn, 1) := by decide +kernel
theorem kd_Mo_get_30 : decode kc_Mo_get 30 = .ok (.aload_n 0, 1) := by decide +kernel
theorem kd_Mo_get_31 : decode kc_Mo_get 31 = .ok (.getfield 874, 3) := by decide +kernel
theorem kd_Mo_get_34 : decode kc_Mo_get 34 = .ok (.ifCond .ne 6, 3) := by decide +kernel
theorem kd_Mo_get_37 : decode kc_Mo_get 37 = .ok (.bipush (-5), 2) := by decide +kernel
theorem kd_Mo_get_39 : decode kc_Mo_get 39 = .ok (.ireturn, 1) := by decide +kernel
theorem kd_Mo_get_40 : decode kc_Mo_get 40 = .ok (.iload_n 1, 1) := by decide +kernel
theorem kd_Mo_get_41 : decode kc_Mo_get 41 = .ok (.iconst 1, 1) := by decide +kernel
theorem kd_Mo_get_42 : decode kc_Mo_get 42 = .ok (.if_icmp .eq 8, 3) := by decide +kernel
theorem kd_Mo_get_45 : decode kc_Mo_get 45 = .ok (.iload_n 1, 1) := by decide +kernel
theorem kd_Mo_get_46 : decode kc_Mo_get 46 = .ok (.iconst 4, 1) := by decide +kernel
theorem kd_Mo_get_47 : decode kc_Mo_get 47 = .ok (.if_icmp .ne 16, 3) := by decide +kernel
theorem kd_Mo_get_50 : decode kc_Mo_get 50 = .ok (.aload_n 0, 1) := by decide +kernel
theorem kd_Mo_get_51 : decode kc_Mo_get 51 = .ok (.getfield 172, 3) := by decide +kernel
theorem kd_Mo_get_54 : decode kc_Mo_get 54 = .ok (.iload_n 1, 1) := by decide +kernel
theorem kd_Mo_get_55 : decode kc_Mo_get 55 = .ok (.iload_n 2, 1) := by decide +kernel
theorem kd_Mo_get_56 : decode kc_Mo_get 56 = .ok (.invokestatic 901, 3) := by decide +kernel
theorem kd_Mo_get_59 : decode kc_Mo_get 59 = .ok (.iaload, 1) := by decide +kernel
theorem kd_Mo_get_60 : decode kc_Mo_get 60 = .ok (.goto 26, 3) := by decide +kernel
theorem kd_Mo_get_63 : decode kc_Mo_get 63 = .ok (.aload_n 0, 1) := by decide +kernel
theorem kd_Mo_get_64 : decode kc_Mo_get 64 = .ok (.getfield 150, 3) := by decide +kernel
theorem kd_Mo_get_67 : decode kc_Mo_get 67 = .ok (.iload_n 1, 1) := by decide +kernel
theorem kd_Mo_get_68 : decode kc_Mo_get 68 = .ok (.iconst 2, 1) := by decide +kernel
theorem kd_Mo_get_69 : decode kc_Mo_get 69 = .ok (.if_icmp .ne 11, 3) := by decide +kernel
theorem kd_Mo_get_72 : decode kc_Mo_get 72 = .ok (.sipush 512, 3) := by decide +kernel
theorem kd_Mo_get_75 : decode kc_Mo_get 75 = .ok (.iload_n 2, 1) := by decide +kernel
theorem kd_Mo_get_76 : decode kc_Mo_get 76 = .ok (.iadd, 1) := by decide +kernel
theorem kd_Mo_get_77 : decode kc_Mo_get 77 = .ok (.goto 8, 3) := by decide +kernel
theorem kd_Mo_get_80 : decode kc_Mo_get 80 = .ok (.sipush 896, 3) := by decide +kernel
theorem kd_Mo_get_83 : decode kc_Mo_get 83 = .ok (.iload_n 2, 1) := by decide +kernel
theorem kd_Mo_get_84 : decode kc_Mo_get 84 = .ok (.iadd, 1) := by decide +kernel
theorem kd_Mo_get_85 : decode kc_Mo_get 85 = .ok (.iaload, 1) := by decide +kernel
theorem kd_Mo_get_86 : decode kc_Mo_get 86 = .ok (.ireturn, 1) := by decide +kernel
theorem kd_Mo_safe_0 : decode kc_Mo_safe 0 = .ok (.iload_n 1, 1) := by decide +kernel
theorem kd_Mo_safe_1 : decode kc_Mo_safe 1 = .ok (.iconst 1, 1) := by decide +kernel
theorem kd_Mo_safe_2 : decode kc_Mo_safe 2 = .ok (.if_icmp .eq 8, 3) := by decide +kernel
theorem kd_Mo_safe_5 : decode kc_Mo_safe 5 = .ok (.iload_n 1, 1) := by decide +kernel
theorem kd_Mo_safe_6 : decode kc_Mo_safe 6 = .ok (.iconst 4, 1) := by decide +kernel
theorem kd_Mo_safe_7 : decode kc_Mo_safe 7 = .ok (.if_icmp .ne 19, 3) := by decide +kernel
theorem kd_Mo_safe_10 : decode kc_Mo_safe 10 = .ok (.iload_n 1, 1) := by decide +kernel
theorem kd_Mo_safe_11 : decode kc_Mo_safe 11 = .ok (.iload_n 2, 1) := by decide +kernel
theorem kd_Mo_safe_12 : decode kc_Mo_safe 12 = .ok (.invokestatic 895, 3) := by decide +kernel
theorem kd_Mo_safe_15 : decode kc_Mo_safe 15 = .ok (.ifCond .ne 11, 3) := by decide +kernel
theorem kd_Mo_safe_18 : decode kc_Mo_safe 18 = .ok (.iload_n 1, 1) := by decide +kernel
theorem kd_Mo_safe_19 : decode kc_Mo_safe 19 = .ok (.iload_n 3, 1) := by decide +kernel
theorem kd_Mo_safe_20 : decode kc_Mo_safe 20 = .ok (.invokestatic 898, 3) := by decide +kernel
theorem kd_Mo_safe_23 : decode kc_Mo_safe 23 = .ok (.ifCond .eq 5, 3) := by decide +kernel
theorem kd_Mo_safe_26 : decode kc_Mo_safe 26 = .ok (.iconst (-1), 1) := by decide +kernel
theorem kd_Mo_safe_27 : decode kc_Mo_safe 27 = .ok (.ireturn, 1) := by decide +kernel
theorem kd_Mo_safe_28 : decode kc_Mo_safe 28 = .ok (.aload_n 0, 1) := by decide +kernel
theorem kd_Mo_safe_29 : decode kc_Mo_safe 29 = .ok (.getfield 175, 3) := by decide +kernel
theorem kd_Mo_safe_32 : decode kc_Mo_safe 32 = .ok (.iload_n 1, 1) := by decide +kernel
theorem kd_Mo_safe_33 : decode kc_Mo_safe 33 = .ok (.iload_n 2, 1) := by decide +kernel
theorem kd_Mo_safe_34 : decode kc_Mo_safe 34 = .ok (.invokestatic 901, 3) := by decide +kernel
theorem kd_Mo_safe_37 : decode kc_Mo_safe 37 = .ok (.iload_n 3, 1) := by decide +kernel
theorem kd_Mo_safe_38 : decode kc_Mo_safe 38 = .ok (.iastore, 1) := by decide +kernel
theorem kd_Mo_safe_39 : decode kc_Mo_safe 39 = .ok (.iconst 0, 1) := by decide +kernel
theorem kd_Mo_safe_40 : decode kc_Mo_safe 40 = .ok (.ireturn, 1) := by decide +kernel
theorem kd_Mo_bring_0 : decode kc_Mo_bring 0 = .ok (.bipush 24, 2) := by decide +kernel
theorem kd_Mo_bring_2 : decode kc_Mo_bring 2 = .ok (.istore_n 2, 1) := by decide +kernel
theorem kd_Mo_bring_3 : decode kc_Mo_bring 3 = .ok (.iload_n 2, 1) := by decide +kernel
theorem kd_Mo_bring_4 : decode kc_Mo_bring 4 = .ok (.ifCond .lt 32, 3) := by decide +kernel
theorem kd_Mo_bring_7 : decode kc_Mo_bring 7 = .ok (.aload_n 0, 1) := by decide +kernel
theorem kd_Mo_bring_8 : decode kc_Mo_bring 8 = .ok (.getfield 156, 3) := by decide +kernel
theorem kd_Mo_bring_11 : decode kc_Mo_bring 11 = .ok (.aload_n 0, 1) := by decide +kernel
theorem kd_Mo_bring_12 : decode kc_Mo_bring 12 = .ok (.getfield 844, 3) := by decide +kernel
theorem kd_Mo_bring_15 : decode kc_Mo_bring 15 = .ok (.iload_n 1, 1) := by decide +kernel
theorem kd_Mo_bring_16 : decode kc_Mo_bring 16 = .ok (.iload_n 2, 1) := by decide +kernel
theorem kd_Mo_bring_17 : decode kc_Mo_bring 17 = .ok (.ishr, 1) := by decide +kernel
theorem kd_Mo_bring_18 : decode kc_Mo_bring 18 = .ok (.i2b, 1) := by decide +kernel
theorem kd_Mo_bring_19 : decode kc_Mo_bring 19 = .ok (.bastore, 1) := by decide +kernel
theorem kd_Mo_bring_20 : decode kc_Mo_bring 20 = .ok (.aload_n 0, 1) := by decide +kernel
theorem kd_Mo_bring_21 : decode kc_Mo_bring 21 = .ok (.dup, 1) := by decide +kernel
theorem kd_Mo_bring_22 : decode kc_Mo_bring 22 = .ok (.getfield 844, 3) := by decide +kernel
theorem kd_Mo_bring_25 : decode kc_Mo_bring 25 = .ok (.iconst 1, 1) := by decide +kernel
theorem kd_Mo_bring_26 : decode kc_Mo_bring 26 = .ok (.iadd, 1) := by decide +kernel
theorem kd_Mo_bring_27 : decode kc_Mo_bring 27 = .ok (.putfield 844, 3) := by decide +kernel
theorem kd_Mo_bring_30 : decode kc_Mo_bring 30 = .ok (.iinc 2 (-8), 3) := by decide +kernel
theorem kd_Mo_bring_33 : decode kc_Mo_bring 33 = .ok (.goto (-30), 3) := by decide +kernel
theorem kd_Mo_bring_36 : decode kc_Mo_bring 36 = .ok (.return_, 1) := by decide +kernel
theorem kd_Mo_feed_0 : decode kc_Mo_feed 0 = .ok (.aload_n 0, 1) := by decide +kernel
theorem kd_Mo_feed_1 : decode kc_Mo_feed 1 = .ok (.getfield 844, 3) := by decide +kernel
theorem kd_Mo_feed_4 : decode kc_Mo_feed 4 = .ok (.bipush 20, 2) := by decide +kernel
theorem kd_Mo_feed_6 : decode kc_Mo_feed 6 = .ok (.iadd, 1) := by decide +kernel
theorem kd_Mo_feed_7 : decode kc_Mo_feed 7 = .ok (.sipush 16384, 3) := by decide +kernel
theorem kd_Mo_feed_10 : decode kc_Mo_feed 10 = .ok (.if_icmp .le 5, 3) := by decide +kernel
theorem kd_Mo_feed_13 : decode kc_Mo_feed 13 = .ok (.iconst (-1), 1) := by decide +kernel
theorem kd_Mo_feed_14 : decode kc_Mo_feed 14 = .ok (.ireturn, 1) := by decide +kernel
theorem kd_Mo_feed_15 : decode kc_Mo_feed 15 = .ok (.aload_n 0, 1) := by decide +kernel
theorem kd_Mo_feed_16 : decode kc_Mo_feed 16 = .ok (.iload_n 1, 1) := by decide +kernel
theorem kd_Mo_feed_17 : decode kc_Mo_feed 17 = .ok (.invokevirtual 847, 3) := by decide +kernel
theorem kd_Mo_feed_20 : decode kc_Mo_feed 20 = .ok (.aload_n 0, 1) := by decide +kernel
theorem kd_Mo_feed_21 : decode kc_Mo_feed 21 = .ok (.iload_n 2, 1) := by decide +kernel
theorem kd_Mo_feed_22 : decode kc_Mo_feed 22 = .ok (.invokevirtual 847, 3) := by decide +kernel
theorem kd_Mo_feed_25 : decode kc_Mo_feed 25 = .ok (.aload_n 0, 1) := by decide +kernel
theorem kd_Mo_feed_26 : decode kc_Mo_feed 26 = .ok (.iload_n 3, 1) := by decide +kernel
theorem kd_Mo_feed_27 : decode kc_Mo_feed 27 = .ok (.invokevirtual 847, 3) := by decide +kernel
theorem kd_Mo_feed_30 : decode kc_Mo_feed 30 = .ok (.aload_n 0, 1) := by decide +kernel
theorem kd_Mo_feed_31 : decode kc_Mo_feed 31 = .ok (.iload 4, 2) := by decide +kernel
theorem kd_Mo_feed_33 : decode kc_Mo_feed 33 = .ok (.invokevirtual 847, 3) := by decide +kernel
theorem kd_Mo_feed_36 : decode kc_Mo_feed 36 = .ok (.aload_n 0, 1) := by decide +kernel
theorem kd_Mo_feed_37 : decode kc_Mo_feed 37 = .ok (.iload 5, 2) := by decide +kernel
theorem kd_Mo_feed_39 : decode kc_Mo_feed 39 = .ok (.invokevirtual 847, 3) := by decide +kernel
theorem kd_Mo_feed_42 : decode kc_Mo_feed 42 = .ok (.aload_n 0, 1) := by decide +kernel
theorem kd_Mo_feed_43 : decode kc_Mo_feed 43 = .ok (.getfield 844, 3) := by decide +kernel
theorem kd_Mo_feed_46 : decode kc_Mo_feed 46 = .ok (.ireturn, 1) := by decide +kernel
set_option maxHeartbeats 4000000 in
set_option maxRecDepth 100000 in
/-- PlantKeeper.watched -/
theorem zp_watched {l : Launch} {D : va_G} {sz0 : Nat} {S : zs_T} {P : ze_T} (h : zs_H) (e_watchedValue : h.1 0 4 = 0) : zk_Sp (zs_G S l D sz0) (ze_E P) km_Pk_watched { frames := 0, cells := 0, slots := 0, locals := 0 } [.ref (S.1 0)] (zs_W S h) (fun v w => (v = some (.int 0) ∧ w = zs_W S h)) := by
  refine zk_met ku_Pk_watched (Nat.le_of_ble_eq_true rfl) (ze_Em P) ?_
  intro X C hR
  refine zk_lvs (lv' := [(0, .ref (S.1 0))]) [0] rfl ?_
  refine zk_aload_n C kd_Pk_watched_0 rfl 0 rfl rfl ?_
  refine zs_get (v := .int 0) C 0 4 rfl rfl (congrArg Value.int e_watchedValue) rfl ki_Pk (by decide) kw623 kd_Pk_watched_1 rfl ?_
  exact zk_iret C hR kd_Pk_watched_4 rfl rfl ⟨rfl, rfl⟩
set_option maxHeartbeats 4000000 in
set_option maxRecDepth 100000 in
/-- PlantKeeper.end -/
theorem zp_end {l : Launch} {D : va_G} {sz0 : Nat} {S : zs_T} {P : ze_T} (h : zs_H) (e_tapeSize : h.1 0 1 = 0) (x1 : Int32) : zk_Sp (zs_G S l D sz0) (ze_E P) km_Pk_end { frames := 0, cells := 0, slots := 0, locals := 0 } [.ref (S.1 0), .int x1] (zs_W S h) (fun v w => (x1 < 0 ∧ v = some (.int (-1)) ∧ w = zs_W S h) ∨ (¬ x1 < 0 ∧ 20 < x1 ∧ v = some (.int (-1)) ∧ w = zs_W S h) ∨ (¬ x1 < 0 ∧ ¬ 20 < x1 ∧ v = some (.int (-1)) ∧ w = zs_W S h)) := by
  refine zk_met ku_Pk_end (Nat.le_of_ble_eq_true rfl) (ze_Em P) ?_
  intro X C hR
  refine zk_lvs (lv' := [(0, .ref (S.1 0)), (1, .int x1)]) [0, 1] rfl ?_
  refine zk_iload_n C kd_Pk_end_0 rfl 1 rfl rfl ?_
  refine zk_if_lt (tgt := 19) C kd_Pk_end_1 (by decide) rfl (fun h_1 => ?_) (fun h_1 => ?_)
  · refine zk_iconst (v := (-1)) C kd_Pk_end_19 (by decide) rfl ?_
    exact zk_iret C hR kd_Pk_end_20 rfl rfl (Or.inl ⟨h_1, rfl, rfl⟩)
  · refine zk_iload_n C kd_Pk_end_4 rfl 1 rfl rfl ?_
    refine zk_bipush (v := 20) C kd_Pk_end_5 (by decide) rfl ?_
    refine zk_icmp_gt (tgt := 19) C kd_Pk_end_7 (by decide) rfl (fun h_2 => ?_) (fun h_2 => ?_)
    · refine zk_iconst (v := (-1)) C kd_Pk_end_19 (by decide) rfl ?_
      exact zk_iret C hR kd_Pk_end_20 rfl rfl (Or.inr (Or.inl ⟨h_1, h_2, rfl, rfl⟩))
    · refine zk_aload_n C kd_Pk_end_10 rfl 0 rfl rfl ?_
      refine zs_get (v := .int 0) C 0 1 rfl rfl (congrArg Value.int e_tapeSize) rfl ki_Pk (by decide) kw620 kd_Pk_end_11 rfl ?_
      refine zk_bipush (v := 20) C kd_Pk_end_14 (by decide) rfl ?_
      refine zk_icmp_ge (tgt := 21) C kd_Pk_end_16 (by decide) rfl (fun h_3 => absurd h_3 (by decide)) (fun h_3 => ?_)
      refine zk_iconst (v := (-1)) C kd_Pk_end_19 (by decide) rfl ?_
      exact zk_iret C hR kd_Pk_end_20 rfl rfl (Or.inr (Or.inr ⟨h_1, h_2, rfl, rfl⟩))
set_option maxHeartbeats 4000000 in
set_option maxRecDepth 100000 in
/-- PlantKeeper.restart -/
theorem zp_restart {l : Launch} {D : va_G} {sz0 : Nat} {S : zs_T} {P : ze_T} (h : zs_H) (e_loaded : h.1 58 3 = 0) : zk_Sp (zs_G S l D sz0) (ze_E P) km_Pk_restart { frames := 0, cells := 0, slots := 0, locals := 0 } [.ref (S.1 0)] (zs_W S h) (fun v w => (v = some (.int (-5)) ∧ w = zs_W S h)) := by
  refine zk_met ku_Pk_restart (Nat.le_of_ble_eq_true rfl) (ze_Em P) ?_
  intro X C hR
  refine zk_lvs (lv' := [(0, .ref (S.1 0))]) [0] rfl ?_
  refine zk_aload_n C kd_Pk_restart_0 rfl 0 rfl rfl ?_
  refine zs_get (v := .ref (S.1 58)) C 0 14 rfl rfl rfl rfl ki_Pk (by decide) kw633 kd_Pk_restart_1 rfl ?_
  refine zs_get (v := .int 0) C 58 3 rfl rfl (congrArg Value.int e_loaded) rfl ki_Mc (by decide) kw524 kd_Pk_restart_4 rfl ?_
  refine zk_if_ne (tgt := 13) C kd_Pk_restart_7 (by decide) rfl (fun h_1 => absurd (by decide) h_1) (fun h_1 => ?_)
  refine zk_bipush (v := (-5)) C kd_Pk_restart_10 (by decide) rfl ?_
  exact zk_iret C hR kd_Pk_restart_12 rfl rfl ⟨rfl, rfl⟩
set_option maxHeartbeats 4000000 in
set_option maxRecDepth 100000 in
/-- PlantKeeper.scan -/
theorem zp_scan {l : Launch} {D : va_G} {sz0 : Nat} {S : zs_T} {P : ze_T} (h : zs_H) (e_loaded : h.1 58 3 = 0) (x1 : Int32) : zk_Sp (zs_G S l D sz0) (ze_E P) km_Pk_scan { frames := 0, cells := 0, slots := 0, locals := 0 } [.ref (S.1 0), .int x1] (zs_W S h) (fun v w => (x1 < 0 ∧ v = some (.int (-1)) ∧ w = zs_W S h) ∨ (¬ x1 < 0 ∧ x1 ≤ 100000 ∧ v = some (.int (-5)) ∧ w = zs_W S h) ∨ (¬ x1 < 0 ∧ ¬ x1 ≤ 100000 ∧ v = some (.int (-1)) ∧ w = zs_W S h)) := by
  refine zk_met ku_Pk_scan (Nat.le_of_ble_eq_true rfl) (ze_Em P) ?_
  intro X C hR
  refine zk_lvs (lv' := [(0, .ref (S.1 0)), (1, .int x1)]) [0, 1] rfl ?_
  refine zk_iload_n C kd_Pk_scan_0 rfl 1 rfl rfl ?_
  refine zk_if_lt (tgt := 10) C kd_Pk_scan_1 (by decide) rfl (fun h_1 => ?_) (fun h_1 => ?_)
  · refine zk_iconst (v := (-1)) C kd_Pk_scan_10 (by decide) rfl ?_
    exact zk_iret C hR kd_Pk_scan_11 rfl rfl (Or.inl ⟨h_1, rfl, rfl⟩)
  · refine zk_iload_n C kd_Pk_scan_4 rfl 1 rfl rfl ?_
    refine zk_ldc (v := 100000) C kw684 kd_Pk_scan_5 rfl ?_
    refine zk_icmp_le (tgt := 12) C kd_Pk_scan_7 (by decide) rfl (fun h_2 => ?_) (fun h_2 => ?_)
    · refine zk_aload_n C kd_Pk_scan_12 rfl 0 rfl rfl ?_
      refine zs_get (v := .ref (S.1 58)) C 0 14 rfl rfl rfl rfl ki_Pk (by decide) kw633 kd_Pk_scan_13 rfl ?_
      refine zs_get (v := .int 0) C 58 3 rfl rfl (congrArg Value.int e_loaded) rfl ki_Mc (by decide) kw524 kd_Pk_scan_16 rfl ?_
      refine zk_if_ne (tgt := 25) C kd_Pk_scan_19 (by decide) rfl (fun h_3 => absurd (by decide) h_3) (fun h_3 => ?_)
      refine zk_bipush (v := (-5)) C kd_Pk_scan_22 (by decide) rfl ?_
      exact zk_iret C hR kd_Pk_scan_24 rfl rfl (Or.inr (Or.inl ⟨h_1, h_2, rfl, rfl⟩))
    · refine zk_iconst (v := (-1)) C kd_Pk_scan_10 (by decide) rfl ?_
      exact zk_iret C hR kd_Pk_scan_11 rfl rfl (Or.inr (Or.inr ⟨h_1, h_2, rfl, rfl⟩))
set_option maxHeartbeats 4000000 in
set_option maxRecDepth 100000 in
/-- PlantKeeper.watch -/
theorem zp_watch {l : Launch} {D : va_G} {sz0 : Nat} {S : zs_T} {P : ze_T} (h : zs_H) (e_loaded : h.1 58 3 = 0) : zk_Sp (zs_G S l D sz0) (ze_E P) km_Pk_watch { frames := 0, cells := 0, slots := 0, locals := 0 } [.ref (S.1 0)] (zs_W S h) (fun v w => (v = some (.int (-5)) ∧ w = zs_W S (zs_uF h 0 1 0))) := by
  refine zk_met ku_Pk_watch (Nat.le_of_ble_eq_true rfl) (ze_Em P) ?_
  intro X C hR
  refine zk_lvs (lv' := [(0, .ref (S.1 0))]) [0] rfl ?_
  refine zk_aload_n C kd_Pk_watch_0 rfl 0 rfl rfl ?_
  refine zs_get (v := .int (h.1 0 1)) C 0 1 rfl rfl rfl rfl ki_Pk (by decide) kw620 kd_Pk_watch_1 rfl ?_
  refine zk_istore_n (lv' := [(1, _), (0, _)]) C kd_Pk_watch_4 rfl (by decide) rfl rfl ?_
  refine zk_aload_n C kd_Pk_watch_5 rfl 1 rfl rfl ?_
  refine zk_iconst (v := 0) C kd_Pk_watch_6 (by decide) rfl ?_
  refine zs_put (ty := .int) C 0 1 0 rfl rfl rfl rfl ki_Pk ky_Pk ko_Pk kn_Pk (by decide) kw620 rfl rfl rfl rfl (by decide) kd_Pk_watch_7 rfl ?_
  refine zk_aload_n C kd_Pk_watch_10 rfl 1 rfl rfl ?_
  refine zs_get (v := .ref (S.1 58)) C 0 14 rfl rfl rfl rfl ki_Pk (by decide) kw633 kd_Pk_watch_11 rfl ?_
  refine zs_get (v := .int 0) C 58 3 rfl rfl (congrArg Value.int e_loaded) rfl ki_Mc (by decide) kw524 kd_Pk_watch_14 rfl ?_
  refine zk_if_ne (tgt := 23) C kd_Pk_watch_17 (by decide) rfl (fun h_1 => absurd (by decide) h_1) (fun h_1 => ?_)
  refine zk_bipush (v := (-5)) C kd_Pk_watch_20 (by decide) rfl ?_
  exact zk_iret C hR kd_Pk_watch_22 rfl rfl ⟨rfl, rfl⟩
set_option maxHeartbeats 4000000 in
set_option maxRecDepth 100000 in
/-- PlantKeeper.station -/
theorem zp_station {l : Launch} {D : va_G} {sz0 : Nat} {S : zs_T} {P : ze_T} (h : zs_H) (e_station : h.1 66 2 = 1) (x1 : Int32) : zk_Sp (zs_G S l D sz0) (ze_E P) km_Pk_station { frames := 0, cells := 0, slots := 0, locals := 0 } [.ref (S.1 0), .int x1] (zs_W S h) (fun v w => (x1 < 1 ∧ v = some (.int (-1)) ∧ w = zs_W S h) ∨ (¬ x1 < 1 ∧ x1 ≤ 247 ∧ v = some (.int 1) ∧ w = zs_W S (zs_uF h 66 2 x1)) ∨ (¬ x1 < 1 ∧ ¬ x1 ≤ 247 ∧ v = some (.int (-1)) ∧ w = zs_W S h)) := by
  refine zk_met ku_Pk_station (Nat.le_of_ble_eq_true rfl) (ze_Em P) ?_
  intro X C hR
  refine zk_lvs (lv' := [(0, .ref (S.1 0)), (1, .int x1)]) [0, 1] rfl ?_
  refine zk_iload_n C kd_Pk_station_0 rfl 1 rfl rfl ?_
  refine zk_iconst (v := 1) C kd_Pk_station_1 (by decide) rfl ?_
  refine zk_icmp_lt (tgt := 12) C kd_Pk_station_2 (by decide) rfl (fun h_1 => ?_) (fun h_1 => ?_)
  · refine zk_iconst (v := (-1)) C kd_Pk_station_12 (by decide) rfl ?_
    exact zk_iret C hR kd_Pk_station_13 rfl rfl (Or.inl ⟨h_1, rfl, rfl⟩)
  · refine zk_iload_n C kd_Pk_station_5 rfl 1 rfl rfl ?_
    refine zk_sipush (v := 247) C kd_Pk_station_6 (by decide) rfl ?_
    refine zk_icmp_le (tgt := 14) C kd_Pk_station_9 (by decide) rfl (fun h_2 => ?_) (fun h_2 => ?_)
    · refine zk_aload_n C kd_Pk_station_14 rfl 0 rfl rfl ?_
      refine zs_get (v := .ref (S.1 66)) C 0 15 rfl rfl rfl rfl ki_Pk (by decide) kw634 kd_Pk_station_15 rfl ?_
      refine zs_get (v := .int 1) C 66 2 rfl rfl (congrArg Value.int e_station) rfl ki_Ln (by decide) kw602 kd_Pk_station_18 rfl ?_
      refine zk_istore_n (lv' := [(2, _), (0, _), (1, _)]) C kd_Pk_station_21 rfl (by decide) rfl rfl ?_
      refine zk_aload_n C kd_Pk_station_22 rfl 1 rfl rfl ?_
      refine zs_get (v := .ref (S.1 66)) C 0 15 rfl rfl rfl rfl ki_Pk (by decide) kw634 kd_Pk_station_23 rfl ?_
      refine zk_iload_n C kd_Pk_station_26 rfl 2 rfl rfl ?_
      refine zs_put (ty := .int) C 66 2 (x1) rfl rfl rfl rfl ki_Ln ky_Ln ko_Ln kn_Ln (by decide) kw602 rfl rfl rfl rfl (by decide) kd_Pk_station_27 rfl ?_
      refine zk_iload_n C kd_Pk_station_30 rfl 0 rfl rfl ?_
      exact zk_iret C hR kd_Pk_station_31 rfl rfl (Or.inr (Or.inl ⟨h_1, h_2, rfl, rfl⟩))
    · refine zk_iconst (v := (-1)) C kd_Pk_station_12 (by decide) rfl ?_
      exact zk_iret C hR kd_Pk_station_13 rfl rfl (Or.inr (Or.inr ⟨h_1, h_2, rfl, rfl⟩))
set_option maxHeartbeats 4000000 in
set_option maxRecDepth 100000 in
/-- PlantKeeper.byteAt -/
theorem zp_byteAt {l : Launch} {D : va_G} {sz0 : Nat} {S : zs_T} {P : ze_T} (h : zs_H) (e_outSize : h.1 66 1 = 0) (x1 : Int32) : zk_Sp (zs_G S l D sz0) (ze_E P) km_Pk_byteAt { frames := 0, cells := 0, slots := 0, locals := 0 } [.ref (S.1 0), .int x1] (zs_W S h) (fun v w => (x1 < 0 ∧ v = some (.int (-1)) ∧ w = zs_W S h) ∨ (¬ x1 < 0 ∧ v = some (.int (-1)) ∧ w = zs_W S h)) := by
  refine zk_met ku_Pk_byteAt (Nat.le_of_ble_eq_true rfl) (ze_Em P) ?_
  intro X C hR
  refine zk_lvs (lv' := [(0, .ref (S.1 0)), (1, .int x1)]) [0, 1] rfl ?_
  refine zk_iload_n C kd_Pk_byteAt_0 rfl 1 rfl rfl ?_
  refine zk_if_lt (tgt := 15) C kd_Pk_byteAt_1 (by decide) rfl (fun h_1 => ?_) (fun h_1 => ?_)
  · refine zk_iconst (v := (-1)) C kd_Pk_byteAt_15 (by decide) rfl ?_
    refine zk_goto (tgt := 32) C kd_Pk_byteAt_16 (by decide) ?_
    exact zk_iret C hR kd_Pk_byteAt_32 rfl rfl (Or.inl ⟨h_1, rfl, rfl⟩)
  · refine zk_iload_n C kd_Pk_byteAt_4 rfl 1 rfl rfl ?_
    refine zk_aload_n C kd_Pk_byteAt_5 rfl 0 rfl rfl ?_
    refine zs_get (v := .ref (S.1 66)) C 0 15 rfl rfl rfl rfl ki_Pk (by decide) kw634 kd_Pk_byteAt_6 rfl ?_
    refine zs_get (v := .int 0) C 66 1 rfl rfl (congrArg Value.int e_outSize) rfl ki_Ln (by decide) kw600 kd_Pk_byteAt_9 rfl ?_
    refine zk_icmp_lt (tgt := 19) C kd_Pk_byteAt_12 (by decide) rfl (fun h_2 => absurd h_2 h_1) (fun h_2 => ?_)
    refine zk_iconst (v := (-1)) C kd_Pk_byteAt_15 (by decide) rfl ?_
    refine zk_goto (tgt := 32) C kd_Pk_byteAt_16 (by decide) ?_
    exact zk_iret C hR kd_Pk_byteAt_32 rfl rfl (Or.inr ⟨h_1, rfl, rfl⟩)
set_option maxHeartbeats 4000000 in
set_option maxRecDepth 100000 in
/-- PlantKeeper.count -/
theorem zp_count {l : Launch} {D : va_G} {sz0 : Nat} {S : zs_T} {P : ze_T} (h : zs_H) (e_fault : h.1 0 2 = 0) (e_faultPlace : h.1 0 3 = (-5)) (e_bound : h.1 58 5 = 0) (e_loaded : h.1 58 3 = 0) (e_steps : h.1 58 6 = 0) (e_scans : h.1 58 7 = 0) (e_scansAbove : h.1 58 8 = 0) (e_now : h.1 58 9 = 0) (e_stopped : h.1 58 4 = 0) (x1 : Int32) : zk_Sp (zs_G S l D sz0) (ze_E P) km_Pk_count { frames := 0, cells := 0, slots := 0, locals := 0 } [.ref (S.1 0), .int x1] (zs_W S h) (fun v w => (x1 = 0 ∧ v = some (.int 0) ∧ w = zs_W S h) ∨ (¬ x1 = 0 ∧ x1 = 1 ∧ v = some (.int (-5)) ∧ w = zs_W S h) ∨ (¬ x1 = 0 ∧ ¬ x1 = 1 ∧ x1 = 2 ∧ v = some (.int 0) ∧ w = zs_W S h) ∨ (¬ x1 = 0 ∧ ¬ x1 = 1 ∧ ¬ x1 = 2 ∧ x1 = 3 ∧ v = some (.int 0) ∧ w = zs_W S h) ∨ (¬ x1 = 0 ∧ ¬ x1 = 1 ∧ ¬ x1 = 2 ∧ ¬ x1 = 3 ∧ x1 = 4 ∧ v = some (.int 0) ∧ w = zs_W S h) ∨ (¬ x1 = 0 ∧ ¬ x1 = 1 ∧ ¬ x1 = 2 ∧ ¬ x1 = 3 ∧ ¬ x1 = 4 ∧ x1 = 5 ∧ v = some (.int 0) ∧ w = zs_W S h) ∨ (¬ x1 = 0 ∧ ¬ x1 = 1 ∧ ¬ x1 = 2 ∧ ¬ x1 = 3 ∧ ¬ x1 = 4 ∧ ¬ x1 = 5 ∧ x1 = 6 ∧ v = some (.int 0) ∧ w = zs_W S h) ∨ (¬ x1 = 0 ∧ ¬ x1 = 1 ∧ ¬ x1 = 2 ∧ ¬ x1 = 3 ∧ ¬ x1 = 4 ∧ ¬ x1 = 5 ∧ ¬ x1 = 6 ∧ x1 = 7 ∧ v = some (.int 0) ∧ w = zs_W S h) ∨ (¬ x1 = 0 ∧ ¬ x1 = 1 ∧ ¬ x1 = 2 ∧ ¬ x1 = 3 ∧ ¬ x1 = 4 ∧ ¬ x1 = 5 ∧ ¬ x1 = 6 ∧ ¬ x1 = 7 ∧ x1 = 8 ∧ v = some (.int 0) ∧ w = zs_W S h) ∨ (¬ x1 = 0 ∧ ¬ x1 = 1 ∧ ¬ x1 = 2 ∧ ¬ x1 = 3 ∧ ¬ x1 = 4 ∧ ¬ x1 = 5 ∧ ¬ x1 = 6 ∧ ¬ x1 = 7 ∧ ¬ x1 = 8 ∧ x1 = 9 ∧ v = some (.int 0) ∧ w = zs_W S h) ∨ (¬ x1 = 0 ∧ ¬ x1 = 1 ∧ ¬ x1 = 2 ∧ ¬ x1 = 3 ∧ ¬ x1 = 4 ∧ ¬ x1 = 5 ∧ ¬ x1 = 6 ∧ ¬ x1 = 7 ∧ ¬ x1 = 8 ∧ ¬ x1 = 9 ∧ v = some (.int (-1)) ∧ w = zs_W S h)) := by
  refine zk_met ku_Pk_count (Nat.le_of_ble_eq_true rfl) (ze_Em P) ?_
  intro X C hR
  refine zk_lvs (lv' := [(0, .ref (S.1 0)), (1, .int x1)]) [0, 1] rfl ?_
  refine zk_iload_n C kd_Pk_count_0 rfl 1 rfl rfl ?_
  by_cases h_1 : x1 = 0
  · refine zk_tableIn (tgt := 56) C kd_Pk_count_1 (by rw [h_1]; decide) (by rw [h_1]; decide) (by rw [h_1]; rfl) (by decide) ?_
    refine zk_aload_n C kd_Pk_count_56 rfl 0 rfl rfl ?_
    refine zs_get (v := .int 0) C 0 2 rfl rfl (congrArg Value.int e_fault) rfl ki_Pk (by decide) kw621 kd_Pk_count_57 rfl ?_
    exact zk_iret C hR kd_Pk_count_60 rfl rfl (Or.inl ⟨h_1, rfl, rfl⟩)
  by_cases h_2 : x1 = 1
  · refine zk_tableIn (tgt := 61) C kd_Pk_count_1 (by rw [h_2]; decide) (by rw [h_2]; decide) (by rw [h_2]; rfl) (by decide) ?_
    refine zk_aload_n C kd_Pk_count_61 rfl 0 rfl rfl ?_
    refine zs_get (v := .int (-5)) C 0 3 rfl rfl (congrArg Value.int e_faultPlace) rfl ki_Pk (by decide) kw622 kd_Pk_count_62 rfl ?_
    exact zk_iret C hR kd_Pk_count_65 rfl rfl (Or.inr (Or.inl ⟨h_1, h_2, rfl, rfl⟩))
  by_cases h_3 : x1 = 2
  · refine zk_tableIn (tgt := 66) C kd_Pk_count_1 (by rw [h_3]; decide) (by rw [h_3]; decide) (by rw [h_3]; rfl) (by decide) ?_
    refine zk_aload_n C kd_Pk_count_66 rfl 0 rfl rfl ?_
    refine zs_get (v := .ref (S.1 58)) C 0 14 rfl rfl rfl rfl ki_Pk (by decide) kw633 kd_Pk_count_67 rfl ?_
    refine zs_get (v := .int 0) C 58 5 rfl rfl (congrArg Value.int e_bound) rfl ki_Mc (by decide) kw528 kd_Pk_count_70 rfl ?_
    exact zk_iret C hR kd_Pk_count_73 rfl rfl (Or.inr (Or.inr (Or.inl ⟨h_1, h_2, h_3, rfl, rfl⟩)))
  by_cases h_4 : x1 = 3
  · refine zk_tableIn (tgt := 74) C kd_Pk_count_1 (by rw [h_4]; decide) (by rw [h_4]; decide) (by rw [h_4]; rfl) (by decide) ?_
    refine zk_aload_n C kd_Pk_count_74 rfl 0 rfl rfl ?_
    refine zs_get (v := .ref (S.1 58)) C 0 14 rfl rfl rfl rfl ki_Pk (by decide) kw633 kd_Pk_count_75 rfl ?_
    refine zs_get (v := .int 0) C 58 3 rfl rfl (congrArg Value.int e_loaded) rfl ki_Mc (by decide) kw524 kd_Pk_count_78 rfl ?_
    refine zk_if_eq (tgt := 94) C kd_Pk_count_81 (by decide) rfl (fun h_5 => ?_) (fun h_5 => absurd (by decide) h_5)
    refine zk_iconst (v := 0) C kd_Pk_count_94 (by decide) rfl ?_
    exact zk_iret C hR kd_Pk_count_95 rfl rfl (Or.inr (Or.inr (Or.inr (Or.inl ⟨h_1, h_2, h_3, h_4, rfl, rfl⟩))))
  by_cases h_6 : x1 = 4
  · refine zk_tableIn (tgt := 96) C kd_Pk_count_1 (by rw [h_6]; decide) (by rw [h_6]; decide) (by rw [h_6]; rfl) (by decide) ?_
    refine zk_aload_n C kd_Pk_count_96 rfl 0 rfl rfl ?_
    refine zs_get (v := .ref (S.1 58)) C 0 14 rfl rfl rfl rfl ki_Pk (by decide) kw633 kd_Pk_count_97 rfl ?_
    refine zs_get (v := .int 0) C 58 3 rfl rfl (congrArg Value.int e_loaded) rfl ki_Mc (by decide) kw524 kd_Pk_count_100 rfl ?_
    refine zk_if_eq (tgt := 116) C kd_Pk_count_103 (by decide) rfl (fun h_7 => ?_) (fun h_7 => absurd (by decide) h_7)
    refine zk_iconst (v := 0) C kd_Pk_count_116 (by decide) rfl ?_
    exact zk_iret C hR kd_Pk_count_117 rfl rfl (Or.inr (Or.inr (Or.inr (Or.inr (Or.inl ⟨h_1, h_2, h_3, h_4, h_6, rfl, rfl⟩)))))
  by_cases h_8 : x1 = 5
  · refine zk_tableIn (tgt := 118) C kd_Pk_count_1 (by rw [h_8]; decide) (by rw [h_8]; decide) (by rw [h_8]; rfl) (by decide) ?_
    refine zk_aload_n C kd_Pk_count_118 rfl 0 rfl rfl ?_
    refine zs_get (v := .ref (S.1 58)) C 0 14 rfl rfl rfl rfl ki_Pk (by decide) kw633 kd_Pk_count_119 rfl ?_
    refine zs_get (v := .int 0) C 58 6 rfl rfl (congrArg Value.int e_steps) rfl ki_Mc (by decide) kw530 kd_Pk_count_122 rfl ?_
    exact zk_iret C hR kd_Pk_count_125 rfl rfl (Or.inr (Or.inr (Or.inr (Or.inr (Or.inr (Or.inl ⟨h_1, h_2, h_3, h_4, h_6, h_8, rfl, rfl⟩))))))
  by_cases h_9 : x1 = 6
  · refine zk_tableIn (tgt := 126) C kd_Pk_count_1 (by rw [h_9]; decide) (by rw [h_9]; decide) (by rw [h_9]; rfl) (by decide) ?_
    refine zk_aload_n C kd_Pk_count_126 rfl 0 rfl rfl ?_
    refine zs_get (v := .ref (S.1 58)) C 0 14 rfl rfl rfl rfl ki_Pk (by decide) kw633 kd_Pk_count_127 rfl ?_
    refine zs_get (v := .int 0) C 58 7 rfl rfl (congrArg Value.int e_scans) rfl ki_Mc (by decide) kw532 kd_Pk_count_130 rfl ?_
    exact zk_iret C hR kd_Pk_count_133 rfl rfl (Or.inr (Or.inr (Or.inr (Or.inr (Or.inr (Or.inr (Or.inl ⟨h_1, h_2, h_3, h_4, h_6, h_8, h_9, rfl, rfl⟩)))))))
  by_cases h_10 : x1 = 7
  · refine zk_tableIn (tgt := 134) C kd_Pk_count_1 (by rw [h_10]; decide) (by rw [h_10]; decide) (by rw [h_10]; rfl) (by decide) ?_
    refine zk_aload_n C kd_Pk_count_134 rfl 0 rfl rfl ?_
    refine zs_get (v := .ref (S.1 58)) C 0 14 rfl rfl rfl rfl ki_Pk (by decide) kw633 kd_Pk_count_135 rfl ?_
    refine zs_get (v := .int 0) C 58 8 rfl rfl (congrArg Value.int e_scansAbove) rfl ki_Mc (by decide) kw534 kd_Pk_count_138 rfl ?_
    exact zk_iret C hR kd_Pk_count_141 rfl rfl (Or.inr (Or.inr (Or.inr (Or.inr (Or.inr (Or.inr (Or.inr (Or.inl ⟨h_1, h_2, h_3, h_4, h_6, h_8, h_9, h_10, rfl, rfl⟩))))))))
  by_cases h_11 : x1 = 8
  · refine zk_tableIn (tgt := 142) C kd_Pk_count_1 (by rw [h_11]; decide) (by rw [h_11]; decide) (by rw [h_11]; rfl) (by decide) ?_
    refine zk_aload_n C kd_Pk_count_142 rfl 0 rfl rfl ?_
    refine zs_get (v := .ref (S.1 58)) C 0 14 rfl rfl rfl rfl ki_Pk (by decide) kw633 kd_Pk_count_143 rfl ?_
    refine zs_get (v := .int 0) C 58 9 rfl rfl (congrArg Value.int e_now) rfl ki_Mc (by decide) kw536 kd_Pk_count_146 rfl ?_
    exact zk_iret C hR kd_Pk_count_149 rfl rfl (Or.inr (Or.inr (Or.inr (Or.inr (Or.inr (Or.inr (Or.inr (Or.inr (Or.inl ⟨h_1, h_2, h_3, h_4, h_6, h_8, h_9, h_10, h_11, rfl, rfl⟩)))))))))
  by_cases h_12 : x1 = 9
  · refine zk_tableIn (tgt := 150) C kd_Pk_count_1 (by rw [h_12]; decide) (by rw [h_12]; decide) (by rw [h_12]; rfl) (by decide) ?_
    refine zk_aload_n C kd_Pk_count_150 rfl 0 rfl rfl ?_
    refine zs_get (v := .ref (S.1 58)) C 0 14 rfl rfl rfl rfl ki_Pk (by decide) kw633 kd_Pk_count_151 rfl ?_
    refine zs_get (v := .int 0) C 58 4 rfl rfl (congrArg Value.int e_stopped) rfl ki_Mc (by decide) kw526 kd_Pk_count_154 rfl ?_
    refine zk_if_eq (tgt := 164) C kd_Pk_count_157 (by decide) rfl (fun h_13 => ?_) (fun h_13 => absurd (by decide) h_13)
    refine zk_iconst (v := 0) C kd_Pk_count_164 (by decide) rfl ?_
    exact zk_iret C hR kd_Pk_count_165 rfl rfl (Or.inr (Or.inr (Or.inr (Or.inr (Or.inr (Or.inr (Or.inr (Or.inr (Or.inr (Or.inl ⟨h_1, h_2, h_3, h_4, h_6, h_8, h_9, h_10, h_11, h_12, rfl, rfl⟩))))))))))
  refine zk_tableOut (tgt := 166) C kd_Pk_count_1 (by have := lv_neT h_1 (a := 0) (by decide); have := lv_neT h_2 (a := 1) (by decide); have := lv_neT h_3 (a := 2) (by decide); have := lv_neT h_4 (a := 3) (by decide); have := lv_neT h_6 (a := 4) (by decide); have := lv_neT h_8 (a := 5) (by decide); have := lv_neT h_9 (a := 6) (by decide); have := lv_neT h_10 (a := 7) (by decide); have := lv_neT h_11 (a := 8) (by decide); have := lv_neT h_12 (a := 9) (by decide); omega) (by decide) ?_
  refine zk_iconst (v := (-1)) C kd_Pk_count_166 (by decide) rfl ?_
  exact zk_iret C hR kd_Pk_count_167 rfl rfl (Or.inr (Or.inr (Or.inr (Or.inr (Or.inr (Or.inr (Or.inr (Or.inr (Or.inr (Or.inr ⟨h_1, h_2, h_3, h_4, h_6, h_8, h_9, h_10, h_11, h_12, rfl, rfl⟩))))))))))
set_option maxHeartbeats 4000000 in
set_option maxRecDepth 100000 in
/-- PlantKeeper.isPlace -/
theorem zp_isPlace0 {l : Launch} {D : va_G} {sz0 : Nat} {S : zs_T} {P : ze_T} (h : zs_H) (x1 : Int32) (x2 : Int32) : zk_Sp (zs_G S l D sz0) (ze_E P) km_Pk_isPlace { frames := 0, cells := 0, slots := 0, locals := 0 } [.int x1, .int x2] (zs_W S h) (fun v w => (x1 < 0 ∧ v = some (.int 0) ∧ w = zs_W S h) ∨ (¬ x1 < 0 ∧ 5 < x1 ∧ v = some (.int 0) ∧ w = zs_W S h) ∨ (¬ x1 < 0 ∧ ¬ 5 < x1 ∧ x2 < 0 ∧ v = some (.int 0) ∧ w = zs_W S h) ∨ (¬ x1 < 0 ∧ ¬ 5 < x1 ∧ ¬ x2 < 0 ∧ ((zp_t (x1 + 1)) - (zp_t x1)) ≤ x2 ∧ v = some (.int 0) ∧ w = zs_W S h) ∨ (¬ x1 < 0 ∧ ¬ 5 < x1 ∧ ¬ x2 < 0 ∧ ¬ ((zp_t (x1 + 1)) - (zp_t x1)) ≤ x2 ∧ v = some (.int 1) ∧ w = zs_W S h)) := by
  refine zk_met ku_Pk_isPlace (Nat.le_of_ble_eq_true rfl) (ze_Em P) ?_
  intro X C hR
  refine zk_lvs (lv' := [(0, .int x1), (1, .int x2)]) [0, 1] rfl ?_
  refine zk_iload_n C kd_Pk_isPlace_0 rfl 0 rfl rfl ?_
  refine zk_if_lt (tgt := 34) C kd_Pk_isPlace_1 (by decide) rfl (fun h_1 => ?_) (fun h_1 => ?_)
  · refine zk_iconst (v := 0) C kd_Pk_isPlace_34 (by decide) rfl ?_
    exact zk_zret C hR rfl kd_Pk_isPlace_35 rfl rfl (Or.inl ⟨h_1, rfl, rfl⟩)
  · refine zk_iload_n C kd_Pk_isPlace_4 rfl 0 rfl rfl ?_
    refine zk_iconst (v := 5) C kd_Pk_isPlace_5 (by decide) rfl ?_
    refine zk_icmp_gt (tgt := 34) C kd_Pk_isPlace_6 (by decide) rfl (fun h_2 => ?_) (fun h_2 => ?_)
    · refine zk_iconst (v := 0) C kd_Pk_isPlace_34 (by decide) rfl ?_
      exact zk_zret C hR rfl kd_Pk_isPlace_35 rfl rfl (Or.inr (Or.inl ⟨h_1, h_2, rfl, rfl⟩))
    · refine zk_iload_n C kd_Pk_isPlace_9 rfl 1 rfl rfl ?_
      refine zk_if_lt (tgt := 34) C kd_Pk_isPlace_10 (by decide) rfl (fun h_3 => ?_) (fun h_3 => ?_)
      · refine zk_iconst (v := 0) C kd_Pk_isPlace_34 (by decide) rfl ?_
        exact zk_zret C hR rfl kd_Pk_isPlace_35 rfl rfl (Or.inr (Or.inr (Or.inl ⟨h_1, h_2, h_3, rfl, rfl⟩)))
      · refine zk_iload_n C kd_Pk_isPlace_13 rfl 1 rfl rfl ?_
        refine ze_gets (j := 3) C rfl kw1481 kd_Pk_isPlace_14 rfl ?_
        refine zk_iload_n C kd_Pk_isPlace_17 rfl 0 rfl rfl ?_
        refine zk_iconst (v := 1) C kd_Pk_isPlace_18 (by decide) rfl ?_
        refine zk_iadd C kd_Pk_isPlace_19 rfl ?_
        refine ze_ti C rfl (zp_ia h_1 h_2).1 kd_Pk_isPlace_20 rfl ?_
        refine zk_stk (r' := [.int (zp_t (x1 + 1)), .int x2]) rfl ?_
        refine ze_gets (j := 3) C rfl kw1481 kd_Pk_isPlace_21 rfl ?_
        refine zk_iload_n C kd_Pk_isPlace_24 rfl 0 rfl rfl ?_
        refine ze_ti C rfl (zp_ia h_1 h_2).2 kd_Pk_isPlace_25 rfl ?_
        refine zk_stk (r' := [.int (zp_t x1), .int (zp_t (x1 + 1)), .int x2]) rfl ?_
        refine zk_isub C kd_Pk_isPlace_26 rfl ?_
        refine zk_icmp_ge (tgt := 34) C kd_Pk_isPlace_27 (by decide) rfl (fun h_4 => ?_) (fun h_4 => ?_)
        · refine zk_iconst (v := 0) C kd_Pk_isPlace_34 (by decide) rfl ?_
          exact zk_zret C hR rfl kd_Pk_isPlace_35 rfl rfl (Or.inr (Or.inr (Or.inr (Or.inl ⟨h_1, h_2, h_3, h_4, rfl, rfl⟩))))
        · refine zk_iconst (v := 1) C kd_Pk_isPlace_30 (by decide) rfl ?_
          refine zk_goto (tgt := 35) C kd_Pk_isPlace_31 (by decide) ?_
          exact zk_zret C hR rfl kd_Pk_isPlace_35 rfl rfl (Or.inr (Or.inr (Or.inr (Or.inr ⟨h_1, h_2, h_3, h_4, rfl, rfl⟩))))
theorem zp_isPlace {l : Launch} {D : va_G} {sz0 : Nat} {S : zs_T} {P : ze_T} (h : zs_H) (x1 : Int32) (x2 : Int32) : zk_Sp (zs_G S l D sz0) (ze_E P) km_Pk_isPlace { frames := 0, cells := 0, slots := 0, locals := 0 } [.int x1, .int x2] (zs_W S h) (fun v w => (zp_ok x1 x2 ∧ v = some (.int 1) ∧ w = zs_W S h) ∨ (¬ zp_ok x1 x2 ∧ v = some (.int 0) ∧ w = zs_W S h)) := by
  refine (zp_isPlace0 h x1 x2).mono (fun v w hp => ?_)
  rcases hp with ⟨g1, rfl, rfl⟩ | ⟨g1, g2, rfl, rfl⟩ | ⟨g1, g2, g3, rfl, rfl⟩ | ⟨g1, g2, g3, g4, rfl, rfl⟩ | ⟨g1, g2, g3, g4, rfl, rfl⟩
  · exact Or.inr ⟨fun q => q.1 g1, rfl, rfl⟩
  · exact Or.inr ⟨fun q => q.2.1 g2, rfl, rfl⟩
  · exact Or.inr ⟨fun q => q.2.2.1 g3, rfl, rfl⟩
  · exact Or.inr ⟨zp_okN g1 g2 g4, rfl, rfl⟩
  · exact Or.inl ⟨zp_okI g1 g2 g3 g4, rfl, rfl⟩
set_option maxHeartbeats 4000000 in
set_option maxRecDepth 100000 in
/-- PlantKeeper.isValue -/
theorem zp_isValue0 {l : Launch} {D : va_G} {sz0 : Nat} {S : zs_T} {P : ze_T} (h : zs_H) (x1 : Int32) (x2 : Int32) : zk_Sp (zs_G S l D sz0) (ze_E P) km_Pk_isValue { frames := 0, cells := 0, slots := 0, locals := 0 } [.int x1, .int x2] (zs_W S h) (fun v w => (3 ≤ x1 ∧ x2 < (-32768) ∧ v = some (.int 0) ∧ w = zs_W S h) ∨ (3 ≤ x1 ∧ ¬ x2 < (-32768) ∧ 32767 < x2 ∧ v = some (.int 0) ∧ w = zs_W S h) ∨ (3 ≤ x1 ∧ ¬ x2 < (-32768) ∧ ¬ 32767 < x2 ∧ v = some (.int 1) ∧ w = zs_W S h) ∨ (¬ 3 ≤ x1 ∧ x2 = 0 ∧ v = some (.int 1) ∧ w = zs_W S h) ∨ (¬ 3 ≤ x1 ∧ ¬ x2 = 0 ∧ ¬ x2 = 1 ∧ v = some (.int 0) ∧ w = zs_W S h) ∨ (¬ 3 ≤ x1 ∧ ¬ x2 = 0 ∧ x2 = 1 ∧ v = some (.int 1) ∧ w = zs_W S h)) := by
  refine zk_met ku_Pk_isValue (Nat.le_of_ble_eq_true rfl) (ze_Em P) ?_
  intro X C hR
  refine zk_lvs (lv' := [(0, .int x1), (1, .int x2)]) [0, 1] rfl ?_
  refine zk_iload_n C kd_Pk_isValue_0 rfl 0 rfl rfl ?_
  refine zk_iconst (v := 3) C kd_Pk_isValue_1 (by decide) rfl ?_
  refine zk_icmp_ge (tgt := 22) C kd_Pk_isValue_2 (by decide) rfl (fun h_1 => ?_) (fun h_1 => ?_)
  · refine zk_iload_n C kd_Pk_isValue_22 rfl 1 rfl rfl ?_
    refine zk_sipush (v := (-32768)) C kd_Pk_isValue_23 (by decide) rfl ?_
    refine zk_icmp_lt (tgt := 40) C kd_Pk_isValue_26 (by decide) rfl (fun h_2 => ?_) (fun h_2 => ?_)
    · refine zk_iconst (v := 0) C kd_Pk_isValue_40 (by decide) rfl ?_
      exact zk_zret C hR rfl kd_Pk_isValue_41 rfl rfl (Or.inl ⟨h_1, h_2, rfl, rfl⟩)
    · refine zk_iload_n C kd_Pk_isValue_29 rfl 1 rfl rfl ?_
      refine zk_sipush (v := 32767) C kd_Pk_isValue_30 (by decide) rfl ?_
      refine zk_icmp_gt (tgt := 40) C kd_Pk_isValue_33 (by decide) rfl (fun h_3 => ?_) (fun h_3 => ?_)
      · refine zk_iconst (v := 0) C kd_Pk_isValue_40 (by decide) rfl ?_
        exact zk_zret C hR rfl kd_Pk_isValue_41 rfl rfl (Or.inr (Or.inl ⟨h_1, h_2, h_3, rfl, rfl⟩))
      · refine zk_iconst (v := 1) C kd_Pk_isValue_36 (by decide) rfl ?_
        refine zk_goto (tgt := 41) C kd_Pk_isValue_37 (by decide) ?_
        exact zk_zret C hR rfl kd_Pk_isValue_41 rfl rfl (Or.inr (Or.inr (Or.inl ⟨h_1, h_2, h_3, rfl, rfl⟩)))
  · refine zk_iload_n C kd_Pk_isValue_5 rfl 1 rfl rfl ?_
    refine zk_if_eq (tgt := 14) C kd_Pk_isValue_6 (by decide) rfl (fun h_4 => ?_) (fun h_4 => ?_)
    · refine zk_iconst (v := 1) C kd_Pk_isValue_14 (by decide) rfl ?_
      refine zk_goto (tgt := 41) C kd_Pk_isValue_15 (by decide) ?_
      exact zk_zret C hR rfl kd_Pk_isValue_41 rfl rfl (Or.inr (Or.inr (Or.inr (Or.inl ⟨h_1, h_4, rfl, rfl⟩))))
    · refine zk_iload_n C kd_Pk_isValue_9 rfl 1 rfl rfl ?_
      refine zk_iconst (v := 1) C kd_Pk_isValue_10 (by decide) rfl ?_
      refine zk_icmp_ne (tgt := 18) C kd_Pk_isValue_11 (by decide) rfl (fun h_5 => ?_) (fun h_5 => ?_)
      · refine zk_iconst (v := 0) C kd_Pk_isValue_18 (by decide) rfl ?_
        refine zk_goto (tgt := 41) C kd_Pk_isValue_19 (by decide) ?_
        exact zk_zret C hR rfl kd_Pk_isValue_41 rfl rfl (Or.inr (Or.inr (Or.inr (Or.inr (Or.inl ⟨h_1, h_4, h_5, rfl, rfl⟩)))))
      · refine zk_iconst (v := 1) C kd_Pk_isValue_14 (by decide) rfl ?_
        refine zk_goto (tgt := 41) C kd_Pk_isValue_15 (by decide) ?_
        exact zk_zret C hR rfl kd_Pk_isValue_41 rfl rfl (Or.inr (Or.inr (Or.inr (Or.inr (Or.inr ⟨h_1, h_4, h_5, rfl, rfl⟩)))))
theorem zp_isValue {l : Launch} {D : va_G} {sz0 : Nat} {S : zs_T} {P : ze_T} (h : zs_H) (x1 : Int32) (x2 : Int32) : zk_Sp (zs_G S l D sz0) (ze_E P) km_Pk_isValue { frames := 0, cells := 0, slots := 0, locals := 0 } [.int x1, .int x2] (zs_W S h) (fun v w => (zp_val x1 x2 ∧ v = some (.int 1) ∧ w = zs_W S h) ∨ (¬ zp_val x1 x2 ∧ v = some (.int 0) ∧ w = zs_W S h)) := by
  refine (zp_isValue0 h x1 x2).mono (fun v w hp => ?_)
  rcases hp with ⟨g1, g2, rfl, rfl⟩ | ⟨g1, g2, g3, rfl, rfl⟩ | ⟨g1, g2, g3, rfl, rfl⟩ | ⟨g1, g2, rfl, rfl⟩ | ⟨g1, g2, g3, rfl, rfl⟩ | ⟨g1, g2, g3, rfl, rfl⟩
  · exact Or.inr ⟨fun q => q.elim (fun z => z.1 g1) (fun z => z.2.1 g2), rfl, rfl⟩
  · exact Or.inr ⟨fun q => q.elim (fun z => z.1 g1) (fun z => z.2.2 g3), rfl, rfl⟩
  · exact Or.inl ⟨Or.inr ⟨g1, g2, g3⟩, rfl, rfl⟩
  · exact Or.inl ⟨Or.inl ⟨g1, by rw [g2]; decide, by rw [g2]; decide⟩, rfl, rfl⟩
  · exact Or.inr ⟨fun q => q.elim (fun z => (zp_01 z.2.1 z.2.2).elim g2 g3) (fun z => g1 z.1), rfl, rfl⟩
  · exact Or.inl ⟨Or.inl ⟨g1, by rw [g3]; decide, by rw [g3]; decide⟩, rfl, rfl⟩
set_option maxHeartbeats 4000000 in
set_option maxRecDepth 100000 in
/-- PlantKeeper$Machine.change -/
theorem zp_change {l : Launch} {D : va_G} {sz0 : Nat} {S : zs_T} {P : ze_T} (h : zs_H) (e_loaded : h.1 58 3 = 0) (x1 : Int32) (x2 : Int32) (x3 : Int32) (hq : vp_in x1 7 ∧ vp_in (zp_t x1 + x2) 960) : zk_Sp (zs_G S l D sz0) (ze_E P) km_Mc_change { frames := 0, cells := 0, slots := 0, locals := 0 } [.ref (S.1 58), .int x1, .int x2, .int x3] (zs_W S h) (fun v w => (x1 = 0 ∧ v = some (.int 0) ∧ w = zs_W S (zs_uM h 59 (((zp_t x1) + x2)).toNatClampNeg x3)) ∨ (¬ x1 = 0 ∧ ¬ x1 = 3 ∧ v = some (.int (-5)) ∧ w = zs_W S h) ∨ (¬ x1 = 0 ∧ x1 = 3 ∧ v = some (.int 0) ∧ w = zs_W S (zs_uM h 59 (((zp_t x1) + x2)).toNatClampNeg x3))) := by
  refine zk_met ku_Mc_change (Nat.le_of_ble_eq_true rfl) (ze_Em P) ?_
  intro X C hR
  refine zk_lvs (lv' := [(0, .ref (S.1 58)), (1, .int x1), (2, .int x2), (3, .int x3)]) [0, 1, 2, 3] rfl ?_
  refine ze_getsN (j := 3) (host := "PlantKeeper") C rfl (by decide +kernel) kd_Mc_change_0 rfl ?_
  refine zk_iload_n C kd_Mc_change_3 rfl 1 rfl rfl ?_
  refine ze_ti C rfl hq.1 kd_Mc_change_4 rfl ?_
  refine zk_stk (r' := [.int (zp_t x1)]) rfl ?_
  refine zk_iload_n C kd_Mc_change_5 rfl 2 rfl rfl ?_
  refine zk_iadd C kd_Mc_change_6 rfl ?_
  refine zk_istore (lv' := [(4, _), (0, _), (1, _), (2, _), (3, _)]) C kd_Mc_change_7 (by decide) rfl rfl ?_
  refine zk_iload_n C kd_Mc_change_9 rfl 2 rfl rfl ?_
  refine zk_if_eq (tgt := 18) C kd_Mc_change_10 (by decide) rfl (fun h_1 => ?_) (fun h_1 => ?_)
  · refine zk_aload_n C kd_Mc_change_18 rfl 1 rfl rfl ?_
    refine zs_get (v := .ref (S.1 59)) C 58 0 rfl rfl rfl rfl ki_Mc (by decide) kw518 kd_Mc_change_19 rfl ?_
    refine zk_iload C kd_Mc_change_22 0 rfl rfl ?_
    refine zk_iload_n C kd_Mc_change_24 rfl 4 rfl rfl ?_
    refine zs_iast C 59 rfl hq.2 kd_Mc_change_25 rfl ?_
    refine zk_goto (tgt := 50) C kd_Mc_change_26 (by decide) ?_
    refine zk_iconst (v := 0) C kd_Mc_change_50 (by decide) rfl ?_
    exact zk_iret C hR kd_Mc_change_51 rfl rfl (Or.inl ⟨h_1, rfl, rfl⟩)
  · refine zk_iload_n C kd_Mc_change_13 rfl 2 rfl rfl ?_
    refine zk_iconst (v := 3) C kd_Mc_change_14 (by decide) rfl ?_
    refine zk_icmp_ne (tgt := 29) C kd_Mc_change_15 (by decide) rfl (fun h_2 => ?_) (fun h_2 => ?_)
    · refine zk_aload_n C kd_Mc_change_29 rfl 1 rfl rfl ?_
      refine zs_get (v := .int 0) C 58 3 rfl rfl (congrArg Value.int e_loaded) rfl ki_Mc (by decide) kw522 kd_Mc_change_30 rfl ?_
      refine zk_if_eq (tgt := 47) C kd_Mc_change_33 (by decide) rfl (fun h_3 => ?_) (fun h_3 => absurd (by decide) h_3)
      refine zk_bipush (v := (-5)) C kd_Mc_change_47 (by decide) rfl ?_
      exact zk_iret C hR kd_Mc_change_49 rfl rfl (Or.inr (Or.inl ⟨h_1, h_2, rfl, rfl⟩))
    · refine zk_aload_n C kd_Mc_change_18 rfl 1 rfl rfl ?_
      refine zs_get (v := .ref (S.1 59)) C 58 0 rfl rfl rfl rfl ki_Mc (by decide) kw518 kd_Mc_change_19 rfl ?_
      refine zk_iload C kd_Mc_change_22 0 rfl rfl ?_
      refine zk_iload_n C kd_Mc_change_24 rfl 4 rfl rfl ?_
      refine zs_iast C 59 rfl hq.2 kd_Mc_change_25 rfl ?_
      refine zk_goto (tgt := 50) C kd_Mc_change_26 (by decide) ?_
      refine zk_iconst (v := 0) C kd_Mc_change_50 (by decide) rfl ?_
      exact zk_iret C hR kd_Mc_change_51 rfl rfl (Or.inr (Or.inr ⟨h_1, h_2, rfl, rfl⟩))
set_option maxHeartbeats 4000000 in
set_option maxRecDepth 100000 in
/-- PlantKeeper$Machine.seen -/
theorem zp_seen {l : Launch} {D : va_G} {sz0 : Nat} {S : zs_T} {P : ze_T} (h : zs_H) (x1 : Int32) (x2 : Int32) (hq : vp_in x1 7 ∧ vp_in (zp_t x1 + x2) 960) (m59 : ∀ j, h.2.1 59 j = 0) (m60 : ∀ j, h.2.1 60 j = 0) (m62 : ∀ j, h.2.1 62 j = 0) : zk_Sp (zs_G S l D sz0) (ze_E P) km_Mc_seen { frames := 0, cells := 0, slots := 0, locals := 0 } [.ref (S.1 58), .int x1, .int x2] (zs_W S h) (fun v w => (x1 = 2 ∧ v = some (.int 0) ∧ w = zs_W S h) ∨ (¬ x1 = 2 ∧ ¬ x1 = 5 ∧ x1 = 1 ∧ v = some (.int 0) ∧ w = zs_W S h) ∨ (¬ x1 = 2 ∧ ¬ x1 = 5 ∧ ¬ x1 = 1 ∧ ¬ x1 = 4 ∧ v = some (.int 0) ∧ w = zs_W S h) ∨ (¬ x1 = 2 ∧ ¬ x1 = 5 ∧ ¬ x1 = 1 ∧ x1 = 4 ∧ v = some (.int 0) ∧ w = zs_W S h) ∨ (¬ x1 = 2 ∧ x1 = 5 ∧ v = some (.int 0) ∧ w = zs_W S h)) := by
  refine zk_met ku_Mc_seen (Nat.le_of_ble_eq_true rfl) (ze_Em P) ?_
  intro X C hR
  refine zk_lvs (lv' := [(0, .ref (S.1 58)), (1, .int x1), (2, .int x2)]) [0, 1, 2] rfl ?_
  refine ze_getsN (j := 3) (host := "PlantKeeper") C rfl (by decide +kernel) kd_Mc_seen_0 rfl ?_
  refine zk_iload_n C kd_Mc_seen_3 rfl 1 rfl rfl ?_
  refine ze_ti C rfl hq.1 kd_Mc_seen_4 rfl ?_
  refine zk_stk (r' := [.int (zp_t x1)]) rfl ?_
  refine zk_iload_n C kd_Mc_seen_5 rfl 2 rfl rfl ?_
  refine zk_iadd C kd_Mc_seen_6 rfl ?_
  refine zk_istore_n (lv' := [(3, _), (0, _), (1, _), (2, _)]) C kd_Mc_seen_7 rfl (by decide) rfl rfl ?_
  refine zk_iload_n C kd_Mc_seen_8 rfl 2 rfl rfl ?_
  refine zk_iconst (v := 2) C kd_Mc_seen_9 (by decide) rfl ?_
  refine zk_icmp_eq (tgt := 18) C kd_Mc_seen_10 (by decide) rfl (fun h_1 => ?_) (fun h_1 => ?_)
  · refine zk_aload_n C kd_Mc_seen_18 rfl 1 rfl rfl ?_
    refine zs_get (v := .ref (S.1 62)) C 58 12 rfl rfl rfl rfl ki_Mc (by decide) kw539 kd_Mc_seen_19 rfl ?_
    refine zk_iload_n C kd_Mc_seen_22 rfl 0 rfl rfl ?_
    refine zs_iald C 62 rfl (zp_wid hq.2 (by decide)) kd_Mc_seen_23 rfl ?_
    refine zk_stk (r' := [.int 0]) (by rw [m62]) ?_
    exact zk_iret C hR kd_Mc_seen_24 rfl rfl (Or.inl ⟨h_1, rfl, rfl⟩)
  · refine zk_iload_n C kd_Mc_seen_13 rfl 2 rfl rfl ?_
    refine zk_iconst (v := 5) C kd_Mc_seen_14 (by decide) rfl ?_
    refine zk_icmp_ne (tgt := 25) C kd_Mc_seen_15 (by decide) rfl (fun h_2 => ?_) (fun h_2 => ?_)
    · refine zk_iload_n C kd_Mc_seen_25 rfl 2 rfl rfl ?_
      refine zk_iconst (v := 1) C kd_Mc_seen_26 (by decide) rfl ?_
      refine zk_icmp_eq (tgt := 35) C kd_Mc_seen_27 (by decide) rfl (fun h_3 => ?_) (fun h_3 => ?_)
      · refine zk_aload_n C kd_Mc_seen_35 rfl 1 rfl rfl ?_
        refine zs_get (v := .ref (S.1 60)) C 58 1 rfl rfl rfl rfl ki_Mc (by decide) kw519 kd_Mc_seen_36 rfl ?_
        refine zk_iload_n C kd_Mc_seen_39 rfl 0 rfl rfl ?_
        refine zs_iald C 60 rfl hq.2 kd_Mc_seen_40 rfl ?_
        refine zk_stk (r' := [.int 0]) (by rw [m60]) ?_
        refine zk_goto (tgt := 50) C kd_Mc_seen_41 (by decide) ?_
        exact zk_iret C hR kd_Mc_seen_50 rfl rfl (Or.inr (Or.inl ⟨h_1, h_2, h_3, rfl, rfl⟩))
      · refine zk_iload_n C kd_Mc_seen_30 rfl 2 rfl rfl ?_
        refine zk_iconst (v := 4) C kd_Mc_seen_31 (by decide) rfl ?_
        refine zk_icmp_ne (tgt := 44) C kd_Mc_seen_32 (by decide) rfl (fun h_4 => ?_) (fun h_4 => ?_)
        · refine zk_aload_n C kd_Mc_seen_44 rfl 1 rfl rfl ?_
          refine zs_get (v := .ref (S.1 59)) C 58 0 rfl rfl rfl rfl ki_Mc (by decide) kw518 kd_Mc_seen_45 rfl ?_
          refine zk_iload_n C kd_Mc_seen_48 rfl 0 rfl rfl ?_
          refine zs_iald C 59 rfl hq.2 kd_Mc_seen_49 rfl ?_
          refine zk_stk (r' := [.int 0]) (by rw [m59]) ?_
          exact zk_iret C hR kd_Mc_seen_50 rfl rfl (Or.inr (Or.inr (Or.inl ⟨h_1, h_2, h_3, h_4, rfl, rfl⟩)))
        · refine zk_aload_n C kd_Mc_seen_35 rfl 1 rfl rfl ?_
          refine zs_get (v := .ref (S.1 60)) C 58 1 rfl rfl rfl rfl ki_Mc (by decide) kw519 kd_Mc_seen_36 rfl ?_
          refine zk_iload_n C kd_Mc_seen_39 rfl 0 rfl rfl ?_
          refine zs_iald C 60 rfl hq.2 kd_Mc_seen_40 rfl ?_
          refine zk_stk (r' := [.int 0]) (by rw [m60]) ?_
          refine zk_goto (tgt := 50) C kd_Mc_seen_41 (by decide) ?_
          exact zk_iret C hR kd_Mc_seen_50 rfl rfl (Or.inr (Or.inr (Or.inr (Or.inl ⟨h_1, h_2, h_3, h_4, rfl, rfl⟩))))
    · refine zk_aload_n C kd_Mc_seen_18 rfl 1 rfl rfl ?_
      refine zs_get (v := .ref (S.1 62)) C 58 12 rfl rfl rfl rfl ki_Mc (by decide) kw539 kd_Mc_seen_19 rfl ?_
      refine zk_iload_n C kd_Mc_seen_22 rfl 0 rfl rfl ?_
      refine zs_iald C 62 rfl (zp_wid hq.2 (by decide)) kd_Mc_seen_23 rfl ?_
      refine zk_stk (r' := [.int 0]) (by rw [m62]) ?_
      exact zk_iret C hR kd_Mc_seen_24 rfl rfl (Or.inr (Or.inr (Or.inr (Or.inr ⟨h_1, h_2, rfl, rfl⟩))))
set_option maxHeartbeats 4000000 in
set_option maxRecDepth 100000 in
/-- PlantKeeper.put -/
theorem zp_put {l : Launch} {D : va_G} {sz0 : Nat} {S : zs_T} {P : ze_T} (h : zs_H) (e_loaded : h.1 58 3 = 0) (x1 : Int32) (x2 : Int32) (x3 : Int32) : zk_Sp (zs_G S l D sz0) (ze_E P) km_Pk_put { frames := 1, cells := 0, slots := 0, locals := 24 } [.ref (S.1 0), .int x1, .int x2, .int x3] (zs_W S h) (fun v w => (zp_ok x1 x2 ∧ x1 = 1 ∧ v = some (.int (-1)) ∧ w = zs_W S h) ∨ (zp_ok x1 x2 ∧ ¬ x1 = 1 ∧ x1 = 4 ∧ v = some (.int (-1)) ∧ w = zs_W S h) ∨ (zp_ok x1 x2 ∧ ¬ x1 = 1 ∧ ¬ x1 = 4 ∧ zp_val x1 x3 ∧ x1 = 0 ∧ v = some (.int 0) ∧ w = zs_W S (zs_uM h 59 (((zp_t x1) + x2)).toNatClampNeg x3)) ∨ (zp_ok x1 x2 ∧ ¬ x1 = 1 ∧ ¬ x1 = 4 ∧ zp_val x1 x3 ∧ ¬ x1 = 0 ∧ ¬ x1 = 3 ∧ v = some (.int (-5)) ∧ w = zs_W S h) ∨ (zp_ok x1 x2 ∧ ¬ x1 = 1 ∧ ¬ x1 = 4 ∧ zp_val x1 x3 ∧ ¬ x1 = 0 ∧ x1 = 3 ∧ v = some (.int 0) ∧ w = zs_W S (zs_uM h 59 (((zp_t x1) + x2)).toNatClampNeg x3)) ∨ (zp_ok x1 x2 ∧ ¬ x1 = 1 ∧ ¬ x1 = 4 ∧ ¬ zp_val x1 x3 ∧ v = some (.int (-1)) ∧ w = zs_W S h) ∨ (¬ zp_ok x1 x2 ∧ v = some (.int (-1)) ∧ w = zs_W S h)) := by
  refine zk_met ku_Pk_put (Nat.le_of_ble_eq_true rfl) (ze_Em P) ?_
  intro X C hR
  refine zk_lvs (lv' := [(0, .ref (S.1 0)), (1, .int x1), (2, .int x2), (3, .int x3)]) [0, 1, 2, 3] rfl ?_
  refine zk_iload_n C kd_Pk_put_0 rfl 1 rfl rfl ?_
  refine zk_iload_n C kd_Pk_put_1 rfl 2 rfl rfl ?_
  refine zk_callS (rn := { frames := 0, cells := 0, slots := 0, locals := 0 }) (As := [.int x1, .int x2]) (rest := []) C (zp_isPlace h (x1) (x2)) ku_Pk_isPlace kw1478 ks_Pk_isPlace rfl ⟨by decide, by decide⟩ ⟨by decide, by decide⟩ rfl (Nat.le_of_ble_eq_true rfl) kd_Pk_put_2 rfl (c1 := 0) (s1 := 0) rfl rfl (fun v w hp => ?_)
  rcases hp with ⟨g_1, rfl, rfl⟩ | ⟨g_2, rfl, rfl⟩
  · refine zk_stk (r' := [.int 1]) rfl ?_
    refine zk_if_eq (tgt := 26) C kd_Pk_put_5 (by decide) rfl (fun h_3 => absurd h_3 (by decide)) (fun h_3 => ?_)
    refine zk_iload_n C kd_Pk_put_8 rfl 1 rfl rfl ?_
    refine zk_iconst (v := 1) C kd_Pk_put_9 (by decide) rfl ?_
    refine zk_icmp_eq (tgt := 26) C kd_Pk_put_10 (by decide) rfl (fun h_4 => ?_) (fun h_4 => ?_)
    · refine zk_iconst (v := (-1)) C kd_Pk_put_26 (by decide) rfl ?_
      exact zk_iret C hR kd_Pk_put_27 rfl rfl (Or.inl ⟨g_1, h_4, rfl, rfl⟩)
    · refine zk_iload_n C kd_Pk_put_13 rfl 1 rfl rfl ?_
      refine zk_iconst (v := 4) C kd_Pk_put_14 (by decide) rfl ?_
      refine zk_icmp_eq (tgt := 26) C kd_Pk_put_15 (by decide) rfl (fun h_5 => ?_) (fun h_5 => ?_)
      · refine zk_iconst (v := (-1)) C kd_Pk_put_26 (by decide) rfl ?_
        exact zk_iret C hR kd_Pk_put_27 rfl rfl (Or.inr (Or.inl ⟨g_1, h_4, h_5, rfl, rfl⟩))
      · refine zk_iload_n C kd_Pk_put_18 rfl 1 rfl rfl ?_
        refine zk_iload_n C kd_Pk_put_19 rfl 3 rfl rfl ?_
        refine zk_callS (rn := { frames := 0, cells := 0, slots := 0, locals := 0 }) (As := [.int x1, .int x3]) (rest := []) C (zp_isValue h (x1) (x3)) ku_Pk_isValue kw1482 ks_Pk_isValue rfl ⟨by decide, by decide⟩ ⟨by decide, by decide⟩ rfl (Nat.le_of_ble_eq_true rfl) kd_Pk_put_20 rfl (c1 := 0) (s1 := 0) rfl rfl (fun v w hp => ?_)
        rcases hp with ⟨g_6, rfl, rfl⟩ | ⟨g_7, rfl, rfl⟩
        · refine zk_stk (r' := [.int 1]) rfl ?_
          refine zk_if_ne (tgt := 28) C kd_Pk_put_23 (by decide) rfl (fun h_8 => ?_) (fun h_8 => absurd h_8 (by decide))
          refine zk_aload_n C kd_Pk_put_28 rfl 0 rfl rfl ?_
          refine zs_get (v := .ref (S.1 58)) C 0 14 rfl rfl rfl rfl ki_Pk (by decide) kw633 kd_Pk_put_29 rfl ?_
          refine zk_iload_n C kd_Pk_put_32 rfl 1 rfl rfl ?_
          refine zk_iload_n C kd_Pk_put_33 rfl 2 rfl rfl ?_
          refine zk_iload_n C kd_Pk_put_34 rfl 3 rfl rfl ?_
          refine zs_callV (k := 58) (rn := { frames := 0, cells := 0, slots := 0, locals := 0 }) (As := [.int x1, .int x2, .int x3]) (rest := []) C (zp_change h e_loaded (x1) (x2) (x3) (zp_k1 (by assumption))) ku_Mc_change kw1485 kv_Mc_change rfl ⟨by decide, by decide⟩ ⟨by decide, by decide⟩ rfl rfl rfl (Nat.le_of_ble_eq_true rfl) kd_Pk_put_35 rfl (c1 := 0) (s1 := 0) rfl rfl (fun v w hp => ?_)
          rcases hp with ⟨g_9, rfl, rfl⟩ | ⟨g_10, g_11, rfl, rfl⟩ | ⟨g_12, g_13, rfl, rfl⟩
          · refine zk_stk (r' := [.int 0]) rfl ?_
            exact zk_iret C hR kd_Pk_put_38 rfl rfl (Or.inr (Or.inr (Or.inl ⟨g_1, h_4, h_5, g_6, g_9, rfl, rfl⟩)))
          · refine zk_stk (r' := [.int (-5)]) rfl ?_
            exact zk_iret C hR kd_Pk_put_38 rfl rfl (Or.inr (Or.inr (Or.inr (Or.inl ⟨g_1, h_4, h_5, g_6, g_10, g_11, rfl, rfl⟩))))
          · refine zk_stk (r' := [.int 0]) rfl ?_
            exact zk_iret C hR kd_Pk_put_38 rfl rfl (Or.inr (Or.inr (Or.inr (Or.inr (Or.inl ⟨g_1, h_4, h_5, g_6, g_12, g_13, rfl, rfl⟩)))))
        · refine zk_stk (r' := [.int 0]) rfl ?_
          refine zk_if_ne (tgt := 28) C kd_Pk_put_23 (by decide) rfl (fun h_14 => absurd (by decide) h_14) (fun h_14 => ?_)
          refine zk_iconst (v := (-1)) C kd_Pk_put_26 (by decide) rfl ?_
          exact zk_iret C hR kd_Pk_put_27 rfl rfl (Or.inr (Or.inr (Or.inr (Or.inr (Or.inr (Or.inl ⟨g_1, h_4, h_5, g_7, rfl, rfl⟩))))))
  · refine zk_stk (r' := [.int 0]) rfl ?_
    refine zk_if_eq (tgt := 26) C kd_Pk_put_5 (by decide) rfl (fun h_15 => ?_) (fun h_15 => absurd (by decide) h_15)
    refine zk_iconst (v := (-1)) C kd_Pk_put_26 (by decide) rfl ?_
    exact zk_iret C hR kd_Pk_put_27 rfl rfl (Or.inr (Or.inr (Or.inr (Or.inr (Or.inr (Or.inr ⟨g_2, rfl, rfl⟩))))))
set_option maxHeartbeats 4000000 in
set_option maxRecDepth 100000 in
/-- PlantKeeper.get -/
theorem zp_get {l : Launch} {D : va_G} {sz0 : Nat} {S : zs_T} {P : ze_T} (h : zs_H) (e_loaded : h.1 58 3 = 0) (x1 : Int32) (x2 : Int32) (m59 : ∀ j, h.2.1 59 j = 0) (m60 : ∀ j, h.2.1 60 j = 0) (m62 : ∀ j, h.2.1 62 j = 0) : zk_Sp (zs_G S l D sz0) (ze_E P) km_Pk_get { frames := 1, cells := 0, slots := 0, locals := 23 } [.ref (S.1 0), .int x1, .int x2] (zs_W S h) (fun v w => (zp_ok x1 x2 ∧ x1 = 0 ∧ x1 = 2 ∧ v = some (.int 0) ∧ w = zs_W S h) ∨ (zp_ok x1 x2 ∧ x1 = 0 ∧ ¬ x1 = 2 ∧ ¬ x1 = 5 ∧ x1 = 1 ∧ v = some (.int 0) ∧ w = zs_W S h) ∨ (zp_ok x1 x2 ∧ x1 = 0 ∧ ¬ x1 = 2 ∧ ¬ x1 = 5 ∧ ¬ x1 = 1 ∧ ¬ x1 = 4 ∧ v = some (.int 0) ∧ w = zs_W S h) ∨ (zp_ok x1 x2 ∧ x1 = 0 ∧ ¬ x1 = 2 ∧ ¬ x1 = 5 ∧ ¬ x1 = 1 ∧ x1 = 4 ∧ v = some (.int 0) ∧ w = zs_W S h) ∨ (zp_ok x1 x2 ∧ x1 = 0 ∧ ¬ x1 = 2 ∧ x1 = 5 ∧ v = some (.int 0) ∧ w = zs_W S h) ∨ (zp_ok x1 x2 ∧ ¬ x1 = 0 ∧ x1 = 3 ∧ x1 = 2 ∧ v = some (.int 0) ∧ w = zs_W S h) ∨ (zp_ok x1 x2 ∧ ¬ x1 = 0 ∧ x1 = 3 ∧ ¬ x1 = 2 ∧ ¬ x1 = 5 ∧ x1 = 1 ∧ v = some (.int 0) ∧ w = zs_W S h) ∨ (zp_ok x1 x2 ∧ ¬ x1 = 0 ∧ x1 = 3 ∧ ¬ x1 = 2 ∧ ¬ x1 = 5 ∧ ¬ x1 = 1 ∧ ¬ x1 = 4 ∧ v = some (.int 0) ∧ w = zs_W S h) ∨ (zp_ok x1 x2 ∧ ¬ x1 = 0 ∧ x1 = 3 ∧ ¬ x1 = 2 ∧ ¬ x1 = 5 ∧ ¬ x1 = 1 ∧ x1 = 4 ∧ v = some (.int 0) ∧ w = zs_W S h) ∨ (zp_ok x1 x2 ∧ ¬ x1 = 0 ∧ x1 = 3 ∧ ¬ x1 = 2 ∧ x1 = 5 ∧ v = some (.int 0) ∧ w = zs_W S h) ∨ (zp_ok x1 x2 ∧ ¬ x1 = 0 ∧ ¬ x1 = 3 ∧ v = some (.int (-5)) ∧ w = zs_W S h) ∨ (¬ zp_ok x1 x2 ∧ v = some (.int (-1)) ∧ w = zs_W S h)) := by
  refine zk_met ku_Pk_get (Nat.le_of_ble_eq_true rfl) (ze_Em P) ?_
  intro X C hR
  refine zk_lvs (lv' := [(0, .ref (S.1 0)), (1, .int x1), (2, .int x2)]) [0, 1, 2] rfl ?_
  refine zk_iload_n C kd_Pk_get_0 rfl 1 rfl rfl ?_
  refine zk_iload_n C kd_Pk_get_1 rfl 2 rfl rfl ?_
  refine zk_callS (rn := { frames := 0, cells := 0, slots := 0, locals := 0 }) (As := [.int x1, .int x2]) (rest := []) C (zp_isPlace h (x1) (x2)) ku_Pk_isPlace kw1478 ks_Pk_isPlace rfl ⟨by decide, by decide⟩ ⟨by decide, by decide⟩ rfl (Nat.le_of_ble_eq_true rfl) kd_Pk_get_2 rfl (c1 := 0) (s1 := 0) rfl rfl (fun v w hp => ?_)
  rcases hp with ⟨g_1, rfl, rfl⟩ | ⟨g_2, rfl, rfl⟩
  · refine zk_stk (r' := [.int 1]) rfl ?_
    refine zk_if_ne (tgt := 10) C kd_Pk_get_5 (by decide) rfl (fun h_3 => ?_) (fun h_3 => absurd h_3 (by decide))
    refine zk_aload_n C kd_Pk_get_10 rfl 0 rfl rfl ?_
    refine zs_get (v := .ref (S.1 58)) C 0 14 rfl rfl rfl rfl ki_Pk (by decide) kw633 kd_Pk_get_11 rfl ?_
    refine zs_get (v := .int 0) C 58 3 rfl rfl (congrArg Value.int e_loaded) rfl ki_Mc (by decide) kw524 kd_Pk_get_14 rfl ?_
    refine zk_if_ne (tgt := 32) C kd_Pk_get_17 (by decide) rfl (fun h_4 => absurd (by decide) h_4) (fun h_4 => ?_)
    refine zk_iload_n C kd_Pk_get_20 rfl 1 rfl rfl ?_
    refine zk_if_eq (tgt := 32) C kd_Pk_get_21 (by decide) rfl (fun h_5 => ?_) (fun h_5 => ?_)
    · refine zk_aload_n C kd_Pk_get_32 rfl 0 rfl rfl ?_
      refine zs_get (v := .ref (S.1 58)) C 0 14 rfl rfl rfl rfl ki_Pk (by decide) kw633 kd_Pk_get_33 rfl ?_
      refine zk_iload_n C kd_Pk_get_36 rfl 1 rfl rfl ?_
      refine zk_iload_n C kd_Pk_get_37 rfl 2 rfl rfl ?_
      refine zs_callV (k := 58) (rn := { frames := 0, cells := 0, slots := 0, locals := 0 }) (As := [.int x1, .int x2]) (rest := []) C (zp_seen h (x1) (x2) (zp_k1 (by assumption)) m59 m60 m62) ku_Mc_seen kw1493 kv_Mc_seen rfl ⟨by decide, by decide⟩ ⟨by decide, by decide⟩ rfl rfl rfl (Nat.le_of_ble_eq_true rfl) kd_Pk_get_38 rfl (c1 := 0) (s1 := 0) rfl rfl (fun v w hp => ?_)
      rcases hp with ⟨g_6, rfl, rfl⟩ | ⟨g_7, g_8, g_9, rfl, rfl⟩ | ⟨g_10, g_11, g_12, g_13, rfl, rfl⟩ | ⟨g_14, g_15, g_16, g_17, rfl, rfl⟩ | ⟨g_18, g_19, rfl, rfl⟩
      · refine zk_stk (r' := [.int 0]) rfl ?_
        exact zk_iret C hR kd_Pk_get_41 rfl rfl (Or.inl ⟨g_1, h_5, g_6, rfl, rfl⟩)
      · refine zk_stk (r' := [.int 0]) rfl ?_
        exact zk_iret C hR kd_Pk_get_41 rfl rfl (Or.inr (Or.inl ⟨g_1, h_5, g_7, g_8, g_9, rfl, rfl⟩))
      · refine zk_stk (r' := [.int 0]) rfl ?_
        exact zk_iret C hR kd_Pk_get_41 rfl rfl (Or.inr (Or.inr (Or.inl ⟨g_1, h_5, g_10, g_11, g_12, g_13, rfl, rfl⟩)))
      · refine zk_stk (r' := [.int 0]) rfl ?_
        exact zk_iret C hR kd_Pk_get_41 rfl rfl (Or.inr (Or.inr (Or.inr (Or.inl ⟨g_1, h_5, g_14, g_15, g_16, g_17, rfl, rfl⟩))))
      · refine zk_stk (r' := [.int 0]) rfl ?_
        exact zk_iret C hR kd_Pk_get_41 rfl rfl (Or.inr (Or.inr (Or.inr (Or.inr (Or.inl ⟨g_1, h_5, g_18, g_19, rfl, rfl⟩)))))
    · refine zk_iload_n C kd_Pk_get_24 rfl 1 rfl rfl ?_
      refine zk_iconst (v := 3) C kd_Pk_get_25 (by decide) rfl ?_
      refine zk_icmp_eq (tgt := 32) C kd_Pk_get_26 (by decide) rfl (fun h_20 => ?_) (fun h_20 => ?_)
      · refine zk_aload_n C kd_Pk_get_32 rfl 0 rfl rfl ?_
        refine zs_get (v := .ref (S.1 58)) C 0 14 rfl rfl rfl rfl ki_Pk (by decide) kw633 kd_Pk_get_33 rfl ?_
        refine zk_iload_n C kd_Pk_get_36 rfl 1 rfl rfl ?_
        refine zk_iload_n C kd_Pk_get_37 rfl 2 rfl rfl ?_
        refine zs_callV (k := 58) (rn := { frames := 0, cells := 0, slots := 0, locals := 0 }) (As := [.int x1, .int x2]) (rest := []) C (zp_seen h (x1) (x2) (zp_k1 (by assumption)) m59 m60 m62) ku_Mc_seen kw1493 kv_Mc_seen rfl ⟨by decide, by decide⟩ ⟨by decide, by decide⟩ rfl rfl rfl (Nat.le_of_ble_eq_true rfl) kd_Pk_get_38 rfl (c1 := 0) (s1 := 0) rfl rfl (fun v w hp => ?_)
        rcases hp with ⟨g_21, rfl, rfl⟩ | ⟨g_22, g_23, g_24, rfl, rfl⟩ | ⟨g_25, g_26, g_27, g_28, rfl, rfl⟩ | ⟨g_29, g_30, g_31, g_32, rfl, rfl⟩ | ⟨g_33, g_34, rfl, rfl⟩
        · refine zk_stk (r' := [.int 0]) rfl ?_
          exact zk_iret C hR kd_Pk_get_41 rfl rfl (Or.inr (Or.inr (Or.inr (Or.inr (Or.inr (Or.inl ⟨g_1, h_5, h_20, g_21, rfl, rfl⟩))))))
        · refine zk_stk (r' := [.int 0]) rfl ?_
          exact zk_iret C hR kd_Pk_get_41 rfl rfl (Or.inr (Or.inr (Or.inr (Or.inr (Or.inr (Or.inr (Or.inl ⟨g_1, h_5, h_20, g_22, g_23, g_24, rfl, rfl⟩)))))))
        · refine zk_stk (r' := [.int 0]) rfl ?_
          exact zk_iret C hR kd_Pk_get_41 rfl rfl (Or.inr (Or.inr (Or.inr (Or.inr (Or.inr (Or.inr (Or.inr (Or.inl ⟨g_1, h_5, h_20, g_25, g_26, g_27, g_28, rfl, rfl⟩))))))))
        · refine zk_stk (r' := [.int 0]) rfl ?_
          exact zk_iret C hR kd_Pk_get_41 rfl rfl (Or.inr (Or.inr (Or.inr (Or.inr (Or.inr (Or.inr (Or.inr (Or.inr (Or.inl ⟨g_1, h_5, h_20, g_29, g_30, g_31, g_32, rfl, rfl⟩)))))))))
        · refine zk_stk (r' := [.int 0]) rfl ?_
          exact zk_iret C hR kd_Pk_get_41 rfl rfl (Or.inr (Or.inr (Or.inr (Or.inr (Or.inr (Or.inr (Or.inr (Or.inr (Or.inr (Or.inl ⟨g_1, h_5, h_20, g_33, g_34, rfl, rfl⟩))))))))))
      · refine zk_bipush (v := (-5)) C kd_Pk_get_29 (by decide) rfl ?_
        exact zk_iret C hR kd_Pk_get_31 rfl rfl (Or.inr (Or.inr (Or.inr (Or.inr (Or.inr (Or.inr (Or.inr (Or.inr (Or.inr (Or.inr (Or.inl ⟨g_1, h_5, h_20, rfl, rfl⟩)))))))))))
  · refine zk_stk (r' := [.int 0]) rfl ?_
    refine zk_if_ne (tgt := 10) C kd_Pk_get_5 (by decide) rfl (fun h_35 => absurd (by decide) h_35) (fun h_35 => ?_)
    refine zk_iconst (v := (-1)) C kd_Pk_get_8 (by decide) rfl ?_
    exact zk_iret C hR kd_Pk_get_9 rfl rfl (Or.inr (Or.inr (Or.inr (Or.inr (Or.inr (Or.inr (Or.inr (Or.inr (Or.inr (Or.inr (Or.inr ⟨g_2, rfl, rfl⟩)))))))))))
set_option maxHeartbeats 4000000 in
set_option maxRecDepth 100000 in
/-- PlantKeeper.safe -/
theorem zp_safe {l : Launch} {D : va_G} {sz0 : Nat} {S : zs_T} {P : ze_T} (h : zs_H) (x1 : Int32) (x2 : Int32) (x3 : Int32) : zk_Sp (zs_G S l D sz0) (ze_E P) km_Pk_safe { frames := 1, cells := 0, slots := 0, locals := 21 } [.ref (S.1 0), .int x1, .int x2, .int x3] (zs_W S h) (fun v w => (x1 = 1 ∧ zp_ok x1 x2 ∧ zp_val x1 x3 ∧ v = some (.int 0) ∧ w = zs_W S (zs_uM h 61 (((zp_t x1) + x2)).toNatClampNeg x3)) ∨ (x1 = 1 ∧ zp_ok x1 x2 ∧ ¬ zp_val x1 x3 ∧ v = some (.int (-1)) ∧ w = zs_W S h) ∨ (x1 = 1 ∧ ¬ zp_ok x1 x2 ∧ v = some (.int (-1)) ∧ w = zs_W S h) ∨ (¬ x1 = 1 ∧ ¬ x1 = 4 ∧ v = some (.int (-1)) ∧ w = zs_W S h) ∨ (¬ x1 = 1 ∧ x1 = 4 ∧ zp_ok x1 x2 ∧ zp_val x1 x3 ∧ v = some (.int 0) ∧ w = zs_W S (zs_uM h 61 (((zp_t x1) + x2)).toNatClampNeg x3)) ∨ (¬ x1 = 1 ∧ x1 = 4 ∧ zp_ok x1 x2 ∧ ¬ zp_val x1 x3 ∧ v = some (.int (-1)) ∧ w = zs_W S h) ∨ (¬ x1 = 1 ∧ x1 = 4 ∧ ¬ zp_ok x1 x2 ∧ v = some (.int (-1)) ∧ w = zs_W S h)) := by
  refine zk_met ku_Pk_safe (Nat.le_of_ble_eq_true rfl) (ze_Em P) ?_
  intro X C hR
  refine zk_lvs (lv' := [(0, .ref (S.1 0)), (1, .int x1), (2, .int x2), (3, .int x3)]) [0, 1, 2, 3] rfl ?_
  refine zk_iload_n C kd_Pk_safe_0 rfl 1 rfl rfl ?_
  refine zk_iconst (v := 1) C kd_Pk_safe_1 (by decide) rfl ?_
  refine zk_icmp_eq (tgt := 10) C kd_Pk_safe_2 (by decide) rfl (fun h_1 => ?_) (fun h_1 => ?_)
  · refine zk_iload_n C kd_Pk_safe_10 rfl 1 rfl rfl ?_
    refine zk_iload_n C kd_Pk_safe_11 rfl 2 rfl rfl ?_
    refine zk_callS (rn := { frames := 0, cells := 0, slots := 0, locals := 0 }) (As := [.int x1, .int x2]) (rest := []) C (zp_isPlace h (x1) (x2)) ku_Pk_isPlace kw1478 ks_Pk_isPlace rfl ⟨by decide, by decide⟩ ⟨by decide, by decide⟩ rfl (Nat.le_of_ble_eq_true rfl) kd_Pk_safe_12 rfl (c1 := 0) (s1 := 0) rfl rfl (fun v w hp => ?_)
    rcases hp with ⟨g_2, rfl, rfl⟩ | ⟨g_3, rfl, rfl⟩
    · refine zk_stk (r' := [.int 1]) rfl ?_
      refine zk_if_eq (tgt := 26) C kd_Pk_safe_15 (by decide) rfl (fun h_4 => absurd h_4 (by decide)) (fun h_4 => ?_)
      refine zk_iload_n C kd_Pk_safe_18 rfl 1 rfl rfl ?_
      refine zk_iload_n C kd_Pk_safe_19 rfl 3 rfl rfl ?_
      refine zk_callS (rn := { frames := 0, cells := 0, slots := 0, locals := 0 }) (As := [.int x1, .int x3]) (rest := []) C (zp_isValue h (x1) (x3)) ku_Pk_isValue kw1482 ks_Pk_isValue rfl ⟨by decide, by decide⟩ ⟨by decide, by decide⟩ rfl (Nat.le_of_ble_eq_true rfl) kd_Pk_safe_20 rfl (c1 := 0) (s1 := 0) rfl rfl (fun v w hp => ?_)
      rcases hp with ⟨g_5, rfl, rfl⟩ | ⟨g_6, rfl, rfl⟩
      · refine zk_stk (r' := [.int 1]) rfl ?_
        refine zk_if_ne (tgt := 28) C kd_Pk_safe_23 (by decide) rfl (fun h_7 => ?_) (fun h_7 => absurd h_7 (by decide))
        refine zk_aload_n C kd_Pk_safe_28 rfl 0 rfl rfl ?_
        refine zs_get (v := .ref (S.1 58)) C 0 14 rfl rfl rfl rfl ki_Pk (by decide) kw633 kd_Pk_safe_29 rfl ?_
        refine zs_get (v := .ref (S.1 61)) C 58 2 rfl rfl rfl rfl ki_Mc (by decide) kw521 kd_Pk_safe_32 rfl ?_
        refine ze_gets (j := 3) C rfl kw1481 kd_Pk_safe_35 rfl ?_
        refine zk_iload_n C kd_Pk_safe_38 rfl 1 rfl rfl ?_
        refine ze_ti C rfl (zp_k1 (by assumption)).1 kd_Pk_safe_39 rfl ?_
        refine zk_stk (r' := [.int (zp_t x1), .ref (S.1 61)]) rfl ?_
        refine zk_iload_n C kd_Pk_safe_40 rfl 2 rfl rfl ?_
        refine zk_iadd C kd_Pk_safe_41 rfl ?_
        refine zk_iload_n C kd_Pk_safe_42 rfl 3 rfl rfl ?_
        refine zs_iast C 61 rfl (zp_k1 (by assumption)).2 kd_Pk_safe_43 rfl ?_
        refine zk_iconst (v := 0) C kd_Pk_safe_44 (by decide) rfl ?_
        exact zk_iret C hR kd_Pk_safe_45 rfl rfl (Or.inl ⟨h_1, g_2, g_5, rfl, rfl⟩)
      · refine zk_stk (r' := [.int 0]) rfl ?_
        refine zk_if_ne (tgt := 28) C kd_Pk_safe_23 (by decide) rfl (fun h_8 => absurd (by decide) h_8) (fun h_8 => ?_)
        refine zk_iconst (v := (-1)) C kd_Pk_safe_26 (by decide) rfl ?_
        exact zk_iret C hR kd_Pk_safe_27 rfl rfl (Or.inr (Or.inl ⟨h_1, g_2, g_6, rfl, rfl⟩))
    · refine zk_stk (r' := [.int 0]) rfl ?_
      refine zk_if_eq (tgt := 26) C kd_Pk_safe_15 (by decide) rfl (fun h_9 => ?_) (fun h_9 => absurd (by decide) h_9)
      refine zk_iconst (v := (-1)) C kd_Pk_safe_26 (by decide) rfl ?_
      exact zk_iret C hR kd_Pk_safe_27 rfl rfl (Or.inr (Or.inr (Or.inl ⟨h_1, g_3, rfl, rfl⟩)))
  · refine zk_iload_n C kd_Pk_safe_5 rfl 1 rfl rfl ?_
    refine zk_iconst (v := 4) C kd_Pk_safe_6 (by decide) rfl ?_
    refine zk_icmp_ne (tgt := 26) C kd_Pk_safe_7 (by decide) rfl (fun h_10 => ?_) (fun h_10 => ?_)
    · refine zk_iconst (v := (-1)) C kd_Pk_safe_26 (by decide) rfl ?_
      exact zk_iret C hR kd_Pk_safe_27 rfl rfl (Or.inr (Or.inr (Or.inr (Or.inl ⟨h_1, h_10, rfl, rfl⟩))))
    · refine zk_iload_n C kd_Pk_safe_10 rfl 1 rfl rfl ?_
      refine zk_iload_n C kd_Pk_safe_11 rfl 2 rfl rfl ?_
      refine zk_callS (rn := { frames := 0, cells := 0, slots := 0, locals := 0 }) (As := [.int x1, .int x2]) (rest := []) C (zp_isPlace h (x1) (x2)) ku_Pk_isPlace kw1478 ks_Pk_isPlace rfl ⟨by decide, by decide⟩ ⟨by decide, by decide⟩ rfl (Nat.le_of_ble_eq_true rfl) kd_Pk_safe_12 rfl (c1 := 0) (s1 := 0) rfl rfl (fun v w hp => ?_)
      rcases hp with ⟨g_11, rfl, rfl⟩ | ⟨g_12, rfl, rfl⟩
      · refine zk_stk (r' := [.int 1]) rfl ?_
        refine zk_if_eq (tgt := 26) C kd_Pk_safe_15 (by decide) rfl (fun h_13 => absurd h_13 (by decide)) (fun h_13 => ?_)
        refine zk_iload_n C kd_Pk_safe_18 rfl 1 rfl rfl ?_
        refine zk_iload_n C kd_Pk_safe_19 rfl 3 rfl rfl ?_
        refine zk_callS (rn := { frames := 0, cells := 0, slots := 0, locals := 0 }) (As := [.int x1, .int x3]) (rest := []) C (zp_isValue h (x1) (x3)) ku_Pk_isValue kw1482 ks_Pk_isValue rfl ⟨by decide, by decide⟩ ⟨by decide, by decide⟩ rfl (Nat.le_of_ble_eq_true rfl) kd_Pk_safe_20 rfl (c1 := 0) (s1 := 0) rfl rfl (fun v w hp => ?_)
        rcases hp with ⟨g_14, rfl, rfl⟩ | ⟨g_15, rfl, rfl⟩
        · refine zk_stk (r' := [.int 1]) rfl ?_
          refine zk_if_ne (tgt := 28) C kd_Pk_safe_23 (by decide) rfl (fun h_16 => ?_) (fun h_16 => absurd h_16 (by decide))
          refine zk_aload_n C kd_Pk_safe_28 rfl 0 rfl rfl ?_
          refine zs_get (v := .ref (S.1 58)) C 0 14 rfl rfl rfl rfl ki_Pk (by decide) kw633 kd_Pk_safe_29 rfl ?_
          refine zs_get (v := .ref (S.1 61)) C 58 2 rfl rfl rfl rfl ki_Mc (by decide) kw521 kd_Pk_safe_32 rfl ?_
          refine ze_gets (j := 3) C rfl kw1481 kd_Pk_safe_35 rfl ?_
          refine zk_iload_n C kd_Pk_safe_38 rfl 1 rfl rfl ?_
          refine ze_ti C rfl (zp_k1 (by assumption)).1 kd_Pk_safe_39 rfl ?_
          refine zk_stk (r' := [.int (zp_t x1), .ref (S.1 61)]) rfl ?_
          refine zk_iload_n C kd_Pk_safe_40 rfl 2 rfl rfl ?_
          refine zk_iadd C kd_Pk_safe_41 rfl ?_
          refine zk_iload_n C kd_Pk_safe_42 rfl 3 rfl rfl ?_
          refine zs_iast C 61 rfl (zp_k1 (by assumption)).2 kd_Pk_safe_43 rfl ?_
          refine zk_iconst (v := 0) C kd_Pk_safe_44 (by decide) rfl ?_
          exact zk_iret C hR kd_Pk_safe_45 rfl rfl (Or.inr (Or.inr (Or.inr (Or.inr (Or.inl ⟨h_1, h_10, g_11, g_14, rfl, rfl⟩)))))
        · refine zk_stk (r' := [.int 0]) rfl ?_
          refine zk_if_ne (tgt := 28) C kd_Pk_safe_23 (by decide) rfl (fun h_17 => absurd (by decide) h_17) (fun h_17 => ?_)
          refine zk_iconst (v := (-1)) C kd_Pk_safe_26 (by decide) rfl ?_
          exact zk_iret C hR kd_Pk_safe_27 rfl rfl (Or.inr (Or.inr (Or.inr (Or.inr (Or.inr (Or.inl ⟨h_1, h_10, g_11, g_15, rfl, rfl⟩))))))
      · refine zk_stk (r' := [.int 0]) rfl ?_
        refine zk_if_eq (tgt := 26) C kd_Pk_safe_15 (by decide) rfl (fun h_18 => ?_) (fun h_18 => absurd (by decide) h_18)
        refine zk_iconst (v := (-1)) C kd_Pk_safe_26 (by decide) rfl ?_
        exact zk_iret C hR kd_Pk_safe_27 rfl rfl (Or.inr (Or.inr (Or.inr (Or.inr (Or.inr (Or.inr ⟨h_1, h_10, g_12, rfl, rfl⟩))))))
set_option maxHeartbeats 4000000 in
set_option maxRecDepth 100000 in
/-- PlantKeeper$Line.answer -/
theorem zp_answer {l : Launch} {D : va_G} {sz0 : Nat} {S : zs_T} {P : ze_T} (h : zs_H) (e_loaded : h.1 58 3 = 0) : zk_Sp (zs_G S l D sz0) (ze_E P) km_Ln_answer { frames := 0, cells := 0, slots := 0, locals := 0 } [.ref (S.1 66), .ref (S.1 1), .int 0] (zs_W S h) (fun v w => (v = some (.int 0) ∧ w = zs_W S (zs_uF h 66 1 0))) := by
  refine zk_met ku_Ln_answer (Nat.le_of_ble_eq_true rfl) (ze_Em P) ?_
  intro X C hR
  refine zk_lvs (lv' := [(0, .ref (S.1 66)), (1, .ref (S.1 1)), (2, .int 0)]) [0, 1, 2] rfl ?_
  refine zk_aload_n C kd_Ln_answer_0 rfl 0 rfl rfl ?_
  refine zk_iconst (v := 0) C kd_Ln_answer_1 (by decide) rfl ?_
  refine zs_put (ty := .int) C 66 1 0 rfl rfl rfl rfl ki_Ln ky_Ln ko_Ln kn_Ln (by decide) kw599 rfl rfl rfl rfl (by decide) kd_Ln_answer_2 rfl ?_
  refine zk_iload_n C kd_Ln_answer_5 rfl 2 rfl rfl ?_
  refine zk_iconst (v := 4) C kd_Ln_answer_6 (by decide) rfl ?_
  refine zk_icmp_lt (tgt := 54) C kd_Ln_answer_7 (by decide) rfl (fun h_1 => ?_) (fun h_1 => absurd (by decide) h_1)
  refine zk_iconst (v := 0) C kd_Ln_answer_54 (by decide) rfl ?_
  refine zk_istore_n (lv' := [(3, _), (0, _), (1, _), (2, _)]) C kd_Ln_answer_55 rfl (by decide) rfl rfl ?_
  refine zk_aload_n C kd_Ln_answer_56 rfl 2 rfl rfl ?_
  refine zk_iconst (v := 0) C kd_Ln_answer_57 (by decide) rfl ?_
  refine zs_bald C 1 rfl (zp_dec rfl) kd_Ln_answer_58 rfl ?_
  refine zk_stk (r' := [.int (h.2.1 1 0)]) rfl ?_
  refine zk_sipush (v := 255) C kd_Ln_answer_59 (by decide) rfl ?_
  refine zk_iand C kd_Ln_answer_62 rfl ?_
  refine zk_istore (lv' := [(4, _), (3, _), (0, _), (1, _), (2, _)]) C kd_Ln_answer_63 (by decide) rfl rfl ?_
  refine zk_aload_n C kd_Ln_answer_65 rfl 2 rfl rfl ?_
  refine zs_get (v := .ref (S.1 58)) C 66 3 rfl rfl rfl rfl ki_Ln (by decide) kw603 kd_Ln_answer_66 rfl ?_
  refine zs_get (v := .int 0) C 58 3 rfl rfl (congrArg Value.int e_loaded) rfl ki_Mc (by decide) kw523 kd_Ln_answer_69 rfl ?_
  refine zk_if_eq (tgt := 93) C kd_Ln_answer_72 (by decide) rfl (fun h_2 => ?_) (fun h_2 => absurd (by decide) h_2)
  refine zk_iconst (v := 0) C kd_Ln_answer_93 (by decide) rfl ?_
  exact zk_iret C hR kd_Ln_answer_94 rfl rfl ⟨rfl, rfl⟩
set_option maxHeartbeats 4000000 in
set_option maxRecDepth 100000 in
/-- PlantKeeper.frame -/
theorem zp_frame {l : Launch} {D : va_G} {sz0 : Nat} {S : zs_T} {P : ze_T} (h : zs_H) (e_tapeSize : h.1 0 1 = 0) (e_loaded : h.1 58 3 = 0) : zk_Sp (zs_G S l D sz0) (ze_E P) km_Pk_frame { frames := 1, cells := 0, slots := 0, locals := 27 } [.ref (S.1 0)] (zs_W S h) (fun v w => (v = some (.int 0) ∧ w = zs_W S (zs_uF (zs_uF h 0 1 0) 66 1 0))) := by
  refine zk_met ku_Pk_frame (Nat.le_of_ble_eq_true rfl) (ze_Em P) ?_
  intro X C hR
  refine zk_lvs (lv' := [(0, .ref (S.1 0))]) [0] rfl ?_
  refine zk_aload_n C kd_Pk_frame_0 rfl 0 rfl rfl ?_
  refine zs_get (v := .int 0) C 0 1 rfl rfl (congrArg Value.int e_tapeSize) rfl ki_Pk (by decide) kw620 kd_Pk_frame_1 rfl ?_
  refine zk_istore_n (lv' := [(1, _), (0, _)]) C kd_Pk_frame_4 rfl (by decide) rfl rfl ?_
  refine zk_aload_n C kd_Pk_frame_5 rfl 1 rfl rfl ?_
  refine zk_iconst (v := 0) C kd_Pk_frame_6 (by decide) rfl ?_
  refine zs_put (ty := .int) C 0 1 0 rfl rfl rfl rfl ki_Pk ky_Pk ko_Pk kn_Pk (by decide) kw620 rfl rfl rfl rfl (by decide) kd_Pk_frame_7 rfl ?_
  refine zk_aload_n C kd_Pk_frame_10 rfl 1 rfl rfl ?_
  refine zs_get (v := .ref (S.1 66)) C 0 15 rfl rfl rfl rfl ki_Pk (by decide) kw634 kd_Pk_frame_11 rfl ?_
  refine zk_aload_n C kd_Pk_frame_14 rfl 1 rfl rfl ?_
  refine zs_get (v := .ref (S.1 1)) C 0 0 rfl rfl rfl rfl ki_Pk (by decide) kw619 kd_Pk_frame_15 rfl ?_
  refine zk_iload_n C kd_Pk_frame_18 rfl 0 rfl rfl ?_
  refine zs_callV (k := 66) (rn := { frames := 0, cells := 0, slots := 0, locals := 0 }) (As := [.ref (S.1 1), .int 0]) (rest := []) C (zp_answer (zs_uF h 0 1 0) e_loaded) ku_Ln_answer kw1607 kv_Ln_answer rfl ⟨by decide, by decide⟩ ⟨by decide, by decide⟩ rfl rfl rfl (Nat.le_of_ble_eq_true rfl) kd_Pk_frame_19 rfl (c1 := 0) (s1 := 0) rfl rfl (fun v w hp => ?_)
  obtain ⟨rfl, rfl⟩ := hp
  refine zk_stk (r' := [.int 0]) rfl ?_
  exact zk_iret C hR kd_Pk_frame_22 rfl rfl ⟨rfl, rfl⟩
set_option maxHeartbeats 4000000 in
set_option maxRecDepth 100000 in
/-- PlantKeeper.append -/
theorem zp_append0 {l : Launch} {D : va_G} {sz0 : Nat} {S : zs_T} {P : ze_T} (h : zs_H) (e_tapeSize : h.1 0 1 = 0) (x1 : Int32) : zk_Sp (zs_G S l D sz0) (ze_E P) km_Pk_append { frames := 0, cells := 0, slots := 0, locals := 0 } [.ref (S.1 0), .int x1] (zs_W S h) (fun v w => (v = none ∧ w = zs_W S (zs_uF (zs_uM (zs_uF (zs_uM (zs_uF (zs_uM (zs_uF (zs_uM h 1 ((0 : Int32)).toNatClampNeg (vp_nar .byte (((x1 >>> ((24 : Int32) &&& 31))).toInt8.toInt32))) 0 1 1) 1 ((1 : Int32)).toNatClampNeg (vp_nar .byte (((x1 >>> ((16 : Int32) &&& 31))).toInt8.toInt32))) 0 1 2) 1 ((2 : Int32)).toNatClampNeg (vp_nar .byte (((x1 >>> ((8 : Int32) &&& 31))).toInt8.toInt32))) 0 1 3) 1 ((3 : Int32)).toNatClampNeg (vp_nar .byte (((x1 >>> ((0 : Int32) &&& 31))).toInt8.toInt32))) 0 1 4))) := by
  refine zk_met ku_Pk_append (Nat.le_of_ble_eq_true rfl) (ze_Em P) ?_
  intro X C hR
  refine zk_lvs (lv' := [(0, .ref (S.1 0)), (1, .int x1)]) [0, 1] rfl ?_
  refine zk_bipush (v := 24) C kd_Pk_append_0 (by decide) rfl ?_
  refine zk_istore_n (lv' := [(2, _), (0, _), (1, _)]) C kd_Pk_append_2 rfl (by decide) rfl rfl ?_
  refine zk_iload_n C kd_Pk_append_3 rfl 0 rfl rfl ?_
  refine zk_if_lt (tgt := 46) C kd_Pk_append_4 (by decide) rfl (fun h_1 => absurd h_1 (by decide)) (fun h_1 => ?_)
  refine zk_aload_n C kd_Pk_append_7 rfl 1 rfl rfl ?_
  refine zs_get (v := .int 0) C 0 1 rfl rfl (congrArg Value.int e_tapeSize) rfl ki_Pk (by decide) kw620 kd_Pk_append_8 rfl ?_
  refine zk_sipush (v := 16384) C kd_Pk_append_11 (by decide) rfl ?_
  refine zk_icmp_ge (tgt := 46) C kd_Pk_append_14 (by decide) rfl (fun h_2 => absurd h_2 (by decide)) (fun h_2 => ?_)
  refine zk_aload_n C kd_Pk_append_17 rfl 1 rfl rfl ?_
  refine zs_get (v := .ref (S.1 1)) C 0 0 rfl rfl rfl rfl ki_Pk (by decide) kw619 kd_Pk_append_18 rfl ?_
  refine zk_aload_n C kd_Pk_append_21 rfl 1 rfl rfl ?_
  refine zs_get (v := .int 0) C 0 1 rfl rfl (congrArg Value.int e_tapeSize) rfl ki_Pk (by decide) kw620 kd_Pk_append_22 rfl ?_
  refine zk_iload_n C kd_Pk_append_25 rfl 2 rfl rfl ?_
  refine zk_iload_n C kd_Pk_append_26 rfl 0 rfl rfl ?_
  refine zk_ishr C kd_Pk_append_27 rfl ?_
  refine zk_i2b C kd_Pk_append_28 rfl ?_
  refine zs_bast C 1 rfl (zp_dec rfl) kd_Pk_append_29 rfl ?_
  refine zk_aload_n C kd_Pk_append_30 rfl 1 rfl rfl ?_
  refine zk_dup C kd_Pk_append_31 rfl rfl ?_
  refine zs_get (v := .int 0) C 0 1 rfl rfl (congrArg Value.int e_tapeSize) rfl ki_Pk (by decide) kw620 kd_Pk_append_32 rfl ?_
  refine zk_iconst (v := 1) C kd_Pk_append_35 (by decide) rfl ?_
  refine zk_iadd C kd_Pk_append_36 rfl ?_
  refine zk_stk (r' := [.int 1, .ref (S.1 0)]) (by rw [show (0 : Int32) + 1 = 1 by decide]) ?_
  refine zs_put (ty := .int) C 0 1 1 rfl rfl rfl rfl ki_Pk ky_Pk ko_Pk kn_Pk (by decide) kw620 rfl rfl rfl rfl (by decide) kd_Pk_append_37 rfl ?_
  refine zk_iinc (v := 16) (lv' := [(2, _), (0, _), (1, _)]) C kd_Pk_append_40 0 rfl (by decide) (by decide) rfl rfl ?_
  refine zk_goto (tgt := 3) C kd_Pk_append_43 (by decide) ?_
  refine zk_iload_n C kd_Pk_append_3 rfl 0 rfl rfl ?_
  refine zk_if_lt (tgt := 46) C kd_Pk_append_4 (by decide) rfl (fun h_3 => absurd h_3 (by decide)) (fun h_3 => ?_)
  refine zk_aload_n C kd_Pk_append_7 rfl 1 rfl rfl ?_
  refine zs_get (v := .int 1) C 0 1 rfl rfl rfl rfl ki_Pk (by decide) kw620 kd_Pk_append_8 rfl ?_
  refine zk_sipush (v := 16384) C kd_Pk_append_11 (by decide) rfl ?_
  refine zk_icmp_ge (tgt := 46) C kd_Pk_append_14 (by decide) rfl (fun h_4 => absurd h_4 (by decide)) (fun h_4 => ?_)
  refine zk_aload_n C kd_Pk_append_17 rfl 1 rfl rfl ?_
  refine zs_get (v := .ref (S.1 1)) C 0 0 rfl rfl rfl rfl ki_Pk (by decide) kw619 kd_Pk_append_18 rfl ?_
  refine zk_aload_n C kd_Pk_append_21 rfl 1 rfl rfl ?_
  refine zs_get (v := .int 1) C 0 1 rfl rfl rfl rfl ki_Pk (by decide) kw620 kd_Pk_append_22 rfl ?_
  refine zk_iload_n C kd_Pk_append_25 rfl 2 rfl rfl ?_
  refine zk_iload_n C kd_Pk_append_26 rfl 0 rfl rfl ?_
  refine zk_ishr C kd_Pk_append_27 rfl ?_
  refine zk_i2b C kd_Pk_append_28 rfl ?_
  refine zs_bast C 1 rfl (zp_dec rfl) kd_Pk_append_29 rfl ?_
  refine zk_aload_n C kd_Pk_append_30 rfl 1 rfl rfl ?_
  refine zk_dup C kd_Pk_append_31 rfl rfl ?_
  refine zs_get (v := .int 1) C 0 1 rfl rfl rfl rfl ki_Pk (by decide) kw620 kd_Pk_append_32 rfl ?_
  refine zk_iconst (v := 1) C kd_Pk_append_35 (by decide) rfl ?_
  refine zk_iadd C kd_Pk_append_36 rfl ?_
  refine zk_stk (r' := [.int 2, .ref (S.1 0)]) (by rw [show (1 : Int32) + 1 = 2 by decide]) ?_
  refine zs_put (ty := .int) C 0 1 2 rfl rfl rfl rfl ki_Pk ky_Pk ko_Pk kn_Pk (by decide) kw620 rfl rfl rfl rfl (by decide) kd_Pk_append_37 rfl ?_
  refine zk_iinc (v := 8) (lv' := [(2, _), (0, _), (1, _)]) C kd_Pk_append_40 0 rfl (by decide) (by decide) rfl rfl ?_
  refine zk_goto (tgt := 3) C kd_Pk_append_43 (by decide) ?_
  refine zk_iload_n C kd_Pk_append_3 rfl 0 rfl rfl ?_
  refine zk_if_lt (tgt := 46) C kd_Pk_append_4 (by decide) rfl (fun h_5 => absurd h_5 (by decide)) (fun h_5 => ?_)
  refine zk_aload_n C kd_Pk_append_7 rfl 1 rfl rfl ?_
  refine zs_get (v := .int 2) C 0 1 rfl rfl rfl rfl ki_Pk (by decide) kw620 kd_Pk_append_8 rfl ?_
  refine zk_sipush (v := 16384) C kd_Pk_append_11 (by decide) rfl ?_
  refine zk_icmp_ge (tgt := 46) C kd_Pk_append_14 (by decide) rfl (fun h_6 => absurd h_6 (by decide)) (fun h_6 => ?_)
  refine zk_aload_n C kd_Pk_append_17 rfl 1 rfl rfl ?_
  refine zs_get (v := .ref (S.1 1)) C 0 0 rfl rfl rfl rfl ki_Pk (by decide) kw619 kd_Pk_append_18 rfl ?_
  refine zk_aload_n C kd_Pk_append_21 rfl 1 rfl rfl ?_
  refine zs_get (v := .int 2) C 0 1 rfl rfl rfl rfl ki_Pk (by decide) kw620 kd_Pk_append_22 rfl ?_
  refine zk_iload_n C kd_Pk_append_25 rfl 2 rfl rfl ?_
  refine zk_iload_n C kd_Pk_append_26 rfl 0 rfl rfl ?_
  refine zk_ishr C kd_Pk_append_27 rfl ?_
  refine zk_i2b C kd_Pk_append_28 rfl ?_
  refine zs_bast C 1 rfl (zp_dec rfl) kd_Pk_append_29 rfl ?_
  refine zk_aload_n C kd_Pk_append_30 rfl 1 rfl rfl ?_
  refine zk_dup C kd_Pk_append_31 rfl rfl ?_
  refine zs_get (v := .int 2) C 0 1 rfl rfl rfl rfl ki_Pk (by decide) kw620 kd_Pk_append_32 rfl ?_
  refine zk_iconst (v := 1) C kd_Pk_append_35 (by decide) rfl ?_
  refine zk_iadd C kd_Pk_append_36 rfl ?_
  refine zk_stk (r' := [.int 3, .ref (S.1 0)]) (by rw [show (2 : Int32) + 1 = 3 by decide]) ?_
  refine zs_put (ty := .int) C 0 1 3 rfl rfl rfl rfl ki_Pk ky_Pk ko_Pk kn_Pk (by decide) kw620 rfl rfl rfl rfl (by decide) kd_Pk_append_37 rfl ?_
  refine zk_iinc (v := 0) (lv' := [(2, _), (0, _), (1, _)]) C kd_Pk_append_40 0 rfl (by decide) (by decide) rfl rfl ?_
  refine zk_goto (tgt := 3) C kd_Pk_append_43 (by decide) ?_
  refine zk_iload_n C kd_Pk_append_3 rfl 0 rfl rfl ?_
  refine zk_if_lt (tgt := 46) C kd_Pk_append_4 (by decide) rfl (fun h_7 => absurd h_7 (by decide)) (fun h_7 => ?_)
  refine zk_aload_n C kd_Pk_append_7 rfl 1 rfl rfl ?_
  refine zs_get (v := .int 3) C 0 1 rfl rfl rfl rfl ki_Pk (by decide) kw620 kd_Pk_append_8 rfl ?_
  refine zk_sipush (v := 16384) C kd_Pk_append_11 (by decide) rfl ?_
  refine zk_icmp_ge (tgt := 46) C kd_Pk_append_14 (by decide) rfl (fun h_8 => absurd h_8 (by decide)) (fun h_8 => ?_)
  refine zk_aload_n C kd_Pk_append_17 rfl 1 rfl rfl ?_
  refine zs_get (v := .ref (S.1 1)) C 0 0 rfl rfl rfl rfl ki_Pk (by decide) kw619 kd_Pk_append_18 rfl ?_
  refine zk_aload_n C kd_Pk_append_21 rfl 1 rfl rfl ?_
  refine zs_get (v := .int 3) C 0 1 rfl rfl rfl rfl ki_Pk (by decide) kw620 kd_Pk_append_22 rfl ?_
  refine zk_iload_n C kd_Pk_append_25 rfl 2 rfl rfl ?_
  refine zk_iload_n C kd_Pk_append_26 rfl 0 rfl rfl ?_
  refine zk_ishr C kd_Pk_append_27 rfl ?_
  refine zk_i2b C kd_Pk_append_28 rfl ?_
  refine zs_bast C 1 rfl (zp_dec rfl) kd_Pk_append_29 rfl ?_
  refine zk_aload_n C kd_Pk_append_30 rfl 1 rfl rfl ?_
  refine zk_dup C kd_Pk_append_31 rfl rfl ?_
  refine zs_get (v := .int 3) C 0 1 rfl rfl rfl rfl ki_Pk (by decide) kw620 kd_Pk_append_32 rfl ?_
  refine zk_iconst (v := 1) C kd_Pk_append_35 (by decide) rfl ?_
  refine zk_iadd C kd_Pk_append_36 rfl ?_
  refine zk_stk (r' := [.int 4, .ref (S.1 0)]) (by rw [show (3 : Int32) + 1 = 4 by decide]) ?_
  refine zs_put (ty := .int) C 0 1 4 rfl rfl rfl rfl ki_Pk ky_Pk ko_Pk kn_Pk (by decide) kw620 rfl rfl rfl rfl (by decide) kd_Pk_append_37 rfl ?_
  refine zk_iinc (v := (-8)) (lv' := [(2, _), (0, _), (1, _)]) C kd_Pk_append_40 0 rfl (by decide) (by decide) rfl rfl ?_
  refine zk_goto (tgt := 3) C kd_Pk_append_43 (by decide) ?_
  refine zk_iload_n C kd_Pk_append_3 rfl 0 rfl rfl ?_
  refine zk_if_lt (tgt := 46) C kd_Pk_append_4 (by decide) rfl (fun h_9 => ?_) (fun h_9 => absurd (by decide) h_9)
  exact zk_vret C hR kd_Pk_append_46 rfl rfl ⟨rfl, rfl⟩
set_option maxHeartbeats 4000000 in
set_option maxRecDepth 100000 in
/-- PlantKeeper.append -/
theorem zp_append1 {l : Launch} {D : va_G} {sz0 : Nat} {S : zs_T} {P : ze_T} (h : zs_H) (e_tapeSize : h.1 0 1 = 4) (x1 : Int32) : zk_Sp (zs_G S l D sz0) (ze_E P) km_Pk_append { frames := 0, cells := 0, slots := 0, locals := 0 } [.ref (S.1 0), .int x1] (zs_W S h) (fun v w => (v = none ∧ w = zs_W S (zs_uF (zs_uM (zs_uF (zs_uM (zs_uF (zs_uM (zs_uF (zs_uM h 1 ((4 : Int32)).toNatClampNeg (vp_nar .byte (((x1 >>> ((24 : Int32) &&& 31))).toInt8.toInt32))) 0 1 5) 1 ((5 : Int32)).toNatClampNeg (vp_nar .byte (((x1 >>> ((16 : Int32) &&& 31))).toInt8.toInt32))) 0 1 6) 1 ((6 : Int32)).toNatClampNeg (vp_nar .byte (((x1 >>> ((8 : Int32) &&& 31))).toInt8.toInt32))) 0 1 7) 1 ((7 : Int32)).toNatClampNeg (vp_nar .byte (((x1 >>> ((0 : Int32) &&& 31))).toInt8.toInt32))) 0 1 8))) := by
  refine zk_met ku_Pk_append (Nat.le_of_ble_eq_true rfl) (ze_Em P) ?_
  intro X C hR
  refine zk_lvs (lv' := [(0, .ref (S.1 0)), (1, .int x1)]) [0, 1] rfl ?_
  refine zk_bipush (v := 24) C kd_Pk_append_0 (by decide) rfl ?_
  refine zk_istore_n (lv' := [(2, _), (0, _), (1, _)]) C kd_Pk_append_2 rfl (by decide) rfl rfl ?_
  refine zk_iload_n C kd_Pk_append_3 rfl 0 rfl rfl ?_
  refine zk_if_lt (tgt := 46) C kd_Pk_append_4 (by decide) rfl (fun h_1 => absurd h_1 (by decide)) (fun h_1 => ?_)
  refine zk_aload_n C kd_Pk_append_7 rfl 1 rfl rfl ?_
  refine zs_get (v := .int 4) C 0 1 rfl rfl (congrArg Value.int e_tapeSize) rfl ki_Pk (by decide) kw620 kd_Pk_append_8 rfl ?_
  refine zk_sipush (v := 16384) C kd_Pk_append_11 (by decide) rfl ?_
  refine zk_icmp_ge (tgt := 46) C kd_Pk_append_14 (by decide) rfl (fun h_2 => absurd h_2 (by decide)) (fun h_2 => ?_)
  refine zk_aload_n C kd_Pk_append_17 rfl 1 rfl rfl ?_
  refine zs_get (v := .ref (S.1 1)) C 0 0 rfl rfl rfl rfl ki_Pk (by decide) kw619 kd_Pk_append_18 rfl ?_
  refine zk_aload_n C kd_Pk_append_21 rfl 1 rfl rfl ?_
  refine zs_get (v := .int 4) C 0 1 rfl rfl (congrArg Value.int e_tapeSize) rfl ki_Pk (by decide) kw620 kd_Pk_append_22 rfl ?_
  refine zk_iload_n C kd_Pk_append_25 rfl 2 rfl rfl ?_
  refine zk_iload_n C kd_Pk_append_26 rfl 0 rfl rfl ?_
  refine zk_ishr C kd_Pk_append_27 rfl ?_
  refine zk_i2b C kd_Pk_append_28 rfl ?_
  refine zs_bast C 1 rfl (zp_dec rfl) kd_Pk_append_29 rfl ?_
  refine zk_aload_n C kd_Pk_append_30 rfl 1 rfl rfl ?_
  refine zk_dup C kd_Pk_append_31 rfl rfl ?_
  refine zs_get (v := .int 4) C 0 1 rfl rfl (congrArg Value.int e_tapeSize) rfl ki_Pk (by decide) kw620 kd_Pk_append_32 rfl ?_
  refine zk_iconst (v := 1) C kd_Pk_append_35 (by decide) rfl ?_
  refine zk_iadd C kd_Pk_append_36 rfl ?_
  refine zk_stk (r' := [.int 5, .ref (S.1 0)]) (by rw [show (4 : Int32) + 1 = 5 by decide]) ?_
  refine zs_put (ty := .int) C 0 1 5 rfl rfl rfl rfl ki_Pk ky_Pk ko_Pk kn_Pk (by decide) kw620 rfl rfl rfl rfl (by decide) kd_Pk_append_37 rfl ?_
  refine zk_iinc (v := 16) (lv' := [(2, _), (0, _), (1, _)]) C kd_Pk_append_40 0 rfl (by decide) (by decide) rfl rfl ?_
  refine zk_goto (tgt := 3) C kd_Pk_append_43 (by decide) ?_
  refine zk_iload_n C kd_Pk_append_3 rfl 0 rfl rfl ?_
  refine zk_if_lt (tgt := 46) C kd_Pk_append_4 (by decide) rfl (fun h_3 => absurd h_3 (by decide)) (fun h_3 => ?_)
  refine zk_aload_n C kd_Pk_append_7 rfl 1 rfl rfl ?_
  refine zs_get (v := .int 5) C 0 1 rfl rfl rfl rfl ki_Pk (by decide) kw620 kd_Pk_append_8 rfl ?_
  refine zk_sipush (v := 16384) C kd_Pk_append_11 (by decide) rfl ?_
  refine zk_icmp_ge (tgt := 46) C kd_Pk_append_14 (by decide) rfl (fun h_4 => absurd h_4 (by decide)) (fun h_4 => ?_)
  refine zk_aload_n C kd_Pk_append_17 rfl 1 rfl rfl ?_
  refine zs_get (v := .ref (S.1 1)) C 0 0 rfl rfl rfl rfl ki_Pk (by decide) kw619 kd_Pk_append_18 rfl ?_
  refine zk_aload_n C kd_Pk_append_21 rfl 1 rfl rfl ?_
  refine zs_get (v := .int 5) C 0 1 rfl rfl rfl rfl ki_Pk (by decide) kw620 kd_Pk_append_22 rfl ?_
  refine zk_iload_n C kd_Pk_append_25 rfl 2 rfl rfl ?_
  refine zk_iload_n C kd_Pk_append_26 rfl 0 rfl rfl ?_
  refine zk_ishr C kd_Pk_append_27 rfl ?_
  refine zk_i2b C kd_Pk_append_28 rfl ?_
  refine zs_bast C 1 rfl (zp_dec rfl) kd_Pk_append_29 rfl ?_
  refine zk_aload_n C kd_Pk_append_30 rfl 1 rfl rfl ?_
  refine zk_dup C kd_Pk_append_31 rfl rfl ?_
  refine zs_get (v := .int 5) C 0 1 rfl rfl rfl rfl ki_Pk (by decide) kw620 kd_Pk_append_32 rfl ?_
  refine zk_iconst (v := 1) C kd_Pk_append_35 (by decide) rfl ?_
  refine zk_iadd C kd_Pk_append_36 rfl ?_
  refine zk_stk (r' := [.int 6, .ref (S.1 0)]) (by rw [show (5 : Int32) + 1 = 6 by decide]) ?_
  refine zs_put (ty := .int) C 0 1 6 rfl rfl rfl rfl ki_Pk ky_Pk ko_Pk kn_Pk (by decide) kw620 rfl rfl rfl rfl (by decide) kd_Pk_append_37 rfl ?_
  refine zk_iinc (v := 8) (lv' := [(2, _), (0, _), (1, _)]) C kd_Pk_append_40 0 rfl (by decide) (by decide) rfl rfl ?_
  refine zk_goto (tgt := 3) C kd_Pk_append_43 (by decide) ?_
  refine zk_iload_n C kd_Pk_append_3 rfl 0 rfl rfl ?_
  refine zk_if_lt (tgt := 46) C kd_Pk_append_4 (by decide) rfl (fun h_5 => absurd h_5 (by decide)) (fun h_5 => ?_)
  refine zk_aload_n C kd_Pk_append_7 rfl 1 rfl rfl ?_
  refine zs_get (v := .int 6) C 0 1 rfl rfl rfl rfl ki_Pk (by decide) kw620 kd_Pk_append_8 rfl ?_
  refine zk_sipush (v := 16384) C kd_Pk_append_11 (by decide) rfl ?_
  refine zk_icmp_ge (tgt := 46) C kd_Pk_append_14 (by decide) rfl (fun h_6 => absurd h_6 (by decide)) (fun h_6 => ?_)
  refine zk_aload_n C kd_Pk_append_17 rfl 1 rfl rfl ?_
  refine zs_get (v := .ref (S.1 1)) C 0 0 rfl rfl rfl rfl ki_Pk (by decide) kw619 kd_Pk_append_18 rfl ?_
  refine zk_aload_n C kd_Pk_append_21 rfl 1 rfl rfl ?_
  refine zs_get (v := .int 6) C 0 1 rfl rfl rfl rfl ki_Pk (by decide) kw620 kd_Pk_append_22 rfl ?_
  refine zk_iload_n C kd_Pk_append_25 rfl 2 rfl rfl ?_
  refine zk_iload_n C kd_Pk_append_26 rfl 0 rfl rfl ?_
  refine zk_ishr C kd_Pk_append_27 rfl ?_
  refine zk_i2b C kd_Pk_append_28 rfl ?_
  refine zs_bast C 1 rfl (zp_dec rfl) kd_Pk_append_29 rfl ?_
  refine zk_aload_n C kd_Pk_append_30 rfl 1 rfl rfl ?_
  refine zk_dup C kd_Pk_append_31 rfl rfl ?_
  refine zs_get (v := .int 6) C 0 1 rfl rfl rfl rfl ki_Pk (by decide) kw620 kd_Pk_append_32 rfl ?_
  refine zk_iconst (v := 1) C kd_Pk_append_35 (by decide) rfl ?_
  refine zk_iadd C kd_Pk_append_36 rfl ?_
  refine zk_stk (r' := [.int 7, .ref (S.1 0)]) (by rw [show (6 : Int32) + 1 = 7 by decide]) ?_
  refine zs_put (ty := .int) C 0 1 7 rfl rfl rfl rfl ki_Pk ky_Pk ko_Pk kn_Pk (by decide) kw620 rfl rfl rfl rfl (by decide) kd_Pk_append_37 rfl ?_
  refine zk_iinc (v := 0) (lv' := [(2, _), (0, _), (1, _)]) C kd_Pk_append_40 0 rfl (by decide) (by decide) rfl rfl ?_
  refine zk_goto (tgt := 3) C kd_Pk_append_43 (by decide) ?_
  refine zk_iload_n C kd_Pk_append_3 rfl 0 rfl rfl ?_
  refine zk_if_lt (tgt := 46) C kd_Pk_append_4 (by decide) rfl (fun h_7 => absurd h_7 (by decide)) (fun h_7 => ?_)
  refine zk_aload_n C kd_Pk_append_7 rfl 1 rfl rfl ?_
  refine zs_get (v := .int 7) C 0 1 rfl rfl rfl rfl ki_Pk (by decide) kw620 kd_Pk_append_8 rfl ?_
  refine zk_sipush (v := 16384) C kd_Pk_append_11 (by decide) rfl ?_
  refine zk_icmp_ge (tgt := 46) C kd_Pk_append_14 (by decide) rfl (fun h_8 => absurd h_8 (by decide)) (fun h_8 => ?_)
  refine zk_aload_n C kd_Pk_append_17 rfl 1 rfl rfl ?_
  refine zs_get (v := .ref (S.1 1)) C 0 0 rfl rfl rfl rfl ki_Pk (by decide) kw619 kd_Pk_append_18 rfl ?_
  refine zk_aload_n C kd_Pk_append_21 rfl 1 rfl rfl ?_
  refine zs_get (v := .int 7) C 0 1 rfl rfl rfl rfl ki_Pk (by decide) kw620 kd_Pk_append_22 rfl ?_
  refine zk_iload_n C kd_Pk_append_25 rfl 2 rfl rfl ?_
  refine zk_iload_n C kd_Pk_append_26 rfl 0 rfl rfl ?_
  refine zk_ishr C kd_Pk_append_27 rfl ?_
  refine zk_i2b C kd_Pk_append_28 rfl ?_
  refine zs_bast C 1 rfl (zp_dec rfl) kd_Pk_append_29 rfl ?_
  refine zk_aload_n C kd_Pk_append_30 rfl 1 rfl rfl ?_
  refine zk_dup C kd_Pk_append_31 rfl rfl ?_
  refine zs_get (v := .int 7) C 0 1 rfl rfl rfl rfl ki_Pk (by decide) kw620 kd_Pk_append_32 rfl ?_
  refine zk_iconst (v := 1) C kd_Pk_append_35 (by decide) rfl ?_
  refine zk_iadd C kd_Pk_append_36 rfl ?_
  refine zk_stk (r' := [.int 8, .ref (S.1 0)]) (by rw [show (7 : Int32) + 1 = 8 by decide]) ?_
  refine zs_put (ty := .int) C 0 1 8 rfl rfl rfl rfl ki_Pk ky_Pk ko_Pk kn_Pk (by decide) kw620 rfl rfl rfl rfl (by decide) kd_Pk_append_37 rfl ?_
  refine zk_iinc (v := (-8)) (lv' := [(2, _), (0, _), (1, _)]) C kd_Pk_append_40 0 rfl (by decide) (by decide) rfl rfl ?_
  refine zk_goto (tgt := 3) C kd_Pk_append_43 (by decide) ?_
  refine zk_iload_n C kd_Pk_append_3 rfl 0 rfl rfl ?_
  refine zk_if_lt (tgt := 46) C kd_Pk_append_4 (by decide) rfl (fun h_9 => ?_) (fun h_9 => absurd (by decide) h_9)
  exact zk_vret C hR kd_Pk_append_46 rfl rfl ⟨rfl, rfl⟩
set_option maxHeartbeats 4000000 in
set_option maxRecDepth 100000 in
/-- PlantKeeper.append -/
theorem zp_append2 {l : Launch} {D : va_G} {sz0 : Nat} {S : zs_T} {P : ze_T} (h : zs_H) (e_tapeSize : h.1 0 1 = 8) (x1 : Int32) : zk_Sp (zs_G S l D sz0) (ze_E P) km_Pk_append { frames := 0, cells := 0, slots := 0, locals := 0 } [.ref (S.1 0), .int x1] (zs_W S h) (fun v w => (v = none ∧ w = zs_W S (zs_uF (zs_uM (zs_uF (zs_uM (zs_uF (zs_uM (zs_uF (zs_uM h 1 ((8 : Int32)).toNatClampNeg (vp_nar .byte (((x1 >>> ((24 : Int32) &&& 31))).toInt8.toInt32))) 0 1 9) 1 ((9 : Int32)).toNatClampNeg (vp_nar .byte (((x1 >>> ((16 : Int32) &&& 31))).toInt8.toInt32))) 0 1 10) 1 ((10 : Int32)).toNatClampNeg (vp_nar .byte (((x1 >>> ((8 : Int32) &&& 31))).toInt8.toInt32))) 0 1 11) 1 ((11 : Int32)).toNatClampNeg (vp_nar .byte (((x1 >>> ((0 : Int32) &&& 31))).toInt8.toInt32))) 0 1 12))) := by
  refine zk_met ku_Pk_append (Nat.le_of_ble_eq_true rfl) (ze_Em P) ?_
  intro X C hR
  refine zk_lvs (lv' := [(0, .ref (S.1 0)), (1, .int x1)]) [0, 1] rfl ?_
  refine zk_bipush (v := 24) C kd_Pk_append_0 (by decide) rfl ?_
  refine zk_istore_n (lv' := [(2, _), (0, _), (1, _)]) C kd_Pk_append_2 rfl (by decide) rfl rfl ?_
  refine zk_iload_n C kd_Pk_append_3 rfl 0 rfl rfl ?_
  refine zk_if_lt (tgt := 46) C kd_Pk_append_4 (by decide) rfl (fun h_1 => absurd h_1 (by decide)) (fun h_1 => ?_)
  refine zk_aload_n C kd_Pk_append_7 rfl 1 rfl rfl ?_
  refine zs_get (v := .int 8) C 0 1 rfl rfl (congrArg Value.int e_tapeSize) rfl ki_Pk (by decide) kw620 kd_Pk_append_8 rfl ?_
  refine zk_sipush (v := 16384) C kd_Pk_append_11 (by decide) rfl ?_
  refine zk_icmp_ge (tgt := 46) C kd_Pk_append_14 (by decide) rfl (fun h_2 => absurd h_2 (by decide)) (fun h_2 => ?_)
  refine zk_aload_n C kd_Pk_append_17 rfl 1 rfl rfl ?_
  refine zs_get (v := .ref (S.1 1)) C 0 0 rfl rfl rfl rfl ki_Pk (by decide) kw619 kd_Pk_append_18 rfl ?_
  refine zk_aload_n C kd_Pk_append_21 rfl 1 rfl rfl ?_
  refine zs_get (v := .int 8) C 0 1 rfl rfl (congrArg Value.int e_tapeSize) rfl ki_Pk (by decide) kw620 kd_Pk_append_22 rfl ?_
  refine zk_iload_n C kd_Pk_append_25 rfl 2 rfl rfl ?_
  refine zk_iload_n C kd_Pk_append_26 rfl 0 rfl rfl ?_
  refine zk_ishr C kd_Pk_append_27 rfl ?_
  refine zk_i2b C kd_Pk_append_28 rfl ?_
  refine zs_bast C 1 rfl (zp_dec rfl) kd_Pk_append_29 rfl ?_
  refine zk_aload_n C kd_Pk_append_30 rfl 1 rfl rfl ?_
  refine zk_dup C kd_Pk_append_31 rfl rfl ?_
  refine zs_get (v := .int 8) C 0 1 rfl rfl (congrArg Value.int e_tapeSize) rfl ki_Pk (by decide) kw620 kd_Pk_append_32 rfl ?_
  refine zk_iconst (v := 1) C kd_Pk_append_35 (by decide) rfl ?_
  refine zk_iadd C kd_Pk_append_36 rfl ?_
  refine zk_stk (r' := [.int 9, .ref (S.1 0)]) (by rw [show (8 : Int32) + 1 = 9 by decide]) ?_
  refine zs_put (ty := .int) C 0 1 9 rfl rfl rfl rfl ki_Pk ky_Pk ko_Pk kn_Pk (by decide) kw620 rfl rfl rfl rfl (by decide) kd_Pk_append_37 rfl ?_
  refine zk_iinc (v := 16) (lv' := [(2, _), (0, _), (1, _)]) C kd_Pk_append_40 0 rfl (by decide) (by decide) rfl rfl ?_
  refine zk_goto (tgt := 3) C kd_Pk_append_43 (by decide) ?_
  refine zk_iload_n C kd_Pk_append_3 rfl 0 rfl rfl ?_
  refine zk_if_lt (tgt := 46) C kd_Pk_append_4 (by decide) rfl (fun h_3 => absurd h_3 (by decide)) (fun h_3 => ?_)
  refine zk_aload_n C kd_Pk_append_7 rfl 1 rfl rfl ?_
  refine zs_get (v := .int 9) C 0 1 rfl rfl rfl rfl ki_Pk (by decide) kw620 kd_Pk_append_8 rfl ?_
  refine zk_sipush (v := 16384) C kd_Pk_append_11 (by decide) rfl ?_
  refine zk_icmp_ge (tgt := 46) C kd_Pk_append_14 (by decide) rfl (fun h_4 => absurd h_4 (by decide)) (fun h_4 => ?_)
  refine zk_aload_n C kd_Pk_append_17 rfl 1 rfl rfl ?_
  refine zs_get (v := .ref (S.1 1)) C 0 0 rfl rfl rfl rfl ki_Pk (by decide) kw619 kd_Pk_append_18 rfl ?_
  refine zk_aload_n C kd_Pk_append_21 rfl 1 rfl rfl ?_
  refine zs_get (v := .int 9) C 0 1 rfl rfl rfl rfl ki_Pk (by decide) kw620 kd_Pk_append_22 rfl ?_
  refine zk_iload_n C kd_Pk_append_25 rfl 2 rfl rfl ?_
  refine zk_iload_n C kd_Pk_append_26 rfl 0 rfl rfl ?_
  refine zk_ishr C kd_Pk_append_27 rfl ?_
  refine zk_i2b C kd_Pk_append_28 rfl ?_
  refine zs_bast C 1 rfl (zp_dec rfl) kd_Pk_append_29 rfl ?_
  refine zk_aload_n C kd_Pk_append_30 rfl 1 rfl rfl ?_
  refine zk_dup C kd_Pk_append_31 rfl rfl ?_
  refine zs_get (v := .int 9) C 0 1 rfl rfl rfl rfl ki_Pk (by decide) kw620 kd_Pk_append_32 rfl ?_
  refine zk_iconst (v := 1) C kd_Pk_append_35 (by decide) rfl ?_
  refine zk_iadd C kd_Pk_append_36 rfl ?_
  refine zk_stk (r' := [.int 10, .ref (S.1 0)]) (by rw [show (9 : Int32) + 1 = 10 by decide]) ?_
  refine zs_put (ty := .int) C 0 1 10 rfl rfl rfl rfl ki_Pk ky_Pk ko_Pk kn_Pk (by decide) kw620 rfl rfl rfl rfl (by decide) kd_Pk_append_37 rfl ?_
  refine zk_iinc (v := 8) (lv' := [(2, _), (0, _), (1, _)]) C kd_Pk_append_40 0 rfl (by decide) (by decide) rfl rfl ?_
  refine zk_goto (tgt := 3) C kd_Pk_append_43 (by decide) ?_
  refine zk_iload_n C kd_Pk_append_3 rfl 0 rfl rfl ?_
  refine zk_if_lt (tgt := 46) C kd_Pk_append_4 (by decide) rfl (fun h_5 => absurd h_5 (by decide)) (fun h_5 => ?_)
  refine zk_aload_n C kd_Pk_append_7 rfl 1 rfl rfl ?_
  refine zs_get (v := .int 10) C 0 1 rfl rfl rfl rfl ki_Pk (by decide) kw620 kd_Pk_append_8 rfl ?_
  refine zk_sipush (v := 16384) C kd_Pk_append_11 (by decide) rfl ?_
  refine zk_icmp_ge (tgt := 46) C kd_Pk_append_14 (by decide) rfl (fun h_6 => absurd h_6 (by decide)) (fun h_6 => ?_)
  refine zk_aload_n C kd_Pk_append_17 rfl 1 rfl rfl ?_
  refine zs_get (v := .ref (S.1 1)) C 0 0 rfl rfl rfl rfl ki_Pk (by decide) kw619 kd_Pk_append_18 rfl ?_
  refine zk_aload_n C kd_Pk_append_21 rfl 1 rfl rfl ?_
  refine zs_get (v := .int 10) C 0 1 rfl rfl rfl rfl ki_Pk (by decide) kw620 kd_Pk_append_22 rfl ?_
  refine zk_iload_n C kd_Pk_append_25 rfl 2 rfl rfl ?_
  refine zk_iload_n C kd_Pk_append_26 rfl 0 rfl rfl ?_
  refine zk_ishr C kd_Pk_append_27 rfl ?_
  refine zk_i2b C kd_Pk_append_28 rfl ?_
  refine zs_bast C 1 rfl (zp_dec rfl) kd_Pk_append_29 rfl ?_
  refine zk_aload_n C kd_Pk_append_30 rfl 1 rfl rfl ?_
  refine zk_dup C kd_Pk_append_31 rfl rfl ?_
  refine zs_get (v := .int 10) C 0 1 rfl rfl rfl rfl ki_Pk (by decide) kw620 kd_Pk_append_32 rfl ?_
  refine zk_iconst (v := 1) C kd_Pk_append_35 (by decide) rfl ?_
  refine zk_iadd C kd_Pk_append_36 rfl ?_
  refine zk_stk (r' := [.int 11, .ref (S.1 0)]) (by rw [show (10 : Int32) + 1 = 11 by decide]) ?_
  refine zs_put (ty := .int) C 0 1 11 rfl rfl rfl rfl ki_Pk ky_Pk ko_Pk kn_Pk (by decide) kw620 rfl rfl rfl rfl (by decide) kd_Pk_append_37 rfl ?_
  refine zk_iinc (v := 0) (lv' := [(2, _), (0, _), (1, _)]) C kd_Pk_append_40 0 rfl (by decide) (by decide) rfl rfl ?_
  refine zk_goto (tgt := 3) C kd_Pk_append_43 (by decide) ?_
  refine zk_iload_n C kd_Pk_append_3 rfl 0 rfl rfl ?_
  refine zk_if_lt (tgt := 46) C kd_Pk_append_4 (by decide) rfl (fun h_7 => absurd h_7 (by decide)) (fun h_7 => ?_)
  refine zk_aload_n C kd_Pk_append_7 rfl 1 rfl rfl ?_
  refine zs_get (v := .int 11) C 0 1 rfl rfl rfl rfl ki_Pk (by decide) kw620 kd_Pk_append_8 rfl ?_
  refine zk_sipush (v := 16384) C kd_Pk_append_11 (by decide) rfl ?_
  refine zk_icmp_ge (tgt := 46) C kd_Pk_append_14 (by decide) rfl (fun h_8 => absurd h_8 (by decide)) (fun h_8 => ?_)
  refine zk_aload_n C kd_Pk_append_17 rfl 1 rfl rfl ?_
  refine zs_get (v := .ref (S.1 1)) C 0 0 rfl rfl rfl rfl ki_Pk (by decide) kw619 kd_Pk_append_18 rfl ?_
  refine zk_aload_n C kd_Pk_append_21 rfl 1 rfl rfl ?_
  refine zs_get (v := .int 11) C 0 1 rfl rfl rfl rfl ki_Pk (by decide) kw620 kd_Pk_append_22 rfl ?_
  refine zk_iload_n C kd_Pk_append_25 rfl 2 rfl rfl ?_
  refine zk_iload_n C kd_Pk_append_26 rfl 0 rfl rfl ?_
  refine zk_ishr C kd_Pk_append_27 rfl ?_
  refine zk_i2b C kd_Pk_append_28 rfl ?_
  refine zs_bast C 1 rfl (zp_dec rfl) kd_Pk_append_29 rfl ?_
  refine zk_aload_n C kd_Pk_append_30 rfl 1 rfl rfl ?_
  refine zk_dup C kd_Pk_append_31 rfl rfl ?_
  refine zs_get (v := .int 11) C 0 1 rfl rfl rfl rfl ki_Pk (by decide) kw620 kd_Pk_append_32 rfl ?_
  refine zk_iconst (v := 1) C kd_Pk_append_35 (by decide) rfl ?_
  refine zk_iadd C kd_Pk_append_36 rfl ?_
  refine zk_stk (r' := [.int 12, .ref (S.1 0)]) (by rw [show (11 : Int32) + 1 = 12 by decide]) ?_
  refine zs_put (ty := .int) C 0 1 12 rfl rfl rfl rfl ki_Pk ky_Pk ko_Pk kn_Pk (by decide) kw620 rfl rfl rfl rfl (by decide) kd_Pk_append_37 rfl ?_
  refine zk_iinc (v := (-8)) (lv' := [(2, _), (0, _), (1, _)]) C kd_Pk_append_40 0 rfl (by decide) (by decide) rfl rfl ?_
  refine zk_goto (tgt := 3) C kd_Pk_append_43 (by decide) ?_
  refine zk_iload_n C kd_Pk_append_3 rfl 0 rfl rfl ?_
  refine zk_if_lt (tgt := 46) C kd_Pk_append_4 (by decide) rfl (fun h_9 => ?_) (fun h_9 => absurd (by decide) h_9)
  exact zk_vret C hR kd_Pk_append_46 rfl rfl ⟨rfl, rfl⟩
set_option maxHeartbeats 4000000 in
set_option maxRecDepth 100000 in
/-- PlantKeeper.append -/
theorem zp_append3 {l : Launch} {D : va_G} {sz0 : Nat} {S : zs_T} {P : ze_T} (h : zs_H) (e_tapeSize : h.1 0 1 = 12) (x1 : Int32) : zk_Sp (zs_G S l D sz0) (ze_E P) km_Pk_append { frames := 0, cells := 0, slots := 0, locals := 0 } [.ref (S.1 0), .int x1] (zs_W S h) (fun v w => (v = none ∧ w = zs_W S (zs_uF (zs_uM (zs_uF (zs_uM (zs_uF (zs_uM (zs_uF (zs_uM h 1 ((12 : Int32)).toNatClampNeg (vp_nar .byte (((x1 >>> ((24 : Int32) &&& 31))).toInt8.toInt32))) 0 1 13) 1 ((13 : Int32)).toNatClampNeg (vp_nar .byte (((x1 >>> ((16 : Int32) &&& 31))).toInt8.toInt32))) 0 1 14) 1 ((14 : Int32)).toNatClampNeg (vp_nar .byte (((x1 >>> ((8 : Int32) &&& 31))).toInt8.toInt32))) 0 1 15) 1 ((15 : Int32)).toNatClampNeg (vp_nar .byte (((x1 >>> ((0 : Int32) &&& 31))).toInt8.toInt32))) 0 1 16))) := by
  refine zk_met ku_Pk_append (Nat.le_of_ble_eq_true rfl) (ze_Em P) ?_
  intro X C hR
  refine zk_lvs (lv' := [(0, .ref (S.1 0)), (1, .int x1)]) [0, 1] rfl ?_
  refine zk_bipush (v := 24) C kd_Pk_append_0 (by decide) rfl ?_
  refine zk_istore_n (lv' := [(2, _), (0, _), (1, _)]) C kd_Pk_append_2 rfl (by decide) rfl rfl ?_
  refine zk_iload_n C kd_Pk_append_3 rfl 0 rfl rfl ?_
  refine zk_if_lt (tgt := 46) C kd_Pk_append_4 (by decide) rfl (fun h_1 => absurd h_1 (by decide)) (fun h_1 => ?_)
  refine zk_aload_n C kd_Pk_append_7 rfl 1 rfl rfl ?_
  refine zs_get (v := .int 12) C 0 1 rfl rfl (congrArg Value.int e_tapeSize) rfl ki_Pk (by decide) kw620 kd_Pk_append_8 rfl ?_
  refine zk_sipush (v := 16384) C kd_Pk_append_11 (by decide) rfl ?_
  refine zk_icmp_ge (tgt := 46) C kd_Pk_append_14 (by decide) rfl (fun h_2 => absurd h_2 (by decide)) (fun h_2 => ?_)
  refine zk_aload_n C kd_Pk_append_17 rfl 1 rfl rfl ?_
  refine zs_get (v := .ref (S.1 1)) C 0 0 rfl rfl rfl rfl ki_Pk (by decide) kw619 kd_Pk_append_18 rfl ?_
  refine zk_aload_n C kd_Pk_append_21 rfl 1 rfl rfl ?_
  refine zs_get (v := .int 12) C 0 1 rfl rfl (congrArg Value.int e_tapeSize) rfl ki_Pk (by decide) kw620 kd_Pk_append_22 rfl ?_
  refine zk_iload_n C kd_Pk_append_25 rfl 2 rfl rfl ?_
  refine zk_iload_n C kd_Pk_append_26 rfl 0 rfl rfl ?_
  refine zk_ishr C kd_Pk_append_27 rfl ?_
  refine zk_i2b C kd_Pk_append_28 rfl ?_
  refine zs_bast C 1 rfl (zp_dec rfl) kd_Pk_append_29 rfl ?_
  refine zk_aload_n C kd_Pk_append_30 rfl 1 rfl rfl ?_
  refine zk_dup C kd_Pk_append_31 rfl rfl ?_
  refine zs_get (v := .int 12) C 0 1 rfl rfl (congrArg Value.int e_tapeSize) rfl ki_Pk (by decide) kw620 kd_Pk_append_32 rfl ?_
  refine zk_iconst (v := 1) C kd_Pk_append_35 (by decide) rfl ?_
  refine zk_iadd C kd_Pk_append_36 rfl ?_
  refine zk_stk (r' := [.int 13, .ref (S.1 0)]) (by rw [show (12 : Int32) + 1 = 13 by decide]) ?_
  refine zs_put (ty := .int) C 0 1 13 rfl rfl rfl rfl ki_Pk ky_Pk ko_Pk kn_Pk (by decide) kw620 rfl rfl rfl rfl (by decide) kd_Pk_append_37 rfl ?_
  refine zk_iinc (v := 16) (lv' := [(2, _), (0, _), (1, _)]) C kd_Pk_append_40 0 rfl (by decide) (by decide) rfl rfl ?_
  refine zk_goto (tgt := 3) C kd_Pk_append_43 (by decide) ?_
  refine zk_iload_n C kd_Pk_append_3 rfl 0 rfl rfl ?_
  refine zk_if_lt (tgt := 46) C kd_Pk_append_4 (by decide) rfl (fun h_3 => absurd h_3 (by decide)) (fun h_3 => ?_)
  refine zk_aload_n C kd_Pk_append_7 rfl 1 rfl rfl ?_
  refine zs_get (v := .int 13) C 0 1 rfl rfl rfl rfl ki_Pk (by decide) kw620 kd_Pk_append_8 rfl ?_
  refine zk_sipush (v := 16384) C kd_Pk_append_11 (by decide) rfl ?_
  refine zk_icmp_ge (tgt := 46) C kd_Pk_append_14 (by decide) rfl (fun h_4 => absurd h_4 (by decide)) (fun h_4 => ?_)
  refine zk_aload_n C kd_Pk_append_17 rfl 1 rfl rfl ?_
  refine zs_get (v := .ref (S.1 1)) C 0 0 rfl rfl rfl rfl ki_Pk (by decide) kw619 kd_Pk_append_18 rfl ?_
  refine zk_aload_n C kd_Pk_append_21 rfl 1 rfl rfl ?_
  refine zs_get (v := .int 13) C 0 1 rfl rfl rfl rfl ki_Pk (by decide) kw620 kd_Pk_append_22 rfl ?_
  refine zk_iload_n C kd_Pk_append_25 rfl 2 rfl rfl ?_
  refine zk_iload_n C kd_Pk_append_26 rfl 0 rfl rfl ?_
  refine zk_ishr C kd_Pk_append_27 rfl ?_
  refine zk_i2b C kd_Pk_append_28 rfl ?_
  refine zs_bast C 1 rfl (zp_dec rfl) kd_Pk_append_29 rfl ?_
  refine zk_aload_n C kd_Pk_append_30 rfl 1 rfl rfl ?_
  refine zk_dup C kd_Pk_append_31 rfl rfl ?_
  refine zs_get (v := .int 13) C 0 1 rfl rfl rfl rfl ki_Pk (by decide) kw620 kd_Pk_append_32 rfl ?_
  refine zk_iconst (v := 1) C kd_Pk_append_35 (by decide) rfl ?_
  refine zk_iadd C kd_Pk_append_36 rfl ?_
  refine zk_stk (r' := [.int 14, .ref (S.1 0)]) (by rw [show (13 : Int32) + 1 = 14 by decide]) ?_
  refine zs_put (ty := .int) C 0 1 14 rfl rfl rfl rfl ki_Pk ky_Pk ko_Pk kn_Pk (by decide) kw620 rfl rfl rfl rfl (by decide) kd_Pk_append_37 rfl ?_
  refine zk_iinc (v := 8) (lv' := [(2, _), (0, _), (1, _)]) C kd_Pk_append_40 0 rfl (by decide) (by decide) rfl rfl ?_
  refine zk_goto (tgt := 3) C kd_Pk_append_43 (by decide) ?_
  refine zk_iload_n C kd_Pk_append_3 rfl 0 rfl rfl ?_
  refine zk_if_lt (tgt := 46) C kd_Pk_append_4 (by decide) rfl (fun h_5 => absurd h_5 (by decide)) (fun h_5 => ?_)
  refine zk_aload_n C kd_Pk_append_7 rfl 1 rfl rfl ?_
  refine zs_get (v := .int 14) C 0 1 rfl rfl rfl rfl ki_Pk (by decide) kw620 kd_Pk_append_8 rfl ?_
  refine zk_sipush (v := 16384) C kd_Pk_append_11 (by decide) rfl ?_
  refine zk_icmp_ge (tgt := 46) C kd_Pk_append_14 (by decide) rfl (fun h_6 => absurd h_6 (by decide)) (fun h_6 => ?_)
  refine zk_aload_n C kd_Pk_append_17 rfl 1 rfl rfl ?_
  refine zs_get (v := .ref (S.1 1)) C 0 0 rfl rfl rfl rfl ki_Pk (by decide) kw619 kd_Pk_append_18 rfl ?_
  refine zk_aload_n C kd_Pk_append_21 rfl 1 rfl rfl ?_
  refine zs_get (v := .int 14) C 0 1 rfl rfl rfl rfl ki_Pk (by decide) kw620 kd_Pk_append_22 rfl ?_
  refine zk_iload_n C kd_Pk_append_25 rfl 2 rfl rfl ?_
  refine zk_iload_n C kd_Pk_append_26 rfl 0 rfl rfl ?_
  refine zk_ishr C kd_Pk_append_27 rfl ?_
  refine zk_i2b C kd_Pk_append_28 rfl ?_
  refine zs_bast C 1 rfl (zp_dec rfl) kd_Pk_append_29 rfl ?_
  refine zk_aload_n C kd_Pk_append_30 rfl 1 rfl rfl ?_
  refine zk_dup C kd_Pk_append_31 rfl rfl ?_
  refine zs_get (v := .int 14) C 0 1 rfl rfl rfl rfl ki_Pk (by decide) kw620 kd_Pk_append_32 rfl ?_
  refine zk_iconst (v := 1) C kd_Pk_append_35 (by decide) rfl ?_
  refine zk_iadd C kd_Pk_append_36 rfl ?_
  refine zk_stk (r' := [.int 15, .ref (S.1 0)]) (by rw [show (14 : Int32) + 1 = 15 by decide]) ?_
  refine zs_put (ty := .int) C 0 1 15 rfl rfl rfl rfl ki_Pk ky_Pk ko_Pk kn_Pk (by decide) kw620 rfl rfl rfl rfl (by decide) kd_Pk_append_37 rfl ?_
  refine zk_iinc (v := 0) (lv' := [(2, _), (0, _), (1, _)]) C kd_Pk_append_40 0 rfl (by decide) (by decide) rfl rfl ?_
  refine zk_goto (tgt := 3) C kd_Pk_append_43 (by decide) ?_
  refine zk_iload_n C kd_Pk_append_3 rfl 0 rfl rfl ?_
  refine zk_if_lt (tgt := 46) C kd_Pk_append_4 (by decide) rfl (fun h_7 => absurd h_7 (by decide)) (fun h_7 => ?_)
  refine zk_aload_n C kd_Pk_append_7 rfl 1 rfl rfl ?_
  refine zs_get (v := .int 15) C 0 1 rfl rfl rfl rfl ki_Pk (by decide) kw620 kd_Pk_append_8 rfl ?_
  refine zk_sipush (v := 16384) C kd_Pk_append_11 (by decide) rfl ?_
  refine zk_icmp_ge (tgt := 46) C kd_Pk_append_14 (by decide) rfl (fun h_8 => absurd h_8 (by decide)) (fun h_8 => ?_)
  refine zk_aload_n C kd_Pk_append_17 rfl 1 rfl rfl ?_
  refine zs_get (v := .ref (S.1 1)) C 0 0 rfl rfl rfl rfl ki_Pk (by decide) kw619 kd_Pk_append_18 rfl ?_
  refine zk_aload_n C kd_Pk_append_21 rfl 1 rfl rfl ?_
  refine zs_get (v := .int 15) C 0 1 rfl rfl rfl rfl ki_Pk (by decide) kw620 kd_Pk_append_22 rfl ?_
  refine zk_iload_n C kd_Pk_append_25 rfl 2 rfl rfl ?_
  refine zk_iload_n C kd_Pk_append_26 rfl 0 rfl rfl ?_
  refine zk_ishr C kd_Pk_append_27 rfl ?_
  refine zk_i2b C kd_Pk_append_28 rfl ?_
  refine zs_bast C 1 rfl (zp_dec rfl) kd_Pk_append_29 rfl ?_
  refine zk_aload_n C kd_Pk_append_30 rfl 1 rfl rfl ?_
  refine zk_dup C kd_Pk_append_31 rfl rfl ?_
  refine zs_get (v := .int 15) C 0 1 rfl rfl rfl rfl ki_Pk (by decide) kw620 kd_Pk_append_32 rfl ?_
  refine zk_iconst (v := 1) C kd_Pk_append_35 (by decide) rfl ?_
  refine zk_iadd C kd_Pk_append_36 rfl ?_
  refine zk_stk (r' := [.int 16, .ref (S.1 0)]) (by rw [show (15 : Int32) + 1 = 16 by decide]) ?_
  refine zs_put (ty := .int) C 0 1 16 rfl rfl rfl rfl ki_Pk ky_Pk ko_Pk kn_Pk (by decide) kw620 rfl rfl rfl rfl (by decide) kd_Pk_append_37 rfl ?_
  refine zk_iinc (v := (-8)) (lv' := [(2, _), (0, _), (1, _)]) C kd_Pk_append_40 0 rfl (by decide) (by decide) rfl rfl ?_
  refine zk_goto (tgt := 3) C kd_Pk_append_43 (by decide) ?_
  refine zk_iload_n C kd_Pk_append_3 rfl 0 rfl rfl ?_
  refine zk_if_lt (tgt := 46) C kd_Pk_append_4 (by decide) rfl (fun h_9 => ?_) (fun h_9 => absurd (by decide) h_9)
  exact zk_vret C hR kd_Pk_append_46 rfl rfl ⟨rfl, rfl⟩
set_option maxHeartbeats 4000000 in
set_option maxRecDepth 100000 in
/-- PlantKeeper.append -/
theorem zp_append4 {l : Launch} {D : va_G} {sz0 : Nat} {S : zs_T} {P : ze_T} (h : zs_H) (e_tapeSize : h.1 0 1 = 16) (x1 : Int32) : zk_Sp (zs_G S l D sz0) (ze_E P) km_Pk_append { frames := 0, cells := 0, slots := 0, locals := 0 } [.ref (S.1 0), .int x1] (zs_W S h) (fun v w => (v = none ∧ w = zs_W S (zs_uF (zs_uM (zs_uF (zs_uM (zs_uF (zs_uM (zs_uF (zs_uM h 1 ((16 : Int32)).toNatClampNeg (vp_nar .byte (((x1 >>> ((24 : Int32) &&& 31))).toInt8.toInt32))) 0 1 17) 1 ((17 : Int32)).toNatClampNeg (vp_nar .byte (((x1 >>> ((16 : Int32) &&& 31))).toInt8.toInt32))) 0 1 18) 1 ((18 : Int32)).toNatClampNeg (vp_nar .byte (((x1 >>> ((8 : Int32) &&& 31))).toInt8.toInt32))) 0 1 19) 1 ((19 : Int32)).toNatClampNeg (vp_nar .byte (((x1 >>> ((0 : Int32) &&& 31))).toInt8.toInt32))) 0 1 20))) := by
  refine zk_met ku_Pk_append (Nat.le_of_ble_eq_true rfl) (ze_Em P) ?_
  intro X C hR
  refine zk_lvs (lv' := [(0, .ref (S.1 0)), (1, .int x1)]) [0, 1] rfl ?_
  refine zk_bipush (v := 24) C kd_Pk_append_0 (by decide) rfl ?_
  refine zk_istore_n (lv' := [(2, _), (0, _), (1, _)]) C kd_Pk_append_2 rfl (by decide) rfl rfl ?_
  refine zk_iload_n C kd_Pk_append_3 rfl 0 rfl rfl ?_
  refine zk_if_lt (tgt := 46) C kd_Pk_append_4 (by decide) rfl (fun h_1 => absurd h_1 (by decide)) (fun h_1 => ?_)
  refine zk_aload_n C kd_Pk_append_7 rfl 1 rfl rfl ?_
  refine zs_get (v := .int 16) C 0 1 rfl rfl (congrArg Value.int e_tapeSize) rfl ki_Pk (by decide) kw620 kd_Pk_append_8 rfl ?_
  refine zk_sipush (v := 16384) C kd_Pk_append_11 (by decide) rfl ?_
  refine zk_icmp_ge (tgt := 46) C kd_Pk_append_14 (by decide) rfl (fun h_2 => absurd h_2 (by decide)) (fun h_2 => ?_)
  refine zk_aload_n C kd_Pk_append_17 rfl 1 rfl rfl ?_
  refine zs_get (v := .ref (S.1 1)) C 0 0 rfl rfl rfl rfl ki_Pk (by decide) kw619 kd_Pk_append_18 rfl ?_
  refine zk_aload_n C kd_Pk_append_21 rfl 1 rfl rfl ?_
  refine zs_get (v := .int 16) C 0 1 rfl rfl (congrArg Value.int e_tapeSize) rfl ki_Pk (by decide) kw620 kd_Pk_append_22 rfl ?_
  refine zk_iload_n C kd_Pk_append_25 rfl 2 rfl rfl ?_
  refine zk_iload_n C kd_Pk_append_26 rfl 0 rfl rfl ?_
  refine zk_ishr C kd_Pk_append_27 rfl ?_
  refine zk_i2b C kd_Pk_append_28 rfl ?_
  refine zs_bast C 1 rfl (zp_dec rfl) kd_Pk_append_29 rfl ?_
  refine zk_aload_n C kd_Pk_append_30 rfl 1 rfl rfl ?_
  refine zk_dup C kd_Pk_append_31 rfl rfl ?_
  refine zs_get (v := .int 16) C 0 1 rfl rfl (congrArg Value.int e_tapeSize) rfl ki_Pk (by decide) kw620 kd_Pk_append_32 rfl ?_
  refine zk_iconst (v := 1) C kd_Pk_append_35 (by decide) rfl ?_
  refine zk_iadd C kd_Pk_append_36 rfl ?_
  refine zk_stk (r' := [.int 17, .ref (S.1 0)]) (by rw [show (16 : Int32) + 1 = 17 by decide]) ?_
  refine zs_put (ty := .int) C 0 1 17 rfl rfl rfl rfl ki_Pk ky_Pk ko_Pk kn_Pk (by decide) kw620 rfl rfl rfl rfl (by decide) kd_Pk_append_37 rfl ?_
  refine zk_iinc (v := 16) (lv' := [(2, _), (0, _), (1, _)]) C kd_Pk_append_40 0 rfl (by decide) (by decide) rfl rfl ?_
  refine zk_goto (tgt := 3) C kd_Pk_append_43 (by decide) ?_
  refine zk_iload_n C kd_Pk_append_3 rfl 0 rfl rfl ?_
  refine zk_if_lt (tgt := 46) C kd_Pk_append_4 (by decide) rfl (fun h_3 => absurd h_3 (by decide)) (fun h_3 => ?_)
  refine zk_aload_n C kd_Pk_append_7 rfl 1 rfl rfl ?_
  refine zs_get (v := .int 17) C 0 1 rfl rfl rfl rfl ki_Pk (by decide) kw620 kd_Pk_append_8 rfl ?_
  refine zk_sipush (v := 16384) C kd_Pk_append_11 (by decide) rfl ?_
  refine zk_icmp_ge (tgt := 46) C kd_Pk_append_14 (by decide) rfl (fun h_4 => absurd h_4 (by decide)) (fun h_4 => ?_)
  refine zk_aload_n C kd_Pk_append_17 rfl 1 rfl rfl ?_
  refine zs_get (v := .ref (S.1 1)) C 0 0 rfl rfl rfl rfl ki_Pk (by decide) kw619 kd_Pk_append_18 rfl ?_
  refine zk_aload_n C kd_Pk_append_21 rfl 1 rfl rfl ?_
  refine zs_get (v := .int 17) C 0 1 rfl rfl rfl rfl ki_Pk (by decide) kw620 kd_Pk_append_22 rfl ?_
  refine zk_iload_n C kd_Pk_append_25 rfl 2 rfl rfl ?_
  refine zk_iload_n C kd_Pk_append_26 rfl 0 rfl rfl ?_
  refine zk_ishr C kd_Pk_append_27 rfl ?_
  refine zk_i2b C kd_Pk_append_28 rfl ?_
  refine zs_bast C 1 rfl (zp_dec rfl) kd_Pk_append_29 rfl ?_
  refine zk_aload_n C kd_Pk_append_30 rfl 1 rfl rfl ?_
  refine zk_dup C kd_Pk_append_31 rfl rfl ?_
  refine zs_get (v := .int 17) C 0 1 rfl rfl rfl rfl ki_Pk (by decide) kw620 kd_Pk_append_32 rfl ?_
  refine zk_iconst (v := 1) C kd_Pk_append_35 (by decide) rfl ?_
  refine zk_iadd C kd_Pk_append_36 rfl ?_
  refine zk_stk (r' := [.int 18, .ref (S.1 0)]) (by rw [show (17 : Int32) + 1 = 18 by decide]) ?_
  refine zs_put (ty := .int) C 0 1 18 rfl rfl rfl rfl ki_Pk ky_Pk ko_Pk kn_Pk (by decide) kw620 rfl rfl rfl rfl (by decide) kd_Pk_append_37 rfl ?_
  refine zk_iinc (v := 8) (lv' := [(2, _), (0, _), (1, _)]) C kd_Pk_append_40 0 rfl (by decide) (by decide) rfl rfl ?_
  refine zk_goto (tgt := 3) C kd_Pk_append_43 (by decide) ?_
  refine zk_iload_n C kd_Pk_append_3 rfl 0 rfl rfl ?_
  refine zk_if_lt (tgt := 46) C kd_Pk_append_4 (by decide) rfl (fun h_5 => absurd h_5 (by decide)) (fun h_5 => ?_)
  refine zk_aload_n C kd_Pk_append_7 rfl 1 rfl rfl ?_
  refine zs_get (v := .int 18) C 0 1 rfl rfl rfl rfl ki_Pk (by decide) kw620 kd_Pk_append_8 rfl ?_
  refine zk_sipush (v := 16384) C kd_Pk_append_11 (by decide) rfl ?_
  refine zk_icmp_ge (tgt := 46) C kd_Pk_append_14 (by decide) rfl (fun h_6 => absurd h_6 (by decide)) (fun h_6 => ?_)
  refine zk_aload_n C kd_Pk_append_17 rfl 1 rfl rfl ?_
  refine zs_get (v := .ref (S.1 1)) C 0 0 rfl rfl rfl rfl ki_Pk (by decide) kw619 kd_Pk_append_18 rfl ?_
  refine zk_aload_n C kd_Pk_append_21 rfl 1 rfl rfl ?_
  refine zs_get (v := .int 18) C 0 1 rfl rfl rfl rfl ki_Pk (by decide) kw620 kd_Pk_append_22 rfl ?_
  refine zk_iload_n C kd_Pk_append_25 rfl 2 rfl rfl ?_
  refine zk_iload_n C kd_Pk_append_26 rfl 0 rfl rfl ?_
  refine zk_ishr C kd_Pk_append_27 rfl ?_
  refine zk_i2b C kd_Pk_append_28 rfl ?_
  refine zs_bast C 1 rfl (zp_dec rfl) kd_Pk_append_29 rfl ?_
  refine zk_aload_n C kd_Pk_append_30 rfl 1 rfl rfl ?_
  refine zk_dup C kd_Pk_append_31 rfl rfl ?_
  refine zs_get (v := .int 18) C 0 1 rfl rfl rfl rfl ki_Pk (by decide) kw620 kd_Pk_append_32 rfl ?_
  refine zk_iconst (v := 1) C kd_Pk_append_35 (by decide) rfl ?_
  refine zk_iadd C kd_Pk_append_36 rfl ?_
  refine zk_stk (r' := [.int 19, .ref (S.1 0)]) (by rw [show (18 : Int32) + 1 = 19 by decide]) ?_
  refine zs_put (ty := .int) C 0 1 19 rfl rfl rfl rfl ki_Pk ky_Pk ko_Pk kn_Pk (by decide) kw620 rfl rfl rfl rfl (by decide) kd_Pk_append_37 rfl ?_
  refine zk_iinc (v := 0) (lv' := [(2, _), (0, _), (1, _)]) C kd_Pk_append_40 0 rfl (by decide) (by decide) rfl rfl ?_
  refine zk_goto (tgt := 3) C kd_Pk_append_43 (by decide) ?_
  refine zk_iload_n C kd_Pk_append_3 rfl 0 rfl rfl ?_
  refine zk_if_lt (tgt := 46) C kd_Pk_append_4 (by decide) rfl (fun h_7 => absurd h_7 (by decide)) (fun h_7 => ?_)
  refine zk_aload_n C kd_Pk_append_7 rfl 1 rfl rfl ?_
  refine zs_get (v := .int 19) C 0 1 rfl rfl rfl rfl ki_Pk (by decide) kw620 kd_Pk_append_8 rfl ?_
  refine zk_sipush (v := 16384) C kd_Pk_append_11 (by decide) rfl ?_
  refine zk_icmp_ge (tgt := 46) C kd_Pk_append_14 (by decide) rfl (fun h_8 => absurd h_8 (by decide)) (fun h_8 => ?_)
  refine zk_aload_n C kd_Pk_append_17 rfl 1 rfl rfl ?_
  refine zs_get (v := .ref (S.1 1)) C 0 0 rfl rfl rfl rfl ki_Pk (by decide) kw619 kd_Pk_append_18 rfl ?_
  refine zk_aload_n C kd_Pk_append_21 rfl 1 rfl rfl ?_
  refine zs_get (v := .int 19) C 0 1 rfl rfl rfl rfl ki_Pk (by decide) kw620 kd_Pk_append_22 rfl ?_
  refine zk_iload_n C kd_Pk_append_25 rfl 2 rfl rfl ?_
  refine zk_iload_n C kd_Pk_append_26 rfl 0 rfl rfl ?_
  refine zk_ishr C kd_Pk_append_27 rfl ?_
  refine zk_i2b C kd_Pk_append_28 rfl ?_
  refine zs_bast C 1 rfl (zp_dec rfl) kd_Pk_append_29 rfl ?_
  refine zk_aload_n C kd_Pk_append_30 rfl 1 rfl rfl ?_
  refine zk_dup C kd_Pk_append_31 rfl rfl ?_
  refine zs_get (v := .int 19) C 0 1 rfl rfl rfl rfl ki_Pk (by decide) kw620 kd_Pk_append_32 rfl ?_
  refine zk_iconst (v := 1) C kd_Pk_append_35 (by decide) rfl ?_
  refine zk_iadd C kd_Pk_append_36 rfl ?_
  refine zk_stk (r' := [.int 20, .ref (S.1 0)]) (by rw [show (19 : Int32) + 1 = 20 by decide]) ?_
  refine zs_put (ty := .int) C 0 1 20 rfl rfl rfl rfl ki_Pk ky_Pk ko_Pk kn_Pk (by decide) kw620 rfl rfl rfl rfl (by decide) kd_Pk_append_37 rfl ?_
  refine zk_iinc (v := (-8)) (lv' := [(2, _), (0, _), (1, _)]) C kd_Pk_append_40 0 rfl (by decide) (by decide) rfl rfl ?_
  refine zk_goto (tgt := 3) C kd_Pk_append_43 (by decide) ?_
  refine zk_iload_n C kd_Pk_append_3 rfl 0 rfl rfl ?_
  refine zk_if_lt (tgt := 46) C kd_Pk_append_4 (by decide) rfl (fun h_9 => ?_) (fun h_9 => absurd (by decide) h_9)
  exact zk_vret C hR kd_Pk_append_46 rfl rfl ⟨rfl, rfl⟩
set_option maxHeartbeats 4000000 in
set_option maxRecDepth 100000 in
/-- PlantKeeper.feed -/
theorem zp_feed {l : Launch} {D : va_G} {sz0 : Nat} {S : zs_T} {P : ze_T} (h : zs_H) (e_tapeSize : h.1 0 1 = 0) (x1 : Int32) (x2 : Int32) (x3 : Int32) (x4 : Int32) (x5 : Int32) : zk_Sp (zs_G S l D sz0) (ze_E P) km_Pk_feed { frames := 1, cells := 0, slots := 0, locals := 22 } [.ref (S.1 0), .int x1, .int x2, .int x3, .int x4, .int x5] (zs_W S h) (fun v w => (v = some (.int 20) ∧ w = zs_W S (zs_uF (zs_uM (zs_uF (zs_uM (zs_uF (zs_uM (zs_uF (zs_uM (zs_uF (zs_uM (zs_uF (zs_uM (zs_uF (zs_uM (zs_uF (zs_uM (zs_uF (zs_uM (zs_uF (zs_uM (zs_uF (zs_uM (zs_uF (zs_uM (zs_uF (zs_uM (zs_uF (zs_uM (zs_uF (zs_uM (zs_uF (zs_uM (zs_uF (zs_uM (zs_uF (zs_uM (zs_uF (zs_uM (zs_uF (zs_uM h 1 ((0 : Int32)).toNatClampNeg (vp_nar .byte (((x1 >>> ((24 : Int32) &&& 31))).toInt8.toInt32))) 0 1 1) 1 ((1 : Int32)).toNatClampNeg (vp_nar .byte (((x1 >>> ((16 : Int32) &&& 31))).toInt8.toInt32))) 0 1 2) 1 ((2 : Int32)).toNatClampNeg (vp_nar .byte (((x1 >>> ((8 : Int32) &&& 31))).toInt8.toInt32))) 0 1 3) 1 ((3 : Int32)).toNatClampNeg (vp_nar .byte (((x1 >>> ((0 : Int32) &&& 31))).toInt8.toInt32))) 0 1 4) 1 ((4 : Int32)).toNatClampNeg (vp_nar .byte (((x2 >>> ((24 : Int32) &&& 31))).toInt8.toInt32))) 0 1 5) 1 ((5 : Int32)).toNatClampNeg (vp_nar .byte (((x2 >>> ((16 : Int32) &&& 31))).toInt8.toInt32))) 0 1 6) 1 ((6 : Int32)).toNatClampNeg (vp_nar .byte (((x2 >>> ((8 : Int32) &&& 31))).toInt8.toInt32))) 0 1 7) 1 ((7 : Int32)).toNatClampNeg (vp_nar .byte (((x2 >>> ((0 : Int32) &&& 31))).toInt8.toInt32))) 0 1 8) 1 ((8 : Int32)).toNatClampNeg (vp_nar .byte (((x3 >>> ((24 : Int32) &&& 31))).toInt8.toInt32))) 0 1 9) 1 ((9 : Int32)).toNatClampNeg (vp_nar .byte (((x3 >>> ((16 : Int32) &&& 31))).toInt8.toInt32))) 0 1 10) 1 ((10 : Int32)).toNatClampNeg (vp_nar .byte (((x3 >>> ((8 : Int32) &&& 31))).toInt8.toInt32))) 0 1 11) 1 ((11 : Int32)).toNatClampNeg (vp_nar .byte (((x3 >>> ((0 : Int32) &&& 31))).toInt8.toInt32))) 0 1 12) 1 ((12 : Int32)).toNatClampNeg (vp_nar .byte (((x4 >>> ((24 : Int32) &&& 31))).toInt8.toInt32))) 0 1 13) 1 ((13 : Int32)).toNatClampNeg (vp_nar .byte (((x4 >>> ((16 : Int32) &&& 31))).toInt8.toInt32))) 0 1 14) 1 ((14 : Int32)).toNatClampNeg (vp_nar .byte (((x4 >>> ((8 : Int32) &&& 31))).toInt8.toInt32))) 0 1 15) 1 ((15 : Int32)).toNatClampNeg (vp_nar .byte (((x4 >>> ((0 : Int32) &&& 31))).toInt8.toInt32))) 0 1 16) 1 ((16 : Int32)).toNatClampNeg (vp_nar .byte (((x5 >>> ((24 : Int32) &&& 31))).toInt8.toInt32))) 0 1 17) 1 ((17 : Int32)).toNatClampNeg (vp_nar .byte (((x5 >>> ((16 : Int32) &&& 31))).toInt8.toInt32))) 0 1 18) 1 ((18 : Int32)).toNatClampNeg (vp_nar .byte (((x5 >>> ((8 : Int32) &&& 31))).toInt8.toInt32))) 0 1 19) 1 ((19 : Int32)).toNatClampNeg (vp_nar .byte (((x5 >>> ((0 : Int32) &&& 31))).toInt8.toInt32))) 0 1 20))) := by
  refine zk_met ku_Pk_feed (Nat.le_of_ble_eq_true rfl) (ze_Em P) ?_
  intro X C hR
  refine zk_lvs (lv' := [(0, .ref (S.1 0)), (1, .int x1), (2, .int x2), (3, .int x3), (4, .int x4), (5, .int x5)]) [0, 1, 2, 3, 4, 5] rfl ?_
  refine zk_aload_n C kd_Pk_feed_0 rfl 0 rfl rfl ?_
  refine zs_get (v := .int 0) C 0 1 rfl rfl (congrArg Value.int e_tapeSize) rfl ki_Pk (by decide) kw620 kd_Pk_feed_1 rfl ?_
  refine zk_bipush (v := 20) C kd_Pk_feed_4 (by decide) rfl ?_
  refine zk_iadd C kd_Pk_feed_6 rfl ?_
  refine zk_stk (r' := [.int 20]) (by rw [show (0 : Int32) + 20 = 20 by decide]) ?_
  refine zk_sipush (v := 16384) C kd_Pk_feed_7 (by decide) rfl ?_
  refine zk_icmp_le (tgt := 15) C kd_Pk_feed_10 (by decide) rfl (fun h_1 => ?_) (fun h_1 => absurd (by decide) h_1)
  refine zk_aload_n C kd_Pk_feed_15 rfl 0 rfl rfl ?_
  refine zk_iload_n C kd_Pk_feed_16 rfl 1 rfl rfl ?_
  refine zs_callV (k := 0) (rn := { frames := 0, cells := 0, slots := 0, locals := 0 }) (As := [.int x1]) (rest := []) C (zp_append0 h e_tapeSize (x1)) ku_Pk_append kw672 kv_Pk_append rfl ⟨by decide, by decide⟩ ⟨by decide, by decide⟩ rfl rfl rfl (Nat.le_of_ble_eq_true rfl) kd_Pk_feed_17 rfl (c1 := 0) (s1 := 0) rfl rfl (fun v w hp => ?_)
  obtain ⟨rfl, rfl⟩ := hp
  refine zk_stk (r' := []) rfl ?_
  refine zk_aload_n C kd_Pk_feed_20 rfl 0 rfl rfl ?_
  refine zk_iload_n C kd_Pk_feed_21 rfl 2 rfl rfl ?_
  refine zs_callV (k := 0) (rn := { frames := 0, cells := 0, slots := 0, locals := 0 }) (As := [.int x2]) (rest := []) C (zp_append1 (zs_uF (zs_uM (zs_uF (zs_uM (zs_uF (zs_uM (zs_uF (zs_uM h 1 ((0 : Int32)).toNatClampNeg (vp_nar .byte (((x1 >>> ((24 : Int32) &&& 31))).toInt8.toInt32))) 0 1 1) 1 ((1 : Int32)).toNatClampNeg (vp_nar .byte (((x1 >>> ((16 : Int32) &&& 31))).toInt8.toInt32))) 0 1 2) 1 ((2 : Int32)).toNatClampNeg (vp_nar .byte (((x1 >>> ((8 : Int32) &&& 31))).toInt8.toInt32))) 0 1 3) 1 ((3 : Int32)).toNatClampNeg (vp_nar .byte (((x1 >>> ((0 : Int32) &&& 31))).toInt8.toInt32))) 0 1 4) rfl (x2)) ku_Pk_append kw672 kv_Pk_append rfl ⟨by decide, by decide⟩ ⟨by decide, by decide⟩ rfl rfl rfl (Nat.le_of_ble_eq_true rfl) kd_Pk_feed_22 rfl (c1 := 0) (s1 := 0) rfl rfl (fun v w hp => ?_)
  obtain ⟨rfl, rfl⟩ := hp
  refine zk_stk (r' := []) rfl ?_
  refine zk_aload_n C kd_Pk_feed_25 rfl 0 rfl rfl ?_
  refine zk_iload_n C kd_Pk_feed_26 rfl 3 rfl rfl ?_
  refine zs_callV (k := 0) (rn := { frames := 0, cells := 0, slots := 0, locals := 0 }) (As := [.int x3]) (rest := []) C (zp_append2 (zs_uF (zs_uM (zs_uF (zs_uM (zs_uF (zs_uM (zs_uF (zs_uM (zs_uF (zs_uM (zs_uF (zs_uM (zs_uF (zs_uM (zs_uF (zs_uM h 1 ((0 : Int32)).toNatClampNeg (vp_nar .byte (((x1 >>> ((24 : Int32) &&& 31))).toInt8.toInt32))) 0 1 1) 1 ((1 : Int32)).toNatClampNeg (vp_nar .byte (((x1 >>> ((16 : Int32) &&& 31))).toInt8.toInt32))) 0 1 2) 1 ((2 : Int32)).toNatClampNeg (vp_nar .byte (((x1 >>> ((8 : Int32) &&& 31))).toInt8.toInt32))) 0 1 3) 1 ((3 : Int32)).toNatClampNeg (vp_nar .byte (((x1 >>> ((0 : Int32) &&& 31))).toInt8.toInt32))) 0 1 4) 1 ((4 : Int32)).toNatClampNeg (vp_nar .byte (((x2 >>> ((24 : Int32) &&& 31))).toInt8.toInt32))) 0 1 5) 1 ((5 : Int32)).toNatClampNeg (vp_nar .byte (((x2 >>> ((16 : Int32) &&& 31))).toInt8.toInt32))) 0 1 6) 1 ((6 : Int32)).toNatClampNeg (vp_nar .byte (((x2 >>> ((8 : Int32) &&& 31))).toInt8.toInt32))) 0 1 7) 1 ((7 : Int32)).toNatClampNeg (vp_nar .byte (((x2 >>> ((0 : Int32) &&& 31))).toInt8.toInt32))) 0 1 8) rfl (x3)) ku_Pk_append kw672 kv_Pk_append rfl ⟨by decide, by decide⟩ ⟨by decide, by decide⟩ rfl rfl rfl (Nat.le_of_ble_eq_true rfl) kd_Pk_feed_27 rfl (c1 := 0) (s1 := 0) rfl rfl (fun v w hp => ?_)
  obtain ⟨rfl, rfl⟩ := hp
  refine zk_stk (r' := []) rfl ?_
  refine zk_aload_n C kd_Pk_feed_30 rfl 0 rfl rfl ?_
  refine zk_iload C kd_Pk_feed_31 4 rfl rfl ?_
  refine zs_callV (k := 0) (rn := { frames := 0, cells := 0, slots := 0, locals := 0 }) (As := [.int x4]) (rest := []) C (zp_append3 (zs_uF (zs_uM (zs_uF (zs_uM (zs_uF (zs_uM (zs_uF (zs_uM (zs_uF (zs_uM (zs_uF (zs_uM (zs_uF (zs_uM (zs_uF (zs_uM (zs_uF (zs_uM (zs_uF (zs_uM (zs_uF (zs_uM (zs_uF (zs_uM h 1 ((0 : Int32)).toNatClampNeg (vp_nar .byte (((x1 >>> ((24 : Int32) &&& 31))).toInt8.toInt32))) 0 1 1) 1 ((1 : Int32)).toNatClampNeg (vp_nar .byte (((x1 >>> ((16 : Int32) &&& 31))).toInt8.toInt32))) 0 1 2) 1 ((2 : Int32)).toNatClampNeg (vp_nar .byte (((x1 >>> ((8 : Int32) &&& 31))).toInt8.toInt32))) 0 1 3) 1 ((3 : Int32)).toNatClampNeg (vp_nar .byte (((x1 >>> ((0 : Int32) &&& 31))).toInt8.toInt32))) 0 1 4) 1 ((4 : Int32)).toNatClampNeg (vp_nar .byte (((x2 >>> ((24 : Int32) &&& 31))).toInt8.toInt32))) 0 1 5) 1 ((5 : Int32)).toNatClampNeg (vp_nar .byte (((x2 >>> ((16 : Int32) &&& 31))).toInt8.toInt32))) 0 1 6) 1 ((6 : Int32)).toNatClampNeg (vp_nar .byte (((x2 >>> ((8 : Int32) &&& 31))).toInt8.toInt32))) 0 1 7) 1 ((7 : Int32)).toNatClampNeg (vp_nar .byte (((x2 >>> ((0 : Int32) &&& 31))).toInt8.toInt32))) 0 1 8) 1 ((8 : Int32)).toNatClampNeg (vp_nar .byte (((x3 >>> ((24 : Int32) &&& 31))).toInt8.toInt32))) 0 1 9) 1 ((9 : Int32)).toNatClampNeg (vp_nar .byte (((x3 >>> ((16 : Int32) &&& 31))).toInt8.toInt32))) 0 1 10) 1 ((10 : Int32)).toNatClampNeg (vp_nar .byte (((x3 >>> ((8 : Int32) &&& 31))).toInt8.toInt32))) 0 1 11) 1 ((11 : Int32)).toNatClampNeg (vp_nar .byte (((x3 >>> ((0 : Int32) &&& 31))).toInt8.toInt32))) 0 1 12) rfl (x4)) ku_Pk_append kw672 kv_Pk_append rfl ⟨by decide, by decide⟩ ⟨by decide, by decide⟩ rfl rfl rfl (Nat.le_of_ble_eq_true rfl) kd_Pk_feed_33 rfl (c1 := 0) (s1 := 0) rfl rfl (fun v w hp => ?_)
  obtain ⟨rfl, rfl⟩ := hp
  refine zk_stk (r' := []) rfl ?_
  refine zk_aload_n C kd_Pk_feed_36 rfl 0 rfl rfl ?_
  refine zk_iload C kd_Pk_feed_37 5 rfl rfl ?_
  refine zs_callV (k := 0) (rn := { frames := 0, cells := 0, slots := 0, locals := 0 }) (As := [.int x5]) (rest := []) C (zp_append4 (zs_uF (zs_uM (zs_uF (zs_uM (zs_uF (zs_uM (zs_uF (zs_uM (zs_uF (zs_uM (zs_uF (zs_uM (zs_uF (zs_uM (zs_uF (zs_uM (zs_uF (zs_uM (zs_uF (zs_uM (zs_uF (zs_uM (zs_uF (zs_uM (zs_uF (zs_uM (zs_uF (zs_uM (zs_uF (zs_uM (zs_uF (zs_uM h 1 ((0 : Int32)).toNatClampNeg (vp_nar .byte (((x1 >>> ((24 : Int32) &&& 31))).toInt8.toInt32))) 0 1 1) 1 ((1 : Int32)).toNatClampNeg (vp_nar .byte (((x1 >>> ((16 : Int32) &&& 31))).toInt8.toInt32))) 0 1 2) 1 ((2 : Int32)).toNatClampNeg (vp_nar .byte (((x1 >>> ((8 : Int32) &&& 31))).toInt8.toInt32))) 0 1 3) 1 ((3 : Int32)).toNatClampNeg (vp_nar .byte (((x1 >>> ((0 : Int32) &&& 31))).toInt8.toInt32))) 0 1 4) 1 ((4 : Int32)).toNatClampNeg (vp_nar .byte (((x2 >>> ((24 : Int32) &&& 31))).toInt8.toInt32))) 0 1 5) 1 ((5 : Int32)).toNatClampNeg (vp_nar .byte (((x2 >>> ((16 : Int32) &&& 31))).toInt8.toInt32))) 0 1 6) 1 ((6 : Int32)).toNatClampNeg (vp_nar .byte (((x2 >>> ((8 : Int32) &&& 31))).toInt8.toInt32))) 0 1 7) 1 ((7 : Int32)).toNatClampNeg (vp_nar .byte (((x2 >>> ((0 : Int32) &&& 31))).toInt8.toInt32))) 0 1 8) 1 ((8 : Int32)).toNatClampNeg (vp_nar .byte (((x3 >>> ((24 : Int32) &&& 31))).toInt8.toInt32))) 0 1 9) 1 ((9 : Int32)).toNatClampNeg (vp_nar .byte (((x3 >>> ((16 : Int32) &&& 31))).toInt8.toInt32))) 0 1 10) 1 ((10 : Int32)).toNatClampNeg (vp_nar .byte (((x3 >>> ((8 : Int32) &&& 31))).toInt8.toInt32))) 0 1 11) 1 ((11 : Int32)).toNatClampNeg (vp_nar .byte (((x3 >>> ((0 : Int32) &&& 31))).toInt8.toInt32))) 0 1 12) 1 ((12 : Int32)).toNatClampNeg (vp_nar .byte (((x4 >>> ((24 : Int32) &&& 31))).toInt8.toInt32))) 0 1 13) 1 ((13 : Int32)).toNatClampNeg (vp_nar .byte (((x4 >>> ((16 : Int32) &&& 31))).toInt8.toInt32))) 0 1 14) 1 ((14 : Int32)).toNatClampNeg (vp_nar .byte (((x4 >>> ((8 : Int32) &&& 31))).toInt8.toInt32))) 0 1 15) 1 ((15 : Int32)).toNatClampNeg (vp_nar .byte (((x4 >>> ((0 : Int32) &&& 31))).toInt8.toInt32))) 0 1 16) rfl (x5)) ku_Pk_append kw672 kv_Pk_append rfl ⟨by decide, by decide⟩ ⟨by decide, by decide⟩ rfl rfl rfl (Nat.le_of_ble_eq_true rfl) kd_Pk_feed_39 rfl (c1 := 0) (s1 := 0) rfl rfl (fun v w hp => ?_)
  obtain ⟨rfl, rfl⟩ := hp
  refine zk_stk (r' := []) rfl ?_
  refine zk_aload_n C kd_Pk_feed_42 rfl 0 rfl rfl ?_
  refine zs_get (v := .int 20) C 0 1 rfl rfl rfl rfl ki_Pk (by decide) kw620 kd_Pk_feed_43 rfl ?_
  exact zk_iret C hR kd_Pk_feed_46 rfl rfl ⟨rfl, rfl⟩
set_option maxHeartbeats 4000000 in
set_option maxRecDepth 100000 in
/-- PlantKeeperModel.watched -/
theorem zq_watched {l : Launch} {D : va_G} {sz0 : Nat} {S : zs_T} {P : ze_T} (h : zs_H) (e_seen : h.1 68 87 = 0) : zk_Sp (zs_G S l D sz0) (ze_E P) km_Mo_watched { frames := 0, cells := 0, slots := 0, locals := 0 } [.ref (S.1 68)] (zs_W S h) (fun v w => (v = some (.int 0) ∧ w = zs_W S h)) := by
  refine zk_met ku_Mo_watched (Nat.le_of_ble_eq_true rfl) (ze_Em P) ?_
  intro X C hR
  refine zk_lvs (lv' := [(0, .ref (S.1 68))]) [0] rfl ?_
  refine zk_aload_n C kd_Mo_watched_0 rfl 0 rfl rfl ?_
  refine zs_get (v := .int 0) C 68 87 rfl rfl (congrArg Value.int e_seen) rfl ki_Mo (by decide) kw1770 kd_Mo_watched_1 rfl ?_
  exact zk_iret C hR kd_Mo_watched_4 rfl rfl ⟨rfl, rfl⟩
set_option maxHeartbeats 4000000 in
set_option maxRecDepth 100000 in
/-- PlantKeeperModel.end -/
theorem zq_end {l : Launch} {D : va_G} {sz0 : Nat} {S : zs_T} {P : ze_T} (h : zs_H) (e_taped : h.1 68 78 = 0) (x1 : Int32) : zk_Sp (zs_G S l D sz0) (ze_E P) km_Mo_end { frames := 0, cells := 0, slots := 0, locals := 0 } [.ref (S.1 68), .int x1] (zs_W S h) (fun v w => (x1 < 0 ∧ v = some (.int (-1)) ∧ w = zs_W S h) ∨ (¬ x1 < 0 ∧ 20 < x1 ∧ v = some (.int (-1)) ∧ w = zs_W S h) ∨ (¬ x1 < 0 ∧ ¬ 20 < x1 ∧ v = some (.int (-1)) ∧ w = zs_W S h)) := by
  refine zk_met ku_Mo_end (Nat.le_of_ble_eq_true rfl) (ze_Em P) ?_
  intro X C hR
  refine zk_lvs (lv' := [(0, .ref (S.1 68)), (1, .int x1)]) [0, 1] rfl ?_
  refine zk_iload_n C kd_Mo_end_0 rfl 1 rfl rfl ?_
  refine zk_if_lt (tgt := 19) C kd_Mo_end_1 (by decide) rfl (fun h_1 => ?_) (fun h_1 => ?_)
  · refine zk_iconst (v := (-1)) C kd_Mo_end_19 (by decide) rfl ?_
    exact zk_iret C hR kd_Mo_end_20 rfl rfl (Or.inl ⟨h_1, rfl, rfl⟩)
  · refine zk_iload_n C kd_Mo_end_4 rfl 1 rfl rfl ?_
    refine zk_bipush (v := 20) C kd_Mo_end_5 (by decide) rfl ?_
    refine zk_icmp_gt (tgt := 19) C kd_Mo_end_7 (by decide) rfl (fun h_2 => ?_) (fun h_2 => ?_)
    · refine zk_iconst (v := (-1)) C kd_Mo_end_19 (by decide) rfl ?_
      exact zk_iret C hR kd_Mo_end_20 rfl rfl (Or.inr (Or.inl ⟨h_1, h_2, rfl, rfl⟩))
    · refine zk_aload_n C kd_Mo_end_10 rfl 0 rfl rfl ?_
      refine zs_get (v := .int 0) C 68 78 rfl rfl (congrArg Value.int e_taped) rfl ki_Mo (by decide) kw1761 kd_Mo_end_11 rfl ?_
      refine zk_bipush (v := 20) C kd_Mo_end_14 (by decide) rfl ?_
      refine zk_icmp_ge (tgt := 21) C kd_Mo_end_16 (by decide) rfl (fun h_3 => absurd h_3 (by decide)) (fun h_3 => ?_)
      refine zk_iconst (v := (-1)) C kd_Mo_end_19 (by decide) rfl ?_
      exact zk_iret C hR kd_Mo_end_20 rfl rfl (Or.inr (Or.inr ⟨h_1, h_2, rfl, rfl⟩))
set_option maxHeartbeats 4000000 in
set_option maxRecDepth 100000 in
/-- PlantKeeperModel.restart -/
theorem zq_restart {l : Launch} {D : va_G} {sz0 : Nat} {S : zs_T} {P : ze_T} (h : zs_H) (e_has : h.1 68 82 = 0) : zk_Sp (zs_G S l D sz0) (ze_E P) km_Mo_restart { frames := 0, cells := 0, slots := 0, locals := 0 } [.ref (S.1 68)] (zs_W S h) (fun v w => (v = some (.int (-5)) ∧ w = zs_W S h)) := by
  refine zk_met ku_Mo_restart (Nat.le_of_ble_eq_true rfl) (ze_Em P) ?_
  intro X C hR
  refine zk_lvs (lv' := [(0, .ref (S.1 68))]) [0] rfl ?_
  refine zk_aload_n C kd_Mo_restart_0 rfl 0 rfl rfl ?_
  refine zs_get (v := .int 0) C 68 82 rfl rfl (congrArg Value.int e_has) rfl ki_Mo (by decide) kw1765 kd_Mo_restart_1 rfl ?_
  refine zk_if_ne (tgt := 10) C kd_Mo_restart_4 (by decide) rfl (fun h_1 => absurd (by decide) h_1) (fun h_1 => ?_)
  refine zk_bipush (v := (-5)) C kd_Mo_restart_7 (by decide) rfl ?_
  exact zk_iret C hR kd_Mo_restart_9 rfl rfl ⟨rfl, rfl⟩
set_option maxHeartbeats 4000000 in
set_option maxRecDepth 100000 in
/-- PlantKeeperModel.scan -/
theorem zq_scan {l : Launch} {D : va_G} {sz0 : Nat} {S : zs_T} {P : ze_T} (h : zs_H) (e_has : h.1 68 82 = 0) (x1 : Int32) : zk_Sp (zs_G S l D sz0) (ze_E P) km_Mo_scan { frames := 0, cells := 0, slots := 0, locals := 0 } [.ref (S.1 68), .int x1] (zs_W S h) (fun v w => (x1 < 0 ∧ v = some (.int (-1)) ∧ w = zs_W S h) ∨ (¬ x1 < 0 ∧ x1 ≤ 100000 ∧ v = some (.int (-5)) ∧ w = zs_W S h) ∨ (¬ x1 < 0 ∧ ¬ x1 ≤ 100000 ∧ v = some (.int (-1)) ∧ w = zs_W S h)) := by
  refine zk_met ku_Mo_scan (Nat.le_of_ble_eq_true rfl) (ze_Em P) ?_
  intro X C hR
  refine zk_lvs (lv' := [(0, .ref (S.1 68)), (1, .int x1)]) [0, 1] rfl ?_
  refine zk_iload_n C kd_Mo_scan_0 rfl 1 rfl rfl ?_
  refine zk_if_lt (tgt := 11) C kd_Mo_scan_1 (by decide) rfl (fun h_1 => ?_) (fun h_1 => ?_)
  · refine zk_iconst (v := (-1)) C kd_Mo_scan_11 (by decide) rfl ?_
    exact zk_iret C hR kd_Mo_scan_12 rfl rfl (Or.inl ⟨h_1, rfl, rfl⟩)
  · refine zk_iload_n C kd_Mo_scan_4 rfl 1 rfl rfl ?_
    refine zk_ldcw (v := 100000) C kw1988 kd_Mo_scan_5 rfl ?_
    refine zk_icmp_le (tgt := 13) C kd_Mo_scan_8 (by decide) rfl (fun h_2 => ?_) (fun h_2 => ?_)
    · refine zk_aload_n C kd_Mo_scan_13 rfl 0 rfl rfl ?_
      refine zs_get (v := .int 0) C 68 82 rfl rfl (congrArg Value.int e_has) rfl ki_Mo (by decide) kw1765 kd_Mo_scan_14 rfl ?_
      refine zk_if_ne (tgt := 23) C kd_Mo_scan_17 (by decide) rfl (fun h_3 => absurd (by decide) h_3) (fun h_3 => ?_)
      refine zk_bipush (v := (-5)) C kd_Mo_scan_20 (by decide) rfl ?_
      exact zk_iret C hR kd_Mo_scan_22 rfl rfl (Or.inr (Or.inl ⟨h_1, h_2, rfl, rfl⟩))
    · refine zk_iconst (v := (-1)) C kd_Mo_scan_11 (by decide) rfl ?_
      exact zk_iret C hR kd_Mo_scan_12 rfl rfl (Or.inr (Or.inr ⟨h_1, h_2, rfl, rfl⟩))
set_option maxHeartbeats 4000000 in
set_option maxRecDepth 100000 in
/-- PlantKeeperModel.useTape -/
theorem zq_useTape {l : Launch} {D : va_G} {sz0 : Nat} {S : zs_T} {P : ze_T} (h : zs_H) (e_taped : h.1 68 78 = 0) : zk_Sp (zs_G S l D sz0) (ze_E P) km_Mo_useTape { frames := 0, cells := 0, slots := 0, locals := 0 } [.ref (S.1 68)] (zs_W S h) (fun v w => (v = some (.int 0) ∧ w = zs_W S (zs_uF h 68 78 0))) := by
  refine zk_met ku_Mo_useTape (Nat.le_of_ble_eq_true rfl) (ze_Em P) ?_
  intro X C hR
  refine zk_lvs (lv' := [(0, .ref (S.1 68))]) [0] rfl ?_
  refine zk_aload_n C kd_Mo_useTape_0 rfl 0 rfl rfl ?_
  refine zs_get (v := .int 0) C 68 78 rfl rfl (congrArg Value.int e_taped) rfl ki_Mo (by decide) kw1761 kd_Mo_useTape_1 rfl ?_
  refine zk_istore_n (lv' := [(1, _), (0, _)]) C kd_Mo_useTape_4 rfl (by decide) rfl rfl ?_
  refine zk_aload_n C kd_Mo_useTape_5 rfl 1 rfl rfl ?_
  refine zk_iconst (v := 0) C kd_Mo_useTape_6 (by decide) rfl ?_
  refine zs_put (ty := .int) C 68 78 0 rfl rfl rfl rfl ki_Mo ky_Mo ko_Mo kn_Mo (by decide) kw1761 rfl rfl rfl rfl (by decide) kd_Mo_useTape_7 rfl ?_
  refine zk_iload_n C kd_Mo_useTape_10 rfl 0 rfl rfl ?_
  exact zk_iret C hR kd_Mo_useTape_11 rfl rfl ⟨rfl, rfl⟩
set_option maxHeartbeats 4000000 in
set_option maxRecDepth 100000 in
/-- PlantKeeperModel.watch -/
theorem zq_watch {l : Launch} {D : va_G} {sz0 : Nat} {S : zs_T} {P : ze_T} (h : zs_H) (e_has : h.1 68 82 = 0) (e_taped : h.1 68 78 = 0) : zk_Sp (zs_G S l D sz0) (ze_E P) km_Mo_watch { frames := 1, cells := 0, slots := 0, locals := 21 } [.ref (S.1 68)] (zs_W S h) (fun v w => (v = some (.int (-5)) ∧ w = zs_W S (zs_uF (zs_uF h 68 78 0) 68 94 0))) := by
  refine zk_met ku_Mo_watch (Nat.le_of_ble_eq_true rfl) (ze_Em P) ?_
  intro X C hR
  refine zk_lvs (lv' := [(0, .ref (S.1 68))]) [0] rfl ?_
  refine zk_aload_n C kd_Mo_watch_0 rfl 0 rfl rfl ?_
  refine zk_aload_n C kd_Mo_watch_1 rfl 0 rfl rfl ?_
  refine zs_callV (k := 68) (rn := { frames := 0, cells := 0, slots := 0, locals := 0 }) (As := []) (rest := [.ref (S.1 68)]) C (zq_useTape h e_taped) ku_Mo_useTape kw1989 kv_Mo_useTape rfl ⟨by decide, by decide⟩ ⟨by decide, by decide⟩ rfl rfl rfl (Nat.le_of_ble_eq_true rfl) kd_Mo_watch_2 rfl (c1 := 0) (s1 := 0) rfl rfl (fun v w hp => ?_)
  obtain ⟨rfl, rfl⟩ := hp
  refine zk_stk (r' := [.int 0, .ref (S.1 68)]) rfl ?_
  refine zs_put (ty := .int) C 68 94 0 rfl rfl rfl rfl ki_Mo ky_Mo ko_Mo kn_Mo (by decide) kw1777 rfl rfl rfl rfl (by decide) kd_Mo_watch_5 rfl ?_
  refine zk_aload_n C kd_Mo_watch_8 rfl 0 rfl rfl ?_
  refine zs_get (v := .int 0) C 68 82 rfl rfl (congrArg Value.int e_has) rfl ki_Mo (by decide) kw1765 kd_Mo_watch_9 rfl ?_
  refine zk_if_ne (tgt := 18) C kd_Mo_watch_12 (by decide) rfl (fun h_1 => absurd (by decide) h_1) (fun h_1 => ?_)
  refine zk_bipush (v := (-5)) C kd_Mo_watch_15 (by decide) rfl ?_
  exact zk_iret C hR kd_Mo_watch_17 rfl rfl ⟨rfl, rfl⟩
set_option maxHeartbeats 4000000 in
set_option maxRecDepth 100000 in
/-- PlantKeeperModel.frame -/
theorem zq_frame {l : Launch} {D : va_G} {sz0 : Nat} {S : zs_T} {P : ze_T} (h : zs_H) (e_has : h.1 68 82 = 0) (e_taped : h.1 68 78 = 0) : zk_Sp (zs_G S l D sz0) (ze_E P) km_Mo_frame { frames := 1, cells := 0, slots := 0, locals := 21 } [.ref (S.1 68)] (zs_W S h) (fun v w => (v = some (.int 0) ∧ w = zs_W S (zs_uF (zs_uF h 68 78 0) 68 88 0))) := by
  refine zk_met ku_Mo_frame (Nat.le_of_ble_eq_true rfl) (ze_Em P) ?_
  intro X C hR
  refine zk_lvs (lv' := [(0, .ref (S.1 68))]) [0] rfl ?_
  refine zk_aload_n C kd_Mo_frame_0 rfl 0 rfl rfl ?_
  refine zs_callV (k := 68) (rn := { frames := 0, cells := 0, slots := 0, locals := 0 }) (As := []) (rest := []) C (zq_useTape h e_taped) ku_Mo_useTape kw1989 kv_Mo_useTape rfl ⟨by decide, by decide⟩ ⟨by decide, by decide⟩ rfl rfl rfl (Nat.le_of_ble_eq_true rfl) kd_Mo_frame_1 rfl (c1 := 0) (s1 := 0) rfl rfl (fun v w hp => ?_)
  obtain ⟨rfl, rfl⟩ := hp
  refine zk_stk (r' := [.int 0]) rfl ?_
  refine zk_istore_n (lv' := [(1, _), (0, _)]) C kd_Mo_frame_4 rfl (by decide) rfl rfl ?_
  refine zk_aload_n C kd_Mo_frame_5 rfl 1 rfl rfl ?_
  refine zk_iconst (v := 0) C kd_Mo_frame_6 (by decide) rfl ?_
  refine zs_put (ty := .int) C 68 88 0 rfl rfl rfl rfl ki_Mo ky_Mo ko_Mo kn_Mo (by decide) kw1771 rfl rfl rfl rfl (by decide) kd_Mo_frame_7 rfl ?_
  refine zk_aload_n C kd_Mo_frame_10 rfl 1 rfl rfl ?_
  refine zs_get (v := .int 0) C 68 82 rfl rfl (congrArg Value.int e_has) rfl ki_Mo (by decide) kw1765 kd_Mo_frame_11 rfl ?_
  refine zk_if_eq (tgt := 29) C kd_Mo_frame_14 (by decide) rfl (fun h_1 => ?_) (fun h_1 => absurd (by decide) h_1)
  refine zk_iconst (v := 0) C kd_Mo_frame_29 (by decide) rfl ?_
  exact zk_iret C hR kd_Mo_frame_30 rfl rfl ⟨rfl, rfl⟩
set_option maxHeartbeats 4000000 in
set_option maxRecDepth 100000 in
/-- PlantKeeperModel.station -/
theorem zq_station {l : Launch} {D : va_G} {sz0 : Nat} {S : zs_T} {P : ze_T} (h : zs_H) (e_station : h.1 68 83 = 1) (x1 : Int32) : zk_Sp (zs_G S l D sz0) (ze_E P) km_Mo_station { frames := 0, cells := 0, slots := 0, locals := 0 } [.ref (S.1 68), .int x1] (zs_W S h) (fun v w => (x1 < 1 ∧ v = some (.int (-1)) ∧ w = zs_W S h) ∨ (¬ x1 < 1 ∧ x1 ≤ 247 ∧ v = some (.int 1) ∧ w = zs_W S (zs_uF h 68 83 x1)) ∨ (¬ x1 < 1 ∧ ¬ x1 ≤ 247 ∧ v = some (.int (-1)) ∧ w = zs_W S h)) := by
  refine zk_met ku_Mo_station (Nat.le_of_ble_eq_true rfl) (ze_Em P) ?_
  intro X C hR
  refine zk_lvs (lv' := [(0, .ref (S.1 68)), (1, .int x1)]) [0, 1] rfl ?_
  refine zk_iload_n C kd_Mo_station_0 rfl 1 rfl rfl ?_
  refine zk_iconst (v := 1) C kd_Mo_station_1 (by decide) rfl ?_
  refine zk_icmp_lt (tgt := 12) C kd_Mo_station_2 (by decide) rfl (fun h_1 => ?_) (fun h_1 => ?_)
  · refine zk_iconst (v := (-1)) C kd_Mo_station_12 (by decide) rfl ?_
    exact zk_iret C hR kd_Mo_station_13 rfl rfl (Or.inl ⟨h_1, rfl, rfl⟩)
  · refine zk_iload_n C kd_Mo_station_5 rfl 1 rfl rfl ?_
    refine zk_sipush (v := 247) C kd_Mo_station_6 (by decide) rfl ?_
    refine zk_icmp_le (tgt := 14) C kd_Mo_station_9 (by decide) rfl (fun h_2 => ?_) (fun h_2 => ?_)
    · refine zk_aload_n C kd_Mo_station_14 rfl 0 rfl rfl ?_
      refine zs_get (v := .int 1) C 68 83 rfl rfl (congrArg Value.int e_station) rfl ki_Mo (by decide) kw1766 kd_Mo_station_15 rfl ?_
      refine zk_istore_n (lv' := [(2, _), (0, _), (1, _)]) C kd_Mo_station_18 rfl (by decide) rfl rfl ?_
      refine zk_aload_n C kd_Mo_station_19 rfl 1 rfl rfl ?_
      refine zk_iload_n C kd_Mo_station_20 rfl 2 rfl rfl ?_
      refine zs_put (ty := .int) C 68 83 (x1) rfl rfl rfl rfl ki_Mo ky_Mo ko_Mo kn_Mo (by decide) kw1766 rfl rfl rfl rfl (by decide) kd_Mo_station_21 rfl ?_
      refine zk_iload_n C kd_Mo_station_24 rfl 0 rfl rfl ?_
      exact zk_iret C hR kd_Mo_station_25 rfl rfl (Or.inr (Or.inl ⟨h_1, h_2, rfl, rfl⟩))
    · refine zk_iconst (v := (-1)) C kd_Mo_station_12 (by decide) rfl ?_
      exact zk_iret C hR kd_Mo_station_13 rfl rfl (Or.inr (Or.inr ⟨h_1, h_2, rfl, rfl⟩))
set_option maxHeartbeats 4000000 in
set_option maxRecDepth 100000 in
/-- PlantKeeperModel.byteAt -/
theorem zq_byteAt {l : Launch} {D : va_G} {sz0 : Nat} {S : zs_T} {P : ze_T} (h : zs_H) (e_outSize : h.1 68 88 = 0) (x1 : Int32) : zk_Sp (zs_G S l D sz0) (ze_E P) km_Mo_byteAt { frames := 0, cells := 0, slots := 0, locals := 0 } [.ref (S.1 68), .int x1] (zs_W S h) (fun v w => (x1 < 0 ∧ v = some (.int (-1)) ∧ w = zs_W S h) ∨ (¬ x1 < 0 ∧ v = some (.int (-1)) ∧ w = zs_W S h)) := by
  refine zk_met ku_Mo_byteAt (Nat.le_of_ble_eq_true rfl) (ze_Em P) ?_
  intro X C hR
  refine zk_lvs (lv' := [(0, .ref (S.1 68)), (1, .int x1)]) [0, 1] rfl ?_
  refine zk_iload_n C kd_Mo_byteAt_0 rfl 1 rfl rfl ?_
  refine zk_if_lt (tgt := 12) C kd_Mo_byteAt_1 (by decide) rfl (fun h_1 => ?_) (fun h_1 => ?_)
  · refine zk_iconst (v := (-1)) C kd_Mo_byteAt_12 (by decide) rfl ?_
    refine zk_goto (tgt := 22) C kd_Mo_byteAt_13 (by decide) ?_
    exact zk_iret C hR kd_Mo_byteAt_22 rfl rfl (Or.inl ⟨h_1, rfl, rfl⟩)
  · refine zk_iload_n C kd_Mo_byteAt_4 rfl 1 rfl rfl ?_
    refine zk_aload_n C kd_Mo_byteAt_5 rfl 0 rfl rfl ?_
    refine zs_get (v := .int 0) C 68 88 rfl rfl (congrArg Value.int e_outSize) rfl ki_Mo (by decide) kw1771 kd_Mo_byteAt_6 rfl ?_
    refine zk_icmp_lt (tgt := 16) C kd_Mo_byteAt_9 (by decide) rfl (fun h_2 => absurd h_2 h_1) (fun h_2 => ?_)
    refine zk_iconst (v := (-1)) C kd_Mo_byteAt_12 (by decide) rfl ?_
    refine zk_goto (tgt := 22) C kd_Mo_byteAt_13 (by decide) ?_
    exact zk_iret C hR kd_Mo_byteAt_22 rfl rfl (Or.inr ⟨h_1, rfl, rfl⟩)
set_option maxHeartbeats 4000000 in
set_option maxRecDepth 100000 in
/-- PlantKeeperModel.count -/
theorem zq_count {l : Launch} {D : va_G} {sz0 : Nat} {S : zs_T} {P : ze_T} (h : zs_H) (e_loadFault : h.1 68 80 = 0) (e_has : h.1 68 82 = 0) (x1 : Int32) : zk_Sp (zs_G S l D sz0) (ze_E P) km_Mo_count { frames := 0, cells := 0, slots := 0, locals := 0 } [.ref (S.1 68), .int x1] (zs_W S h) (fun v w => (x1 = 0 ∧ v = some (.int 0) ∧ w = zs_W S h) ∨ (¬ x1 = 0 ∧ x1 = 1 ∧ v = some (.int (-5)) ∧ w = zs_W S h) ∨ (¬ x1 = 0 ∧ ¬ x1 = 1 ∧ x1 = 2 ∧ v = some (.int 0) ∧ w = zs_W S h) ∨ (¬ x1 = 0 ∧ ¬ x1 = 1 ∧ ¬ x1 = 2 ∧ x1 = 3 ∧ v = some (.int 0) ∧ w = zs_W S h) ∨ (¬ x1 = 0 ∧ ¬ x1 = 1 ∧ ¬ x1 = 2 ∧ ¬ x1 = 3 ∧ x1 = 4 ∧ v = some (.int 0) ∧ w = zs_W S h) ∨ (¬ x1 = 0 ∧ ¬ x1 = 1 ∧ ¬ x1 = 2 ∧ ¬ x1 = 3 ∧ ¬ x1 = 4 ∧ x1 = 5 ∧ v = some (.int 0) ∧ w = zs_W S h) ∨ (¬ x1 = 0 ∧ ¬ x1 = 1 ∧ ¬ x1 = 2 ∧ ¬ x1 = 3 ∧ ¬ x1 = 4 ∧ ¬ x1 = 5 ∧ x1 = 6 ∧ v = some (.int 0) ∧ w = zs_W S h) ∨ (¬ x1 = 0 ∧ ¬ x1 = 1 ∧ ¬ x1 = 2 ∧ ¬ x1 = 3 ∧ ¬ x1 = 4 ∧ ¬ x1 = 5 ∧ ¬ x1 = 6 ∧ x1 = 7 ∧ v = some (.int 0) ∧ w = zs_W S h) ∨ (¬ x1 = 0 ∧ ¬ x1 = 1 ∧ ¬ x1 = 2 ∧ ¬ x1 = 3 ∧ ¬ x1 = 4 ∧ ¬ x1 = 5 ∧ ¬ x1 = 6 ∧ ¬ x1 = 7 ∧ x1 = 8 ∧ v = some (.int 0) ∧ w = zs_W S h) ∨ (¬ x1 = 0 ∧ ¬ x1 = 1 ∧ ¬ x1 = 2 ∧ ¬ x1 = 3 ∧ ¬ x1 = 4 ∧ ¬ x1 = 5 ∧ ¬ x1 = 6 ∧ ¬ x1 = 7 ∧ ¬ x1 = 8 ∧ x1 = 9 ∧ v = some (.int 0) ∧ w = zs_W S h) ∨ (¬ x1 = 0 ∧ ¬ x1 = 1 ∧ ¬ x1 = 2 ∧ ¬ x1 = 3 ∧ ¬ x1 = 4 ∧ ¬ x1 = 5 ∧ ¬ x1 = 6 ∧ ¬ x1 = 7 ∧ ¬ x1 = 8 ∧ ¬ x1 = 9 ∧ v = some (.int (-1)) ∧ w = zs_W S h)) := by
  refine zk_met ku_Mo_count (Nat.le_of_ble_eq_true rfl) (ze_Em P) ?_
  intro X C hR
  refine zk_lvs (lv' := [(0, .ref (S.1 68)), (1, .int x1)]) [0, 1] rfl ?_
  refine zk_iload_n C kd_Mo_count_0 rfl 1 rfl rfl ?_
  by_cases h_1 : x1 = 0
  · refine zk_tableIn (tgt := 56) C kd_Mo_count_1 (by rw [h_1]; decide) (by rw [h_1]; decide) (by rw [h_1]; rfl) (by decide) ?_
    refine zk_aload_n C kd_Mo_count_56 rfl 0 rfl rfl ?_
    refine zs_get (v := .int 0) C 68 80 rfl rfl (congrArg Value.int e_loadFault) rfl ki_Mo (by decide) kw1763 kd_Mo_count_57 rfl ?_
    exact zk_iret C hR kd_Mo_count_60 rfl rfl (Or.inl ⟨h_1, rfl, rfl⟩)
  by_cases h_2 : x1 = 1
  · refine zk_tableIn (tgt := 61) C kd_Mo_count_1 (by rw [h_2]; decide) (by rw [h_2]; decide) (by rw [h_2]; rfl) (by decide) ?_
    refine zk_aload_n C kd_Mo_count_61 rfl 0 rfl rfl ?_
    refine zs_get (v := .int 0) C 68 80 rfl rfl (congrArg Value.int e_loadFault) rfl ki_Mo (by decide) kw1763 kd_Mo_count_62 rfl ?_
    refine zk_if_ne (tgt := 73) C kd_Mo_count_65 (by decide) rfl (fun h_3 => absurd (by decide) h_3) (fun h_3 => ?_)
    refine zk_bipush (v := (-5)) C kd_Mo_count_68 (by decide) rfl ?_
    refine zk_goto (tgt := 77) C kd_Mo_count_70 (by decide) ?_
    exact zk_iret C hR kd_Mo_count_77 rfl rfl (Or.inr (Or.inl ⟨h_1, h_2, rfl, rfl⟩))
  by_cases h_4 : x1 = 2
  · refine zk_tableIn (tgt := 78) C kd_Mo_count_1 (by rw [h_4]; decide) (by rw [h_4]; decide) (by rw [h_4]; rfl) (by decide) ?_
    refine zk_aload_n C kd_Mo_count_78 rfl 0 rfl rfl ?_
    refine zs_get (v := .int 0) C 68 82 rfl rfl (congrArg Value.int e_has) rfl ki_Mo (by decide) kw1765 kd_Mo_count_79 rfl ?_
    refine zk_if_eq (tgt := 100) C kd_Mo_count_82 (by decide) rfl (fun h_5 => ?_) (fun h_5 => absurd (by decide) h_5)
    refine zk_iconst (v := 0) C kd_Mo_count_100 (by decide) rfl ?_
    exact zk_iret C hR kd_Mo_count_101 rfl rfl (Or.inr (Or.inr (Or.inl ⟨h_1, h_2, h_4, rfl, rfl⟩)))
  by_cases h_6 : x1 = 3
  · refine zk_tableIn (tgt := 102) C kd_Mo_count_1 (by rw [h_6]; decide) (by rw [h_6]; decide) (by rw [h_6]; rfl) (by decide) ?_
    refine zk_aload_n C kd_Mo_count_102 rfl 0 rfl rfl ?_
    refine zs_get (v := .int 0) C 68 82 rfl rfl (congrArg Value.int e_has) rfl ki_Mo (by decide) kw1765 kd_Mo_count_103 rfl ?_
    refine zk_if_eq (tgt := 116) C kd_Mo_count_106 (by decide) rfl (fun h_7 => ?_) (fun h_7 => absurd (by decide) h_7)
    refine zk_iconst (v := 0) C kd_Mo_count_116 (by decide) rfl ?_
    exact zk_iret C hR kd_Mo_count_117 rfl rfl (Or.inr (Or.inr (Or.inr (Or.inl ⟨h_1, h_2, h_4, h_6, rfl, rfl⟩))))
  by_cases h_8 : x1 = 4
  · refine zk_tableIn (tgt := 118) C kd_Mo_count_1 (by rw [h_8]; decide) (by rw [h_8]; decide) (by rw [h_8]; rfl) (by decide) ?_
    refine zk_aload_n C kd_Mo_count_118 rfl 0 rfl rfl ?_
    refine zs_get (v := .int 0) C 68 82 rfl rfl (congrArg Value.int e_has) rfl ki_Mo (by decide) kw1765 kd_Mo_count_119 rfl ?_
    refine zk_if_eq (tgt := 132) C kd_Mo_count_122 (by decide) rfl (fun h_9 => ?_) (fun h_9 => absurd (by decide) h_9)
    refine zk_iconst (v := 0) C kd_Mo_count_132 (by decide) rfl ?_
    exact zk_iret C hR kd_Mo_count_133 rfl rfl (Or.inr (Or.inr (Or.inr (Or.inr (Or.inl ⟨h_1, h_2, h_4, h_6, h_8, rfl, rfl⟩)))))
  by_cases h_10 : x1 = 5
  · refine zk_tableIn (tgt := 134) C kd_Mo_count_1 (by rw [h_10]; decide) (by rw [h_10]; decide) (by rw [h_10]; rfl) (by decide) ?_
    refine zk_aload_n C kd_Mo_count_134 rfl 0 rfl rfl ?_
    refine zs_get (v := .int 0) C 68 82 rfl rfl (congrArg Value.int e_has) rfl ki_Mo (by decide) kw1765 kd_Mo_count_135 rfl ?_
    refine zk_if_eq (tgt := 148) C kd_Mo_count_138 (by decide) rfl (fun h_11 => ?_) (fun h_11 => absurd (by decide) h_11)
    refine zk_iconst (v := 0) C kd_Mo_count_148 (by decide) rfl ?_
    exact zk_iret C hR kd_Mo_count_149 rfl rfl (Or.inr (Or.inr (Or.inr (Or.inr (Or.inr (Or.inl ⟨h_1, h_2, h_4, h_6, h_8, h_10, rfl, rfl⟩))))))
  by_cases h_12 : x1 = 6
  · refine zk_tableIn (tgt := 150) C kd_Mo_count_1 (by rw [h_12]; decide) (by rw [h_12]; decide) (by rw [h_12]; rfl) (by decide) ?_
    refine zk_aload_n C kd_Mo_count_150 rfl 0 rfl rfl ?_
    refine zs_get (v := .int 0) C 68 82 rfl rfl (congrArg Value.int e_has) rfl ki_Mo (by decide) kw1765 kd_Mo_count_151 rfl ?_
    refine zk_if_eq (tgt := 164) C kd_Mo_count_154 (by decide) rfl (fun h_13 => ?_) (fun h_13 => absurd (by decide) h_13)
    refine zk_iconst (v := 0) C kd_Mo_count_164 (by decide) rfl ?_
    exact zk_iret C hR kd_Mo_count_165 rfl rfl (Or.inr (Or.inr (Or.inr (Or.inr (Or.inr (Or.inr (Or.inl ⟨h_1, h_2, h_4, h_6, h_8, h_10, h_12, rfl, rfl⟩)))))))
  by_cases h_14 : x1 = 7
  · refine zk_tableIn (tgt := 166) C kd_Mo_count_1 (by rw [h_14]; decide) (by rw [h_14]; decide) (by rw [h_14]; rfl) (by decide) ?_
    refine zk_aload_n C kd_Mo_count_166 rfl 0 rfl rfl ?_
    refine zs_get (v := .int 0) C 68 82 rfl rfl (congrArg Value.int e_has) rfl ki_Mo (by decide) kw1765 kd_Mo_count_167 rfl ?_
    refine zk_if_eq (tgt := 180) C kd_Mo_count_170 (by decide) rfl (fun h_15 => ?_) (fun h_15 => absurd (by decide) h_15)
    refine zk_iconst (v := 0) C kd_Mo_count_180 (by decide) rfl ?_
    exact zk_iret C hR kd_Mo_count_181 rfl rfl (Or.inr (Or.inr (Or.inr (Or.inr (Or.inr (Or.inr (Or.inr (Or.inl ⟨h_1, h_2, h_4, h_6, h_8, h_10, h_12, h_14, rfl, rfl⟩))))))))
  by_cases h_16 : x1 = 8
  · refine zk_tableIn (tgt := 182) C kd_Mo_count_1 (by rw [h_16]; decide) (by rw [h_16]; decide) (by rw [h_16]; rfl) (by decide) ?_
    refine zk_aload_n C kd_Mo_count_182 rfl 0 rfl rfl ?_
    refine zs_get (v := .int 0) C 68 82 rfl rfl (congrArg Value.int e_has) rfl ki_Mo (by decide) kw1765 kd_Mo_count_183 rfl ?_
    refine zk_if_eq (tgt := 196) C kd_Mo_count_186 (by decide) rfl (fun h_17 => ?_) (fun h_17 => absurd (by decide) h_17)
    refine zk_iconst (v := 0) C kd_Mo_count_196 (by decide) rfl ?_
    exact zk_iret C hR kd_Mo_count_197 rfl rfl (Or.inr (Or.inr (Or.inr (Or.inr (Or.inr (Or.inr (Or.inr (Or.inr (Or.inl ⟨h_1, h_2, h_4, h_6, h_8, h_10, h_12, h_14, h_16, rfl, rfl⟩)))))))))
  by_cases h_18 : x1 = 9
  · refine zk_tableIn (tgt := 198) C kd_Mo_count_1 (by rw [h_18]; decide) (by rw [h_18]; decide) (by rw [h_18]; rfl) (by decide) ?_
    refine zk_aload_n C kd_Mo_count_198 rfl 0 rfl rfl ?_
    refine zs_get (v := .int 0) C 68 82 rfl rfl (congrArg Value.int e_has) rfl ki_Mo (by decide) kw1765 kd_Mo_count_199 rfl ?_
    refine zk_if_eq (tgt := 216) C kd_Mo_count_202 (by decide) rfl (fun h_19 => ?_) (fun h_19 => absurd (by decide) h_19)
    refine zk_iconst (v := 0) C kd_Mo_count_216 (by decide) rfl ?_
    exact zk_iret C hR kd_Mo_count_217 rfl rfl (Or.inr (Or.inr (Or.inr (Or.inr (Or.inr (Or.inr (Or.inr (Or.inr (Or.inr (Or.inl ⟨h_1, h_2, h_4, h_6, h_8, h_10, h_12, h_14, h_16, h_18, rfl, rfl⟩))))))))))
  refine zk_tableOut (tgt := 218) C kd_Mo_count_1 (by have := lv_neT h_1 (a := 0) (by decide); have := lv_neT h_2 (a := 1) (by decide); have := lv_neT h_4 (a := 2) (by decide); have := lv_neT h_6 (a := 3) (by decide); have := lv_neT h_8 (a := 4) (by decide); have := lv_neT h_10 (a := 5) (by decide); have := lv_neT h_12 (a := 6) (by decide); have := lv_neT h_14 (a := 7) (by decide); have := lv_neT h_16 (a := 8) (by decide); have := lv_neT h_18 (a := 9) (by decide); omega) (by decide) ?_
  refine zk_iconst (v := (-1)) C kd_Mo_count_218 (by decide) rfl ?_
  exact zk_iret C hR kd_Mo_count_219 rfl rfl (Or.inr (Or.inr (Or.inr (Or.inr (Or.inr (Or.inr (Or.inr (Or.inr (Or.inr (Or.inr ⟨h_1, h_2, h_4, h_6, h_8, h_10, h_12, h_14, h_16, h_18, rfl, rfl⟩))))))))))
set_option maxHeartbeats 4000000 in
set_option maxRecDepth 100000 in
/-- PlantKeeperModel.noPlace -/
theorem zq_noPlace0 {l : Launch} {D : va_G} {sz0 : Nat} {S : zs_T} {P : ze_T} (h : zs_H) (x1 : Int32) (x2 : Int32) : zk_Sp (zs_G S l D sz0) (ze_E P) km_Mo_noPlace { frames := 0, cells := 0, slots := 0, locals := 0 } [.int x1, .int x2] (zs_W S h) (fun v w => (x1 < 0 ∧ v = some (.int 1) ∧ w = zs_W S h) ∨ (¬ x1 < 0 ∧ 5 < x1 ∧ v = some (.int 1) ∧ w = zs_W S h) ∨ (¬ x1 < 0 ∧ ¬ 5 < x1 ∧ x2 < 0 ∧ v = some (.int 1) ∧ w = zs_W S h) ∨ (¬ x1 < 0 ∧ ¬ 5 < x1 ∧ ¬ x2 < 0 ∧ 3 ≤ x1 ∧ x2 < 64 ∧ v = some (.int 0) ∧ w = zs_W S h) ∨ (¬ x1 < 0 ∧ ¬ 5 < x1 ∧ ¬ x2 < 0 ∧ 3 ≤ x1 ∧ ¬ x2 < 64 ∧ v = some (.int 1) ∧ w = zs_W S h) ∨ (¬ x1 < 0 ∧ ¬ 5 < x1 ∧ ¬ x2 < 0 ∧ ¬ 3 ≤ x1 ∧ x2 < 256 ∧ v = some (.int 0) ∧ w = zs_W S h) ∨ (¬ x1 < 0 ∧ ¬ 5 < x1 ∧ ¬ x2 < 0 ∧ ¬ 3 ≤ x1 ∧ ¬ x2 < 256 ∧ v = some (.int 1) ∧ w = zs_W S h)) := by
  refine zk_met ku_Mo_noPlace (Nat.le_of_ble_eq_true rfl) (ze_Em P) ?_
  intro X C hR
  refine zk_lvs (lv' := [(0, .int x1), (1, .int x2)]) [0, 1] rfl ?_
  refine zk_iload_n C kd_Mo_noPlace_0 rfl 0 rfl rfl ?_
  refine zk_if_lt (tgt := 30) C kd_Mo_noPlace_1 (by decide) rfl (fun h_1 => ?_) (fun h_1 => ?_)
  · refine zk_iconst (v := 1) C kd_Mo_noPlace_30 (by decide) rfl ?_
    refine zk_goto (tgt := 35) C kd_Mo_noPlace_31 (by decide) ?_
    exact zk_zret C hR rfl kd_Mo_noPlace_35 rfl rfl (Or.inl ⟨h_1, rfl, rfl⟩)
  · refine zk_iload_n C kd_Mo_noPlace_4 rfl 0 rfl rfl ?_
    refine zk_iconst (v := 5) C kd_Mo_noPlace_5 (by decide) rfl ?_
    refine zk_icmp_gt (tgt := 30) C kd_Mo_noPlace_6 (by decide) rfl (fun h_2 => ?_) (fun h_2 => ?_)
    · refine zk_iconst (v := 1) C kd_Mo_noPlace_30 (by decide) rfl ?_
      refine zk_goto (tgt := 35) C kd_Mo_noPlace_31 (by decide) ?_
      exact zk_zret C hR rfl kd_Mo_noPlace_35 rfl rfl (Or.inr (Or.inl ⟨h_1, h_2, rfl, rfl⟩))
    · refine zk_iload_n C kd_Mo_noPlace_9 rfl 1 rfl rfl ?_
      refine zk_if_lt (tgt := 30) C kd_Mo_noPlace_10 (by decide) rfl (fun h_3 => ?_) (fun h_3 => ?_)
      · refine zk_iconst (v := 1) C kd_Mo_noPlace_30 (by decide) rfl ?_
        refine zk_goto (tgt := 35) C kd_Mo_noPlace_31 (by decide) ?_
        exact zk_zret C hR rfl kd_Mo_noPlace_35 rfl rfl (Or.inr (Or.inr (Or.inl ⟨h_1, h_2, h_3, rfl, rfl⟩)))
      · refine zk_iload_n C kd_Mo_noPlace_13 rfl 1 rfl rfl ?_
        refine zk_iload_n C kd_Mo_noPlace_14 rfl 0 rfl rfl ?_
        refine zk_iconst (v := 3) C kd_Mo_noPlace_15 (by decide) rfl ?_
        refine zk_icmp_ge (tgt := 25) C kd_Mo_noPlace_16 (by decide) rfl (fun h_4 => ?_) (fun h_4 => ?_)
        · refine zk_bipush (v := 64) C kd_Mo_noPlace_25 (by decide) rfl ?_
          refine zk_icmp_lt (tgt := 34) C kd_Mo_noPlace_27 (by decide) rfl (fun h_5 => ?_) (fun h_5 => ?_)
          · refine zk_iconst (v := 0) C kd_Mo_noPlace_34 (by decide) rfl ?_
            exact zk_zret C hR rfl kd_Mo_noPlace_35 rfl rfl (Or.inr (Or.inr (Or.inr (Or.inl ⟨h_1, h_2, h_3, h_4, h_5, rfl, rfl⟩))))
          · refine zk_iconst (v := 1) C kd_Mo_noPlace_30 (by decide) rfl ?_
            refine zk_goto (tgt := 35) C kd_Mo_noPlace_31 (by decide) ?_
            exact zk_zret C hR rfl kd_Mo_noPlace_35 rfl rfl (Or.inr (Or.inr (Or.inr (Or.inr (Or.inl ⟨h_1, h_2, h_3, h_4, h_5, rfl, rfl⟩)))))
        · refine zk_sipush (v := 256) C kd_Mo_noPlace_19 (by decide) rfl ?_
          refine zk_goto (tgt := 27) C kd_Mo_noPlace_22 (by decide) ?_
          refine zk_icmp_lt (tgt := 34) C kd_Mo_noPlace_27 (by decide) rfl (fun h_6 => ?_) (fun h_6 => ?_)
          · refine zk_iconst (v := 0) C kd_Mo_noPlace_34 (by decide) rfl ?_
            exact zk_zret C hR rfl kd_Mo_noPlace_35 rfl rfl (Or.inr (Or.inr (Or.inr (Or.inr (Or.inr (Or.inl ⟨h_1, h_2, h_3, h_4, h_6, rfl, rfl⟩))))))
          · refine zk_iconst (v := 1) C kd_Mo_noPlace_30 (by decide) rfl ?_
            refine zk_goto (tgt := 35) C kd_Mo_noPlace_31 (by decide) ?_
            exact zk_zret C hR rfl kd_Mo_noPlace_35 rfl rfl (Or.inr (Or.inr (Or.inr (Or.inr (Or.inr (Or.inr ⟨h_1, h_2, h_3, h_4, h_6, rfl, rfl⟩))))))
theorem zq_noPlace {l : Launch} {D : va_G} {sz0 : Nat} {S : zs_T} {P : ze_T} (h : zs_H) (x1 : Int32) (x2 : Int32) : zk_Sp (zs_G S l D sz0) (ze_E P) km_Mo_noPlace { frames := 0, cells := 0, slots := 0, locals := 0 } [.int x1, .int x2] (zs_W S h) (fun v w => (zp_ok x1 x2 ∧ v = some (.int 0) ∧ w = zs_W S h) ∨ (¬ zp_ok x1 x2 ∧ v = some (.int 1) ∧ w = zs_W S h)) := by
  refine (zq_noPlace0 h x1 x2).mono (fun v w hp => ?_)
  rcases hp with ⟨g1, rfl, rfl⟩ | ⟨g1, g2, rfl, rfl⟩ | ⟨g1, g2, g3, rfl, rfl⟩ | ⟨g1, g2, g3, g4, g5, rfl, rfl⟩ | ⟨g1, g2, g3, g4, g5, rfl, rfl⟩ | ⟨g1, g2, g3, g4, g5, rfl, rfl⟩ | ⟨g1, g2, g3, g4, g5, rfl, rfl⟩
  · exact Or.inr ⟨fun q => q.1 g1, rfl, rfl⟩
  · exact Or.inr ⟨fun q => q.2.1 g2, rfl, rfl⟩
  · exact Or.inr ⟨fun q => q.2.2.1 g3, rfl, rfl⟩
  · exact Or.inl ⟨⟨g1, g2, g3, Or.inr ⟨g4, g5⟩⟩, rfl, rfl⟩
  · exact Or.inr ⟨fun q => q.2.2.2.elim (fun z => z.1 g4) (fun z => g5 z.2), rfl, rfl⟩
  · exact Or.inl ⟨⟨g1, g2, g3, Or.inl ⟨g4, g5⟩⟩, rfl, rfl⟩
  · exact Or.inr ⟨fun q => q.2.2.2.elim (fun z => g5 z.2) (fun z => g4 z.1), rfl, rfl⟩
set_option maxHeartbeats 4000000 in
set_option maxRecDepth 100000 in
/-- PlantKeeperModel.noValue -/
theorem zq_noValue0 {l : Launch} {D : va_G} {sz0 : Nat} {S : zs_T} {P : ze_T} (h : zs_H) (x1 : Int32) (x2 : Int32) : zk_Sp (zs_G S l D sz0) (ze_E P) km_Mo_noValue { frames := 0, cells := 0, slots := 0, locals := 0 } [.int x1, .int x2] (zs_W S h) (fun v w => (3 ≤ x1 ∧ x2 < (-32768) ∧ v = some (.int 1) ∧ w = zs_W S h) ∨ (3 ≤ x1 ∧ ¬ x2 < (-32768) ∧ x2 ≤ 32767 ∧ v = some (.int 0) ∧ w = zs_W S h) ∨ (3 ≤ x1 ∧ ¬ x2 < (-32768) ∧ ¬ x2 ≤ 32767 ∧ v = some (.int 1) ∧ w = zs_W S h) ∨ (¬ 3 ≤ x1 ∧ x2 < 0 ∧ v = some (.int 1) ∧ w = zs_W S h) ∨ (¬ 3 ≤ x1 ∧ ¬ x2 < 0 ∧ x2 ≤ 1 ∧ v = some (.int 0) ∧ w = zs_W S h) ∨ (¬ 3 ≤ x1 ∧ ¬ x2 < 0 ∧ ¬ x2 ≤ 1 ∧ v = some (.int 1) ∧ w = zs_W S h)) := by
  refine zk_met ku_Mo_noValue (Nat.le_of_ble_eq_true rfl) (ze_Em P) ?_
  intro X C hR
  refine zk_lvs (lv' := [(0, .int x1), (1, .int x2)]) [0, 1] rfl ?_
  refine zk_iload_n C kd_Mo_noValue_0 rfl 0 rfl rfl ?_
  refine zk_iconst (v := 3) C kd_Mo_noValue_1 (by decide) rfl ?_
  refine zk_icmp_ge (tgt := 22) C kd_Mo_noValue_2 (by decide) rfl (fun h_1 => ?_) (fun h_1 => ?_)
  · refine zk_iload_n C kd_Mo_noValue_22 rfl 1 rfl rfl ?_
    refine zk_sipush (v := (-32768)) C kd_Mo_noValue_23 (by decide) rfl ?_
    refine zk_icmp_lt (tgt := 36) C kd_Mo_noValue_26 (by decide) rfl (fun h_2 => ?_) (fun h_2 => ?_)
    · refine zk_iconst (v := 1) C kd_Mo_noValue_36 (by decide) rfl ?_
      refine zk_goto (tgt := 41) C kd_Mo_noValue_37 (by decide) ?_
      exact zk_zret C hR rfl kd_Mo_noValue_41 rfl rfl (Or.inl ⟨h_1, h_2, rfl, rfl⟩)
    · refine zk_iload_n C kd_Mo_noValue_29 rfl 1 rfl rfl ?_
      refine zk_sipush (v := 32767) C kd_Mo_noValue_30 (by decide) rfl ?_
      refine zk_icmp_le (tgt := 40) C kd_Mo_noValue_33 (by decide) rfl (fun h_3 => ?_) (fun h_3 => ?_)
      · refine zk_iconst (v := 0) C kd_Mo_noValue_40 (by decide) rfl ?_
        exact zk_zret C hR rfl kd_Mo_noValue_41 rfl rfl (Or.inr (Or.inl ⟨h_1, h_2, h_3, rfl, rfl⟩))
      · refine zk_iconst (v := 1) C kd_Mo_noValue_36 (by decide) rfl ?_
        refine zk_goto (tgt := 41) C kd_Mo_noValue_37 (by decide) ?_
        exact zk_zret C hR rfl kd_Mo_noValue_41 rfl rfl (Or.inr (Or.inr (Or.inl ⟨h_1, h_2, h_3, rfl, rfl⟩)))
  · refine zk_iload_n C kd_Mo_noValue_5 rfl 1 rfl rfl ?_
    refine zk_if_lt (tgt := 14) C kd_Mo_noValue_6 (by decide) rfl (fun h_4 => ?_) (fun h_4 => ?_)
    · refine zk_iconst (v := 1) C kd_Mo_noValue_14 (by decide) rfl ?_
      refine zk_goto (tgt := 41) C kd_Mo_noValue_15 (by decide) ?_
      exact zk_zret C hR rfl kd_Mo_noValue_41 rfl rfl (Or.inr (Or.inr (Or.inr (Or.inl ⟨h_1, h_4, rfl, rfl⟩))))
    · refine zk_iload_n C kd_Mo_noValue_9 rfl 1 rfl rfl ?_
      refine zk_iconst (v := 1) C kd_Mo_noValue_10 (by decide) rfl ?_
      refine zk_icmp_le (tgt := 18) C kd_Mo_noValue_11 (by decide) rfl (fun h_5 => ?_) (fun h_5 => ?_)
      · refine zk_iconst (v := 0) C kd_Mo_noValue_18 (by decide) rfl ?_
        refine zk_goto (tgt := 41) C kd_Mo_noValue_19 (by decide) ?_
        exact zk_zret C hR rfl kd_Mo_noValue_41 rfl rfl (Or.inr (Or.inr (Or.inr (Or.inr (Or.inl ⟨h_1, h_4, h_5, rfl, rfl⟩)))))
      · refine zk_iconst (v := 1) C kd_Mo_noValue_14 (by decide) rfl ?_
        refine zk_goto (tgt := 41) C kd_Mo_noValue_15 (by decide) ?_
        exact zk_zret C hR rfl kd_Mo_noValue_41 rfl rfl (Or.inr (Or.inr (Or.inr (Or.inr (Or.inr ⟨h_1, h_4, h_5, rfl, rfl⟩)))))
theorem zq_noValue {l : Launch} {D : va_G} {sz0 : Nat} {S : zs_T} {P : ze_T} (h : zs_H) (x1 : Int32) (x2 : Int32) : zk_Sp (zs_G S l D sz0) (ze_E P) km_Mo_noValue { frames := 0, cells := 0, slots := 0, locals := 0 } [.int x1, .int x2] (zs_W S h) (fun v w => (zp_val x1 x2 ∧ v = some (.int 0) ∧ w = zs_W S h) ∨ (¬ zp_val x1 x2 ∧ v = some (.int 1) ∧ w = zs_W S h)) := by
  refine (zq_noValue0 h x1 x2).mono (fun v w hp => ?_)
  rcases hp with ⟨g1, g2, rfl, rfl⟩ | ⟨g1, g2, g3, rfl, rfl⟩ | ⟨g1, g2, g3, rfl, rfl⟩ | ⟨g1, g2, rfl, rfl⟩ | ⟨g1, g2, g3, rfl, rfl⟩ | ⟨g1, g2, g3, rfl, rfl⟩
  · exact Or.inr ⟨fun q => q.elim (fun z => z.1 g1) (fun z => z.2.1 g2), rfl, rfl⟩
  · exact Or.inl ⟨Or.inr ⟨g1, g2, Int32.not_lt.mpr g3⟩, rfl, rfl⟩
  · exact Or.inr ⟨fun q => q.elim (fun z => z.1 g1) (fun z => z.2.2 (Int32.not_le.mp g3)), rfl, rfl⟩
  · exact Or.inr ⟨fun q => q.elim (fun z => z.2.1 g2) (fun z => g1 z.1), rfl, rfl⟩
  · exact Or.inl ⟨Or.inl ⟨g1, g2, Int32.not_lt.mpr g3⟩, rfl, rfl⟩
  · exact Or.inr ⟨fun q => q.elim (fun z => z.2.2 (Int32.not_le.mp g3)) (fun z => g1 z.1), rfl, rfl⟩
set_option maxHeartbeats 4000000 in
set_option maxRecDepth 100000 in
/-- PlantKeeperModel.spot -/
theorem zq_spot {l : Launch} {D : va_G} {sz0 : Nat} {S : zs_T} {P : ze_T} (h : zs_H) (x1 : Int32) (x2 : Int32) : zk_Sp (zs_G S l D sz0) (ze_E P) km_Mo_spot { frames := 0, cells := 0, slots := 0, locals := 0 } [.int x1, .int x2] (zs_W S h) (fun v w => (3 ≤ x1 ∧ v = some (.int (256 + x2)) ∧ w = zs_W S h) ∨ (¬ 3 ≤ x1 ∧ v = some (.int x2) ∧ w = zs_W S h)) := by
  refine zk_met ku_Mo_spot (Nat.le_of_ble_eq_true rfl) (ze_Em P) ?_
  intro X C hR
  refine zk_lvs (lv' := [(0, .int x1), (1, .int x2)]) [0, 1] rfl ?_
  refine zk_iload_n C kd_Mo_spot_0 rfl 0 rfl rfl ?_
  refine zk_iconst (v := 3) C kd_Mo_spot_1 (by decide) rfl ?_
  refine zk_icmp_ge (tgt := 9) C kd_Mo_spot_2 (by decide) rfl (fun h_1 => ?_) (fun h_1 => ?_)
  · refine zk_sipush (v := 256) C kd_Mo_spot_9 (by decide) rfl ?_
    refine zk_iload_n C kd_Mo_spot_12 rfl 1 rfl rfl ?_
    refine zk_iadd C kd_Mo_spot_13 rfl ?_
    exact zk_iret C hR kd_Mo_spot_14 rfl rfl (Or.inl ⟨h_1, rfl, rfl⟩)
  · refine zk_iload_n C kd_Mo_spot_5 rfl 1 rfl rfl ?_
    refine zk_goto (tgt := 14) C kd_Mo_spot_6 (by decide) ?_
    exact zk_iret C hR kd_Mo_spot_14 rfl rfl (Or.inr ⟨h_1, rfl, rfl⟩)
set_option maxHeartbeats 4000000 in
set_option maxRecDepth 100000 in
/-- PlantKeeperModel.put -/
theorem zq_put {l : Launch} {D : va_G} {sz0 : Nat} {S : zs_T} {P : ze_T} (h : zs_H) (e_has : h.1 68 82 = 0) (x1 : Int32) (x2 : Int32) (x3 : Int32) : zk_Sp (zs_G S l D sz0) (ze_E P) km_Mo_put { frames := 1, cells := 0, slots := 0, locals := 21 } [.ref (S.1 68), .int x1, .int x2, .int x3] (zs_W S h) (fun v w => (zp_ok x1 x2 ∧ zp_val x1 x3 ∧ x1 = 1 ∧ v = some (.int (-1)) ∧ w = zs_W S h) ∨ (zp_ok x1 x2 ∧ zp_val x1 x3 ∧ ¬ x1 = 1 ∧ ¬ x1 = 4 ∧ x1 = 0 ∧ 3 ≤ x1 ∧ v = some (.int 0) ∧ w = zs_W S (zs_uM h 118 ((256 + x2)).toNatClampNeg x3)) ∨ (zp_ok x1 x2 ∧ zp_val x1 x3 ∧ ¬ x1 = 1 ∧ ¬ x1 = 4 ∧ x1 = 0 ∧ ¬ 3 ≤ x1 ∧ v = some (.int 0) ∧ w = zs_W S (zs_uM h 118 (x2).toNatClampNeg x3)) ∨ (zp_ok x1 x2 ∧ zp_val x1 x3 ∧ ¬ x1 = 1 ∧ ¬ x1 = 4 ∧ ¬ x1 = 0 ∧ ¬ x1 = 3 ∧ v = some (.int (-5)) ∧ w = zs_W S h) ∨ (zp_ok x1 x2 ∧ zp_val x1 x3 ∧ ¬ x1 = 1 ∧ ¬ x1 = 4 ∧ ¬ x1 = 0 ∧ x1 = 3 ∧ 3 ≤ x1 ∧ v = some (.int 0) ∧ w = zs_W S (zs_uM h 118 ((256 + x2)).toNatClampNeg x3)) ∨ (zp_ok x1 x2 ∧ zp_val x1 x3 ∧ ¬ x1 = 1 ∧ ¬ x1 = 4 ∧ ¬ x1 = 0 ∧ x1 = 3 ∧ ¬ 3 ≤ x1 ∧ v = some (.int 0) ∧ w = zs_W S (zs_uM h 118 (x2).toNatClampNeg x3)) ∨ (zp_ok x1 x2 ∧ zp_val x1 x3 ∧ ¬ x1 = 1 ∧ x1 = 4 ∧ v = some (.int (-1)) ∧ w = zs_W S h) ∨ (zp_ok x1 x2 ∧ ¬ zp_val x1 x3 ∧ v = some (.int (-1)) ∧ w = zs_W S h) ∨ (¬ zp_ok x1 x2 ∧ v = some (.int (-1)) ∧ w = zs_W S h)) := by
  refine zk_met ku_Mo_put (Nat.le_of_ble_eq_true rfl) (ze_Em P) ?_
  intro X C hR
  refine zk_lvs (lv' := [(0, .ref (S.1 68)), (1, .int x1), (2, .int x2), (3, .int x3)]) [0, 1, 2, 3] rfl ?_
  refine zk_iload_n C kd_Mo_put_0 rfl 1 rfl rfl ?_
  refine zk_iload_n C kd_Mo_put_1 rfl 2 rfl rfl ?_
  refine zk_callS (rn := { frames := 0, cells := 0, slots := 0, locals := 0 }) (As := [.int x1, .int x2]) (rest := []) C (zq_noPlace h (x1) (x2)) ku_Mo_noPlace kw2723 ks_Mo_noPlace rfl ⟨by decide, by decide⟩ ⟨by decide, by decide⟩ rfl (Nat.le_of_ble_eq_true rfl) kd_Mo_put_2 rfl (c1 := 0) (s1 := 0) rfl rfl (fun v w hp => ?_)
  rcases hp with ⟨g_1, rfl, rfl⟩ | ⟨g_2, rfl, rfl⟩
  · refine zk_stk (r' := [.int 0]) rfl ?_
    refine zk_if_ne (tgt := 26) C kd_Mo_put_5 (by decide) rfl (fun h_3 => absurd (by decide) h_3) (fun h_3 => ?_)
    refine zk_iload_n C kd_Mo_put_8 rfl 1 rfl rfl ?_
    refine zk_iload_n C kd_Mo_put_9 rfl 3 rfl rfl ?_
    refine zk_callS (rn := { frames := 0, cells := 0, slots := 0, locals := 0 }) (As := [.int x1, .int x3]) (rest := []) C (zq_noValue h (x1) (x3)) ku_Mo_noValue kw2726 ks_Mo_noValue rfl ⟨by decide, by decide⟩ ⟨by decide, by decide⟩ rfl (Nat.le_of_ble_eq_true rfl) kd_Mo_put_10 rfl (c1 := 0) (s1 := 0) rfl rfl (fun v w hp => ?_)
    rcases hp with ⟨g_4, rfl, rfl⟩ | ⟨g_5, rfl, rfl⟩
    · refine zk_stk (r' := [.int 0]) rfl ?_
      refine zk_if_ne (tgt := 26) C kd_Mo_put_13 (by decide) rfl (fun h_6 => absurd (by decide) h_6) (fun h_6 => ?_)
      refine zk_iload_n C kd_Mo_put_16 rfl 1 rfl rfl ?_
      refine zk_iconst (v := 1) C kd_Mo_put_17 (by decide) rfl ?_
      refine zk_icmp_eq (tgt := 26) C kd_Mo_put_18 (by decide) rfl (fun h_7 => ?_) (fun h_7 => ?_)
      · refine zk_iconst (v := (-1)) C kd_Mo_put_26 (by decide) rfl ?_
        exact zk_iret C hR kd_Mo_put_27 rfl rfl (Or.inl ⟨g_1, g_4, h_7, rfl, rfl⟩)
      · refine zk_iload_n C kd_Mo_put_21 rfl 1 rfl rfl ?_
        refine zk_iconst (v := 4) C kd_Mo_put_22 (by decide) rfl ?_
        refine zk_icmp_ne (tgt := 28) C kd_Mo_put_23 (by decide) rfl (fun h_8 => ?_) (fun h_8 => ?_)
        · refine zk_iload_n C kd_Mo_put_28 rfl 1 rfl rfl ?_
          refine zk_if_eq (tgt := 37) C kd_Mo_put_29 (by decide) rfl (fun h_9 => ?_) (fun h_9 => ?_)
          · refine zk_aload_n C kd_Mo_put_37 rfl 0 rfl rfl ?_
            refine zs_get (v := .ref (S.1 118)) C 68 90 rfl rfl rfl rfl ki_Mo (by decide) kw1773 kd_Mo_put_38 rfl ?_
            refine zk_iload_n C kd_Mo_put_41 rfl 1 rfl rfl ?_
            refine zk_iload_n C kd_Mo_put_42 rfl 2 rfl rfl ?_
            refine zk_callS (rn := { frames := 0, cells := 0, slots := 0, locals := 0 }) (As := [.int x1, .int x2]) (rest := [.ref (S.1 118)]) C (zq_spot h (x1) (x2)) ku_Mo_spot kw2729 ks_Mo_spot rfl ⟨by decide, by decide⟩ ⟨by decide, by decide⟩ rfl (Nat.le_of_ble_eq_true rfl) kd_Mo_put_43 rfl (c1 := 0) (s1 := 0) rfl rfl (fun v w hp => ?_)
            rcases hp with ⟨g_10, rfl, rfl⟩ | ⟨g_11, rfl, rfl⟩
            · refine zk_stk (r' := [.int (256 + x2), .ref (S.1 118)]) rfl ?_
              refine zk_iload_n C kd_Mo_put_46 rfl 3 rfl rfl ?_
              refine zs_iast C 118 rfl (zp_m2 (by assumption) (by assumption)) kd_Mo_put_47 rfl ?_
              refine zk_iconst (v := 0) C kd_Mo_put_48 (by decide) rfl ?_
              exact zk_iret C hR kd_Mo_put_49 rfl rfl (Or.inr (Or.inl ⟨g_1, g_4, h_7, h_8, h_9, g_10, rfl, rfl⟩))
            · refine zk_stk (r' := [.int x2, .ref (S.1 118)]) rfl ?_
              refine zk_iload_n C kd_Mo_put_46 rfl 3 rfl rfl ?_
              refine zs_iast C 118 rfl (zp_m1 (by assumption) (by assumption)) kd_Mo_put_47 rfl ?_
              refine zk_iconst (v := 0) C kd_Mo_put_48 (by decide) rfl ?_
              exact zk_iret C hR kd_Mo_put_49 rfl rfl (Or.inr (Or.inr (Or.inl ⟨g_1, g_4, h_7, h_8, h_9, g_11, rfl, rfl⟩)))
          · refine zk_iload_n C kd_Mo_put_32 rfl 1 rfl rfl ?_
            refine zk_iconst (v := 3) C kd_Mo_put_33 (by decide) rfl ?_
            refine zk_icmp_ne (tgt := 50) C kd_Mo_put_34 (by decide) rfl (fun h_12 => ?_) (fun h_12 => ?_)
            · refine zk_aload_n C kd_Mo_put_50 rfl 0 rfl rfl ?_
              refine zs_get (v := .int 0) C 68 82 rfl rfl (congrArg Value.int e_has) rfl ki_Mo (by decide) kw1765 kd_Mo_put_51 rfl ?_
              refine zk_if_ne (tgt := 60) C kd_Mo_put_54 (by decide) rfl (fun h_13 => absurd (by decide) h_13) (fun h_13 => ?_)
              refine zk_bipush (v := (-5)) C kd_Mo_put_57 (by decide) rfl ?_
              exact zk_iret C hR kd_Mo_put_59 rfl rfl (Or.inr (Or.inr (Or.inr (Or.inl ⟨g_1, g_4, h_7, h_8, h_9, h_12, rfl, rfl⟩))))
            · refine zk_aload_n C kd_Mo_put_37 rfl 0 rfl rfl ?_
              refine zs_get (v := .ref (S.1 118)) C 68 90 rfl rfl rfl rfl ki_Mo (by decide) kw1773 kd_Mo_put_38 rfl ?_
              refine zk_iload_n C kd_Mo_put_41 rfl 1 rfl rfl ?_
              refine zk_iload_n C kd_Mo_put_42 rfl 2 rfl rfl ?_
              refine zk_callS (rn := { frames := 0, cells := 0, slots := 0, locals := 0 }) (As := [.int x1, .int x2]) (rest := [.ref (S.1 118)]) C (zq_spot h (x1) (x2)) ku_Mo_spot kw2729 ks_Mo_spot rfl ⟨by decide, by decide⟩ ⟨by decide, by decide⟩ rfl (Nat.le_of_ble_eq_true rfl) kd_Mo_put_43 rfl (c1 := 0) (s1 := 0) rfl rfl (fun v w hp => ?_)
              rcases hp with ⟨g_14, rfl, rfl⟩ | ⟨g_15, rfl, rfl⟩
              · refine zk_stk (r' := [.int (256 + x2), .ref (S.1 118)]) rfl ?_
                refine zk_iload_n C kd_Mo_put_46 rfl 3 rfl rfl ?_
                refine zs_iast C 118 rfl (zp_m2 (by assumption) (by assumption)) kd_Mo_put_47 rfl ?_
                refine zk_iconst (v := 0) C kd_Mo_put_48 (by decide) rfl ?_
                exact zk_iret C hR kd_Mo_put_49 rfl rfl (Or.inr (Or.inr (Or.inr (Or.inr (Or.inl ⟨g_1, g_4, h_7, h_8, h_9, h_12, g_14, rfl, rfl⟩)))))
              · refine zk_stk (r' := [.int x2, .ref (S.1 118)]) rfl ?_
                refine zk_iload_n C kd_Mo_put_46 rfl 3 rfl rfl ?_
                refine zs_iast C 118 rfl (zp_m1 (by assumption) (by assumption)) kd_Mo_put_47 rfl ?_
                refine zk_iconst (v := 0) C kd_Mo_put_48 (by decide) rfl ?_
                exact zk_iret C hR kd_Mo_put_49 rfl rfl (Or.inr (Or.inr (Or.inr (Or.inr (Or.inr (Or.inl ⟨g_1, g_4, h_7, h_8, h_9, h_12, g_15, rfl, rfl⟩))))))
        · refine zk_iconst (v := (-1)) C kd_Mo_put_26 (by decide) rfl ?_
          exact zk_iret C hR kd_Mo_put_27 rfl rfl (Or.inr (Or.inr (Or.inr (Or.inr (Or.inr (Or.inr (Or.inl ⟨g_1, g_4, h_7, h_8, rfl, rfl⟩)))))))
    · refine zk_stk (r' := [.int 1]) rfl ?_
      refine zk_if_ne (tgt := 26) C kd_Mo_put_13 (by decide) rfl (fun h_16 => ?_) (fun h_16 => absurd h_16 (by decide))
      refine zk_iconst (v := (-1)) C kd_Mo_put_26 (by decide) rfl ?_
      exact zk_iret C hR kd_Mo_put_27 rfl rfl (Or.inr (Or.inr (Or.inr (Or.inr (Or.inr (Or.inr (Or.inr (Or.inl ⟨g_1, g_5, rfl, rfl⟩))))))))
  · refine zk_stk (r' := [.int 1]) rfl ?_
    refine zk_if_ne (tgt := 26) C kd_Mo_put_5 (by decide) rfl (fun h_17 => ?_) (fun h_17 => absurd h_17 (by decide))
    refine zk_iconst (v := (-1)) C kd_Mo_put_26 (by decide) rfl ?_
    exact zk_iret C hR kd_Mo_put_27 rfl rfl (Or.inr (Or.inr (Or.inr (Or.inr (Or.inr (Or.inr (Or.inr (Or.inr ⟨g_2, rfl, rfl⟩))))))))
set_option maxHeartbeats 4000000 in
set_option maxRecDepth 100000 in
/-- PlantKeeperModel.get -/
theorem zq_get {l : Launch} {D : va_G} {sz0 : Nat} {S : zs_T} {P : ze_T} (h : zs_H) (e_has : h.1 68 82 = 0) (x1 : Int32) (x2 : Int32) (m_in : ∀ j, h.2.1 118 j = 0) : zk_Sp (zs_G S l D sz0) (ze_E P) km_Mo_get { frames := 1, cells := 0, slots := 0, locals := 21 } [.ref (S.1 68), .int x1, .int x2] (zs_W S h) (fun v w => (zp_ok x1 x2 ∧ x1 = 0 ∧ 3 ≤ x1 ∧ v = some (.int 0) ∧ w = zs_W S h) ∨ (zp_ok x1 x2 ∧ x1 = 0 ∧ ¬ 3 ≤ x1 ∧ v = some (.int 0) ∧ w = zs_W S h) ∨ (zp_ok x1 x2 ∧ ¬ x1 = 0 ∧ ¬ x1 = 3 ∧ v = some (.int (-5)) ∧ w = zs_W S h) ∨ (zp_ok x1 x2 ∧ ¬ x1 = 0 ∧ x1 = 3 ∧ 3 ≤ x1 ∧ v = some (.int 0) ∧ w = zs_W S h) ∨ (zp_ok x1 x2 ∧ ¬ x1 = 0 ∧ x1 = 3 ∧ ¬ 3 ≤ x1 ∧ v = some (.int 0) ∧ w = zs_W S h) ∨ (¬ zp_ok x1 x2 ∧ v = some (.int (-1)) ∧ w = zs_W S h)) := by
  refine zk_met ku_Mo_get (Nat.le_of_ble_eq_true rfl) (ze_Em P) ?_
  intro X C hR
  refine zk_lvs (lv' := [(0, .ref (S.1 68)), (1, .int x1), (2, .int x2)]) [0, 1, 2] rfl ?_
  refine zk_iload_n C kd_Mo_get_0 rfl 1 rfl rfl ?_
  refine zk_iload_n C kd_Mo_get_1 rfl 2 rfl rfl ?_
  refine zk_callS (rn := { frames := 0, cells := 0, slots := 0, locals := 0 }) (As := [.int x1, .int x2]) (rest := []) C (zq_noPlace h (x1) (x2)) ku_Mo_noPlace kw2723 ks_Mo_noPlace rfl ⟨by decide, by decide⟩ ⟨by decide, by decide⟩ rfl (Nat.le_of_ble_eq_true rfl) kd_Mo_get_2 rfl (c1 := 0) (s1 := 0) rfl rfl (fun v w hp => ?_)
  rcases hp with ⟨g_1, rfl, rfl⟩ | ⟨g_2, rfl, rfl⟩
  · refine zk_stk (r' := [.int 0]) rfl ?_
    refine zk_if_eq (tgt := 10) C kd_Mo_get_5 (by decide) rfl (fun h_3 => ?_) (fun h_3 => absurd (by decide) h_3)
    refine zk_iload_n C kd_Mo_get_10 rfl 1 rfl rfl ?_
    refine zk_if_eq (tgt := 19) C kd_Mo_get_11 (by decide) rfl (fun h_4 => ?_) (fun h_4 => ?_)
    · refine zk_aload_n C kd_Mo_get_19 rfl 0 rfl rfl ?_
      refine zs_get (v := .ref (S.1 118)) C 68 90 rfl rfl rfl rfl ki_Mo (by decide) kw1773 kd_Mo_get_20 rfl ?_
      refine zk_iload_n C kd_Mo_get_23 rfl 1 rfl rfl ?_
      refine zk_iload_n C kd_Mo_get_24 rfl 2 rfl rfl ?_
      refine zk_callS (rn := { frames := 0, cells := 0, slots := 0, locals := 0 }) (As := [.int x1, .int x2]) (rest := [.ref (S.1 118)]) C (zq_spot h (x1) (x2)) ku_Mo_spot kw2729 ks_Mo_spot rfl ⟨by decide, by decide⟩ ⟨by decide, by decide⟩ rfl (Nat.le_of_ble_eq_true rfl) kd_Mo_get_25 rfl (c1 := 0) (s1 := 0) rfl rfl (fun v w hp => ?_)
      rcases hp with ⟨g_5, rfl, rfl⟩ | ⟨g_6, rfl, rfl⟩
      · refine zk_stk (r' := [.int (256 + x2), .ref (S.1 118)]) rfl ?_
        refine zs_iald C 118 rfl (zp_m2 (by assumption) (by assumption)) kd_Mo_get_28 rfl ?_
        refine zk_stk (r' := [.int 0]) (by rw [m_in]) ?_
        exact zk_iret C hR kd_Mo_get_29 rfl rfl (Or.inl ⟨g_1, h_4, g_5, rfl, rfl⟩)
      · refine zk_stk (r' := [.int x2, .ref (S.1 118)]) rfl ?_
        refine zs_iald C 118 rfl (zp_m1 (by assumption) (by assumption)) kd_Mo_get_28 rfl ?_
        refine zk_stk (r' := [.int 0]) (by rw [m_in]) ?_
        exact zk_iret C hR kd_Mo_get_29 rfl rfl (Or.inr (Or.inl ⟨g_1, h_4, g_6, rfl, rfl⟩))
    · refine zk_iload_n C kd_Mo_get_14 rfl 1 rfl rfl ?_
      refine zk_iconst (v := 3) C kd_Mo_get_15 (by decide) rfl ?_
      refine zk_icmp_ne (tgt := 30) C kd_Mo_get_16 (by decide) rfl (fun h_7 => ?_) (fun h_7 => ?_)
      · refine zk_aload_n C kd_Mo_get_30 rfl 0 rfl rfl ?_
        refine zs_get (v := .int 0) C 68 82 rfl rfl (congrArg Value.int e_has) rfl ki_Mo (by decide) kw1765 kd_Mo_get_31 rfl ?_
        refine zk_if_ne (tgt := 40) C kd_Mo_get_34 (by decide) rfl (fun h_8 => absurd (by decide) h_8) (fun h_8 => ?_)
        refine zk_bipush (v := (-5)) C kd_Mo_get_37 (by decide) rfl ?_
        exact zk_iret C hR kd_Mo_get_39 rfl rfl (Or.inr (Or.inr (Or.inl ⟨g_1, h_4, h_7, rfl, rfl⟩)))
      · refine zk_aload_n C kd_Mo_get_19 rfl 0 rfl rfl ?_
        refine zs_get (v := .ref (S.1 118)) C 68 90 rfl rfl rfl rfl ki_Mo (by decide) kw1773 kd_Mo_get_20 rfl ?_
        refine zk_iload_n C kd_Mo_get_23 rfl 1 rfl rfl ?_
        refine zk_iload_n C kd_Mo_get_24 rfl 2 rfl rfl ?_
        refine zk_callS (rn := { frames := 0, cells := 0, slots := 0, locals := 0 }) (As := [.int x1, .int x2]) (rest := [.ref (S.1 118)]) C (zq_spot h (x1) (x2)) ku_Mo_spot kw2729 ks_Mo_spot rfl ⟨by decide, by decide⟩ ⟨by decide, by decide⟩ rfl (Nat.le_of_ble_eq_true rfl) kd_Mo_get_25 rfl (c1 := 0) (s1 := 0) rfl rfl (fun v w hp => ?_)
        rcases hp with ⟨g_9, rfl, rfl⟩ | ⟨g_10, rfl, rfl⟩
        · refine zk_stk (r' := [.int (256 + x2), .ref (S.1 118)]) rfl ?_
          refine zs_iald C 118 rfl (zp_m2 (by assumption) (by assumption)) kd_Mo_get_28 rfl ?_
          refine zk_stk (r' := [.int 0]) (by rw [m_in]) ?_
          exact zk_iret C hR kd_Mo_get_29 rfl rfl (Or.inr (Or.inr (Or.inr (Or.inl ⟨g_1, h_4, h_7, g_9, rfl, rfl⟩))))
        · refine zk_stk (r' := [.int x2, .ref (S.1 118)]) rfl ?_
          refine zs_iald C 118 rfl (zp_m1 (by assumption) (by assumption)) kd_Mo_get_28 rfl ?_
          refine zk_stk (r' := [.int 0]) (by rw [m_in]) ?_
          exact zk_iret C hR kd_Mo_get_29 rfl rfl (Or.inr (Or.inr (Or.inr (Or.inr (Or.inl ⟨g_1, h_4, h_7, g_10, rfl, rfl⟩)))))
  · refine zk_stk (r' := [.int 1]) rfl ?_
    refine zk_if_eq (tgt := 10) C kd_Mo_get_5 (by decide) rfl (fun h_11 => absurd h_11 (by decide)) (fun h_11 => ?_)
    refine zk_iconst (v := (-1)) C kd_Mo_get_8 (by decide) rfl ?_
    exact zk_iret C hR kd_Mo_get_9 rfl rfl (Or.inr (Or.inr (Or.inr (Or.inr (Or.inr ⟨g_2, rfl, rfl⟩)))))
set_option maxHeartbeats 4000000 in
set_option maxRecDepth 100000 in
/-- PlantKeeperModel.safe -/
theorem zq_safe {l : Launch} {D : va_G} {sz0 : Nat} {S : zs_T} {P : ze_T} (h : zs_H) (x1 : Int32) (x2 : Int32) (x3 : Int32) : zk_Sp (zs_G S l D sz0) (ze_E P) km_Mo_safe { frames := 1, cells := 0, slots := 0, locals := 21 } [.ref (S.1 68), .int x1, .int x2, .int x3] (zs_W S h) (fun v w => (x1 = 1 ∧ zp_ok x1 x2 ∧ zp_val x1 x3 ∧ 3 ≤ x1 ∧ v = some (.int 0) ∧ w = zs_W S (zs_uM h 120 ((256 + x2)).toNatClampNeg x3)) ∨ (x1 = 1 ∧ zp_ok x1 x2 ∧ zp_val x1 x3 ∧ ¬ 3 ≤ x1 ∧ v = some (.int 0) ∧ w = zs_W S (zs_uM h 120 (x2).toNatClampNeg x3)) ∨ (x1 = 1 ∧ zp_ok x1 x2 ∧ ¬ zp_val x1 x3 ∧ v = some (.int (-1)) ∧ w = zs_W S h) ∨ (x1 = 1 ∧ ¬ zp_ok x1 x2 ∧ v = some (.int (-1)) ∧ w = zs_W S h) ∨ (¬ x1 = 1 ∧ ¬ x1 = 4 ∧ v = some (.int (-1)) ∧ w = zs_W S h) ∨ (¬ x1 = 1 ∧ x1 = 4 ∧ zp_ok x1 x2 ∧ zp_val x1 x3 ∧ 3 ≤ x1 ∧ v = some (.int 0) ∧ w = zs_W S (zs_uM h 120 ((256 + x2)).toNatClampNeg x3)) ∨ (¬ x1 = 1 ∧ x1 = 4 ∧ zp_ok x1 x2 ∧ zp_val x1 x3 ∧ ¬ 3 ≤ x1 ∧ v = some (.int 0) ∧ w = zs_W S (zs_uM h 120 (x2).toNatClampNeg x3)) ∨ (¬ x1 = 1 ∧ x1 = 4 ∧ zp_ok x1 x2 ∧ ¬ zp_val x1 x3 ∧ v = some (.int (-1)) ∧ w = zs_W S h) ∨ (¬ x1 = 1 ∧ x1 = 4 ∧ ¬ zp_ok x1 x2 ∧ v = some (.int (-1)) ∧ w = zs_W S h)) := by
  refine zk_met ku_Mo_safe (Nat.le_of_ble_eq_true rfl) (ze_Em P) ?_
  intro X C hR
  refine zk_lvs (lv' := [(0, .ref (S.1 68)), (1, .int x1), (2, .int x2), (3, .int x3)]) [0, 1, 2, 3] rfl ?_
  refine zk_iload_n C kd_Mo_safe_0 rfl 1 rfl rfl ?_
  refine zk_iconst (v := 1) C kd_Mo_safe_1 (by decide) rfl ?_
  refine zk_icmp_eq (tgt := 10) C kd_Mo_safe_2 (by decide) rfl (fun h_1 => ?_) (fun h_1 => ?_)
  · refine zk_iload_n C kd_Mo_safe_10 rfl 1 rfl rfl ?_
    refine zk_iload_n C kd_Mo_safe_11 rfl 2 rfl rfl ?_
    refine zk_callS (rn := { frames := 0, cells := 0, slots := 0, locals := 0 }) (As := [.int x1, .int x2]) (rest := []) C (zq_noPlace h (x1) (x2)) ku_Mo_noPlace kw2723 ks_Mo_noPlace rfl ⟨by decide, by decide⟩ ⟨by decide, by decide⟩ rfl (Nat.le_of_ble_eq_true rfl) kd_Mo_safe_12 rfl (c1 := 0) (s1 := 0) rfl rfl (fun v w hp => ?_)
    rcases hp with ⟨g_2, rfl, rfl⟩ | ⟨g_3, rfl, rfl⟩
    · refine zk_stk (r' := [.int 0]) rfl ?_
      refine zk_if_ne (tgt := 26) C kd_Mo_safe_15 (by decide) rfl (fun h_4 => absurd (by decide) h_4) (fun h_4 => ?_)
      refine zk_iload_n C kd_Mo_safe_18 rfl 1 rfl rfl ?_
      refine zk_iload_n C kd_Mo_safe_19 rfl 3 rfl rfl ?_
      refine zk_callS (rn := { frames := 0, cells := 0, slots := 0, locals := 0 }) (As := [.int x1, .int x3]) (rest := []) C (zq_noValue h (x1) (x3)) ku_Mo_noValue kw2726 ks_Mo_noValue rfl ⟨by decide, by decide⟩ ⟨by decide, by decide⟩ rfl (Nat.le_of_ble_eq_true rfl) kd_Mo_safe_20 rfl (c1 := 0) (s1 := 0) rfl rfl (fun v w hp => ?_)
      rcases hp with ⟨g_5, rfl, rfl⟩ | ⟨g_6, rfl, rfl⟩
      · refine zk_stk (r' := [.int 0]) rfl ?_
        refine zk_if_eq (tgt := 28) C kd_Mo_safe_23 (by decide) rfl (fun h_7 => ?_) (fun h_7 => absurd (by decide) h_7)
        refine zk_aload_n C kd_Mo_safe_28 rfl 0 rfl rfl ?_
        refine zs_get (v := .ref (S.1 120)) C 68 92 rfl rfl rfl rfl ki_Mo (by decide) kw1775 kd_Mo_safe_29 rfl ?_
        refine zk_iload_n C kd_Mo_safe_32 rfl 1 rfl rfl ?_
        refine zk_iload_n C kd_Mo_safe_33 rfl 2 rfl rfl ?_
        refine zk_callS (rn := { frames := 0, cells := 0, slots := 0, locals := 0 }) (As := [.int x1, .int x2]) (rest := [.ref (S.1 120)]) C (zq_spot h (x1) (x2)) ku_Mo_spot kw2729 ks_Mo_spot rfl ⟨by decide, by decide⟩ ⟨by decide, by decide⟩ rfl (Nat.le_of_ble_eq_true rfl) kd_Mo_safe_34 rfl (c1 := 0) (s1 := 0) rfl rfl (fun v w hp => ?_)
        rcases hp with ⟨g_8, rfl, rfl⟩ | ⟨g_9, rfl, rfl⟩
        · refine zk_stk (r' := [.int (256 + x2), .ref (S.1 120)]) rfl ?_
          refine zk_iload_n C kd_Mo_safe_37 rfl 3 rfl rfl ?_
          refine zs_iast C 120 rfl (zp_m2 (by assumption) (by assumption)) kd_Mo_safe_38 rfl ?_
          refine zk_iconst (v := 0) C kd_Mo_safe_39 (by decide) rfl ?_
          exact zk_iret C hR kd_Mo_safe_40 rfl rfl (Or.inl ⟨h_1, g_2, g_5, g_8, rfl, rfl⟩)
        · refine zk_stk (r' := [.int x2, .ref (S.1 120)]) rfl ?_
          refine zk_iload_n C kd_Mo_safe_37 rfl 3 rfl rfl ?_
          refine zs_iast C 120 rfl (zp_m1 (by assumption) (by assumption)) kd_Mo_safe_38 rfl ?_
          refine zk_iconst (v := 0) C kd_Mo_safe_39 (by decide) rfl ?_
          exact zk_iret C hR kd_Mo_safe_40 rfl rfl (Or.inr (Or.inl ⟨h_1, g_2, g_5, g_9, rfl, rfl⟩))
      · refine zk_stk (r' := [.int 1]) rfl ?_
        refine zk_if_eq (tgt := 28) C kd_Mo_safe_23 (by decide) rfl (fun h_10 => absurd h_10 (by decide)) (fun h_10 => ?_)
        refine zk_iconst (v := (-1)) C kd_Mo_safe_26 (by decide) rfl ?_
        exact zk_iret C hR kd_Mo_safe_27 rfl rfl (Or.inr (Or.inr (Or.inl ⟨h_1, g_2, g_6, rfl, rfl⟩)))
    · refine zk_stk (r' := [.int 1]) rfl ?_
      refine zk_if_ne (tgt := 26) C kd_Mo_safe_15 (by decide) rfl (fun h_11 => ?_) (fun h_11 => absurd h_11 (by decide))
      refine zk_iconst (v := (-1)) C kd_Mo_safe_26 (by decide) rfl ?_
      exact zk_iret C hR kd_Mo_safe_27 rfl rfl (Or.inr (Or.inr (Or.inr (Or.inl ⟨h_1, g_3, rfl, rfl⟩))))
  · refine zk_iload_n C kd_Mo_safe_5 rfl 1 rfl rfl ?_
    refine zk_iconst (v := 4) C kd_Mo_safe_6 (by decide) rfl ?_
    refine zk_icmp_ne (tgt := 26) C kd_Mo_safe_7 (by decide) rfl (fun h_12 => ?_) (fun h_12 => ?_)
    · refine zk_iconst (v := (-1)) C kd_Mo_safe_26 (by decide) rfl ?_
      exact zk_iret C hR kd_Mo_safe_27 rfl rfl (Or.inr (Or.inr (Or.inr (Or.inr (Or.inl ⟨h_1, h_12, rfl, rfl⟩)))))
    · refine zk_iload_n C kd_Mo_safe_10 rfl 1 rfl rfl ?_
      refine zk_iload_n C kd_Mo_safe_11 rfl 2 rfl rfl ?_
      refine zk_callS (rn := { frames := 0, cells := 0, slots := 0, locals := 0 }) (As := [.int x1, .int x2]) (rest := []) C (zq_noPlace h (x1) (x2)) ku_Mo_noPlace kw2723 ks_Mo_noPlace rfl ⟨by decide, by decide⟩ ⟨by decide, by decide⟩ rfl (Nat.le_of_ble_eq_true rfl) kd_Mo_safe_12 rfl (c1 := 0) (s1 := 0) rfl rfl (fun v w hp => ?_)
      rcases hp with ⟨g_13, rfl, rfl⟩ | ⟨g_14, rfl, rfl⟩
      · refine zk_stk (r' := [.int 0]) rfl ?_
        refine zk_if_ne (tgt := 26) C kd_Mo_safe_15 (by decide) rfl (fun h_15 => absurd (by decide) h_15) (fun h_15 => ?_)
        refine zk_iload_n C kd_Mo_safe_18 rfl 1 rfl rfl ?_
        refine zk_iload_n C kd_Mo_safe_19 rfl 3 rfl rfl ?_
        refine zk_callS (rn := { frames := 0, cells := 0, slots := 0, locals := 0 }) (As := [.int x1, .int x3]) (rest := []) C (zq_noValue h (x1) (x3)) ku_Mo_noValue kw2726 ks_Mo_noValue rfl ⟨by decide, by decide⟩ ⟨by decide, by decide⟩ rfl (Nat.le_of_ble_eq_true rfl) kd_Mo_safe_20 rfl (c1 := 0) (s1 := 0) rfl rfl (fun v w hp => ?_)
        rcases hp with ⟨g_16, rfl, rfl⟩ | ⟨g_17, rfl, rfl⟩
        · refine zk_stk (r' := [.int 0]) rfl ?_
          refine zk_if_eq (tgt := 28) C kd_Mo_safe_23 (by decide) rfl (fun h_18 => ?_) (fun h_18 => absurd (by decide) h_18)
          refine zk_aload_n C kd_Mo_safe_28 rfl 0 rfl rfl ?_
          refine zs_get (v := .ref (S.1 120)) C 68 92 rfl rfl rfl rfl ki_Mo (by decide) kw1775 kd_Mo_safe_29 rfl ?_
          refine zk_iload_n C kd_Mo_safe_32 rfl 1 rfl rfl ?_
          refine zk_iload_n C kd_Mo_safe_33 rfl 2 rfl rfl ?_
          refine zk_callS (rn := { frames := 0, cells := 0, slots := 0, locals := 0 }) (As := [.int x1, .int x2]) (rest := [.ref (S.1 120)]) C (zq_spot h (x1) (x2)) ku_Mo_spot kw2729 ks_Mo_spot rfl ⟨by decide, by decide⟩ ⟨by decide, by decide⟩ rfl (Nat.le_of_ble_eq_true rfl) kd_Mo_safe_34 rfl (c1 := 0) (s1 := 0) rfl rfl (fun v w hp => ?_)
          rcases hp with ⟨g_19, rfl, rfl⟩ | ⟨g_20, rfl, rfl⟩
          · refine zk_stk (r' := [.int (256 + x2), .ref (S.1 120)]) rfl ?_
            refine zk_iload_n C kd_Mo_safe_37 rfl 3 rfl rfl ?_
            refine zs_iast C 120 rfl (zp_m2 (by assumption) (by assumption)) kd_Mo_safe_38 rfl ?_
            refine zk_iconst (v := 0) C kd_Mo_safe_39 (by decide) rfl ?_
            exact zk_iret C hR kd_Mo_safe_40 rfl rfl (Or.inr (Or.inr (Or.inr (Or.inr (Or.inr (Or.inl ⟨h_1, h_12, g_13, g_16, g_19, rfl, rfl⟩))))))
          · refine zk_stk (r' := [.int x2, .ref (S.1 120)]) rfl ?_
            refine zk_iload_n C kd_Mo_safe_37 rfl 3 rfl rfl ?_
            refine zs_iast C 120 rfl (zp_m1 (by assumption) (by assumption)) kd_Mo_safe_38 rfl ?_
            refine zk_iconst (v := 0) C kd_Mo_safe_39 (by decide) rfl ?_
            exact zk_iret C hR kd_Mo_safe_40 rfl rfl (Or.inr (Or.inr (Or.inr (Or.inr (Or.inr (Or.inr (Or.inl ⟨h_1, h_12, g_13, g_16, g_20, rfl, rfl⟩)))))))
        · refine zk_stk (r' := [.int 1]) rfl ?_
          refine zk_if_eq (tgt := 28) C kd_Mo_safe_23 (by decide) rfl (fun h_21 => absurd h_21 (by decide)) (fun h_21 => ?_)
          refine zk_iconst (v := (-1)) C kd_Mo_safe_26 (by decide) rfl ?_
          exact zk_iret C hR kd_Mo_safe_27 rfl rfl (Or.inr (Or.inr (Or.inr (Or.inr (Or.inr (Or.inr (Or.inr (Or.inl ⟨h_1, h_12, g_13, g_17, rfl, rfl⟩))))))))
      · refine zk_stk (r' := [.int 1]) rfl ?_
        refine zk_if_ne (tgt := 26) C kd_Mo_safe_15 (by decide) rfl (fun h_22 => ?_) (fun h_22 => absurd h_22 (by decide))
        refine zk_iconst (v := (-1)) C kd_Mo_safe_26 (by decide) rfl ?_
        exact zk_iret C hR kd_Mo_safe_27 rfl rfl (Or.inr (Or.inr (Or.inr (Or.inr (Or.inr (Or.inr (Or.inr (Or.inr ⟨h_1, h_12, g_14, rfl, rfl⟩))))))))
set_option maxHeartbeats 4000000 in
set_option maxRecDepth 100000 in
/-- PlantKeeperModel.bring -/
theorem zq_bring0 {l : Launch} {D : va_G} {sz0 : Nat} {S : zs_T} {P : ze_T} (h : zs_H) (e_taped : h.1 68 78 = 0) (x1 : Int32) : zk_Sp (zs_G S l D sz0) (ze_E P) km_Mo_bring { frames := 0, cells := 0, slots := 0, locals := 0 } [.ref (S.1 68), .int x1] (zs_W S h) (fun v w => (v = none ∧ w = zs_W S (zs_uF (zs_uM (zs_uF (zs_uM (zs_uF (zs_uM (zs_uF (zs_uM h 116 ((0 : Int32)).toNatClampNeg (vp_nar .byte (((x1 >>> ((24 : Int32) &&& 31))).toInt8.toInt32))) 68 78 1) 116 ((1 : Int32)).toNatClampNeg (vp_nar .byte (((x1 >>> ((16 : Int32) &&& 31))).toInt8.toInt32))) 68 78 2) 116 ((2 : Int32)).toNatClampNeg (vp_nar .byte (((x1 >>> ((8 : Int32) &&& 31))).toInt8.toInt32))) 68 78 3) 116 ((3 : Int32)).toNatClampNeg (vp_nar .byte (((x1 >>> ((0 : Int32) &&& 31))).toInt8.toInt32))) 68 78 4))) := by
  refine zk_met ku_Mo_bring (Nat.le_of_ble_eq_true rfl) (ze_Em P) ?_
  intro X C hR
  refine zk_lvs (lv' := [(0, .ref (S.1 68)), (1, .int x1)]) [0, 1] rfl ?_
  refine zk_bipush (v := 24) C kd_Mo_bring_0 (by decide) rfl ?_
  refine zk_istore_n (lv' := [(2, _), (0, _), (1, _)]) C kd_Mo_bring_2 rfl (by decide) rfl rfl ?_
  refine zk_iload_n C kd_Mo_bring_3 rfl 0 rfl rfl ?_
  refine zk_if_lt (tgt := 36) C kd_Mo_bring_4 (by decide) rfl (fun h_1 => absurd h_1 (by decide)) (fun h_1 => ?_)
  refine zk_aload_n C kd_Mo_bring_7 rfl 1 rfl rfl ?_
  refine zs_get (v := .ref (S.1 116)) C 68 79 rfl rfl rfl rfl ki_Mo (by decide) kw1762 kd_Mo_bring_8 rfl ?_
  refine zk_aload_n C kd_Mo_bring_11 rfl 1 rfl rfl ?_
  refine zs_get (v := .int 0) C 68 78 rfl rfl (congrArg Value.int e_taped) rfl ki_Mo (by decide) kw1761 kd_Mo_bring_12 rfl ?_
  refine zk_iload_n C kd_Mo_bring_15 rfl 2 rfl rfl ?_
  refine zk_iload_n C kd_Mo_bring_16 rfl 0 rfl rfl ?_
  refine zk_ishr C kd_Mo_bring_17 rfl ?_
  refine zk_i2b C kd_Mo_bring_18 rfl ?_
  refine zs_bast C 116 rfl (zp_dec rfl) kd_Mo_bring_19 rfl ?_
  refine zk_aload_n C kd_Mo_bring_20 rfl 1 rfl rfl ?_
  refine zk_dup C kd_Mo_bring_21 rfl rfl ?_
  refine zs_get (v := .int 0) C 68 78 rfl rfl (congrArg Value.int e_taped) rfl ki_Mo (by decide) kw1761 kd_Mo_bring_22 rfl ?_
  refine zk_iconst (v := 1) C kd_Mo_bring_25 (by decide) rfl ?_
  refine zk_iadd C kd_Mo_bring_26 rfl ?_
  refine zk_stk (r' := [.int 1, .ref (S.1 68)]) (by rw [show (0 : Int32) + 1 = 1 by decide]) ?_
  refine zs_put (ty := .int) C 68 78 1 rfl rfl rfl rfl ki_Mo ky_Mo ko_Mo kn_Mo (by decide) kw1761 rfl rfl rfl rfl (by decide) kd_Mo_bring_27 rfl ?_
  refine zk_iinc (v := 16) (lv' := [(2, _), (0, _), (1, _)]) C kd_Mo_bring_30 0 rfl (by decide) (by decide) rfl rfl ?_
  refine zk_goto (tgt := 3) C kd_Mo_bring_33 (by decide) ?_
  refine zk_iload_n C kd_Mo_bring_3 rfl 0 rfl rfl ?_
  refine zk_if_lt (tgt := 36) C kd_Mo_bring_4 (by decide) rfl (fun h_2 => absurd h_2 (by decide)) (fun h_2 => ?_)
  refine zk_aload_n C kd_Mo_bring_7 rfl 1 rfl rfl ?_
  refine zs_get (v := .ref (S.1 116)) C 68 79 rfl rfl rfl rfl ki_Mo (by decide) kw1762 kd_Mo_bring_8 rfl ?_
  refine zk_aload_n C kd_Mo_bring_11 rfl 1 rfl rfl ?_
  refine zs_get (v := .int 1) C 68 78 rfl rfl rfl rfl ki_Mo (by decide) kw1761 kd_Mo_bring_12 rfl ?_
  refine zk_iload_n C kd_Mo_bring_15 rfl 2 rfl rfl ?_
  refine zk_iload_n C kd_Mo_bring_16 rfl 0 rfl rfl ?_
  refine zk_ishr C kd_Mo_bring_17 rfl ?_
  refine zk_i2b C kd_Mo_bring_18 rfl ?_
  refine zs_bast C 116 rfl (zp_dec rfl) kd_Mo_bring_19 rfl ?_
  refine zk_aload_n C kd_Mo_bring_20 rfl 1 rfl rfl ?_
  refine zk_dup C kd_Mo_bring_21 rfl rfl ?_
  refine zs_get (v := .int 1) C 68 78 rfl rfl rfl rfl ki_Mo (by decide) kw1761 kd_Mo_bring_22 rfl ?_
  refine zk_iconst (v := 1) C kd_Mo_bring_25 (by decide) rfl ?_
  refine zk_iadd C kd_Mo_bring_26 rfl ?_
  refine zk_stk (r' := [.int 2, .ref (S.1 68)]) (by rw [show (1 : Int32) + 1 = 2 by decide]) ?_
  refine zs_put (ty := .int) C 68 78 2 rfl rfl rfl rfl ki_Mo ky_Mo ko_Mo kn_Mo (by decide) kw1761 rfl rfl rfl rfl (by decide) kd_Mo_bring_27 rfl ?_
  refine zk_iinc (v := 8) (lv' := [(2, _), (0, _), (1, _)]) C kd_Mo_bring_30 0 rfl (by decide) (by decide) rfl rfl ?_
  refine zk_goto (tgt := 3) C kd_Mo_bring_33 (by decide) ?_
  refine zk_iload_n C kd_Mo_bring_3 rfl 0 rfl rfl ?_
  refine zk_if_lt (tgt := 36) C kd_Mo_bring_4 (by decide) rfl (fun h_3 => absurd h_3 (by decide)) (fun h_3 => ?_)
  refine zk_aload_n C kd_Mo_bring_7 rfl 1 rfl rfl ?_
  refine zs_get (v := .ref (S.1 116)) C 68 79 rfl rfl rfl rfl ki_Mo (by decide) kw1762 kd_Mo_bring_8 rfl ?_
  refine zk_aload_n C kd_Mo_bring_11 rfl 1 rfl rfl ?_
  refine zs_get (v := .int 2) C 68 78 rfl rfl rfl rfl ki_Mo (by decide) kw1761 kd_Mo_bring_12 rfl ?_
  refine zk_iload_n C kd_Mo_bring_15 rfl 2 rfl rfl ?_
  refine zk_iload_n C kd_Mo_bring_16 rfl 0 rfl rfl ?_
  refine zk_ishr C kd_Mo_bring_17 rfl ?_
  refine zk_i2b C kd_Mo_bring_18 rfl ?_
  refine zs_bast C 116 rfl (zp_dec rfl) kd_Mo_bring_19 rfl ?_
  refine zk_aload_n C kd_Mo_bring_20 rfl 1 rfl rfl ?_
  refine zk_dup C kd_Mo_bring_21 rfl rfl ?_
  refine zs_get (v := .int 2) C 68 78 rfl rfl rfl rfl ki_Mo (by decide) kw1761 kd_Mo_bring_22 rfl ?_
  refine zk_iconst (v := 1) C kd_Mo_bring_25 (by decide) rfl ?_
  refine zk_iadd C kd_Mo_bring_26 rfl ?_
  refine zk_stk (r' := [.int 3, .ref (S.1 68)]) (by rw [show (2 : Int32) + 1 = 3 by decide]) ?_
  refine zs_put (ty := .int) C 68 78 3 rfl rfl rfl rfl ki_Mo ky_Mo ko_Mo kn_Mo (by decide) kw1761 rfl rfl rfl rfl (by decide) kd_Mo_bring_27 rfl ?_
  refine zk_iinc (v := 0) (lv' := [(2, _), (0, _), (1, _)]) C kd_Mo_bring_30 0 rfl (by decide) (by decide) rfl rfl ?_
  refine zk_goto (tgt := 3) C kd_Mo_bring_33 (by decide) ?_
  refine zk_iload_n C kd_Mo_bring_3 rfl 0 rfl rfl ?_
  refine zk_if_lt (tgt := 36) C kd_Mo_bring_4 (by decide) rfl (fun h_4 => absurd h_4 (by decide)) (fun h_4 => ?_)
  refine zk_aload_n C kd_Mo_bring_7 rfl 1 rfl rfl ?_
  refine zs_get (v := .ref (S.1 116)) C 68 79 rfl rfl rfl rfl ki_Mo (by decide) kw1762 kd_Mo_bring_8 rfl ?_
  refine zk_aload_n C kd_Mo_bring_11 rfl 1 rfl rfl ?_
  refine zs_get (v := .int 3) C 68 78 rfl rfl rfl rfl ki_Mo (by decide) kw1761 kd_Mo_bring_12 rfl ?_
  refine zk_iload_n C kd_Mo_bring_15 rfl 2 rfl rfl ?_
  refine zk_iload_n C kd_Mo_bring_16 rfl 0 rfl rfl ?_
  refine zk_ishr C kd_Mo_bring_17 rfl ?_
  refine zk_i2b C kd_Mo_bring_18 rfl ?_
  refine zs_bast C 116 rfl (zp_dec rfl) kd_Mo_bring_19 rfl ?_
  refine zk_aload_n C kd_Mo_bring_20 rfl 1 rfl rfl ?_
  refine zk_dup C kd_Mo_bring_21 rfl rfl ?_
  refine zs_get (v := .int 3) C 68 78 rfl rfl rfl rfl ki_Mo (by decide) kw1761 kd_Mo_bring_22 rfl ?_
  refine zk_iconst (v := 1) C kd_Mo_bring_25 (by decide) rfl ?_
  refine zk_iadd C kd_Mo_bring_26 rfl ?_
  refine zk_stk (r' := [.int 4, .ref (S.1 68)]) (by rw [show (3 : Int32) + 1 = 4 by decide]) ?_
  refine zs_put (ty := .int) C 68 78 4 rfl rfl rfl rfl ki_Mo ky_Mo ko_Mo kn_Mo (by decide) kw1761 rfl rfl rfl rfl (by decide) kd_Mo_bring_27 rfl ?_
  refine zk_iinc (v := (-8)) (lv' := [(2, _), (0, _), (1, _)]) C kd_Mo_bring_30 0 rfl (by decide) (by decide) rfl rfl ?_
  refine zk_goto (tgt := 3) C kd_Mo_bring_33 (by decide) ?_
  refine zk_iload_n C kd_Mo_bring_3 rfl 0 rfl rfl ?_
  refine zk_if_lt (tgt := 36) C kd_Mo_bring_4 (by decide) rfl (fun h_5 => ?_) (fun h_5 => absurd (by decide) h_5)
  exact zk_vret C hR kd_Mo_bring_36 rfl rfl ⟨rfl, rfl⟩
set_option maxHeartbeats 4000000 in
set_option maxRecDepth 100000 in
/-- PlantKeeperModel.bring -/
theorem zq_bring1 {l : Launch} {D : va_G} {sz0 : Nat} {S : zs_T} {P : ze_T} (h : zs_H) (e_taped : h.1 68 78 = 4) (x1 : Int32) : zk_Sp (zs_G S l D sz0) (ze_E P) km_Mo_bring { frames := 0, cells := 0, slots := 0, locals := 0 } [.ref (S.1 68), .int x1] (zs_W S h) (fun v w => (v = none ∧ w = zs_W S (zs_uF (zs_uM (zs_uF (zs_uM (zs_uF (zs_uM (zs_uF (zs_uM h 116 ((4 : Int32)).toNatClampNeg (vp_nar .byte (((x1 >>> ((24 : Int32) &&& 31))).toInt8.toInt32))) 68 78 5) 116 ((5 : Int32)).toNatClampNeg (vp_nar .byte (((x1 >>> ((16 : Int32) &&& 31))).toInt8.toInt32))) 68 78 6) 116 ((6 : Int32)).toNatClampNeg (vp_nar .byte (((x1 >>> ((8 : Int32) &&& 31))).toInt8.toInt32))) 68 78 7) 116 ((7 : Int32)).toNatClampNeg (vp_nar .byte (((x1 >>> ((0 : Int32) &&& 31))).toInt8.toInt32))) 68 78 8))) := by
  refine zk_met ku_Mo_bring (Nat.le_of_ble_eq_true rfl) (ze_Em P) ?_
  intro X C hR
  refine zk_lvs (lv' := [(0, .ref (S.1 68)), (1, .int x1)]) [0, 1] rfl ?_
  refine zk_bipush (v := 24) C kd_Mo_bring_0 (by decide) rfl ?_
  refine zk_istore_n (lv' := [(2, _), (0, _), (1, _)]) C kd_Mo_bring_2 rfl (by decide) rfl rfl ?_
  refine zk_iload_n C kd_Mo_bring_3 rfl 0 rfl rfl ?_
  refine zk_if_lt (tgt := 36) C kd_Mo_bring_4 (by decide) rfl (fun h_1 => absurd h_1 (by decide)) (fun h_1 => ?_)
  refine zk_aload_n C kd_Mo_bring_7 rfl 1 rfl rfl ?_
  refine zs_get (v := .ref (S.1 116)) C 68 79 rfl rfl rfl rfl ki_Mo (by decide) kw1762 kd_Mo_bring_8 rfl ?_
  refine zk_aload_n C kd_Mo_bring_11 rfl 1 rfl rfl ?_
  refine zs_get (v := .int 4) C 68 78 rfl rfl (congrArg Value.int e_taped) rfl ki_Mo (by decide) kw1761 kd_Mo_bring_12 rfl ?_
  refine zk_iload_n C kd_Mo_bring_15 rfl 2 rfl rfl ?_
  refine zk_iload_n C kd_Mo_bring_16 rfl 0 rfl rfl ?_
  refine zk_ishr C kd_Mo_bring_17 rfl ?_
  refine zk_i2b C kd_Mo_bring_18 rfl ?_
  refine zs_bast C 116 rfl (zp_dec rfl) kd_Mo_bring_19 rfl ?_
  refine zk_aload_n C kd_Mo_bring_20 rfl 1 rfl rfl ?_
  refine zk_dup C kd_Mo_bring_21 rfl rfl ?_
  refine zs_get (v := .int 4) C 68 78 rfl rfl (congrArg Value.int e_taped) rfl ki_Mo (by decide) kw1761 kd_Mo_bring_22 rfl ?_
  refine zk_iconst (v := 1) C kd_Mo_bring_25 (by decide) rfl ?_
  refine zk_iadd C kd_Mo_bring_26 rfl ?_
  refine zk_stk (r' := [.int 5, .ref (S.1 68)]) (by rw [show (4 : Int32) + 1 = 5 by decide]) ?_
  refine zs_put (ty := .int) C 68 78 5 rfl rfl rfl rfl ki_Mo ky_Mo ko_Mo kn_Mo (by decide) kw1761 rfl rfl rfl rfl (by decide) kd_Mo_bring_27 rfl ?_
  refine zk_iinc (v := 16) (lv' := [(2, _), (0, _), (1, _)]) C kd_Mo_bring_30 0 rfl (by decide) (by decide) rfl rfl ?_
  refine zk_goto (tgt := 3) C kd_Mo_bring_33 (by decide) ?_
  refine zk_iload_n C kd_Mo_bring_3 rfl 0 rfl rfl ?_
  refine zk_if_lt (tgt := 36) C kd_Mo_bring_4 (by decide) rfl (fun h_2 => absurd h_2 (by decide)) (fun h_2 => ?_)
  refine zk_aload_n C kd_Mo_bring_7 rfl 1 rfl rfl ?_
  refine zs_get (v := .ref (S.1 116)) C 68 79 rfl rfl rfl rfl ki_Mo (by decide) kw1762 kd_Mo_bring_8 rfl ?_
  refine zk_aload_n C kd_Mo_bring_11 rfl 1 rfl rfl ?_
  refine zs_get (v := .int 5) C 68 78 rfl rfl rfl rfl ki_Mo (by decide) kw1761 kd_Mo_bring_12 rfl ?_
  refine zk_iload_n C kd_Mo_bring_15 rfl 2 rfl rfl ?_
  refine zk_iload_n C kd_Mo_bring_16 rfl 0 rfl rfl ?_
  refine zk_ishr C kd_Mo_bring_17 rfl ?_
  refine zk_i2b C kd_Mo_bring_18 rfl ?_
  refine zs_bast C 116 rfl (zp_dec rfl) kd_Mo_bring_19 rfl ?_
  refine zk_aload_n C kd_Mo_bring_20 rfl 1 rfl rfl ?_
  refine zk_dup C kd_Mo_bring_21 rfl rfl ?_
  refine zs_get (v := .int 5) C 68 78 rfl rfl rfl rfl ki_Mo (by decide) kw1761 kd_Mo_bring_22 rfl ?_
  refine zk_iconst (v := 1) C kd_Mo_bring_25 (by decide) rfl ?_
  refine zk_iadd C kd_Mo_bring_26 rfl ?_
  refine zk_stk (r' := [.int 6, .ref (S.1 68)]) (by rw [show (5 : Int32) + 1 = 6 by decide]) ?_
  refine zs_put (ty := .int) C 68 78 6 rfl rfl rfl rfl ki_Mo ky_Mo ko_Mo kn_Mo (by decide) kw1761 rfl rfl rfl rfl (by decide) kd_Mo_bring_27 rfl ?_
  refine zk_iinc (v := 8) (lv' := [(2, _), (0, _), (1, _)]) C kd_Mo_bring_30 0 rfl (by decide) (by decide) rfl rfl ?_
  refine zk_goto (tgt := 3) C kd_Mo_bring_33 (by decide) ?_
  refine zk_iload_n C kd_Mo_bring_3 rfl 0 rfl rfl ?_
  refine zk_if_lt (tgt := 36) C kd_Mo_bring_4 (by decide) rfl (fun h_3 => absurd h_3 (by decide)) (fun h_3 => ?_)
  refine zk_aload_n C kd_Mo_bring_7 rfl 1 rfl rfl ?_
  refine zs_get (v := .ref (S.1 116)) C 68 79 rfl rfl rfl rfl ki_Mo (by decide) kw1762 kd_Mo_bring_8 rfl ?_
  refine zk_aload_n C kd_Mo_bring_11 rfl 1 rfl rfl ?_
  refine zs_get (v := .int 6) C 68 78 rfl rfl rfl rfl ki_Mo (by decide) kw1761 kd_Mo_bring_12 rfl ?_
  refine zk_iload_n C kd_Mo_bring_15 rfl 2 rfl rfl ?_
  refine zk_iload_n C kd_Mo_bring_16 rfl 0 rfl rfl ?_
  refine zk_ishr C kd_Mo_bring_17 rfl ?_
  refine zk_i2b C kd_Mo_bring_18 rfl ?_
  refine zs_bast C 116 rfl (zp_dec rfl) kd_Mo_bring_19 rfl ?_
  refine zk_aload_n C kd_Mo_bring_20 rfl 1 rfl rfl ?_
  refine zk_dup C kd_Mo_bring_21 rfl rfl ?_
  refine zs_get (v := .int 6) C 68 78 rfl rfl rfl rfl ki_Mo (by decide) kw1761 kd_Mo_bring_22 rfl ?_
  refine zk_iconst (v := 1) C kd_Mo_bring_25 (by decide) rfl ?_
  refine zk_iadd C kd_Mo_bring_26 rfl ?_
  refine zk_stk (r' := [.int 7, .ref (S.1 68)]) (by rw [show (6 : Int32) + 1 = 7 by decide]) ?_
  refine zs_put (ty := .int) C 68 78 7 rfl rfl rfl rfl ki_Mo ky_Mo ko_Mo kn_Mo (by decide) kw1761 rfl rfl rfl rfl (by decide) kd_Mo_bring_27 rfl ?_
  refine zk_iinc (v := 0) (lv' := [(2, _), (0, _), (1, _)]) C kd_Mo_bring_30 0 rfl (by decide) (by decide) rfl rfl ?_
  refine zk_goto (tgt := 3) C kd_Mo_bring_33 (by decide) ?_
  refine zk_iload_n C kd_Mo_bring_3 rfl 0 rfl rfl ?_
  refine zk_if_lt (tgt := 36) C kd_Mo_bring_4 (by decide) rfl (fun h_4 => absurd h_4 (by decide)) (fun h_4 => ?_)
  refine zk_aload_n C kd_Mo_bring_7 rfl 1 rfl rfl ?_
  refine zs_get (v := .ref (S.1 116)) C 68 79 rfl rfl rfl rfl ki_Mo (by decide) kw1762 kd_Mo_bring_8 rfl ?_
  refine zk_aload_n C kd_Mo_bring_11 rfl 1 rfl rfl ?_
  refine zs_get (v := .int 7) C 68 78 rfl rfl rfl rfl ki_Mo (by decide) kw1761 kd_Mo_bring_12 rfl ?_
  refine zk_iload_n C kd_Mo_bring_15 rfl 2 rfl rfl ?_
  refine zk_iload_n C kd_Mo_bring_16 rfl 0 rfl rfl ?_
  refine zk_ishr C kd_Mo_bring_17 rfl ?_
  refine zk_i2b C kd_Mo_bring_18 rfl ?_
  refine zs_bast C 116 rfl (zp_dec rfl) kd_Mo_bring_19 rfl ?_
  refine zk_aload_n C kd_Mo_bring_20 rfl 1 rfl rfl ?_
  refine zk_dup C kd_Mo_bring_21 rfl rfl ?_
  refine zs_get (v := .int 7) C 68 78 rfl rfl rfl rfl ki_Mo (by decide) kw1761 kd_Mo_bring_22 rfl ?_
  refine zk_iconst (v := 1) C kd_Mo_bring_25 (by decide) rfl ?_
  refine zk_iadd C kd_Mo_bring_26 rfl ?_
  refine zk_stk (r' := [.int 8, .ref (S.1 68)]) (by rw [show (7 : Int32) + 1 = 8 by decide]) ?_
  refine zs_put (ty := .int) C 68 78 8 rfl rfl rfl rfl ki_Mo ky_Mo ko_Mo kn_Mo (by decide) kw1761 rfl rfl rfl rfl (by decide) kd_Mo_bring_27 rfl ?_
  refine zk_iinc (v := (-8)) (lv' := [(2, _), (0, _), (1, _)]) C kd_Mo_bring_30 0 rfl (by decide) (by decide) rfl rfl ?_
  refine zk_goto (tgt := 3) C kd_Mo_bring_33 (by decide) ?_
  refine zk_iload_n C kd_Mo_bring_3 rfl 0 rfl rfl ?_
  refine zk_if_lt (tgt := 36) C kd_Mo_bring_4 (by decide) rfl (fun h_5 => ?_) (fun h_5 => absurd (by decide) h_5)
  exact zk_vret C hR kd_Mo_bring_36 rfl rfl ⟨rfl, rfl⟩
set_option maxHeartbeats 4000000 in
set_option maxRecDepth 100000 in
/-- PlantKeeperModel.bring -/
theorem zq_bring2 {l : Launch} {D : va_G} {sz0 : Nat} {S : zs_T} {P : ze_T} (h : zs_H) (e_taped : h.1 68 78 = 8) (x1 : Int32) : zk_Sp (zs_G S l D sz0) (ze_E P) km_Mo_bring { frames := 0, cells := 0, slots := 0, locals := 0 } [.ref (S.1 68), .int x1] (zs_W S h) (fun v w => (v = none ∧ w = zs_W S (zs_uF (zs_uM (zs_uF (zs_uM (zs_uF (zs_uM (zs_uF (zs_uM h 116 ((8 : Int32)).toNatClampNeg (vp_nar .byte (((x1 >>> ((24 : Int32) &&& 31))).toInt8.toInt32))) 68 78 9) 116 ((9 : Int32)).toNatClampNeg (vp_nar .byte (((x1 >>> ((16 : Int32) &&& 31))).toInt8.toInt32))) 68 78 10) 116 ((10 : Int32)).toNatClampNeg (vp_nar .byte (((x1 >>> ((8 : Int32) &&& 31))).toInt8.toInt32))) 68 78 11) 116 ((11 : Int32)).toNatClampNeg (vp_nar .byte (((x1 >>> ((0 : Int32) &&& 31))).toInt8.toInt32))) 68 78 12))) := by
  refine zk_met ku_Mo_bring (Nat.le_of_ble_eq_true rfl) (ze_Em P) ?_
  intro X C hR
  refine zk_lvs (lv' := [(0, .ref (S.1 68)), (1, .int x1)]) [0, 1] rfl ?_
  refine zk_bipush (v := 24) C kd_Mo_bring_0 (by decide) rfl ?_
  refine zk_istore_n (lv' := [(2, _), (0, _), (1, _)]) C kd_Mo_bring_2 rfl (by decide) rfl rfl ?_
  refine zk_iload_n C kd_Mo_bring_3 rfl 0 rfl rfl ?_
  refine zk_if_lt (tgt := 36) C kd_Mo_bring_4 (by decide) rfl (fun h_1 => absurd h_1 (by decide)) (fun h_1 => ?_)
  refine zk_aload_n C kd_Mo_bring_7 rfl 1 rfl rfl ?_
  refine zs_get (v := .ref (S.1 116)) C 68 79 rfl rfl rfl rfl ki_Mo (by decide) kw1762 kd_Mo_bring_8 rfl ?_
  refine zk_aload_n C kd_Mo_bring_11 rfl 1 rfl rfl ?_
  refine zs_get (v := .int 8) C 68 78 rfl rfl (congrArg Value.int e_taped) rfl ki_Mo (by decide) kw1761 kd_Mo_bring_12 rfl ?_
  refine zk_iload_n C kd_Mo_bring_15 rfl 2 rfl rfl ?_
  refine zk_iload_n C kd_Mo_bring_16 rfl 0 rfl rfl ?_
  refine zk_ishr C kd_Mo_bring_17 rfl ?_
  refine zk_i2b C kd_Mo_bring_18 rfl ?_
  refine zs_bast C 116 rfl (zp_dec rfl) kd_Mo_bring_19 rfl ?_
  refine zk_aload_n C kd_Mo_bring_20 rfl 1 rfl rfl ?_
  refine zk_dup C kd_Mo_bring_21 rfl rfl ?_
  refine zs_get (v := .int 8) C 68 78 rfl rfl (congrArg Value.int e_taped) rfl ki_Mo (by decide) kw1761 kd_Mo_bring_22 rfl ?_
  refine zk_iconst (v := 1) C kd_Mo_bring_25 (by decide) rfl ?_
  refine zk_iadd C kd_Mo_bring_26 rfl ?_
  refine zk_stk (r' := [.int 9, .ref (S.1 68)]) (by rw [show (8 : Int32) + 1 = 9 by decide]) ?_
  refine zs_put (ty := .int) C 68 78 9 rfl rfl rfl rfl ki_Mo ky_Mo ko_Mo kn_Mo (by decide) kw1761 rfl rfl rfl rfl (by decide) kd_Mo_bring_27 rfl ?_
  refine zk_iinc (v := 16) (lv' := [(2, _), (0, _), (1, _)]) C kd_Mo_bring_30 0 rfl (by decide) (by decide) rfl rfl ?_
  refine zk_goto (tgt := 3) C kd_Mo_bring_33 (by decide) ?_
  refine zk_iload_n C kd_Mo_bring_3 rfl 0 rfl rfl ?_
  refine zk_if_lt (tgt := 36) C kd_Mo_bring_4 (by decide) rfl (fun h_2 => absurd h_2 (by decide)) (fun h_2 => ?_)
  refine zk_aload_n C kd_Mo_bring_7 rfl 1 rfl rfl ?_
  refine zs_get (v := .ref (S.1 116)) C 68 79 rfl rfl rfl rfl ki_Mo (by decide) kw1762 kd_Mo_bring_8 rfl ?_
  refine zk_aload_n C kd_Mo_bring_11 rfl 1 rfl rfl ?_
  refine zs_get (v := .int 9) C 68 78 rfl rfl rfl rfl ki_Mo (by decide) kw1761 kd_Mo_bring_12 rfl ?_
  refine zk_iload_n C kd_Mo_bring_15 rfl 2 rfl rfl ?_
  refine zk_iload_n C kd_Mo_bring_16 rfl 0 rfl rfl ?_
  refine zk_ishr C kd_Mo_bring_17 rfl ?_
  refine zk_i2b C kd_Mo_bring_18 rfl ?_
  refine zs_bast C 116 rfl (zp_dec rfl) kd_Mo_bring_19 rfl ?_
  refine zk_aload_n C kd_Mo_bring_20 rfl 1 rfl rfl ?_
  refine zk_dup C kd_Mo_bring_21 rfl rfl ?_
  refine zs_get (v := .int 9) C 68 78 rfl rfl rfl rfl ki_Mo (by decide) kw1761 kd_Mo_bring_22 rfl ?_
  refine zk_iconst (v := 1) C kd_Mo_bring_25 (by decide) rfl ?_
  refine zk_iadd C kd_Mo_bring_26 rfl ?_
  refine zk_stk (r' := [.int 10, .ref (S.1 68)]) (by rw [show (9 : Int32) + 1 = 10 by decide]) ?_
  refine zs_put (ty := .int) C 68 78 10 rfl rfl rfl rfl ki_Mo ky_Mo ko_Mo kn_Mo (by decide) kw1761 rfl rfl rfl rfl (by decide) kd_Mo_bring_27 rfl ?_
  refine zk_iinc (v := 8) (lv' := [(2, _), (0, _), (1, _)]) C kd_Mo_bring_30 0 rfl (by decide) (by decide) rfl rfl ?_
  refine zk_goto (tgt := 3) C kd_Mo_bring_33 (by decide) ?_
  refine zk_iload_n C kd_Mo_bring_3 rfl 0 rfl rfl ?_
  refine zk_if_lt (tgt := 36) C kd_Mo_bring_4 (by decide) rfl (fun h_3 => absurd h_3 (by decide)) (fun h_3 => ?_)
  refine zk_aload_n C kd_Mo_bring_7 rfl 1 rfl rfl ?_
  refine zs_get (v := .ref (S.1 116)) C 68 79 rfl rfl rfl rfl ki_Mo (by decide) kw1762 kd_Mo_bring_8 rfl ?_
  refine zk_aload_n C kd_Mo_bring_11 rfl 1 rfl rfl ?_
  refine zs_get (v := .int 10) C 68 78 rfl rfl rfl rfl ki_Mo (by decide) kw1761 kd_Mo_bring_12 rfl ?_
  refine zk_iload_n C kd_Mo_bring_15 rfl 2 rfl rfl ?_
  refine zk_iload_n C kd_Mo_bring_16 rfl 0 rfl rfl ?_
  refine zk_ishr C kd_Mo_bring_17 rfl ?_
  refine zk_i2b C kd_Mo_bring_18 rfl ?_
  refine zs_bast C 116 rfl (zp_dec rfl) kd_Mo_bring_19 rfl ?_
  refine zk_aload_n C kd_Mo_bring_20 rfl 1 rfl rfl ?_
  refine zk_dup C kd_Mo_bring_21 rfl rfl ?_
  refine zs_get (v := .int 10) C 68 78 rfl rfl rfl rfl ki_Mo (by decide) kw1761 kd_Mo_bring_22 rfl ?_
  refine zk_iconst (v := 1) C kd_Mo_bring_25 (by decide) rfl ?_
  refine zk_iadd C kd_Mo_bring_26 rfl ?_
  refine zk_stk (r' := [.int 11, .ref (S.1 68)]) (by rw [show (10 : Int32) + 1 = 11 by decide]) ?_
  refine zs_put (ty := .int) C 68 78 11 rfl rfl rfl rfl ki_Mo ky_Mo ko_Mo kn_Mo (by decide) kw1761 rfl rfl rfl rfl (by decide) kd_Mo_bring_27 rfl ?_
  refine zk_iinc (v := 0) (lv' := [(2, _), (0, _), (1, _)]) C kd_Mo_bring_30 0 rfl (by decide) (by decide) rfl rfl ?_
  refine zk_goto (tgt := 3) C kd_Mo_bring_33 (by decide) ?_
  refine zk_iload_n C kd_Mo_bring_3 rfl 0 rfl rfl ?_
  refine zk_if_lt (tgt := 36) C kd_Mo_bring_4 (by decide) rfl (fun h_4 => absurd h_4 (by decide)) (fun h_4 => ?_)
  refine zk_aload_n C kd_Mo_bring_7 rfl 1 rfl rfl ?_
  refine zs_get (v := .ref (S.1 116)) C 68 79 rfl rfl rfl rfl ki_Mo (by decide) kw1762 kd_Mo_bring_8 rfl ?_
  refine zk_aload_n C kd_Mo_bring_11 rfl 1 rfl rfl ?_
  refine zs_get (v := .int 11) C 68 78 rfl rfl rfl rfl ki_Mo (by decide) kw1761 kd_Mo_bring_12 rfl ?_
  refine zk_iload_n C kd_Mo_bring_15 rfl 2 rfl rfl ?_
  refine zk_iload_n C kd_Mo_bring_16 rfl 0 rfl rfl ?_
  refine zk_ishr C kd_Mo_bring_17 rfl ?_
  refine zk_i2b C kd_Mo_bring_18 rfl ?_
  refine zs_bast C 116 rfl (zp_dec rfl) kd_Mo_bring_19 rfl ?_
  refine zk_aload_n C kd_Mo_bring_20 rfl 1 rfl rfl ?_
  refine zk_dup C kd_Mo_bring_21 rfl rfl ?_
  refine zs_get (v := .int 11) C 68 78 rfl rfl rfl rfl ki_Mo (by decide) kw1761 kd_Mo_bring_22 rfl ?_
  refine zk_iconst (v := 1) C kd_Mo_bring_25 (by decide) rfl ?_
  refine zk_iadd C kd_Mo_bring_26 rfl ?_
  refine zk_stk (r' := [.int 12, .ref (S.1 68)]) (by rw [show (11 : Int32) + 1 = 12 by decide]) ?_
  refine zs_put (ty := .int) C 68 78 12 rfl rfl rfl rfl ki_Mo ky_Mo ko_Mo kn_Mo (by decide) kw1761 rfl rfl rfl rfl (by decide) kd_Mo_bring_27 rfl ?_
  refine zk_iinc (v := (-8)) (lv' := [(2, _), (0, _), (1, _)]) C kd_Mo_bring_30 0 rfl (by decide) (by decide) rfl rfl ?_
  refine zk_goto (tgt := 3) C kd_Mo_bring_33 (by decide) ?_
  refine zk_iload_n C kd_Mo_bring_3 rfl 0 rfl rfl ?_
  refine zk_if_lt (tgt := 36) C kd_Mo_bring_4 (by decide) rfl (fun h_5 => ?_) (fun h_5 => absurd (by decide) h_5)
  exact zk_vret C hR kd_Mo_bring_36 rfl rfl ⟨rfl, rfl⟩
set_option maxHeartbeats 4000000 in
set_option maxRecDepth 100000 in
/-- PlantKeeperModel.bring -/
theorem zq_bring3 {l : Launch} {D : va_G} {sz0 : Nat} {S : zs_T} {P : ze_T} (h : zs_H) (e_taped : h.1 68 78 = 12) (x1 : Int32) : zk_Sp (zs_G S l D sz0) (ze_E P) km_Mo_bring { frames := 0, cells := 0, slots := 0, locals := 0 } [.ref (S.1 68), .int x1] (zs_W S h) (fun v w => (v = none ∧ w = zs_W S (zs_uF (zs_uM (zs_uF (zs_uM (zs_uF (zs_uM (zs_uF (zs_uM h 116 ((12 : Int32)).toNatClampNeg (vp_nar .byte (((x1 >>> ((24 : Int32) &&& 31))).toInt8.toInt32))) 68 78 13) 116 ((13 : Int32)).toNatClampNeg (vp_nar .byte (((x1 >>> ((16 : Int32) &&& 31))).toInt8.toInt32))) 68 78 14) 116 ((14 : Int32)).toNatClampNeg (vp_nar .byte (((x1 >>> ((8 : Int32) &&& 31))).toInt8.toInt32))) 68 78 15) 116 ((15 : Int32)).toNatClampNeg (vp_nar .byte (((x1 >>> ((0 : Int32) &&& 31))).toInt8.toInt32))) 68 78 16))) := by
  refine zk_met ku_Mo_bring (Nat.le_of_ble_eq_true rfl) (ze_Em P) ?_
  intro X C hR
  refine zk_lvs (lv' := [(0, .ref (S.1 68)), (1, .int x1)]) [0, 1] rfl ?_
  refine zk_bipush (v := 24) C kd_Mo_bring_0 (by decide) rfl ?_
  refine zk_istore_n (lv' := [(2, _), (0, _), (1, _)]) C kd_Mo_bring_2 rfl (by decide) rfl rfl ?_
  refine zk_iload_n C kd_Mo_bring_3 rfl 0 rfl rfl ?_
  refine zk_if_lt (tgt := 36) C kd_Mo_bring_4 (by decide) rfl (fun h_1 => absurd h_1 (by decide)) (fun h_1 => ?_)
  refine zk_aload_n C kd_Mo_bring_7 rfl 1 rfl rfl ?_
  refine zs_get (v := .ref (S.1 116)) C 68 79 rfl rfl rfl rfl ki_Mo (by decide) kw1762 kd_Mo_bring_8 rfl ?_
  refine zk_aload_n C kd_Mo_bring_11 rfl 1 rfl rfl ?_
  refine zs_get (v := .int 12) C 68 78 rfl rfl (congrArg Value.int e_taped) rfl ki_Mo (by decide) kw1761 kd_Mo_bring_12 rfl ?_
  refine zk_iload_n C kd_Mo_bring_15 rfl 2 rfl rfl ?_
  refine zk_iload_n C kd_Mo_bring_16 rfl 0 rfl rfl ?_
  refine zk_ishr C kd_Mo_bring_17 rfl ?_
  refine zk_i2b C kd_Mo_bring_18 rfl ?_
  refine zs_bast C 116 rfl (zp_dec rfl) kd_Mo_bring_19 rfl ?_
  refine zk_aload_n C kd_Mo_bring_20 rfl 1 rfl rfl ?_
  refine zk_dup C kd_Mo_bring_21 rfl rfl ?_
  refine zs_get (v := .int 12) C 68 78 rfl rfl (congrArg Value.int e_taped) rfl ki_Mo (by decide) kw1761 kd_Mo_bring_22 rfl ?_
  refine zk_iconst (v := 1) C kd_Mo_bring_25 (by decide) rfl ?_
  refine zk_iadd C kd_Mo_bring_26 rfl ?_
  refine zk_stk (r' := [.int 13, .ref (S.1 68)]) (by rw [show (12 : Int32) + 1 = 13 by decide]) ?_
  refine zs_put (ty := .int) C 68 78 13 rfl rfl rfl rfl ki_Mo ky_Mo ko_Mo kn_Mo (by decide) kw1761 rfl rfl rfl rfl (by decide) kd_Mo_bring_27 rfl ?_
  refine zk_iinc (v := 16) (lv' := [(2, _), (0, _), (1, _)]) C kd_Mo_bring_30 0 rfl (by decide) (by decide) rfl rfl ?_
  refine zk_goto (tgt := 3) C kd_Mo_bring_33 (by decide) ?_
  refine zk_iload_n C kd_Mo_bring_3 rfl 0 rfl rfl ?_
  refine zk_if_lt (tgt := 36) C kd_Mo_bring_4 (by decide) rfl (fun h_2 => absurd h_2 (by decide)) (fun h_2 => ?_)
  refine zk_aload_n C kd_Mo_bring_7 rfl 1 rfl rfl ?_
  refine zs_get (v := .ref (S.1 116)) C 68 79 rfl rfl rfl rfl ki_Mo (by decide) kw1762 kd_Mo_bring_8 rfl ?_
  refine zk_aload_n C kd_Mo_bring_11 rfl 1 rfl rfl ?_
  refine zs_get (v := .int 13) C 68 78 rfl rfl rfl rfl ki_Mo (by decide) kw1761 kd_Mo_bring_12 rfl ?_
  refine zk_iload_n C kd_Mo_bring_15 rfl 2 rfl rfl ?_
  refine zk_iload_n C kd_Mo_bring_16 rfl 0 rfl rfl ?_
  refine zk_ishr C kd_Mo_bring_17 rfl ?_
  refine zk_i2b C kd_Mo_bring_18 rfl ?_
  refine zs_bast C 116 rfl (zp_dec rfl) kd_Mo_bring_19 rfl ?_
  refine zk_aload_n C kd_Mo_bring_20 rfl 1 rfl rfl ?_
  refine zk_dup C kd_Mo_bring_21 rfl rfl ?_
  refine zs_get (v := .int 13) C 68 78 rfl rfl rfl rfl ki_Mo (by decide) kw1761 kd_Mo_bring_22 rfl ?_
  refine zk_iconst (v := 1) C kd_Mo_bring_25 (by decide) rfl ?_
  refine zk_iadd C kd_Mo_bring_26 rfl ?_
  refine zk_stk (r' := [.int 14, .ref (S.1 68)]) (by rw [show (13 : Int32) + 1 = 14 by decide]) ?_
  refine zs_put (ty := .int) C 68 78 14 rfl rfl rfl rfl ki_Mo ky_Mo ko_Mo kn_Mo (by decide) kw1761 rfl rfl rfl rfl (by decide) kd_Mo_bring_27 rfl ?_
  refine zk_iinc (v := 8) (lv' := [(2, _), (0, _), (1, _)]) C kd_Mo_bring_30 0 rfl (by decide) (by decide) rfl rfl ?_
  refine zk_goto (tgt := 3) C kd_Mo_bring_33 (by decide) ?_
  refine zk_iload_n C kd_Mo_bring_3 rfl 0 rfl rfl ?_
  refine zk_if_lt (tgt := 36) C kd_Mo_bring_4 (by decide) rfl (fun h_3 => absurd h_3 (by decide)) (fun h_3 => ?_)
  refine zk_aload_n C kd_Mo_bring_7 rfl 1 rfl rfl ?_
  refine zs_get (v := .ref (S.1 116)) C 68 79 rfl rfl rfl rfl ki_Mo (by decide) kw1762 kd_Mo_bring_8 rfl ?_
  refine zk_aload_n C kd_Mo_bring_11 rfl 1 rfl rfl ?_
  refine zs_get (v := .int 14) C 68 78 rfl rfl rfl rfl ki_Mo (by decide) kw1761 kd_Mo_bring_12 rfl ?_
  refine zk_iload_n C kd_Mo_bring_15 rfl 2 rfl rfl ?_
  refine zk_iload_n C kd_Mo_bring_16 rfl 0 rfl rfl ?_
  refine zk_ishr C kd_Mo_bring_17 rfl ?_
  refine zk_i2b C kd_Mo_bring_18 rfl ?_
  refine zs_bast C 116 rfl (zp_dec rfl) kd_Mo_bring_19 rfl ?_
  refine zk_aload_n C kd_Mo_bring_20 rfl 1 rfl rfl ?_
  refine zk_dup C kd_Mo_bring_21 rfl rfl ?_
  refine zs_get (v := .int 14) C 68 78 rfl rfl rfl rfl ki_Mo (by decide) kw1761 kd_Mo_bring_22 rfl ?_
  refine zk_iconst (v := 1) C kd_Mo_bring_25 (by decide) rfl ?_
  refine zk_iadd C kd_Mo_bring_26 rfl ?_
  refine zk_stk (r' := [.int 15, .ref (S.1 68)]) (by rw [show (14 : Int32) + 1 = 15 by decide]) ?_
  refine zs_put (ty := .int) C 68 78 15 rfl rfl rfl rfl ki_Mo ky_Mo ko_Mo kn_Mo (by decide) kw1761 rfl rfl rfl rfl (by decide) kd_Mo_bring_27 rfl ?_
  refine zk_iinc (v := 0) (lv' := [(2, _), (0, _), (1, _)]) C kd_Mo_bring_30 0 rfl (by decide) (by decide) rfl rfl ?_
  refine zk_goto (tgt := 3) C kd_Mo_bring_33 (by decide) ?_
  refine zk_iload_n C kd_Mo_bring_3 rfl 0 rfl rfl ?_
  refine zk_if_lt (tgt := 36) C kd_Mo_bring_4 (by decide) rfl (fun h_4 => absurd h_4 (by decide)) (fun h_4 => ?_)
  refine zk_aload_n C kd_Mo_bring_7 rfl 1 rfl rfl ?_
  refine zs_get (v := .ref (S.1 116)) C 68 79 rfl rfl rfl rfl ki_Mo (by decide) kw1762 kd_Mo_bring_8 rfl ?_
  refine zk_aload_n C kd_Mo_bring_11 rfl 1 rfl rfl ?_
  refine zs_get (v := .int 15) C 68 78 rfl rfl rfl rfl ki_Mo (by decide) kw1761 kd_Mo_bring_12 rfl ?_
  refine zk_iload_n C kd_Mo_bring_15 rfl 2 rfl rfl ?_
  refine zk_iload_n C kd_Mo_bring_16 rfl 0 rfl rfl ?_
  refine zk_ishr C kd_Mo_bring_17 rfl ?_
  refine zk_i2b C kd_Mo_bring_18 rfl ?_
  refine zs_bast C 116 rfl (zp_dec rfl) kd_Mo_bring_19 rfl ?_
  refine zk_aload_n C kd_Mo_bring_20 rfl 1 rfl rfl ?_
  refine zk_dup C kd_Mo_bring_21 rfl rfl ?_
  refine zs_get (v := .int 15) C 68 78 rfl rfl rfl rfl ki_Mo (by decide) kw1761 kd_Mo_bring_22 rfl ?_
  refine zk_iconst (v := 1) C kd_Mo_bring_25 (by decide) rfl ?_
  refine zk_iadd C kd_Mo_bring_26 rfl ?_
  refine zk_stk (r' := [.int 16, .ref (S.1 68)]) (by rw [show (15 : Int32) + 1 = 16 by decide]) ?_
  refine zs_put (ty := .int) C 68 78 16 rfl rfl rfl rfl ki_Mo ky_Mo ko_Mo kn_Mo (by decide) kw1761 rfl rfl rfl rfl (by decide) kd_Mo_bring_27 rfl ?_
  refine zk_iinc (v := (-8)) (lv' := [(2, _), (0, _), (1, _)]) C kd_Mo_bring_30 0 rfl (by decide) (by decide) rfl rfl ?_
  refine zk_goto (tgt := 3) C kd_Mo_bring_33 (by decide) ?_
  refine zk_iload_n C kd_Mo_bring_3 rfl 0 rfl rfl ?_
  refine zk_if_lt (tgt := 36) C kd_Mo_bring_4 (by decide) rfl (fun h_5 => ?_) (fun h_5 => absurd (by decide) h_5)
  exact zk_vret C hR kd_Mo_bring_36 rfl rfl ⟨rfl, rfl⟩
set_option maxHeartbeats 4000000 in
set_option maxRecDepth 100000 in
/-- PlantKeeperModel.bring -/
theorem zq_bring4 {l : Launch} {D : va_G} {sz0 : Nat} {S : zs_T} {P : ze_T} (h : zs_H) (e_taped : h.1 68 78 = 16) (x1 : Int32) : zk_Sp (zs_G S l D sz0) (ze_E P) km_Mo_bring { frames := 0, cells := 0, slots := 0, locals := 0 } [.ref (S.1 68), .int x1] (zs_W S h) (fun v w => (v = none ∧ w = zs_W S (zs_uF (zs_uM (zs_uF (zs_uM (zs_uF (zs_uM (zs_uF (zs_uM h 116 ((16 : Int32)).toNatClampNeg (vp_nar .byte (((x1 >>> ((24 : Int32) &&& 31))).toInt8.toInt32))) 68 78 17) 116 ((17 : Int32)).toNatClampNeg (vp_nar .byte (((x1 >>> ((16 : Int32) &&& 31))).toInt8.toInt32))) 68 78 18) 116 ((18 : Int32)).toNatClampNeg (vp_nar .byte (((x1 >>> ((8 : Int32) &&& 31))).toInt8.toInt32))) 68 78 19) 116 ((19 : Int32)).toNatClampNeg (vp_nar .byte (((x1 >>> ((0 : Int32) &&& 31))).toInt8.toInt32))) 68 78 20))) := by
  refine zk_met ku_Mo_bring (Nat.le_of_ble_eq_true rfl) (ze_Em P) ?_
  intro X C hR
  refine zk_lvs (lv' := [(0, .ref (S.1 68)), (1, .int x1)]) [0, 1] rfl ?_
  refine zk_bipush (v := 24) C kd_Mo_bring_0 (by decide) rfl ?_
  refine zk_istore_n (lv' := [(2, _), (0, _), (1, _)]) C kd_Mo_bring_2 rfl (by decide) rfl rfl ?_
  refine zk_iload_n C kd_Mo_bring_3 rfl 0 rfl rfl ?_
  refine zk_if_lt (tgt := 36) C kd_Mo_bring_4 (by decide) rfl (fun h_1 => absurd h_1 (by decide)) (fun h_1 => ?_)
  refine zk_aload_n C kd_Mo_bring_7 rfl 1 rfl rfl ?_
  refine zs_get (v := .ref (S.1 116)) C 68 79 rfl rfl rfl rfl ki_Mo (by decide) kw1762 kd_Mo_bring_8 rfl ?_
  refine zk_aload_n C kd_Mo_bring_11 rfl 1 rfl rfl ?_
  refine zs_get (v := .int 16) C 68 78 rfl rfl (congrArg Value.int e_taped) rfl ki_Mo (by decide) kw1761 kd_Mo_bring_12 rfl ?_
  refine zk_iload_n C kd_Mo_bring_15 rfl 2 rfl rfl ?_
  refine zk_iload_n C kd_Mo_bring_16 rfl 0 rfl rfl ?_
  refine zk_ishr C kd_Mo_bring_17 rfl ?_
  refine zk_i2b C kd_Mo_bring_18 rfl ?_
  refine zs_bast C 116 rfl (zp_dec rfl) kd_Mo_bring_19 rfl ?_
  refine zk_aload_n C kd_Mo_bring_20 rfl 1 rfl rfl ?_
  refine zk_dup C kd_Mo_bring_21 rfl rfl ?_
  refine zs_get (v := .int 16) C 68 78 rfl rfl (congrArg Value.int e_taped) rfl ki_Mo (by decide) kw1761 kd_Mo_bring_22 rfl ?_
  refine zk_iconst (v := 1) C kd_Mo_bring_25 (by decide) rfl ?_
  refine zk_iadd C kd_Mo_bring_26 rfl ?_
  refine zk_stk (r' := [.int 17, .ref (S.1 68)]) (by rw [show (16 : Int32) + 1 = 17 by decide]) ?_
  refine zs_put (ty := .int) C 68 78 17 rfl rfl rfl rfl ki_Mo ky_Mo ko_Mo kn_Mo (by decide) kw1761 rfl rfl rfl rfl (by decide) kd_Mo_bring_27 rfl ?_
  refine zk_iinc (v := 16) (lv' := [(2, _), (0, _), (1, _)]) C kd_Mo_bring_30 0 rfl (by decide) (by decide) rfl rfl ?_
  refine zk_goto (tgt := 3) C kd_Mo_bring_33 (by decide) ?_
  refine zk_iload_n C kd_Mo_bring_3 rfl 0 rfl rfl ?_
  refine zk_if_lt (tgt := 36) C kd_Mo_bring_4 (by decide) rfl (fun h_2 => absurd h_2 (by decide)) (fun h_2 => ?_)
  refine zk_aload_n C kd_Mo_bring_7 rfl 1 rfl rfl ?_
  refine zs_get (v := .ref (S.1 116)) C 68 79 rfl rfl rfl rfl ki_Mo (by decide) kw1762 kd_Mo_bring_8 rfl ?_
  refine zk_aload_n C kd_Mo_bring_11 rfl 1 rfl rfl ?_
  refine zs_get (v := .int 17) C 68 78 rfl rfl rfl rfl ki_Mo (by decide) kw1761 kd_Mo_bring_12 rfl ?_
  refine zk_iload_n C kd_Mo_bring_15 rfl 2 rfl rfl ?_
  refine zk_iload_n C kd_Mo_bring_16 rfl 0 rfl rfl ?_
  refine zk_ishr C kd_Mo_bring_17 rfl ?_
  refine zk_i2b C kd_Mo_bring_18 rfl ?_
  refine zs_bast C 116 rfl (zp_dec rfl) kd_Mo_bring_19 rfl ?_
  refine zk_aload_n C kd_Mo_bring_20 rfl 1 rfl rfl ?_
  refine zk_dup C kd_Mo_bring_21 rfl rfl ?_
  refine zs_get (v := .int 17) C 68 78 rfl rfl rfl rfl ki_Mo (by decide) kw1761 kd_Mo_bring_22 rfl ?_
  refine zk_iconst (v := 1) C kd_Mo_bring_25 (by decide) rfl ?_
  refine zk_iadd C kd_Mo_bring_26 rfl ?_
  refine zk_stk (r' := [.int 18, .ref (S.1 68)]) (by rw [show (17 : Int32) + 1 = 18 by decide]) ?_
  refine zs_put (ty := .int) C 68 78 18 rfl rfl rfl rfl ki_Mo ky_Mo ko_Mo kn_Mo (by decide) kw1761 rfl rfl rfl rfl (by decide) kd_Mo_bring_27 rfl ?_
  refine zk_iinc (v := 8) (lv' := [(2, _), (0, _), (1, _)]) C kd_Mo_bring_30 0 rfl (by decide) (by decide) rfl rfl ?_
  refine zk_goto (tgt := 3) C kd_Mo_bring_33 (by decide) ?_
  refine zk_iload_n C kd_Mo_bring_3 rfl 0 rfl rfl ?_
  refine zk_if_lt (tgt := 36) C kd_Mo_bring_4 (by decide) rfl (fun h_3 => absurd h_3 (by decide)) (fun h_3 => ?_)
  refine zk_aload_n C kd_Mo_bring_7 rfl 1 rfl rfl ?_
  refine zs_get (v := .ref (S.1 116)) C 68 79 rfl rfl rfl rfl ki_Mo (by decide) kw1762 kd_Mo_bring_8 rfl ?_
  refine zk_aload_n C kd_Mo_bring_11 rfl 1 rfl rfl ?_
  refine zs_get (v := .int 18) C 68 78 rfl rfl rfl rfl ki_Mo (by decide) kw1761 kd_Mo_bring_12 rfl ?_
  refine zk_iload_n C kd_Mo_bring_15 rfl 2 rfl rfl ?_
  refine zk_iload_n C kd_Mo_bring_16 rfl 0 rfl rfl ?_
  refine zk_ishr C kd_Mo_bring_17 rfl ?_
  refine zk_i2b C kd_Mo_bring_18 rfl ?_
  refine zs_bast C 116 rfl (zp_dec rfl) kd_Mo_bring_19 rfl ?_
  refine zk_aload_n C kd_Mo_bring_20 rfl 1 rfl rfl ?_
  refine zk_dup C kd_Mo_bring_21 rfl rfl ?_
  refine zs_get (v := .int 18) C 68 78 rfl rfl rfl rfl ki_Mo (by decide) kw1761 kd_Mo_bring_22 rfl ?_
  refine zk_iconst (v := 1) C kd_Mo_bring_25 (by decide) rfl ?_
  refine zk_iadd C kd_Mo_bring_26 rfl ?_
  refine zk_stk (r' := [.int 19, .ref (S.1 68)]) (by rw [show (18 : Int32) + 1 = 19 by decide]) ?_
  refine zs_put (ty := .int) C 68 78 19 rfl rfl rfl rfl ki_Mo ky_Mo ko_Mo kn_Mo (by decide) kw1761 rfl rfl rfl rfl (by decide) kd_Mo_bring_27 rfl ?_
  refine zk_iinc (v := 0) (lv' := [(2, _), (0, _), (1, _)]) C kd_Mo_bring_30 0 rfl (by decide) (by decide) rfl rfl ?_
  refine zk_goto (tgt := 3) C kd_Mo_bring_33 (by decide) ?_
  refine zk_iload_n C kd_Mo_bring_3 rfl 0 rfl rfl ?_
  refine zk_if_lt (tgt := 36) C kd_Mo_bring_4 (by decide) rfl (fun h_4 => absurd h_4 (by decide)) (fun h_4 => ?_)
  refine zk_aload_n C kd_Mo_bring_7 rfl 1 rfl rfl ?_
  refine zs_get (v := .ref (S.1 116)) C 68 79 rfl rfl rfl rfl ki_Mo (by decide) kw1762 kd_Mo_bring_8 rfl ?_
  refine zk_aload_n C kd_Mo_bring_11 rfl 1 rfl rfl ?_
  refine zs_get (v := .int 19) C 68 78 rfl rfl rfl rfl ki_Mo (by decide) kw1761 kd_Mo_bring_12 rfl ?_
  refine zk_iload_n C kd_Mo_bring_15 rfl 2 rfl rfl ?_
  refine zk_iload_n C kd_Mo_bring_16 rfl 0 rfl rfl ?_
  refine zk_ishr C kd_Mo_bring_17 rfl ?_
  refine zk_i2b C kd_Mo_bring_18 rfl ?_
  refine zs_bast C 116 rfl (zp_dec rfl) kd_Mo_bring_19 rfl ?_
  refine zk_aload_n C kd_Mo_bring_20 rfl 1 rfl rfl ?_
  refine zk_dup C kd_Mo_bring_21 rfl rfl ?_
  refine zs_get (v := .int 19) C 68 78 rfl rfl rfl rfl ki_Mo (by decide) kw1761 kd_Mo_bring_22 rfl ?_
  refine zk_iconst (v := 1) C kd_Mo_bring_25 (by decide) rfl ?_
  refine zk_iadd C kd_Mo_bring_26 rfl ?_
  refine zk_stk (r' := [.int 20, .ref (S.1 68)]) (by rw [show (19 : Int32) + 1 = 20 by decide]) ?_
  refine zs_put (ty := .int) C 68 78 20 rfl rfl rfl rfl ki_Mo ky_Mo ko_Mo kn_Mo (by decide) kw1761 rfl rfl rfl rfl (by decide) kd_Mo_bring_27 rfl ?_
  refine zk_iinc (v := (-8)) (lv' := [(2, _), (0, _), (1, _)]) C kd_Mo_bring_30 0 rfl (by decide) (by decide) rfl rfl ?_
  refine zk_goto (tgt := 3) C kd_Mo_bring_33 (by decide) ?_
  refine zk_iload_n C kd_Mo_bring_3 rfl 0 rfl rfl ?_
  refine zk_if_lt (tgt := 36) C kd_Mo_bring_4 (by decide) rfl (fun h_5 => ?_) (fun h_5 => absurd (by decide) h_5)
  exact zk_vret C hR kd_Mo_bring_36 rfl rfl ⟨rfl, rfl⟩
set_option maxHeartbeats 4000000 in
set_option maxRecDepth 100000 in
/-- PlantKeeperModel.feed -/
theorem zq_feed {l : Launch} {D : va_G} {sz0 : Nat} {S : zs_T} {P : ze_T} (h : zs_H) (e_taped : h.1 68 78 = 0) (x1 : Int32) (x2 : Int32) (x3 : Int32) (x4 : Int32) (x5 : Int32) : zk_Sp (zs_G S l D sz0) (ze_E P) km_Mo_feed { frames := 1, cells := 0, slots := 0, locals := 22 } [.ref (S.1 68), .int x1, .int x2, .int x3, .int x4, .int x5] (zs_W S h) (fun v w => (v = some (.int 20) ∧ w = zs_W S (zs_uF (zs_uM (zs_uF (zs_uM (zs_uF (zs_uM (zs_uF (zs_uM (zs_uF (zs_uM (zs_uF (zs_uM (zs_uF (zs_uM (zs_uF (zs_uM (zs_uF (zs_uM (zs_uF (zs_uM (zs_uF (zs_uM (zs_uF (zs_uM (zs_uF (zs_uM (zs_uF (zs_uM (zs_uF (zs_uM (zs_uF (zs_uM (zs_uF (zs_uM (zs_uF (zs_uM (zs_uF (zs_uM (zs_uF (zs_uM h 116 ((0 : Int32)).toNatClampNeg (vp_nar .byte (((x1 >>> ((24 : Int32) &&& 31))).toInt8.toInt32))) 68 78 1) 116 ((1 : Int32)).toNatClampNeg (vp_nar .byte (((x1 >>> ((16 : Int32) &&& 31))).toInt8.toInt32))) 68 78 2) 116 ((2 : Int32)).toNatClampNeg (vp_nar .byte (((x1 >>> ((8 : Int32) &&& 31))).toInt8.toInt32))) 68 78 3) 116 ((3 : Int32)).toNatClampNeg (vp_nar .byte (((x1 >>> ((0 : Int32) &&& 31))).toInt8.toInt32))) 68 78 4) 116 ((4 : Int32)).toNatClampNeg (vp_nar .byte (((x2 >>> ((24 : Int32) &&& 31))).toInt8.toInt32))) 68 78 5) 116 ((5 : Int32)).toNatClampNeg (vp_nar .byte (((x2 >>> ((16 : Int32) &&& 31))).toInt8.toInt32))) 68 78 6) 116 ((6 : Int32)).toNatClampNeg (vp_nar .byte (((x2 >>> ((8 : Int32) &&& 31))).toInt8.toInt32))) 68 78 7) 116 ((7 : Int32)).toNatClampNeg (vp_nar .byte (((x2 >>> ((0 : Int32) &&& 31))).toInt8.toInt32))) 68 78 8) 116 ((8 : Int32)).toNatClampNeg (vp_nar .byte (((x3 >>> ((24 : Int32) &&& 31))).toInt8.toInt32))) 68 78 9) 116 ((9 : Int32)).toNatClampNeg (vp_nar .byte (((x3 >>> ((16 : Int32) &&& 31))).toInt8.toInt32))) 68 78 10) 116 ((10 : Int32)).toNatClampNeg (vp_nar .byte (((x3 >>> ((8 : Int32) &&& 31))).toInt8.toInt32))) 68 78 11) 116 ((11 : Int32)).toNatClampNeg (vp_nar .byte (((x3 >>> ((0 : Int32) &&& 31))).toInt8.toInt32))) 68 78 12) 116 ((12 : Int32)).toNatClampNeg (vp_nar .byte (((x4 >>> ((24 : Int32) &&& 31))).toInt8.toInt32))) 68 78 13) 116 ((13 : Int32)).toNatClampNeg (vp_nar .byte (((x4 >>> ((16 : Int32) &&& 31))).toInt8.toInt32))) 68 78 14) 116 ((14 : Int32)).toNatClampNeg (vp_nar .byte (((x4 >>> ((8 : Int32) &&& 31))).toInt8.toInt32))) 68 78 15) 116 ((15 : Int32)).toNatClampNeg (vp_nar .byte (((x4 >>> ((0 : Int32) &&& 31))).toInt8.toInt32))) 68 78 16) 116 ((16 : Int32)).toNatClampNeg (vp_nar .byte (((x5 >>> ((24 : Int32) &&& 31))).toInt8.toInt32))) 68 78 17) 116 ((17 : Int32)).toNatClampNeg (vp_nar .byte (((x5 >>> ((16 : Int32) &&& 31))).toInt8.toInt32))) 68 78 18) 116 ((18 : Int32)).toNatClampNeg (vp_nar .byte (((x5 >>> ((8 : Int32) &&& 31))).toInt8.toInt32))) 68 78 19) 116 ((19 : Int32)).toNatClampNeg (vp_nar .byte (((x5 >>> ((0 : Int32) &&& 31))).toInt8.toInt32))) 68 78 20))) := by
  refine zk_met ku_Mo_feed (Nat.le_of_ble_eq_true rfl) (ze_Em P) ?_
  intro X C hR
  refine zk_lvs (lv' := [(0, .ref (S.1 68)), (1, .int x1), (2, .int x2), (3, .int x3), (4, .int x4), (5, .int x5)]) [0, 1, 2, 3, 4, 5] rfl ?_
  refine zk_aload_n C kd_Mo_feed_0 rfl 0 rfl rfl ?_
  refine zs_get (v := .int 0) C 68 78 rfl rfl (congrArg Value.int e_taped) rfl ki_Mo (by decide) kw1761 kd_Mo_feed_1 rfl ?_
  refine zk_bipush (v := 20) C kd_Mo_feed_4 (by decide) rfl ?_
  refine zk_iadd C kd_Mo_feed_6 rfl ?_
  refine zk_stk (r' := [.int 20]) (by rw [show (0 : Int32) + 20 = 20 by decide]) ?_
  refine zk_sipush (v := 16384) C kd_Mo_feed_7 (by decide) rfl ?_
  refine zk_icmp_le (tgt := 15) C kd_Mo_feed_10 (by decide) rfl (fun h_1 => ?_) (fun h_1 => absurd (by decide) h_1)
  refine zk_aload_n C kd_Mo_feed_15 rfl 0 rfl rfl ?_
  refine zk_iload_n C kd_Mo_feed_16 rfl 1 rfl rfl ?_
  refine zs_callV (k := 68) (rn := { frames := 0, cells := 0, slots := 0, locals := 0 }) (As := [.int x1]) (rest := []) C (zq_bring0 h e_taped (x1)) ku_Mo_bring kw1976 kv_Mo_bring rfl ⟨by decide, by decide⟩ ⟨by decide, by decide⟩ rfl rfl rfl (Nat.le_of_ble_eq_true rfl) kd_Mo_feed_17 rfl (c1 := 0) (s1 := 0) rfl rfl (fun v w hp => ?_)
  obtain ⟨rfl, rfl⟩ := hp
  refine zk_stk (r' := []) rfl ?_
  refine zk_aload_n C kd_Mo_feed_20 rfl 0 rfl rfl ?_
  refine zk_iload_n C kd_Mo_feed_21 rfl 2 rfl rfl ?_
  refine zs_callV (k := 68) (rn := { frames := 0, cells := 0, slots := 0, locals := 0 }) (As := [.int x2]) (rest := []) C (zq_bring1 (zs_uF (zs_uM (zs_uF (zs_uM (zs_uF (zs_uM (zs_uF (zs_uM h 116 ((0 : Int32)).toNatClampNeg (vp_nar .byte (((x1 >>> ((24 : Int32) &&& 31))).toInt8.toInt32))) 68 78 1) 116 ((1 : Int32)).toNatClampNeg (vp_nar .byte (((x1 >>> ((16 : Int32) &&& 31))).toInt8.toInt32))) 68 78 2) 116 ((2 : Int32)).toNatClampNeg (vp_nar .byte (((x1 >>> ((8 : Int32) &&& 31))).toInt8.toInt32))) 68 78 3) 116 ((3 : Int32)).toNatClampNeg (vp_nar .byte (((x1 >>> ((0 : Int32) &&& 31))).toInt8.toInt32))) 68 78 4) rfl (x2)) ku_Mo_bring kw1976 kv_Mo_bring rfl ⟨by decide, by decide⟩ ⟨by decide, by decide⟩ rfl rfl rfl (Nat.le_of_ble_eq_true rfl) kd_Mo_feed_22 rfl (c1 := 0) (s1 := 0) rfl rfl (fun v w hp => ?_)
  obtain ⟨rfl, rfl⟩ := hp
  refine zk_stk (r' := []) rfl ?_
  refine zk_aload_n C kd_Mo_feed_25 rfl 0 rfl rfl ?_
  refine zk_iload_n C kd_Mo_feed_26 rfl 3 rfl rfl ?_
  refine zs_callV (k := 68) (rn := { frames := 0, cells := 0, slots := 0, locals := 0 }) (As := [.int x3]) (rest := []) C (zq_bring2 (zs_uF (zs_uM (zs_uF (zs_uM (zs_uF (zs_uM (zs_uF (zs_uM (zs_uF (zs_uM (zs_uF (zs_uM (zs_uF (zs_uM (zs_uF (zs_uM h 116 ((0 : Int32)).toNatClampNeg (vp_nar .byte (((x1 >>> ((24 : Int32) &&& 31))).toInt8.toInt32))) 68 78 1) 116 ((1 : Int32)).toNatClampNeg (vp_nar .byte (((x1 >>> ((16 : Int32) &&& 31))).toInt8.toInt32))) 68 78 2) 116 ((2 : Int32)).toNatClampNeg (vp_nar .byte (((x1 >>> ((8 : Int32) &&& 31))).toInt8.toInt32))) 68 78 3) 116 ((3 : Int32)).toNatClampNeg (vp_nar .byte (((x1 >>> ((0 : Int32) &&& 31))).toInt8.toInt32))) 68 78 4) 116 ((4 : Int32)).toNatClampNeg (vp_nar .byte (((x2 >>> ((24 : Int32) &&& 31))).toInt8.toInt32))) 68 78 5) 116 ((5 : Int32)).toNatClampNeg (vp_nar .byte (((x2 >>> ((16 : Int32) &&& 31))).toInt8.toInt32))) 68 78 6) 116 ((6 : Int32)).toNatClampNeg (vp_nar .byte (((x2 >>> ((8 : Int32) &&& 31))).toInt8.toInt32))) 68 78 7) 116 ((7 : Int32)).toNatClampNeg (vp_nar .byte (((x2 >>> ((0 : Int32) &&& 31))).toInt8.toInt32))) 68 78 8) rfl (x3)) ku_Mo_bring kw1976 kv_Mo_bring rfl ⟨by decide, by decide⟩ ⟨by decide, by decide⟩ rfl rfl rfl (Nat.le_of_ble_eq_true rfl) kd_Mo_feed_27 rfl (c1 := 0) (s1 := 0) rfl rfl (fun v w hp => ?_)
  obtain ⟨rfl, rfl⟩ := hp
  refine zk_stk (r' := []) rfl ?_
  refine zk_aload_n C kd_Mo_feed_30 rfl 0 rfl rfl ?_
  refine zk_iload C kd_Mo_feed_31 4 rfl rfl ?_
  refine zs_callV (k := 68) (rn := { frames := 0, cells := 0, slots := 0, locals := 0 }) (As := [.int x4]) (rest := []) C (zq_bring3 (zs_uF (zs_uM (zs_uF (zs_uM (zs_uF (zs_uM (zs_uF (zs_uM (zs_uF (zs_uM (zs_uF (zs_uM (zs_uF (zs_uM (zs_uF (zs_uM (zs_uF (zs_uM (zs_uF (zs_uM (zs_uF (zs_uM (zs_uF (zs_uM h 116 ((0 : Int32)).toNatClampNeg (vp_nar .byte (((x1 >>> ((24 : Int32) &&& 31))).toInt8.toInt32))) 68 78 1) 116 ((1 : Int32)).toNatClampNeg (vp_nar .byte (((x1 >>> ((16 : Int32) &&& 31))).toInt8.toInt32))) 68 78 2) 116 ((2 : Int32)).toNatClampNeg (vp_nar .byte (((x1 >>> ((8 : Int32) &&& 31))).toInt8.toInt32))) 68 78 3) 116 ((3 : Int32)).toNatClampNeg (vp_nar .byte (((x1 >>> ((0 : Int32) &&& 31))).toInt8.toInt32))) 68 78 4) 116 ((4 : Int32)).toNatClampNeg (vp_nar .byte (((x2 >>> ((24 : Int32) &&& 31))).toInt8.toInt32))) 68 78 5) 116 ((5 : Int32)).toNatClampNeg (vp_nar .byte (((x2 >>> ((16 : Int32) &&& 31))).toInt8.toInt32))) 68 78 6) 116 ((6 : Int32)).toNatClampNeg (vp_nar .byte (((x2 >>> ((8 : Int32) &&& 31))).toInt8.toInt32))) 68 78 7) 116 ((7 : Int32)).toNatClampNeg (vp_nar .byte (((x2 >>> ((0 : Int32) &&& 31))).toInt8.toInt32))) 68 78 8) 116 ((8 : Int32)).toNatClampNeg (vp_nar .byte (((x3 >>> ((24 : Int32) &&& 31))).toInt8.toInt32))) 68 78 9) 116 ((9 : Int32)).toNatClampNeg (vp_nar .byte (((x3 >>> ((16 : Int32) &&& 31))).toInt8.toInt32))) 68 78 10) 116 ((10 : Int32)).toNatClampNeg (vp_nar .byte (((x3 >>> ((8 : Int32) &&& 31))).toInt8.toInt32))) 68 78 11) 116 ((11 : Int32)).toNatClampNeg (vp_nar .byte (((x3 >>> ((0 : Int32) &&& 31))).toInt8.toInt32))) 68 78 12) rfl (x4)) ku_Mo_bring kw1976 kv_Mo_bring rfl ⟨by decide, by decide⟩ ⟨by decide, by decide⟩ rfl rfl rfl (Nat.le_of_ble_eq_true rfl) kd_Mo_feed_33 rfl (c1 := 0) (s1 := 0) rfl rfl (fun v w hp => ?_)
  obtain ⟨rfl, rfl⟩ := hp
  refine zk_stk (r' := []) rfl ?_
  refine zk_aload_n C kd_Mo_feed_36 rfl 0 rfl rfl ?_
  refine zk_iload C kd_Mo_feed_37 5 rfl rfl ?_
  refine zs_callV (k := 68) (rn := { frames := 0, cells := 0, slots := 0, locals := 0 }) (As := [.int x5]) (rest := []) C (zq_bring4 (zs_uF (zs_uM (zs_uF (zs_uM (zs_uF (zs_uM (zs_uF (zs_uM (zs_uF (zs_uM (zs_uF (zs_uM (zs_uF (zs_uM (zs_uF (zs_uM (zs_uF (zs_uM (zs_uF (zs_uM (zs_uF (zs_uM (zs_uF (zs_uM (zs_uF (zs_uM (zs_uF (zs_uM (zs_uF (zs_uM (zs_uF (zs_uM h 116 ((0 : Int32)).toNatClampNeg (vp_nar .byte (((x1 >>> ((24 : Int32) &&& 31))).toInt8.toInt32))) 68 78 1) 116 ((1 : Int32)).toNatClampNeg (vp_nar .byte (((x1 >>> ((16 : Int32) &&& 31))).toInt8.toInt32))) 68 78 2) 116 ((2 : Int32)).toNatClampNeg (vp_nar .byte (((x1 >>> ((8 : Int32) &&& 31))).toInt8.toInt32))) 68 78 3) 116 ((3 : Int32)).toNatClampNeg (vp_nar .byte (((x1 >>> ((0 : Int32) &&& 31))).toInt8.toInt32))) 68 78 4) 116 ((4 : Int32)).toNatClampNeg (vp_nar .byte (((x2 >>> ((24 : Int32) &&& 31))).toInt8.toInt32))) 68 78 5) 116 ((5 : Int32)).toNatClampNeg (vp_nar .byte (((x2 >>> ((16 : Int32) &&& 31))).toInt8.toInt32))) 68 78 6) 116 ((6 : Int32)).toNatClampNeg (vp_nar .byte (((x2 >>> ((8 : Int32) &&& 31))).toInt8.toInt32))) 68 78 7) 116 ((7 : Int32)).toNatClampNeg (vp_nar .byte (((x2 >>> ((0 : Int32) &&& 31))).toInt8.toInt32))) 68 78 8) 116 ((8 : Int32)).toNatClampNeg (vp_nar .byte (((x3 >>> ((24 : Int32) &&& 31))).toInt8.toInt32))) 68 78 9) 116 ((9 : Int32)).toNatClampNeg (vp_nar .byte (((x3 >>> ((16 : Int32) &&& 31))).toInt8.toInt32))) 68 78 10) 116 ((10 : Int32)).toNatClampNeg (vp_nar .byte (((x3 >>> ((8 : Int32) &&& 31))).toInt8.toInt32))) 68 78 11) 116 ((11 : Int32)).toNatClampNeg (vp_nar .byte (((x3 >>> ((0 : Int32) &&& 31))).toInt8.toInt32))) 68 78 12) 116 ((12 : Int32)).toNatClampNeg (vp_nar .byte (((x4 >>> ((24 : Int32) &&& 31))).toInt8.toInt32))) 68 78 13) 116 ((13 : Int32)).toNatClampNeg (vp_nar .byte (((x4 >>> ((16 : Int32) &&& 31))).toInt8.toInt32))) 68 78 14) 116 ((14 : Int32)).toNatClampNeg (vp_nar .byte (((x4 >>> ((8 : Int32) &&& 31))).toInt8.toInt32))) 68 78 15) 116 ((15 : Int32)).toNatClampNeg (vp_nar .byte (((x4 >>> ((0 : Int32) &&& 31))).toInt8.toInt32))) 68 78 16) rfl (x5)) ku_Mo_bring kw1976 kv_Mo_bring rfl ⟨by decide, by decide⟩ ⟨by decide, by decide⟩ rfl rfl rfl (Nat.le_of_ble_eq_true rfl) kd_Mo_feed_39 rfl (c1 := 0) (s1 := 0) rfl rfl (fun v w hp => ?_)
  obtain ⟨rfl, rfl⟩ := hp
  refine zk_stk (r' := []) rfl ?_
  refine zk_aload_n C kd_Mo_feed_42 rfl 0 rfl rfl ?_
  refine zs_get (v := .int 20) C 68 78 rfl rfl rfl rfl ki_Mo (by decide) kw1761 kd_Mo_feed_43 rfl ?_
  exact zk_iret C hR kd_Mo_feed_46 rfl rfl ⟨rfl, rfl⟩
