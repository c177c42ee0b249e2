theorem kw2248 : Jvm.Cond.methodLink "PlantKeeperModel" (519 : Nat) ({ cls := "PlantKeeperModel", name := "look", desc := "(I)V" } : Jvm.MethodName) ∈ zk_BW := zk_inT 2248 (by decide +kernel) rfl
theorem kw2250 : Jvm.Cond.instanceMethod ({ cls := "PlantKeeperModel", name := "look", desc := "(I)V" } : Jvm.MethodName) ∈ zk_BW := zk_inT 2250 (by decide +kernel) rfl
theorem kw2251 : Jvm.Cond.code ({ cls := "PlantKeeperModel", name := "look", desc := "(I)V" } : Jvm.MethodName) prog_14_method_81_code (3 : Nat) (Option.none : Option FieldType) ∈ zk_BW := zk_inT 2251 (by decide +kernel) rfl
theorem kw2252 : Jvm.Cond.methodLink "PlantKeeperModel" (522 : Nat) ({ cls := "PlantKeeperModel", name := "lookAlone", desc := "(I)V" } : Jvm.MethodName) ∈ zk_BW := zk_inT 2252 (by decide +kernel) rfl
theorem kw2254 : Jvm.Cond.instanceMethod ({ cls := "PlantKeeperModel", name := "lookAlone", desc := "(I)V" } : Jvm.MethodName) ∈ zk_BW := zk_inT 2254 (by decide +kernel) rfl
theorem kw2255 : Jvm.Cond.code ({ cls := "PlantKeeperModel", name := "lookAlone", desc := "(I)V" } : Jvm.MethodName) prog_14_method_82_code (4 : Nat) (Option.none : Option FieldType) ∈ zk_BW := zk_inT 2255 (by decide +kernel) rfl
theorem kw2256 : Jvm.Cond.methodLink "PlantKeeperModel" (528 : Nat) ({ cls := "PlantKeeperModel", name := "beginBlock", desc := "(I)V" } : Jvm.MethodName) ∈ zk_BW := zk_inT 2256 (by decide +kernel) rfl
theorem kw2290 : Jvm.Cond.methodLink "PlantKeeperModel" (531 : Nat) ({ cls := "PlantKeeperModel", name := "lookAtBlocks", desc := "(I)V" } : Jvm.MethodName) ∈ zk_BW := zk_inT 2290 (by decide +kernel) rfl
theorem kw2339 : Jvm.Cond.methodLink "PlantKeeperModel" (534 : Nat) ({ cls := "PlantKeeperModel", name := "lookAtStatements", desc := "(I)V" } : Jvm.MethodName) ∈ zk_BW := zk_inT 2339 (by decide +kernel) rfl
theorem kw2477 : Jvm.Cond.methodLink "PlantKeeperModel" (537 : Nat) ({ cls := "PlantKeeperModel", name := "lookAtRungs", desc := "(I)V" } : Jvm.MethodName) ∈ zk_BW := zk_inT 2477 (by decide +kernel) rfl
theorem kw2485 : Jvm.Cond.methodLink "PlantKeeperModel" (525 : Nat) ({ cls := "PlantKeeperModel", name := "lookAtExpressions", desc := "(I)V" } : Jvm.MethodName) ∈ zk_BW := zk_inT 2485 (by decide +kernel) rfl
abbrev kc_Mo_look : ByteArray := prog_14_method_81_code
def km_Mo_look : zk_MT := (⟨"PlantKeeperModel", "look", "(I)V"⟩, kc_Mo_look, 3, none, 1)
theorem ku_Mo_look : zk_My km_Mo_look := ⟨kw2251, kw17, by decide, by decide, by decide, by decide +kernel⟩
theorem kv_Mo_look : zk_Mv km_Mo_look := ⟨kw2250, zk_inS 205 (q := (⟨"PlantKeeperModel", "look", "(I)V"⟩, 96)) (by decide +kernel)⟩
abbrev kc_Mo_lookAlone : ByteArray := prog_14_method_82_code
def km_Mo_lookAlone : zk_MT := (⟨"PlantKeeperModel", "lookAlone", "(I)V"⟩, kc_Mo_lookAlone, 4, none, 1)
theorem ku_Mo_lookAlone : zk_My km_Mo_lookAlone := ⟨kw2255, kw17, by decide, by decide, by decide, by decide +kernel⟩
theorem kv_Mo_lookAlone : zk_Mv km_Mo_lookAlone := ⟨kw2254, zk_inS 206 (q := (⟨"PlantKeeperModel", "lookAlone", "(I)V"⟩, 96)) (by decide +kernel)⟩
theorem kd_Mo_look_0 : decode kc_Mo_look 0 = .ok (.iload_n 1, 1) := by decide +kernel
theorem kd_Mo_look_1 : decode kc_Mo_look 1 = .ok (.istore_n 2, 1) := by decide +kernel
theorem kd_Mo_look_2 : decode kc_Mo_look 2 = .ok (.aload_n 0, 1) := by decide +kernel
theorem kd_Mo_look_3 : decode kc_Mo_look 3 = .ok (.getfield 22, 3) := by decide +kernel
theorem kd_Mo_look_6 : decode kc_Mo_look 6 = .ok (.iload_n 2, 1) := by decide +kernel
theorem kd_Mo_look_7 : decode kc_Mo_look 7 = .ok (.iaload, 1) := by decide +kernel
theorem kd_Mo_look_8 : decode kc_Mo_look 8 = .ok (.bipush 35, 2) := by decide +kernel
theorem kd_Mo_look_10 : decode kc_Mo_look 10 = .ok (.if_icmp .ne 13, 3) := by decide +kernel
theorem kd_Mo_look_13 : decode kc_Mo_look 13 = .ok (.aload_n 0, 1) := by decide +kernel
theorem kd_Mo_look_14 : decode kc_Mo_look 14 = .ok (.getfield 34, 3) := by decide +kernel
theorem kd_Mo_look_17 : decode kc_Mo_look 17 = .ok (.iload_n 2, 1) := by decide +kernel
theorem kd_Mo_look_18 : decode kc_Mo_look 18 = .ok (.iaload, 1) := by decide +kernel
theorem kd_Mo_look_19 : decode kc_Mo_look 19 = .ok (.istore_n 2, 1) := by decide +kernel
theorem kd_Mo_look_20 : decode kc_Mo_look 20 = .ok (.goto (-18), 3) := by decide +kernel
theorem kd_Mo_look_23 : decode kc_Mo_look 23 = .ok (.aload_n 0, 1) := by decide +kernel
theorem kd_Mo_look_24 : decode kc_Mo_look 24 = .ok (.iload_n 2, 1) := by decide +kernel
theorem kd_Mo_look_25 : decode kc_Mo_look 25 = .ok (.invokevirtual 522, 3) := by decide +kernel
theorem kd_Mo_look_28 : decode kc_Mo_look 28 = .ok (.iload_n 2, 1) := by decide +kernel
theorem kd_Mo_look_29 : decode kc_Mo_look 29 = .ok (.iload_n 1, 1) := by decide +kernel
theorem kd_Mo_look_30 : decode kc_Mo_look 30 = .ok (.if_icmp .eq 42, 3) := by decide +kernel
theorem kd_Mo_look_33 : decode kc_Mo_look 33 = .ok (.aload_n 0, 1) := by decide +kernel
theorem kd_Mo_look_34 : decode kc_Mo_look 34 = .ok (.getfield 445, 3) := by decide +kernel
theorem kd_Mo_look_37 : decode kc_Mo_look 37 = .ok (.ifCond .ne 35, 3) := by decide +kernel
theorem kd_Mo_look_40 : decode kc_Mo_look 40 = .ok (.aload_n 0, 1) := by decide +kernel
theorem kd_Mo_look_41 : decode kc_Mo_look 41 = .ok (.getfield 31, 3) := by decide +kernel
theorem kd_Mo_look_44 : decode kc_Mo_look 44 = .ok (.iload_n 2, 1) := by decide +kernel
theorem kd_Mo_look_45 : decode kc_Mo_look 45 = .ok (.iaload, 1) := by decide +kernel
theorem kd_Mo_look_46 : decode kc_Mo_look 46 = .ok (.istore_n 2, 1) := by decide +kernel
theorem kd_Mo_look_47 : decode kc_Mo_look 47 = .ok (.aload_n 0, 1) := by decide +kernel
theorem kd_Mo_look_48 : decode kc_Mo_look 48 = .ok (.aload_n 0, 1) := by decide +kernel
theorem kd_Mo_look_49 : decode kc_Mo_look 49 = .ok (.getfield 37, 3) := by decide +kernel
theorem kd_Mo_look_52 : decode kc_Mo_look 52 = .ok (.iload_n 2, 1) := by decide +kernel
theorem kd_Mo_look_53 : decode kc_Mo_look 53 = .ok (.iaload, 1) := by decide +kernel
theorem kd_Mo_look_54 : decode kc_Mo_look 54 = .ok (.invokevirtual 519, 3) := by decide +kernel
theorem kd_Mo_look_57 : decode kc_Mo_look 57 = .ok (.aload_n 0, 1) := by decide +kernel
theorem kd_Mo_look_58 : decode kc_Mo_look 58 = .ok (.getfield 445, 3) := by decide +kernel
theorem kd_Mo_look_61 : decode kc_Mo_look 61 = .ok (.ifCond .ne (-33), 3) := by decide +kernel
theorem kd_Mo_look_64 : decode kc_Mo_look 64 = .ok (.aload_n 0, 1) := by decide +kernel
theorem kd_Mo_look_65 : decode kc_Mo_look 65 = .ok (.iload_n 2, 1) := by decide +kernel
theorem kd_Mo_look_66 : decode kc_Mo_look 66 = .ok (.invokevirtual 525, 3) := by decide +kernel
theorem kd_Mo_look_69 : decode kc_Mo_look 69 = .ok (.goto (-41), 3) := by decide +kernel
theorem kd_Mo_look_72 : decode kc_Mo_look 72 = .ok (.return_, 1) := by decide +kernel
theorem kd_Mo_lookAlone_0 : decode kc_Mo_lookAlone 0 = .ok (.aload_n 0, 1) := by decide +kernel
theorem kd_Mo_lookAlone_1 : decode kc_Mo_lookAlone 1 = .ok (.getfield 22, 3) := by decide +kernel
theorem kd_Mo_lookAlone_4 : decode kc_Mo_lookAlone 4 = .ok (.iload_n 1, 1) := by decide +kernel
theorem kd_Mo_lookAlone_5 : decode kc_Mo_lookAlone 5 = .ok (.iaload, 1) := by decide +kernel
theorem kd_Mo_lookAlone_6 : decode kc_Mo_lookAlone 6 = .ok (.istore_n 2, 1) := by decide +kernel
theorem kd_Mo_lookAlone_7 : decode kc_Mo_lookAlone 7 = .ok (.iload_n 2, 1) := by decide +kernel
theorem kd_Mo_lookAlone_8 : decode kc_Mo_lookAlone 8 = .ok (.ifCond .le 13, 3) := by decide +kernel
theorem kd_Mo_lookAlone_11 : decode kc_Mo_lookAlone 11 = .ok (.iload_n 2, 1) := by decide +kernel
theorem kd_Mo_lookAlone_12 : decode kc_Mo_lookAlone 12 = .ok (.iconst 4, 1) := by decide +kernel
theorem kd_Mo_lookAlone_13 : decode kc_Mo_lookAlone 13 = .ok (.if_icmp .ge 8, 3) := by decide +kernel
theorem kd_Mo_lookAlone_16 : decode kc_Mo_lookAlone 16 = .ok (.aload_n 0, 1) := by decide +kernel
theorem kd_Mo_lookAlone_17 : decode kc_Mo_lookAlone 17 = .ok (.iload_n 1, 1) := by decide +kernel
theorem kd_Mo_lookAlone_18 : decode kc_Mo_lookAlone 18 = .ok (.invokevirtual 528, 3) := by decide +kernel
theorem kd_Mo_lookAlone_21 : decode kc_Mo_lookAlone 21 = .ok (.aload_n 0, 1) := by decide +kernel
theorem kd_Mo_lookAlone_22 : decode kc_Mo_lookAlone 22 = .ok (.getfield 34, 3) := by decide +kernel
theorem kd_Mo_lookAlone_25 : decode kc_Mo_lookAlone 25 = .ok (.iload_n 1, 1) := by decide +kernel
theorem kd_Mo_lookAlone_26 : decode kc_Mo_lookAlone 26 = .ok (.iaload, 1) := by decide +kernel
theorem kd_Mo_lookAlone_27 : decode kc_Mo_lookAlone 27 = .ok (.istore_n 3, 1) := by decide +kernel
theorem kd_Mo_lookAlone_28 : decode kc_Mo_lookAlone 28 = .ok (.iload_n 3, 1) := by decide +kernel
theorem kd_Mo_lookAlone_29 : decode kc_Mo_lookAlone 29 = .ok (.ifCond .lt 25, 3) := by decide +kernel
theorem kd_Mo_lookAlone_32 : decode kc_Mo_lookAlone 32 = .ok (.aload_n 0, 1) := by decide +kernel
theorem kd_Mo_lookAlone_33 : decode kc_Mo_lookAlone 33 = .ok (.getfield 445, 3) := by decide +kernel
theorem kd_Mo_lookAlone_36 : decode kc_Mo_lookAlone 36 = .ok (.ifCond .ne 18, 3) := by decide +kernel
theorem kd_Mo_lookAlone_39 : decode kc_Mo_lookAlone 39 = .ok (.aload_n 0, 1) := by decide +kernel
theorem kd_Mo_lookAlone_40 : decode kc_Mo_lookAlone 40 = .ok (.iload_n 3, 1) := by decide +kernel
theorem kd_Mo_lookAlone_41 : decode kc_Mo_lookAlone 41 = .ok (.invokevirtual 519, 3) := by decide +kernel
theorem kd_Mo_lookAlone_44 : decode kc_Mo_lookAlone 44 = .ok (.aload_n 0, 1) := by decide +kernel
theorem kd_Mo_lookAlone_45 : decode kc_Mo_lookAlone 45 = .ok (.getfield 40, 3) := by decide +kernel
theorem kd_Mo_lookAlone_48 : decode kc_Mo_lookAlone 48 = .ok (.iload_n 3, 1) := by decide +kernel
theorem kd_Mo_lookAlone_49 : decode kc_Mo_lookAlone 49 = .ok (.iaload, 1) := by decide +kernel
theorem kd_Mo_lookAlone_50 : decode kc_Mo_lookAlone 50 = .ok (.istore_n 3, 1) := by decide +kernel
theorem kd_Mo_lookAlone_51 : decode kc_Mo_lookAlone 51 = .ok (.goto (-23), 3) := by decide +kernel
theorem kd_Mo_lookAlone_54 : decode kc_Mo_lookAlone 54 = .ok (.aload_n 0, 1) := by decide +kernel
theorem kd_Mo_lookAlone_55 : decode kc_Mo_lookAlone 55 = .ok (.getfield 445, 3) := by decide +kernel
theorem kd_Mo_lookAlone_58 : decode kc_Mo_lookAlone 58 = .ok (.ifCond .ne 50, 3) := by decide +kernel
theorem kd_Mo_lookAlone_61 : decode kc_Mo_lookAlone 61 = .ok (.iload_n 2, 1) := by decide +kernel
theorem kd_Mo_lookAlone_62 : decode kc_Mo_lookAlone 62 = .ok (.bipush 11, 2) := by decide +kernel
theorem kd_Mo_lookAlone_64 : decode kc_Mo_lookAlone 64 = .ok (.if_icmp .ge 11, 3) := by decide +kernel
theorem kd_Mo_lookAlone_67 : decode kc_Mo_lookAlone 67 = .ok (.aload_n 0, 1) := by decide +kernel
theorem kd_Mo_lookAlone_68 : decode kc_Mo_lookAlone 68 = .ok (.iload_n 1, 1) := by decide +kernel
theorem kd_Mo_lookAlone_69 : decode kc_Mo_lookAlone 69 = .ok (.invokevirtual 531, 3) := by decide +kernel
theorem kd_Mo_lookAlone_72 : decode kc_Mo_lookAlone 72 = .ok (.goto 36, 3) := by decide +kernel
theorem kd_Mo_lookAlone_75 : decode kc_Mo_lookAlone 75 = .ok (.iload_n 2, 1) := by decide +kernel
theorem kd_Mo_lookAlone_76 : decode kc_Mo_lookAlone 76 = .ok (.bipush 22, 2) := by decide +kernel
theorem kd_Mo_lookAlone_78 : decode kc_Mo_lookAlone 78 = .ok (.if_icmp .ge 11, 3) := by decide +kernel
theorem kd_Mo_lookAlone_81 : decode kc_Mo_lookAlone 81 = .ok (.aload_n 0, 1) := by decide +kernel
theorem kd_Mo_lookAlone_82 : decode kc_Mo_lookAlone 82 = .ok (.iload_n 1, 1) := by decide +kernel
theorem kd_Mo_lookAlone_83 : decode kc_Mo_lookAlone 83 = .ok (.invokevirtual 534, 3) := by decide +kernel
theorem kd_Mo_lookAlone_86 : decode kc_Mo_lookAlone 86 = .ok (.goto 22, 3) := by decide +kernel
theorem kd_Mo_lookAlone_89 : decode kc_Mo_lookAlone 89 = .ok (.iload_n 2, 1) := by decide +kernel
theorem kd_Mo_lookAlone_90 : decode kc_Mo_lookAlone 90 = .ok (.bipush 30, 2) := by decide +kernel
theorem kd_Mo_lookAlone_92 : decode kc_Mo_lookAlone 92 = .ok (.if_icmp .ge 11, 3) := by decide +kernel
theorem kd_Mo_lookAlone_95 : decode kc_Mo_lookAlone 95 = .ok (.aload_n 0, 1) := by decide +kernel
theorem kd_Mo_lookAlone_96 : decode kc_Mo_lookAlone 96 = .ok (.iload_n 1, 1) := by decide +kernel
theorem kd_Mo_lookAlone_97 : decode kc_Mo_lookAlone 97 = .ok (.invokevirtual 537, 3) := by decide +kernel
theorem kd_Mo_lookAlone_100 : decode kc_Mo_lookAlone 100 = .ok (.goto 8, 3) := by decide +kernel
theorem kd_Mo_lookAlone_103 : decode kc_Mo_lookAlone 103 = .ok (.aload_n 0, 1) := by decide +kernel
theorem kd_Mo_lookAlone_104 : decode kc_Mo_lookAlone 104 = .ok (.iload_n 1, 1) := by decide +kernel
theorem kd_Mo_lookAlone_105 : decode kc_Mo_lookAlone 105 = .ok (.invokevirtual 525, 3) := by decide +kernel
theorem kd_Mo_lookAlone_108 : decode kc_Mo_lookAlone 108 = .ok (.return_, 1) := by decide +kernel
/-! The judge's walk, with a count: how many of its calls may make Strings. -/
def zk_cb (o : Option (zs_H × Nat)) (f : zs_H → Option (zs_H × Nat)) : Option (zs_H × Nat) := o.bind fun p => (f p.1).bind fun q => some (q.1, p.2 + q.2)
def zk_c1 (o : Option zs_H) : Option (zs_H × Nat) := o.bind fun h => some (h, 1)
theorem zk_cbd {o : Option (zs_H × Nat)} {f : zs_H → Option (zs_H × Nat)} {rh : zs_H} {cc : Nat} (e : zk_cb o f = some (rh, cc)) : ∃ h1 m n, o = some (h1, m) ∧ cc = m + n ∧ f h1 = some (rh, n) := by
  unfold zk_cb at e
  cases o with
  | none => cases e
  | some p =>
    obtain ⟨h1, m⟩ := p
    cases ef : f h1 with
    | none => simp only [Option.bind_some] at e; rw [ef] at e; cases e
    | some q =>
      obtain ⟨h2, n⟩ := q
      simp only [Option.bind_some] at e
      rw [ef] at e
      cases e
      exact ⟨h1, m, n, rfl, rfl, ef⟩
theorem zk_c1d {o : Option zs_H} {h1 : zs_H} {m : Nat} (e : zk_c1 o = some (h1, m)) : o = some h1 ∧ m = 1 := by
  unfold zk_c1 at e
  cases o with
  | none => cases e
  | some p => cases e; exact ⟨rfl, rfl⟩
theorem zk_csd {h rh : zs_H} {cc : Nat} (e : some (h, 0) = some (rh, cc)) : h = rh ∧ cc = 0 := by cases e; exact ⟨rfl, rfl⟩
def c_Mo_look_28 (r_Mo_look : zs_H → Int32 → (Option (zs_H × Nat))) (k28 : zs_H → Int32 → Int32 → (Option (zs_H × Nat))) (h : zs_H) (x1 : Int32) (x2 : Int32) : (Option (zs_H × Nat)) := (if x2 = x1 then (some (h, 0)) else (if (h.1 68 29) = 0 then (if zd_in x2 33500 then (if zd_in (h.2.1 75 x2.toNatClampNeg) 33500 then (zk_cb (r_Mo_look h (h.2.1 77 (h.2.1 75 x2.toNatClampNeg).toNatClampNeg)) fun h6 => (if (h6.1 68 29) = 0 then (zk_cb (zk_c1 (f_Mo_lookAtExpressions h6 (h.2.1 75 x2.toNatClampNeg))) fun h9 => k28 h9 x1 (h.2.1 75 x2.toNatClampNeg)) else k28 h6 x1 (h.2.1 75 x2.toNatClampNeg))) else none) else none) else (some (h, 0))))
def c_Mo_look_L28 (r_Mo_look : zs_H → Int32 → (Option (zs_H × Nat))) : Nat → zs_H → Int32 → Int32 → (Option (zs_H × Nat)) := zd_it (fun k28 => c_Mo_look_28 r_Mo_look k28) (fun _ _ _ => none)
def c_Mo_look_2 (r_Mo_look : zs_H → Int32 → (Option (zs_H × Nat))) (r_Mo_lookAlone : zs_H → Int32 → (Option (zs_H × Nat))) (k2 : zs_H → Int32 → Int32 → (Option (zs_H × Nat))) (h : zs_H) (x1 : Int32) (x2 : Int32) : (Option (zs_H × Nat)) := (if zd_in x2 33500 then (if (h.2.1 72 x2.toNatClampNeg) = 35 then k2 h x1 (h.2.1 76 x2.toNatClampNeg) else (zk_cb (r_Mo_lookAlone h x2) fun h4 => c_Mo_look_L28 r_Mo_look zF h4 x1 x2)) else none)
def c_Mo_look_L2 (r_Mo_look : zs_H → Int32 → (Option (zs_H × Nat))) (r_Mo_lookAlone : zs_H → Int32 → (Option (zs_H × Nat))) : Nat → zs_H → Int32 → Int32 → (Option (zs_H × Nat)) := zd_it (fun k2 => c_Mo_look_2 r_Mo_look r_Mo_lookAlone k2) (fun _ _ _ => none)
def cg_Mo_look (r_Mo_look : zs_H → Int32 → (Option (zs_H × Nat))) (r_Mo_lookAlone : zs_H → Int32 → (Option (zs_H × Nat))) (h : zs_H) (x1 : Int32) : (Option (zs_H × Nat)) := c_Mo_look_L2 r_Mo_look r_Mo_lookAlone zF h x1 x1
def c_Mo_lookAlone_54 (h : zs_H) (x1 : Int32) (x2 : Int32) : (Option (zs_H × Nat)) := (if (h.1 68 29) = 0 then (if 11 ≤ x2 then (if 22 ≤ x2 then (if 30 ≤ x2 then (zk_cb (zk_c1 (f_Mo_lookAtExpressions h x1)) fun h6 => (some (h6, 0))) else ((f_Mo_lookAtRungs h x1).bind fun h8 => (some (h8, 0)))) else (zk_cb (zk_c1 (f_Mo_lookAtStatements h x1)) fun h10 => (some (h10, 0)))) else ((f_Mo_lookAtBlocks h x1).bind fun h12 => (some (h12, 0)))) else (some (h, 0)))
def c_Mo_lookAlone_28 (r_Mo_look : zs_H → Int32 → (Option (zs_H × Nat))) (k28 : zs_H → Int32 → Int32 → Int32 → (Option (zs_H × Nat))) (h : zs_H) (x1 : Int32) (x2 : Int32) (x3 : Int32) : (Option (zs_H × Nat)) := (if x3 < 0 then c_Mo_lookAlone_54 h x1 x2 else (if (h.1 68 29) = 0 then (zk_cb (r_Mo_look h x3) fun h4 => (if zd_in x3 33500 then k28 h4 x1 x2 (h4.2.1 78 x3.toNatClampNeg) else none)) else c_Mo_lookAlone_54 h x1 x2))
def c_Mo_lookAlone_L28 (r_Mo_look : zs_H → Int32 → (Option (zs_H × Nat))) : Nat → zs_H → Int32 → Int32 → Int32 → (Option (zs_H × Nat)) := zd_it (fun k28 => c_Mo_lookAlone_28 r_Mo_look k28) (fun _ _ _ _ => none)
def c_Mo_lookAlone_21 (r_Mo_look : zs_H → Int32 → (Option (zs_H × Nat))) (h : zs_H) (x1 : Int32) (x2 : Int32) : (Option (zs_H × Nat)) := (if zd_in x1 33500 then c_Mo_lookAlone_L28 r_Mo_look zF h x1 x2 (h.2.1 76 x1.toNatClampNeg) else none)
def cg_Mo_lookAlone (r_Mo_look : zs_H → Int32 → (Option (zs_H × Nat))) (h : zs_H) (x1 : Int32) : (Option (zs_H × Nat)) := (if zd_in x1 33500 then (if (h.2.1 72 x1.toNatClampNeg) ≤ 0 then c_Mo_lookAlone_21 r_Mo_look h x1 (h.2.1 72 x1.toNatClampNeg) else (if 4 ≤ (h.2.1 72 x1.toNatClampNeg) then c_Mo_lookAlone_21 r_Mo_look h x1 (h.2.1 72 x1.toNatClampNeg) else ((f_Mo_beginBlock h x1).bind fun h5 => c_Mo_lookAlone_21 r_Mo_look h5 x1 (h.2.1 72 x1.toNatClampNeg)))) else none)
def czy_Mo_look : Nat → (zs_H → Int32 → (Option (zs_H × Nat))) × (zs_H → Int32 → (Option (zs_H × Nat))) := zd_it (fun s => (cg_Mo_look s.1 s.2, cg_Mo_lookAlone s.1)) ((fun _ _ => none), (fun _ _ => none))
def c_Mo_look (d : Nat) : zs_H → Int32 → (Option (zs_H × Nat)) := (czy_Mo_look d).1
def c_Mo_lookAlone (d : Nat) : zs_H → Int32 → (Option (zs_H × Nat)) := (czy_Mo_look d).2
set_option maxHeartbeats 4000000 in
set_option maxRecDepth 100000 in
theorem jzb_Mo_look_28 {X : zkj_T} {S : zs_T} {P : ze_T} {l : Launch} {D : va_G} {sz0 : Nat} {d U : Nat} {rh : zs_H} (C : zk_C X km_Mo_look (zs_G S l D sz0) { frames := 404 + (d + 1), cells := 8 * U, slots := 28 * U, locals := 10092 + 23 * (d + 1) } (ze_E P)) (hR : zkj_R X (zd_PV S rh) (none)) {r_Mo_look : zs_H → Int32 → (Option (zs_H × Nat))} (hr_Mo_look : ∀ (h : zs_H) (x0 : Int32) {rh : zs_H} {cc : Nat}, r_Mo_look h x0 = some (rh, cc) → zk_Sp (zs_G S l D sz0) (ze_E P) km_Mo_look { frames := 404 + d, cells := 8 * cc, slots := 28 * cc, locals := 10092 + 23 * d } [.ref (S.1 68), .int x0] (zs_W S h) (zd_PV S rh)) {k28 : zs_H → Int32 → Int32 → (Option (zs_H × Nat))} (hk28 : ∀ (h : zs_H) (x1 : Int32) (x2 : Int32) (u cc : Nat), k28 h x1 x2 = some (rh, cc) → u + cc ≤ U → zk_Ab X (zs_W S h) (8 * u) (28 * u) 28 [(0, .ref (S.1 68)), (1, .int x1), (2, .int x2)] []) (h : zs_H) (x1 : Int32) (x2 : Int32) (u : Nat) {cc : Nat} (e : c_Mo_look_28 r_Mo_look k28 h x1 x2 = some (rh, cc)) (hu : u + cc ≤ U) : zk_Ab X (zs_W S h) (8 * u) (28 * u) 28 [(0, .ref (S.1 68)), (1, .int x1), (2, .int x2)] [] := by
  unfold c_Mo_look_28 at e
  refine zk_iload_n C kd_Mo_look_28 rfl 2 rfl rfl ?_
  refine zk_iload_n C kd_Mo_look_29 rfl 1 rfl rfl ?_
  refine zk_icmp_eq (tgt := 72) C kd_Mo_look_30 (by decide) rfl (fun b1 => ?_) (fun b1 => ?_)
  · replace e := zd_pos b1 e
    obtain ⟨rfl, rfl⟩ := zk_csd e
    refine zk_widen (c1 := 8 * U) (s1 := 28 * U) (by omega) (by omega) ?_
    exact zk_vret C hR kd_Mo_look_72 rfl rfl ⟨rfl, rfl⟩
  · replace e := zd_neg b1 e
    refine zk_aload_n C kd_Mo_look_33 rfl 0 rfl rfl ?_
    refine zs_get (v := .int (h.1 68 29)) C 68 29 rfl rfl rfl rfl ki_Mo (by decide) kw1712 kd_Mo_look_34 rfl ?_
    refine zk_if_ne (tgt := 72) C kd_Mo_look_37 (by decide) rfl (fun b2 => ?_) (fun b2 => ?_)
    · replace e := zd_neg b2 e
      obtain ⟨rfl, rfl⟩ := zk_csd e
      refine zk_widen (c1 := 8 * U) (s1 := 28 * U) (by omega) (by omega) ?_
      exact zk_vret C hR kd_Mo_look_72 rfl rfl ⟨rfl, rfl⟩
    · replace e := zd_pos b2 e
      refine zk_aload_n C kd_Mo_look_40 rfl 0 rfl rfl ?_
      refine zs_get (v := .ref (S.1 75)) C 68 18 rfl rfl rfl rfl ki_Mo (by decide) kw1701 kd_Mo_look_41 rfl ?_
      refine zk_iload_n C kd_Mo_look_44 rfl 2 rfl rfl ?_
      obtain ⟨q3, e⟩ := zd_g e
      refine zs_iald C 75 rfl (zd_vp q3) kd_Mo_look_45 rfl ?_
      refine zk_istore_n (lv' := [(2, _), (0, _), (1, _)]) C kd_Mo_look_46 rfl (by decide) rfl rfl ?_
      refine zk_aload_n C kd_Mo_look_47 rfl 1 rfl rfl ?_
      refine zk_aload_n C kd_Mo_look_48 rfl 1 rfl rfl ?_
      refine zs_get (v := .ref (S.1 77)) C 68 20 rfl rfl rfl rfl ki_Mo (by decide) kw1703 kd_Mo_look_49 rfl ?_
      refine zk_iload_n C kd_Mo_look_52 rfl 0 rfl rfl ?_
      obtain ⟨q4, e⟩ := zd_g e
      refine zs_iald C 77 rfl (zd_vp q4) kd_Mo_look_53 rfl ?_
      obtain ⟨h6, m1, n1, c5, s1, e⟩ := zk_cbd e
      refine zs_callV (k := 68) (rn := { frames := 404 + d, cells := 8 * m1, slots := 28 * m1, locals := 10092 + 23 * d }) (As := [.int (h.2.1 77 (h.2.1 75 x2.toNatClampNeg).toNatClampNeg)]) (rest := []) C (hr_Mo_look h (h.2.1 77 (h.2.1 75 x2.toNatClampNeg).toNatClampNeg) c5) ku_Mo_look kw2248 kv_Mo_look rfl (zd_rmI (by decide)) ⟨by show 8 * u + 8 * m1 ≤ 8 * U; omega, by show 28 * u + 28 * m1 ≤ 28 * U; omega⟩ rfl rfl rfl (Nat.le_of_ble_eq_true rfl) kd_Mo_look_54 rfl (c1 := 8 * (u + m1)) (s1 := 28 * (u + m1)) (Nat.mul_add _ _ _).symm (Nat.mul_add _ _ _).symm (fun v w hp => ?_)
      obtain ⟨rfl, rfl⟩ := hp
      refine zk_stk (r' := []) rfl ?_
      refine zk_aload_n C kd_Mo_look_57 rfl 1 rfl rfl ?_
      refine zs_get (v := .int (h6.1 68 29)) C 68 29 rfl rfl rfl rfl ki_Mo (by decide) kw1712 kd_Mo_look_58 rfl ?_
      refine zk_if_ne (tgt := 28) C kd_Mo_look_61 (by decide) rfl (fun b7 => ?_) (fun b7 => ?_)
      · replace e := zd_neg b7 e
        refine zk_lvs (lv' := [(0, .ref (S.1 68)), (1, .int x1), (2, .int (h.2.1 75 x2.toNatClampNeg))]) [1, 2, 0] rfl ?_
        exact hk28 h6 x1 (h.2.1 75 x2.toNatClampNeg) (u + m1) _ e (by omega)
      · replace e := zd_pos b7 e
        refine zk_aload_n C kd_Mo_look_64 rfl 1 rfl rfl ?_
        refine zk_iload_n C kd_Mo_look_65 rfl 0 rfl rfl ?_
        obtain ⟨h9, m2, n2, c8, s2, e⟩ := zk_cbd e
        obtain ⟨c8z, rfl⟩ := zk_c1d c8
        refine zs_callV (k := 68) (rn := { frames := 8, cells := 8, slots := 28, locals := 225 }) (As := [.int (h.2.1 75 x2.toNatClampNeg)]) (rest := []) C (zc_Mo_lookAtExpressions h6 (h.2.1 75 x2.toNatClampNeg) c8z) ku_Mo_lookAtExpressions kw2485 kv_Mo_lookAtExpressions rfl (zd_rmO (by decide) (by decide)) ⟨by show 8 * (u + m1) + 8 ≤ 8 * U; omega, by show 28 * (u + m1) + 28 ≤ 28 * U; omega⟩ rfl rfl rfl (Nat.le_of_ble_eq_true rfl) kd_Mo_look_66 rfl (c1 := 8 * ((u + m1) + 1)) (s1 := 28 * ((u + m1) + 1)) (by show 8 * (u + m1) + 8 = 8 * ((u + m1) + 1); omega) (by show 28 * (u + m1) + 28 = 28 * ((u + m1) + 1); omega) (fun v w hp => ?_)
        obtain ⟨rfl, rfl⟩ := hp
        refine zk_stk (r' := []) rfl ?_
        refine zk_goto (tgt := 28) C kd_Mo_look_69 (by decide) ?_
        refine zk_lvs (lv' := [(0, .ref (S.1 68)), (1, .int x1), (2, .int (h.2.1 75 x2.toNatClampNeg))]) [1, 2, 0] rfl ?_
        exact hk28 h9 x1 (h.2.1 75 x2.toNatClampNeg) ((u + m1) + 1) _ e (by omega)
theorem jzl_Mo_look_28 {X : zkj_T} {S : zs_T} {P : ze_T} {l : Launch} {D : va_G} {sz0 : Nat} {d U : Nat} {rh : zs_H} (C : zk_C X km_Mo_look (zs_G S l D sz0) { frames := 404 + (d + 1), cells := 8 * U, slots := 28 * U, locals := 10092 + 23 * (d + 1) } (ze_E P)) (hR : zkj_R X (zd_PV S rh) (none)) {r_Mo_look : zs_H → Int32 → (Option (zs_H × Nat))} (hr_Mo_look : ∀ (h : zs_H) (x0 : Int32) {rh : zs_H} {cc : Nat}, r_Mo_look h x0 = some (rh, cc) → zk_Sp (zs_G S l D sz0) (ze_E P) km_Mo_look { frames := 404 + d, cells := 8 * cc, slots := 28 * cc, locals := 10092 + 23 * d } [.ref (S.1 68), .int x0] (zs_W S h) (zd_PV S rh)) (n : Nat) : ∀ (h : zs_H) (x1 : Int32) (x2 : Int32) (u cc : Nat), c_Mo_look_L28 r_Mo_look n h x1 x2 = some (rh, cc) → u + cc ≤ U → zk_Ab X (zs_W S h) (8 * u) (28 * u) 28 [(0, .ref (S.1 68)), (1, .int x1), (2, .int x2)] [] := by
  induction n with
  | zero => intro h x1 x2 u cc e hu; exact zd_no e
  | succ n ih => intro h x1 x2 u cc e hu; exact jzb_Mo_look_28 (k28 := c_Mo_look_L28 r_Mo_look n) C hR hr_Mo_look ih h x1 x2 u e hu
set_option maxHeartbeats 4000000 in
set_option maxRecDepth 100000 in
theorem jzb_Mo_look_2 {X : zkj_T} {S : zs_T} {P : ze_T} {l : Launch} {D : va_G} {sz0 : Nat} {d U : Nat} {rh : zs_H} (C : zk_C X km_Mo_look (zs_G S l D sz0) { frames := 404 + (d + 1), cells := 8 * U, slots := 28 * U, locals := 10092 + 23 * (d + 1) } (ze_E P)) (hR : zkj_R X (zd_PV S rh) (none)) {r_Mo_look : zs_H → Int32 → (Option (zs_H × Nat))} (hr_Mo_look : ∀ (h : zs_H) (x0 : Int32) {rh : zs_H} {cc : Nat}, r_Mo_look h x0 = some (rh, cc) → zk_Sp (zs_G S l D sz0) (ze_E P) km_Mo_look { frames := 404 + d, cells := 8 * cc, slots := 28 * cc, locals := 10092 + 23 * d } [.ref (S.1 68), .int x0] (zs_W S h) (zd_PV S rh)) {r_Mo_lookAlone : zs_H → Int32 → (Option (zs_H × Nat))} (hr_Mo_lookAlone : ∀ (h : zs_H) (x0 : Int32) {rh : zs_H} {cc : Nat}, r_Mo_lookAlone h x0 = some (rh, cc) → zk_Sp (zs_G S l D sz0) (ze_E P) km_Mo_lookAlone { frames := 404 + d, cells := 8 * cc, slots := 28 * cc, locals := 10092 + 23 * d } [.ref (S.1 68), .int x0] (zs_W S h) (zd_PV S rh)) {k2 : zs_H → Int32 → Int32 → (Option (zs_H × Nat))} (hk2 : ∀ (h : zs_H) (x1 : Int32) (x2 : Int32) (u cc : Nat), k2 h x1 x2 = some (rh, cc) → u + cc ≤ U → zk_Ab X (zs_W S h) (8 * u) (28 * u) 2 [(0, .ref (S.1 68)), (1, .int x1), (2, .int x2)] []) (h : zs_H) (x1 : Int32) (x2 : Int32) (u : Nat) {cc : Nat} (e : c_Mo_look_2 r_Mo_look r_Mo_lookAlone k2 h x1 x2 = some (rh, cc)) (hu : u + cc ≤ U) : zk_Ab X (zs_W S h) (8 * u) (28 * u) 2 [(0, .ref (S.1 68)), (1, .int x1), (2, .int x2)] [] := by
  unfold c_Mo_look_2 at e
  refine zk_aload_n C kd_Mo_look_2 rfl 0 rfl rfl ?_
  refine zs_get (v := .ref (S.1 72)) C 68 15 rfl rfl rfl rfl ki_Mo (by decide) kw1698 kd_Mo_look_3 rfl ?_
  refine zk_iload_n C kd_Mo_look_6 rfl 2 rfl rfl ?_
  obtain ⟨q1, e⟩ := zd_g e
  refine zs_iald C 72 rfl (zd_vp q1) kd_Mo_look_7 rfl ?_
  refine zk_bipush (v := 35) C kd_Mo_look_8 (by decide) rfl ?_
  refine zk_icmp_ne (tgt := 23) C kd_Mo_look_10 (by decide) rfl (fun b2 => ?_) (fun b2 => ?_)
  · replace e := zd_neg b2 e
    refine zk_aload_n C kd_Mo_look_23 rfl 0 rfl rfl ?_
    refine zk_iload_n C kd_Mo_look_24 rfl 2 rfl rfl ?_
    obtain ⟨h4, m1, n1, c3, s1, e⟩ := zk_cbd e
    refine zs_callV (k := 68) (rn := { frames := 404 + d, cells := 8 * m1, slots := 28 * m1, locals := 10092 + 23 * d }) (As := [.int x2]) (rest := []) C (hr_Mo_lookAlone h x2 c3) ku_Mo_lookAlone kw2252 kv_Mo_lookAlone rfl (zd_rmI (by decide)) ⟨by show 8 * u + 8 * m1 ≤ 8 * U; omega, by show 28 * u + 28 * m1 ≤ 28 * U; omega⟩ rfl rfl rfl (Nat.le_of_ble_eq_true rfl) kd_Mo_look_25 rfl (c1 := 8 * (u + m1)) (s1 := 28 * (u + m1)) (Nat.mul_add _ _ _).symm (Nat.mul_add _ _ _).symm (fun v w hp => ?_)
    obtain ⟨rfl, rfl⟩ := hp
    refine zk_stk (r' := []) rfl ?_
    refine zk_lvs (lv' := [(0, .ref (S.1 68)), (1, .int x1), (2, .int x2)]) [0, 1, 2] rfl ?_
    exact jzl_Mo_look_28 C hR hr_Mo_look zF h4 x1 x2 (u + m1) _ e (by omega)
  · replace e := zd_pos b2 e
    refine zk_aload_n C kd_Mo_look_13 rfl 0 rfl rfl ?_
    refine zs_get (v := .ref (S.1 76)) C 68 19 rfl rfl rfl rfl ki_Mo (by decide) kw1702 kd_Mo_look_14 rfl ?_
    refine zk_iload_n C kd_Mo_look_17 rfl 2 rfl rfl ?_
    refine zs_iald C 76 rfl (zd_vp q1) kd_Mo_look_18 rfl ?_
    refine zk_istore_n (lv' := [(2, _), (0, _), (1, _)]) C kd_Mo_look_19 rfl (by decide) rfl rfl ?_
    refine zk_goto (tgt := 2) C kd_Mo_look_20 (by decide) ?_
    refine zk_lvs (lv' := [(0, .ref (S.1 68)), (1, .int x1), (2, .int (h.2.1 76 x2.toNatClampNeg))]) [1, 2, 0] rfl ?_
    exact hk2 h x1 (h.2.1 76 x2.toNatClampNeg) u _ e (by omega)
theorem jzl_Mo_look_2 {X : zkj_T} {S : zs_T} {P : ze_T} {l : Launch} {D : va_G} {sz0 : Nat} {d U : Nat} {rh : zs_H} (C : zk_C X km_Mo_look (zs_G S l D sz0) { frames := 404 + (d + 1), cells := 8 * U, slots := 28 * U, locals := 10092 + 23 * (d + 1) } (ze_E P)) (hR : zkj_R X (zd_PV S rh) (none)) {r_Mo_look : zs_H → Int32 → (Option (zs_H × Nat))} (hr_Mo_look : ∀ (h : zs_H) (x0 : Int32) {rh : zs_H} {cc : Nat}, r_Mo_look h x0 = some (rh, cc) → zk_Sp (zs_G S l D sz0) (ze_E P) km_Mo_look { frames := 404 + d, cells := 8 * cc, slots := 28 * cc, locals := 10092 + 23 * d } [.ref (S.1 68), .int x0] (zs_W S h) (zd_PV S rh)) {r_Mo_lookAlone : zs_H → Int32 → (Option (zs_H × Nat))} (hr_Mo_lookAlone : ∀ (h : zs_H) (x0 : Int32) {rh : zs_H} {cc : Nat}, r_Mo_lookAlone h x0 = some (rh, cc) → zk_Sp (zs_G S l D sz0) (ze_E P) km_Mo_lookAlone { frames := 404 + d, cells := 8 * cc, slots := 28 * cc, locals := 10092 + 23 * d } [.ref (S.1 68), .int x0] (zs_W S h) (zd_PV S rh)) (n : Nat) : ∀ (h : zs_H) (x1 : Int32) (x2 : Int32) (u cc : Nat), c_Mo_look_L2 r_Mo_look r_Mo_lookAlone n h x1 x2 = some (rh, cc) → u + cc ≤ U → zk_Ab X (zs_W S h) (8 * u) (28 * u) 2 [(0, .ref (S.1 68)), (1, .int x1), (2, .int x2)] [] := by
  induction n with
  | zero => intro h x1 x2 u cc e hu; exact zd_no e
  | succ n ih => intro h x1 x2 u cc e hu; exact jzb_Mo_look_2 (k2 := c_Mo_look_L2 r_Mo_look r_Mo_lookAlone n) C hR hr_Mo_look hr_Mo_lookAlone ih h x1 x2 u e hu
set_option maxHeartbeats 4000000 in
set_option maxRecDepth 100000 in
theorem jzg_Mo_look {l : Launch} {D : va_G} {sz0 : Nat} {S : zs_T} {P : ze_T} {d : Nat} {r_Mo_look : zs_H → Int32 → (Option (zs_H × Nat))} (hr_Mo_look : ∀ (h : zs_H) (x0 : Int32) {rh : zs_H} {cc : Nat}, r_Mo_look h x0 = some (rh, cc) → zk_Sp (zs_G S l D sz0) (ze_E P) km_Mo_look { frames := 404 + d, cells := 8 * cc, slots := 28 * cc, locals := 10092 + 23 * d } [.ref (S.1 68), .int x0] (zs_W S h) (zd_PV S rh)) {r_Mo_lookAlone : zs_H → Int32 → (Option (zs_H × Nat))} (hr_Mo_lookAlone : ∀ (h : zs_H) (x0 : Int32) {rh : zs_H} {cc : Nat}, r_Mo_lookAlone h x0 = some (rh, cc) → zk_Sp (zs_G S l D sz0) (ze_E P) km_Mo_lookAlone { frames := 404 + d, cells := 8 * cc, slots := 28 * cc, locals := 10092 + 23 * d } [.ref (S.1 68), .int x0] (zs_W S h) (zd_PV S rh)) (h : zs_H) (x1 : Int32) {rh : zs_H} {cc : Nat} (e : cg_Mo_look r_Mo_look r_Mo_lookAlone h x1 = some (rh, cc)) : zk_Sp (zs_G S l D sz0) (ze_E P) km_Mo_look { frames := 404 + (d + 1), cells := 8 * cc, slots := 28 * cc, locals := 10092 + 23 * (d + 1) } [.ref (S.1 68), .int x1] (zs_W S h) (zd_PV S rh) := by
  refine zk_met ku_Mo_look (Nat.le_of_ble_eq_true rfl) (ze_Em P) ?_
  intro X C hR
  refine zk_lvs (lv' := [(0, .ref (S.1 68)), (1, .int x1)]) [0, 1] rfl ?_
  unfold cg_Mo_look at e
  refine zk_iload_n C kd_Mo_look_0 rfl 1 rfl rfl ?_
  refine zk_istore_n (lv' := [(2, _), (0, _), (1, _)]) C kd_Mo_look_1 rfl (by decide) rfl rfl ?_
  refine zk_lvs (lv' := [(0, .ref (S.1 68)), (1, .int x1), (2, .int x1)]) [1, 2, 0] rfl ?_
  exact jzl_Mo_look_2 (U := cc) C hR hr_Mo_look hr_Mo_lookAlone zF h x1 x1 0 _ e (by omega)
set_option maxHeartbeats 4000000 in
set_option maxRecDepth 100000 in
theorem jzb_Mo_lookAlone_54 {X : zkj_T} {S : zs_T} {P : ze_T} {l : Launch} {D : va_G} {sz0 : Nat} {d U : Nat} {rh : zs_H} (C : zk_C X km_Mo_lookAlone (zs_G S l D sz0) { frames := 404 + (d + 1), cells := 8 * U, slots := 28 * U, locals := 10092 + 23 * (d + 1) } (ze_E P)) (hR : zkj_R X (zd_PV S rh) (none)) (h : zs_H) (x1 : Int32) (x2 : Int32) (u : Nat) {cc : Nat} (e : c_Mo_lookAlone_54 h x1 x2 = some (rh, cc)) (hu : u + cc ≤ U) : zk_Ab X (zs_W S h) (8 * u) (28 * u) 54 [(0, .ref (S.1 68)), (1, .int x1), (2, .int x2)] [] := by
  unfold c_Mo_lookAlone_54 at e
  refine zk_aload_n C kd_Mo_lookAlone_54 rfl 0 rfl rfl ?_
  refine zs_get (v := .int (h.1 68 29)) C 68 29 rfl rfl rfl rfl ki_Mo (by decide) kw1712 kd_Mo_lookAlone_55 rfl ?_
  refine zk_if_ne (tgt := 108) C kd_Mo_lookAlone_58 (by decide) rfl (fun b1 => ?_) (fun b1 => ?_)
  · replace e := zd_neg b1 e
    obtain ⟨rfl, rfl⟩ := zk_csd e
    refine zk_widen (c1 := 8 * U) (s1 := 28 * U) (by omega) (by omega) ?_
    exact zk_vret C hR kd_Mo_lookAlone_108 rfl rfl ⟨rfl, rfl⟩
  · replace e := zd_pos b1 e
    refine zk_iload_n C kd_Mo_lookAlone_61 rfl 2 rfl rfl ?_
    refine zk_bipush (v := 11) C kd_Mo_lookAlone_62 (by decide) rfl ?_
    refine zk_icmp_ge (tgt := 75) C kd_Mo_lookAlone_64 (by decide) rfl (fun b2 => ?_) (fun b2 => ?_)
    · replace e := zd_pos b2 e
      refine zk_iload_n C kd_Mo_lookAlone_75 rfl 2 rfl rfl ?_
      refine zk_bipush (v := 22) C kd_Mo_lookAlone_76 (by decide) rfl ?_
      refine zk_icmp_ge (tgt := 89) C kd_Mo_lookAlone_78 (by decide) rfl (fun b3 => ?_) (fun b3 => ?_)
      · replace e := zd_pos b3 e
        refine zk_iload_n C kd_Mo_lookAlone_89 rfl 2 rfl rfl ?_
        refine zk_bipush (v := 30) C kd_Mo_lookAlone_90 (by decide) rfl ?_
        refine zk_icmp_ge (tgt := 103) C kd_Mo_lookAlone_92 (by decide) rfl (fun b4 => ?_) (fun b4 => ?_)
        · replace e := zd_pos b4 e
          refine zk_aload_n C kd_Mo_lookAlone_103 rfl 0 rfl rfl ?_
          refine zk_iload_n C kd_Mo_lookAlone_104 rfl 1 rfl rfl ?_
          obtain ⟨h6, m1, n1, c5, s1, e⟩ := zk_cbd e
          obtain ⟨c5z, rfl⟩ := zk_c1d c5
          refine zs_callV (k := 68) (rn := { frames := 8, cells := 8, slots := 28, locals := 225 }) (As := [.int x1]) (rest := []) C (zc_Mo_lookAtExpressions h x1 c5z) ku_Mo_lookAtExpressions kw2485 kv_Mo_lookAtExpressions rfl (zd_rmO (by decide) (by decide)) ⟨by show 8 * u + 8 ≤ 8 * U; omega, by show 28 * u + 28 ≤ 28 * U; omega⟩ rfl rfl rfl (Nat.le_of_ble_eq_true rfl) kd_Mo_lookAlone_105 rfl (c1 := 8 * (u + 1)) (s1 := 28 * (u + 1)) (by show 8 * u + 8 = 8 * (u + 1); omega) (by show 28 * u + 28 = 28 * (u + 1); omega) (fun v w hp => ?_)
          obtain ⟨rfl, rfl⟩ := hp
          refine zk_stk (r' := []) rfl ?_
          obtain ⟨rfl, rfl⟩ := zk_csd e
          refine zk_widen (c1 := 8 * U) (s1 := 28 * U) (by omega) (by omega) ?_
          exact zk_vret C hR kd_Mo_lookAlone_108 rfl rfl ⟨rfl, rfl⟩
        · replace e := zd_neg b4 e
          refine zk_aload_n C kd_Mo_lookAlone_95 rfl 0 rfl rfl ?_
          refine zk_iload_n C kd_Mo_lookAlone_96 rfl 1 rfl rfl ?_
          obtain ⟨h8, c7, e⟩ := zd_b e
          refine zs_callV (k := 68) (rn := { frames := 3, cells := 0, slots := 0, locals := 69 }) (As := [.int x1]) (rest := []) C (zc_Mo_lookAtRungs h x1 c7) ku_Mo_lookAtRungs kw2477 kv_Mo_lookAtRungs rfl (zd_rmO (by decide) (by decide)) ⟨by show 8 * u + 0 ≤ 8 * U; omega, by show 28 * u + 0 ≤ 28 * U; omega⟩ rfl rfl rfl (Nat.le_of_ble_eq_true rfl) kd_Mo_lookAlone_97 rfl (c1 := 8 * u) (s1 := 28 * u) rfl rfl (fun v w hp => ?_)
          obtain ⟨rfl, rfl⟩ := hp
          refine zk_stk (r' := []) rfl ?_
          refine zk_goto (tgt := 108) C kd_Mo_lookAlone_100 (by decide) ?_
          obtain ⟨rfl, rfl⟩ := zk_csd e
          refine zk_widen (c1 := 8 * U) (s1 := 28 * U) (by omega) (by omega) ?_
          exact zk_vret C hR kd_Mo_lookAlone_108 rfl rfl ⟨rfl, rfl⟩
      · replace e := zd_neg b3 e
        refine zk_aload_n C kd_Mo_lookAlone_81 rfl 0 rfl rfl ?_
        refine zk_iload_n C kd_Mo_lookAlone_82 rfl 1 rfl rfl ?_
        obtain ⟨h10, m2, n2, c9, s2, e⟩ := zk_cbd e
        obtain ⟨c9z, rfl⟩ := zk_c1d c9
        refine zs_callV (k := 68) (rn := { frames := 8, cells := 8, slots := 28, locals := 226 }) (As := [.int x1]) (rest := []) C (zc_Mo_lookAtStatements h x1 c9z) ku_Mo_lookAtStatements kw2339 kv_Mo_lookAtStatements rfl (zd_rmO (by decide) (by decide)) ⟨by show 8 * u + 8 ≤ 8 * U; omega, by show 28 * u + 28 ≤ 28 * U; omega⟩ rfl rfl rfl (Nat.le_of_ble_eq_true rfl) kd_Mo_lookAlone_83 rfl (c1 := 8 * (u + 1)) (s1 := 28 * (u + 1)) (by show 8 * u + 8 = 8 * (u + 1); omega) (by show 28 * u + 28 = 28 * (u + 1); omega) (fun v w hp => ?_)
        obtain ⟨rfl, rfl⟩ := hp
        refine zk_stk (r' := []) rfl ?_
        refine zk_goto (tgt := 108) C kd_Mo_lookAlone_86 (by decide) ?_
        obtain ⟨rfl, rfl⟩ := zk_csd e
        refine zk_widen (c1 := 8 * U) (s1 := 28 * U) (by omega) (by omega) ?_
        exact zk_vret C hR kd_Mo_lookAlone_108 rfl rfl ⟨rfl, rfl⟩
    · replace e := zd_neg b2 e
      refine zk_aload_n C kd_Mo_lookAlone_67 rfl 0 rfl rfl ?_
      refine zk_iload_n C kd_Mo_lookAlone_68 rfl 1 rfl rfl ?_
      obtain ⟨h12, c11, e⟩ := zd_b e
      refine zs_callV (k := 68) (rn := { frames := 403, cells := 0, slots := 0, locals := 10070 }) (As := [.int x1]) (rest := []) C (zc_Mo_lookAtBlocks h x1 c11) ku_Mo_lookAtBlocks kw2290 kv_Mo_lookAtBlocks rfl (zd_rmO (by decide) (by decide)) ⟨by show 8 * u + 0 ≤ 8 * U; omega, by show 28 * u + 0 ≤ 28 * U; omega⟩ rfl rfl rfl (Nat.le_of_ble_eq_true rfl) kd_Mo_lookAlone_69 rfl (c1 := 8 * u) (s1 := 28 * u) rfl rfl (fun v w hp => ?_)
      obtain ⟨rfl, rfl⟩ := hp
      refine zk_stk (r' := []) rfl ?_
      refine zk_goto (tgt := 108) C kd_Mo_lookAlone_72 (by decide) ?_
      obtain ⟨rfl, rfl⟩ := zk_csd e
      refine zk_widen (c1 := 8 * U) (s1 := 28 * U) (by omega) (by omega) ?_
      exact zk_vret C hR kd_Mo_lookAlone_108 rfl rfl ⟨rfl, rfl⟩
set_option maxHeartbeats 4000000 in
set_option maxRecDepth 100000 in
theorem jzb_Mo_lookAlone_28 {X : zkj_T} {S : zs_T} {P : ze_T} {l : Launch} {D : va_G} {sz0 : Nat} {d U : Nat} {rh : zs_H} (C : zk_C X km_Mo_lookAlone (zs_G S l D sz0) { frames := 404 + (d + 1), cells := 8 * U, slots := 28 * U, locals := 10092 + 23 * (d + 1) } (ze_E P)) (hR : zkj_R X (zd_PV S rh) (none)) {r_Mo_look : zs_H → Int32 → (Option (zs_H × Nat))} (hr_Mo_look : ∀ (h : zs_H) (x0 : Int32) {rh : zs_H} {cc : Nat}, r_Mo_look h x0 = some (rh, cc) → zk_Sp (zs_G S l D sz0) (ze_E P) km_Mo_look { frames := 404 + d, cells := 8 * cc, slots := 28 * cc, locals := 10092 + 23 * d } [.ref (S.1 68), .int x0] (zs_W S h) (zd_PV S rh)) {k28 : zs_H → Int32 → Int32 → Int32 → (Option (zs_H × Nat))} (hk28 : ∀ (h : zs_H) (x1 : Int32) (x2 : Int32) (x3 : Int32) (u cc : Nat), k28 h x1 x2 x3 = some (rh, cc) → u + cc ≤ U → zk_Ab X (zs_W S h) (8 * u) (28 * u) 28 [(0, .ref (S.1 68)), (1, .int x1), (2, .int x2), (3, .int x3)] []) (h : zs_H) (x1 : Int32) (x2 : Int32) (x3 : Int32) (u : Nat) {cc : Nat} (e : c_Mo_lookAlone_28 r_Mo_look k28 h x1 x2 x3 = some (rh, cc)) (hu : u + cc ≤ U) : zk_Ab X (zs_W S h) (8 * u) (28 * u) 28 [(0, .ref (S.1 68)), (1, .int x1), (2, .int x2), (3, .int x3)] [] := by
  unfold c_Mo_lookAlone_28 at e
  refine zk_iload_n C kd_Mo_lookAlone_28 rfl 3 rfl rfl ?_
  refine zk_if_lt (tgt := 54) C kd_Mo_lookAlone_29 (by decide) rfl (fun b1 => ?_) (fun b1 => ?_)
  · replace e := zd_pos b1 e
    refine zk_lvs (lv' := [(0, .ref (S.1 68)), (1, .int x1), (2, .int x2)]) [0, 1, 2] rfl ?_
    exact jzb_Mo_lookAlone_54 C hR h x1 x2 u e (by omega)
  · replace e := zd_neg b1 e
    refine zk_aload_n C kd_Mo_lookAlone_32 rfl 0 rfl rfl ?_
    refine zs_get (v := .int (h.1 68 29)) C 68 29 rfl rfl rfl rfl ki_Mo (by decide) kw1712 kd_Mo_lookAlone_33 rfl ?_
    refine zk_if_ne (tgt := 54) C kd_Mo_lookAlone_36 (by decide) rfl (fun b2 => ?_) (fun b2 => ?_)
    · replace e := zd_neg b2 e
      refine zk_lvs (lv' := [(0, .ref (S.1 68)), (1, .int x1), (2, .int x2)]) [0, 1, 2] rfl ?_
      exact jzb_Mo_lookAlone_54 C hR h x1 x2 u e (by omega)
    · replace e := zd_pos b2 e
      refine zk_aload_n C kd_Mo_lookAlone_39 rfl 0 rfl rfl ?_
      refine zk_iload_n C kd_Mo_lookAlone_40 rfl 3 rfl rfl ?_
      obtain ⟨h4, m1, n1, c3, s1, e⟩ := zk_cbd e
      refine zs_callV (k := 68) (rn := { frames := 404 + d, cells := 8 * m1, slots := 28 * m1, locals := 10092 + 23 * d }) (As := [.int x3]) (rest := []) C (hr_Mo_look h x3 c3) ku_Mo_look kw2248 kv_Mo_look rfl (zd_rmI (by decide)) ⟨by show 8 * u + 8 * m1 ≤ 8 * U; omega, by show 28 * u + 28 * m1 ≤ 28 * U; omega⟩ rfl rfl rfl (Nat.le_of_ble_eq_true rfl) kd_Mo_lookAlone_41 rfl (c1 := 8 * (u + m1)) (s1 := 28 * (u + m1)) (Nat.mul_add _ _ _).symm (Nat.mul_add _ _ _).symm (fun v w hp => ?_)
      obtain ⟨rfl, rfl⟩ := hp
      refine zk_stk (r' := []) rfl ?_
      refine zk_aload_n C kd_Mo_lookAlone_44 rfl 0 rfl rfl ?_
      refine zs_get (v := .ref (S.1 78)) C 68 21 rfl rfl rfl rfl ki_Mo (by decide) kw1704 kd_Mo_lookAlone_45 rfl ?_
      refine zk_iload_n C kd_Mo_lookAlone_48 rfl 3 rfl rfl ?_
      obtain ⟨q5, e⟩ := zd_g e
      refine zs_iald C 78 rfl (zd_vp q5) kd_Mo_lookAlone_49 rfl ?_
      refine zk_istore_n (lv' := [(3, _), (0, _), (1, _), (2, _)]) C kd_Mo_lookAlone_50 rfl (by decide) rfl rfl ?_
      refine zk_goto (tgt := 28) C kd_Mo_lookAlone_51 (by decide) ?_
      refine zk_lvs (lv' := [(0, .ref (S.1 68)), (1, .int x1), (2, .int x2), (3, .int (h4.2.1 78 x3.toNatClampNeg))]) [1, 2, 3, 0] rfl ?_
      exact hk28 h4 x1 x2 (h4.2.1 78 x3.toNatClampNeg) (u + m1) _ e (by omega)
theorem jzl_Mo_lookAlone_28 {X : zkj_T} {S : zs_T} {P : ze_T} {l : Launch} {D : va_G} {sz0 : Nat} {d U : Nat} {rh : zs_H} (C : zk_C X km_Mo_lookAlone (zs_G S l D sz0) { frames := 404 + (d + 1), cells := 8 * U, slots := 28 * U, locals := 10092 + 23 * (d + 1) } (ze_E P)) (hR : zkj_R X (zd_PV S rh) (none)) {r_Mo_look : zs_H → Int32 → (Option (zs_H × Nat))} (hr_Mo_look : ∀ (h : zs_H) (x0 : Int32) {rh : zs_H} {cc : Nat}, r_Mo_look h x0 = some (rh, cc) → zk_Sp (zs_G S l D sz0) (ze_E P) km_Mo_look { frames := 404 + d, cells := 8 * cc, slots := 28 * cc, locals := 10092 + 23 * d } [.ref (S.1 68), .int x0] (zs_W S h) (zd_PV S rh)) (n : Nat) : ∀ (h : zs_H) (x1 : Int32) (x2 : Int32) (x3 : Int32) (u cc : Nat), c_Mo_lookAlone_L28 r_Mo_look n h x1 x2 x3 = some (rh, cc) → u + cc ≤ U → zk_Ab X (zs_W S h) (8 * u) (28 * u) 28 [(0, .ref (S.1 68)), (1, .int x1), (2, .int x2), (3, .int x3)] [] := by
  induction n with
  | zero => intro h x1 x2 x3 u cc e hu; exact zd_no e
  | succ n ih => intro h x1 x2 x3 u cc e hu; exact jzb_Mo_lookAlone_28 (k28 := c_Mo_lookAlone_L28 r_Mo_look n) C hR hr_Mo_look ih h x1 x2 x3 u e hu
set_option maxHeartbeats 4000000 in
set_option maxRecDepth 100000 in
theorem jzb_Mo_lookAlone_21 {X : zkj_T} {S : zs_T} {P : ze_T} {l : Launch} {D : va_G} {sz0 : Nat} {d U : Nat} {rh : zs_H} (C : zk_C X km_Mo_lookAlone (zs_G S l D sz0) { frames := 404 + (d + 1), cells := 8 * U, slots := 28 * U, locals := 10092 + 23 * (d + 1) } (ze_E P)) (hR : zkj_R X (zd_PV S rh) (none)) {r_Mo_look : zs_H → Int32 → (Option (zs_H × Nat))} (hr_Mo_look : ∀ (h : zs_H) (x0 : Int32) {rh : zs_H} {cc : Nat}, r_Mo_look h x0 = some (rh, cc) → zk_Sp (zs_G S l D sz0) (ze_E P) km_Mo_look { frames := 404 + d, cells := 8 * cc, slots := 28 * cc, locals := 10092 + 23 * d } [.ref (S.1 68), .int x0] (zs_W S h) (zd_PV S rh)) (h : zs_H) (x1 : Int32) (x2 : Int32) (u : Nat) {cc : Nat} (e : c_Mo_lookAlone_21 r_Mo_look h x1 x2 = some (rh, cc)) (hu : u + cc ≤ U) : zk_Ab X (zs_W S h) (8 * u) (28 * u) 21 [(0, .ref (S.1 68)), (1, .int x1), (2, .int x2)] [] := by
  unfold c_Mo_lookAlone_21 at e
  refine zk_aload_n C kd_Mo_lookAlone_21 rfl 0 rfl rfl ?_
  refine zs_get (v := .ref (S.1 76)) C 68 19 rfl rfl rfl rfl ki_Mo (by decide) kw1702 kd_Mo_lookAlone_22 rfl ?_
  refine zk_iload_n C kd_Mo_lookAlone_25 rfl 1 rfl rfl ?_
  obtain ⟨q1, e⟩ := zd_g e
  refine zs_iald C 76 rfl (zd_vp q1) kd_Mo_lookAlone_26 rfl ?_
  refine zk_istore_n (lv' := [(3, _), (0, _), (1, _), (2, _)]) C kd_Mo_lookAlone_27 rfl (by decide) rfl rfl ?_
  refine zk_lvs (lv' := [(0, .ref (S.1 68)), (1, .int x1), (2, .int x2), (3, .int (h.2.1 76 x1.toNatClampNeg))]) [1, 2, 3, 0] rfl ?_
  exact jzl_Mo_lookAlone_28 C hR hr_Mo_look zF h x1 x2 (h.2.1 76 x1.toNatClampNeg) u _ e (by omega)
set_option maxHeartbeats 4000000 in
set_option maxRecDepth 100000 in
theorem jzg_Mo_lookAlone {l : Launch} {D : va_G} {sz0 : Nat} {S : zs_T} {P : ze_T} {d : Nat} {r_Mo_look : zs_H → Int32 → (Option (zs_H × Nat))} (hr_Mo_look : ∀ (h : zs_H) (x0 : Int32) {rh : zs_H} {cc : Nat}, r_Mo_look h x0 = some (rh, cc) → zk_Sp (zs_G S l D sz0) (ze_E P) km_Mo_look { frames := 404 + d, cells := 8 * cc, slots := 28 * cc, locals := 10092 + 23 * d } [.ref (S.1 68), .int x0] (zs_W S h) (zd_PV S rh)) (h : zs_H) (x1 : Int32) {rh : zs_H} {cc : Nat} (e : cg_Mo_lookAlone r_Mo_look h x1 = some (rh, cc)) : zk_Sp (zs_G S l D sz0) (ze_E P) km_Mo_lookAlone { frames := 404 + (d + 1), cells := 8 * cc, slots := 28 * cc, locals := 10092 + 23 * (d + 1) } [.ref (S.1 68), .int x1] (zs_W S h) (zd_PV S rh) := by
  refine zk_met ku_Mo_lookAlone (Nat.le_of_ble_eq_true rfl) (ze_Em P) ?_
  intro X C hR
  refine zk_lvs (lv' := [(0, .ref (S.1 68)), (1, .int x1)]) [0, 1] rfl ?_
  unfold cg_Mo_lookAlone at e
  refine zk_aload_n C kd_Mo_lookAlone_0 rfl 0 rfl rfl ?_
  refine zs_get (v := .ref (S.1 72)) C 68 15 rfl rfl rfl rfl ki_Mo (by decide) kw1698 kd_Mo_lookAlone_1 rfl ?_
  refine zk_iload_n C kd_Mo_lookAlone_4 rfl 1 rfl rfl ?_
  obtain ⟨q1, e⟩ := zd_g e
  refine zs_iald C 72 rfl (zd_vp q1) kd_Mo_lookAlone_5 rfl ?_
  refine zk_istore_n (lv' := [(2, _), (0, _), (1, _)]) C kd_Mo_lookAlone_6 rfl (by decide) rfl rfl ?_
  refine zk_iload_n C kd_Mo_lookAlone_7 rfl 0 rfl rfl ?_
  refine zk_if_le (tgt := 21) C kd_Mo_lookAlone_8 (by decide) rfl (fun b2 => ?_) (fun b2 => ?_)
  · replace e := zd_pos b2 e
    refine zk_lvs (lv' := [(0, .ref (S.1 68)), (1, .int x1), (2, .int (h.2.1 72 x1.toNatClampNeg))]) [1, 2, 0] rfl ?_
    exact jzb_Mo_lookAlone_21 (U := cc) C hR hr_Mo_look h x1 (h.2.1 72 x1.toNatClampNeg) 0 e (by omega)
  · replace e := zd_neg b2 e
    refine zk_iload_n C kd_Mo_lookAlone_11 rfl 0 rfl rfl ?_
    refine zk_iconst (v := 4) C kd_Mo_lookAlone_12 (by decide) rfl ?_
    refine zk_icmp_ge (tgt := 21) C kd_Mo_lookAlone_13 (by decide) rfl (fun b3 => ?_) (fun b3 => ?_)
    · replace e := zd_pos b3 e
      refine zk_lvs (lv' := [(0, .ref (S.1 68)), (1, .int x1), (2, .int (h.2.1 72 x1.toNatClampNeg))]) [1, 2, 0] rfl ?_
      exact jzb_Mo_lookAlone_21 (U := cc) C hR hr_Mo_look h x1 (h.2.1 72 x1.toNatClampNeg) 0 e (by omega)
    · replace e := zd_neg b3 e
      refine zk_aload_n C kd_Mo_lookAlone_16 rfl 1 rfl rfl ?_
      refine zk_iload_n C kd_Mo_lookAlone_17 rfl 2 rfl rfl ?_
      obtain ⟨h5, c4, e⟩ := zd_b e
      refine zs_callV (k := 68) (rn := { frames := 6, cells := 0, slots := 0, locals := 132 }) (As := [.int x1]) (rest := []) C (zc_Mo_beginBlock h x1 c4) ku_Mo_beginBlock kw2256 kv_Mo_beginBlock rfl (zd_rmO (by decide) (by decide)) ⟨by show 8 * 0 + 0 ≤ 8 * cc; omega, by show 28 * 0 + 0 ≤ 28 * cc; omega⟩ rfl rfl rfl (Nat.le_of_ble_eq_true rfl) kd_Mo_lookAlone_18 rfl (c1 := 8 * 0) (s1 := 28 * 0) rfl rfl (fun v w hp => ?_)
      obtain ⟨rfl, rfl⟩ := hp
      refine zk_stk (r' := []) rfl ?_
      refine zk_lvs (lv' := [(0, .ref (S.1 68)), (1, .int x1), (2, .int (h.2.1 72 x1.toNatClampNeg))]) [1, 2, 0] rfl ?_
      exact jzb_Mo_lookAlone_21 (U := cc) C hR hr_Mo_look h5 x1 (h.2.1 72 x1.toNatClampNeg) 0 e (by omega)
theorem jzs_Mo_look {l : Launch} {D : va_G} {sz0 : Nat} {S : zs_T} {P : ze_T} (d : Nat) : (∀ (h : zs_H) (x0 : Int32) {rh : zs_H} {cc : Nat}, c_Mo_look d h x0 = some (rh, cc) → zk_Sp (zs_G S l D sz0) (ze_E P) km_Mo_look { frames := 404 + d, cells := 8 * cc, slots := 28 * cc, locals := 10092 + 23 * d } [.ref (S.1 68), .int x0] (zs_W S h) (zd_PV S rh)) ∧ (∀ (h : zs_H) (x0 : Int32) {rh : zs_H} {cc : Nat}, c_Mo_lookAlone d h x0 = some (rh, cc) → zk_Sp (zs_G S l D sz0) (ze_E P) km_Mo_lookAlone { frames := 404 + d, cells := 8 * cc, slots := 28 * cc, locals := 10092 + 23 * d } [.ref (S.1 68), .int x0] (zs_W S h) (zd_PV S rh)) := by
  induction d with
  | zero => exact ⟨(fun h x0 _ _ e => zd_no e), (fun h x0 _ _ e => zd_no e)⟩
  | succ d ih =>
    obtain ⟨q0, q1⟩ := ih
    exact ⟨(fun h x0 _ _ e => jzg_Mo_look (r_Mo_look := c_Mo_look d) q0 (r_Mo_lookAlone := c_Mo_lookAlone d) q1 h x0 e), (fun h x0 _ _ e => jzg_Mo_lookAlone (r_Mo_look := c_Mo_look d) q0 h x0 e)⟩
theorem jzc_Mo_look {l : Launch} {D : va_G} {sz0 : Nat} {S : zs_T} {P : ze_T} (h : zs_H) (x0 : Int32) {rh : zs_H} {cc : Nat} (e : c_Mo_look 500 h x0 = some (rh, cc)) : zk_Sp (zs_G S l D sz0) (ze_E P) km_Mo_look { frames := 404 + 500, cells := 8 * cc, slots := 28 * cc, locals := 10092 + 23 * 500 } [.ref (S.1 68), .int x0] (zs_W S h) (zd_PV S rh) := (jzs_Mo_look 500).1 h x0 e
theorem jzc_Mo_lookAlone {l : Launch} {D : va_G} {sz0 : Nat} {S : zs_T} {P : ze_T} (h : zs_H) (x0 : Int32) {rh : zs_H} {cc : Nat} (e : c_Mo_lookAlone 500 h x0 = some (rh, cc)) : zk_Sp (zs_G S l D sz0) (ze_E P) km_Mo_lookAlone { frames := 404 + 500, cells := 8 * cc, slots := 28 * cc, locals := 10092 + 23 * 500 } [.ref (S.1 68), .int x0] (zs_W S h) (zd_PV S rh) := (jzs_Mo_look 500).2 h x0 e
