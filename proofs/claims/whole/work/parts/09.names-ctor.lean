theorem zk_apT {ws0 l l' : va_W} {x : Nat × va_E} (j : Nat) (h : l' = l.set j x) : ws0 ++ l' = (ws0 ++ l).set (ws0.length + j) x := (zk_apS j h.symm).symm
theorem zk_sg {w : va_W} {k : Nat} {x y : Nat × va_E} (h : w[k]? = some y) : (w.set k x)[k]? = some x := by
  have hk : k < w.length := (List.getElem?_eq_some_iff.mp h).1
  simp [hk]
theorem zk_si {w : va_W} : ∀ {k : Nat} {x : Nat × va_E}, w[k]? = some x → w.set k x = w := by
  induction w with
  | nil => intro k x h; simp at h
  | cons a l ih =>
    intro k x h
    cases k with
    | zero => simp at h; simp [h]
    | succ k => simp at h; simp [ih h]
/-- n bytes of a text, laid from place f on -/
def zn_sp (g : Nat → Int32) (f n : Nat) (s : Nat → Int32) : Nat → Int32 := fun j => if f ≤ j ∧ j < f + n then (s (j - f) &&& 255).toInt8.toInt32 else g j
theorem zn_sp0 (g : Nat → Int32) (f : Nat) (s : Nat → Int32) : zn_sp g f 0 s = g := by
  funext j
  exact if_neg (fun h => by omega)
theorem zn_sp1 (g : Nat → Int32) (f c : Nat) (s : Nat → Int32) : upd (zn_sp g f c s) (f + c) (s c &&& 255).toInt8.toInt32 = zn_sp g f (c + 1) s := by
  funext j
  by_cases hj : j = f + c
  · subst hj
    simp [upd, zn_sp]
  · simp only [upd, if_neg hj, zn_sp]
    by_cases h : f ≤ j ∧ j < f + c
    · rw [if_pos h, if_pos (by omega)]
    · rw [if_neg h, if_neg (by omega)]
theorem zn_s0 : ("PlantKeeper$Names", 11, ze_str[0]!.2.2.1, 0) ∈ ze_str := List.mem_of_getElem? (i := 0) rfl
theorem zn_s1 : ("PlantKeeper$Names", 19, ze_str[1]!.2.2.1, 1) ∈ ze_str := List.mem_of_getElem? (i := 1) rfl
theorem zn_s2 : ("PlantKeeper$Names", 21, ze_str[2]!.2.2.1, 2) ∈ ze_str := List.mem_of_getElem? (i := 2) rfl
theorem zn_s3 : ("PlantKeeper$Names", 23, ze_str[3]!.2.2.1, 3) ∈ ze_str := List.mem_of_getElem? (i := 3) rfl
theorem kw2 : Jvm.Cond.initialized "PlantKeeper$Names" ∈ zk_BW := zk_inT 2 (by decide +kernel) rfl
theorem kw33 : Jvm.Cond.instanceMethod ({ cls := "PlantKeeper$Names", name := "<init>", desc := "()V" } : Jvm.MethodName) ∈ zk_BW := zk_inT 33 (by decide +kernel) rfl
theorem kw34 : Jvm.Cond.code ({ cls := "PlantKeeper$Names", name := "<init>", desc := "()V" } : Jvm.MethodName) prog_7_method_1_code (4 : Nat) (Option.none : Option FieldType) ∈ zk_BW := zk_inT 34 (by decide +kernel) rfl
theorem kw35 : Jvm.Cond.methodLink "PlantKeeper$Names" (5 : Nat) ({ cls := "java/lang/Object", name := "<init>", desc := "()V" } : Jvm.MethodName) ∈ zk_BW := zk_inT 35 (by decide +kernel) rfl
theorem kw37 : Jvm.Cond.methodLink "PlantKeeper$Names" (13 : Nat) ({ cls := "java/lang/String", name := "length", desc := "()I" } : Jvm.MethodName) ∈ zk_BW := zk_inT 37 (by decide +kernel) rfl
theorem kw50 : Jvm.Cond.methodLink "PlantKeeper$Names" (29 : Nat) ({ cls := "PlantKeeper$Names", name := "spell", desc := "(Ljava/lang/String;[BI)V" } : Jvm.MethodName) ∈ zk_BW := zk_inT 50 (by decide +kernel) rfl
theorem kw51 : Jvm.Cond.static ({ cls := "PlantKeeper$Names", name := "spell", desc := "(Ljava/lang/String;[BI)V" } : Jvm.MethodName) ∈ zk_BW := zk_inT 51 (by decide +kernel) rfl
theorem kw52 : Jvm.Cond.code ({ cls := "PlantKeeper$Names", name := "spell", desc := "(Ljava/lang/String;[BI)V" } : Jvm.MethodName) prog_7_method_2_code (4 : Nat) (Option.none : Option FieldType) ∈ zk_BW := zk_inT 52 (by decide +kernel) rfl
theorem kw53 : Jvm.Cond.methodLink "PlantKeeper$Names" (46 : Nat) ({ cls := "java/lang/String", name := "charAt", desc := "(I)C" } : Jvm.MethodName) ∈ zk_BW := zk_inT 53 (by decide +kernel) rfl
theorem kw91 : Jvm.Cond.fieldLink "PlantKeeper$Names" (25 : Nat) "PlantKeeper$Names" "known" "[B" ∈ zk_BW := zk_inT 91 (by decide +kernel) rfl
theorem kw92 : Jvm.Cond.fieldLink "PlantKeeper$Names" (33 : Nat) "PlantKeeper$Names" "letters" "[B" ∈ zk_BW := zk_inT 92 (by decide +kernel) rfl
theorem kw93 : Jvm.Cond.fieldLink "PlantKeeper$Names" (36 : Nat) "PlantKeeper$Names" "start" "[I" ∈ zk_BW := zk_inT 93 (by decide +kernel) rfl
theorem kw94 : Jvm.Cond.fieldLink "PlantKeeper$Names" (40 : Nat) "PlantKeeper$Names" "next" "[I" ∈ zk_BW := zk_inT 94 (by decide +kernel) rfl
theorem kw95 : Jvm.Cond.fieldLink "PlantKeeper$Names" (43 : Nat) "PlantKeeper$Names" "heads" "[I" ∈ zk_BW := zk_inT 95 (by decide +kernel) rfl
abbrev kc_Nm_spell : ByteArray := prog_7_method_2_code
def km_Nm_spell : zk_MT := (⟨"PlantKeeper$Names", "spell", "(Ljava/lang/String;[BI)V"⟩, kc_Nm_spell, 4, none, 3)
theorem ku_Nm_spell : zk_My km_Nm_spell := ⟨kw52, kw2, by decide, by decide, by decide, by decide +kernel⟩
theorem ks_Nm_spell : Cond.static km_Nm_spell.1 ∈ zk_BW := kw51
abbrev kc_Nm_init : ByteArray := prog_7_method_1_code
def km_Nm_init : zk_MT := (⟨"PlantKeeper$Names", "<init>", "()V"⟩, kc_Nm_init, 4, none, 0)
theorem ku_Nm_init : zk_My km_Nm_init := ⟨kw34, kw2, by decide, by decide, by decide, by decide +kernel⟩
theorem kj_Nm_init : Cond.instanceMethod km_Nm_init.1 ∈ zk_BW := kw33
theorem kd_Nm_spell_0 : decode kc_Nm_spell 0 = .ok (.iconst 0, 1) := by decide +kernel
theorem kd_Nm_spell_1 : decode kc_Nm_spell 1 = .ok (.istore_n 3, 1) := by decide +kernel
theorem kd_Nm_spell_2 : decode kc_Nm_spell 2 = .ok (.iload_n 3, 1) := by decide +kernel
theorem kd_Nm_spell_3 : decode kc_Nm_spell 3 = .ok (.aload_n 0, 1) := by decide +kernel
theorem kd_Nm_spell_4 : decode kc_Nm_spell 4 = .ok (.invokevirtual 13, 3) := by decide +kernel
theorem kd_Nm_spell_7 : decode kc_Nm_spell 7 = .ok (.if_icmp .ge 28, 3) := by decide +kernel
theorem kd_Nm_spell_10 : decode kc_Nm_spell 10 = .ok (.iload_n 2, 1) := by decide +kernel
theorem kd_Nm_spell_11 : decode kc_Nm_spell 11 = .ok (.iload_n 3, 1) := by decide +kernel
theorem kd_Nm_spell_12 : decode kc_Nm_spell 12 = .ok (.iadd, 1) := by decide +kernel
theorem kd_Nm_spell_13 : decode kc_Nm_spell 13 = .ok (.aload_n 1, 1) := by decide +kernel
theorem kd_Nm_spell_14 : decode kc_Nm_spell 14 = .ok (.arraylength, 1) := by decide +kernel
theorem kd_Nm_spell_15 : decode kc_Nm_spell 15 = .ok (.if_icmp .ge 20, 3) := by decide +kernel
theorem kd_Nm_spell_18 : decode kc_Nm_spell 18 = .ok (.aload_n 1, 1) := by decide +kernel
theorem kd_Nm_spell_19 : decode kc_Nm_spell 19 = .ok (.iload_n 2, 1) := by decide +kernel
theorem kd_Nm_spell_20 : decode kc_Nm_spell 20 = .ok (.iload_n 3, 1) := by decide +kernel
theorem kd_Nm_spell_21 : decode kc_Nm_spell 21 = .ok (.iadd, 1) := by decide +kernel
theorem kd_Nm_spell_22 : decode kc_Nm_spell 22 = .ok (.aload_n 0, 1) := by decide +kernel
theorem kd_Nm_spell_23 : decode kc_Nm_spell 23 = .ok (.iload_n 3, 1) := by decide +kernel
theorem kd_Nm_spell_24 : decode kc_Nm_spell 24 = .ok (.invokevirtual 46, 3) := by decide +kernel
theorem kd_Nm_spell_27 : decode kc_Nm_spell 27 = .ok (.i2b, 1) := by decide +kernel
theorem kd_Nm_spell_28 : decode kc_Nm_spell 28 = .ok (.bastore, 1) := by decide +kernel
theorem kd_Nm_spell_29 : decode kc_Nm_spell 29 = .ok (.iinc 3 1, 3) := by decide +kernel
theorem kd_Nm_spell_32 : decode kc_Nm_spell 32 = .ok (.goto (-30), 3) := by decide +kernel
theorem kd_Nm_spell_35 : decode kc_Nm_spell 35 = .ok (.return_, 1) := by decide +kernel
theorem kd_Nm_init_0 : decode kc_Nm_init 0 = .ok (.aload_n 0, 1) := by decide +kernel
theorem kd_Nm_init_1 : decode kc_Nm_init 1 = .ok (.invokespecial 5, 3) := by decide +kernel
theorem kd_Nm_init_4 : decode kc_Nm_init 4 = .ok (.ldc 11, 2) := by decide +kernel
theorem kd_Nm_init_6 : decode kc_Nm_init 6 = .ok (.invokevirtual 13, 3) := by decide +kernel
theorem kd_Nm_init_9 : decode kc_Nm_init 9 = .ok (.istore_n 1, 1) := by decide +kernel
theorem kd_Nm_init_10 : decode kc_Nm_init 10 = .ok (.iload_n 1, 1) := by decide +kernel
theorem kd_Nm_init_11 : decode kc_Nm_init 11 = .ok (.ldc 19, 2) := by decide +kernel
theorem kd_Nm_init_13 : decode kc_Nm_init 13 = .ok (.invokevirtual 13, 3) := by decide +kernel
theorem kd_Nm_init_16 : decode kc_Nm_init 16 = .ok (.iadd, 1) := by decide +kernel
theorem kd_Nm_init_17 : decode kc_Nm_init 17 = .ok (.istore_n 2, 1) := by decide +kernel
theorem kd_Nm_init_18 : decode kc_Nm_init 18 = .ok (.iload_n 2, 1) := by decide +kernel
theorem kd_Nm_init_19 : decode kc_Nm_init 19 = .ok (.ldc 21, 2) := by decide +kernel
theorem kd_Nm_init_21 : decode kc_Nm_init 21 = .ok (.invokevirtual 13, 3) := by decide +kernel
theorem kd_Nm_init_24 : decode kc_Nm_init 24 = .ok (.iadd, 1) := by decide +kernel
theorem kd_Nm_init_25 : decode kc_Nm_init 25 = .ok (.istore_n 3, 1) := by decide +kernel
theorem kd_Nm_init_26 : decode kc_Nm_init 26 = .ok (.aload_n 0, 1) := by decide +kernel
theorem kd_Nm_init_27 : decode kc_Nm_init 27 = .ok (.iload_n 3, 1) := by decide +kernel
theorem kd_Nm_init_28 : decode kc_Nm_init 28 = .ok (.ldc 23, 2) := by decide +kernel
theorem kd_Nm_init_30 : decode kc_Nm_init 30 = .ok (.invokevirtual 13, 3) := by decide +kernel
theorem kd_Nm_init_33 : decode kc_Nm_init 33 = .ok (.iadd, 1) := by decide +kernel
theorem kd_Nm_init_34 : decode kc_Nm_init 34 = .ok (.newarray .byte, 2) := by decide +kernel
theorem kd_Nm_init_36 : decode kc_Nm_init 36 = .ok (.putfield 25, 3) := by decide +kernel
theorem kd_Nm_init_39 : decode kc_Nm_init 39 = .ok (.ldc 11, 2) := by decide +kernel
theorem kd_Nm_init_41 : decode kc_Nm_init 41 = .ok (.aload_n 0, 1) := by decide +kernel
theorem kd_Nm_init_42 : decode kc_Nm_init 42 = .ok (.getfield 25, 3) := by decide +kernel
theorem kd_Nm_init_45 : decode kc_Nm_init 45 = .ok (.iconst 0, 1) := by decide +kernel
theorem kd_Nm_init_46 : decode kc_Nm_init 46 = .ok (.invokestatic 29, 3) := by decide +kernel
theorem kd_Nm_init_49 : decode kc_Nm_init 49 = .ok (.ldc 19, 2) := by decide +kernel
theorem kd_Nm_init_51 : decode kc_Nm_init 51 = .ok (.aload_n 0, 1) := by decide +kernel
theorem kd_Nm_init_52 : decode kc_Nm_init 52 = .ok (.getfield 25, 3) := by decide +kernel
theorem kd_Nm_init_55 : decode kc_Nm_init 55 = .ok (.iload_n 1, 1) := by decide +kernel
theorem kd_Nm_init_56 : decode kc_Nm_init 56 = .ok (.invokestatic 29, 3) := by decide +kernel
theorem kd_Nm_init_59 : decode kc_Nm_init 59 = .ok (.ldc 21, 2) := by decide +kernel
theorem kd_Nm_init_61 : decode kc_Nm_init 61 = .ok (.aload_n 0, 1) := by decide +kernel
theorem kd_Nm_init_62 : decode kc_Nm_init 62 = .ok (.getfield 25, 3) := by decide +kernel
theorem kd_Nm_init_65 : decode kc_Nm_init 65 = .ok (.iload_n 2, 1) := by decide +kernel
theorem kd_Nm_init_66 : decode kc_Nm_init 66 = .ok (.invokestatic 29, 3) := by decide +kernel
theorem kd_Nm_init_69 : decode kc_Nm_init 69 = .ok (.ldc 23, 2) := by decide +kernel
theorem kd_Nm_init_71 : decode kc_Nm_init 71 = .ok (.aload_n 0, 1) := by decide +kernel
theorem kd_Nm_init_72 : decode kc_Nm_init 72 = .ok (.getfield 25, 3) := by decide +kernel
theorem kd_Nm_init_75 : decode kc_Nm_init 75 = .ok (.iload_n 3, 1) := by decide +kernel
theorem kd_Nm_init_76 : decode kc_Nm_init 76 = .ok (.invokestatic 29, 3) := by decide +kernel
theorem kd_Nm_init_79 : decode kc_Nm_init 79 = .ok (.aload_n 0, 1) := by decide +kernel
theorem kd_Nm_init_80 : decode kc_Nm_init 80 = .ok (.aload_n 0, 1) := by decide +kernel
theorem kd_Nm_init_81 : decode kc_Nm_init 81 = .ok (.getfield 25, 3) := by decide +kernel
theorem kd_Nm_init_84 : decode kc_Nm_init 84 = .ok (.arraylength, 1) := by decide +kernel
theorem kd_Nm_init_85 : decode kc_Nm_init 85 = .ok (.sipush 16384, 3) := by decide +kernel
theorem kd_Nm_init_88 : decode kc_Nm_init 88 = .ok (.iadd, 1) := by decide +kernel
theorem kd_Nm_init_89 : decode kc_Nm_init 89 = .ok (.newarray .byte, 2) := by decide +kernel
theorem kd_Nm_init_91 : decode kc_Nm_init 91 = .ok (.putfield 33, 3) := by decide +kernel
theorem kd_Nm_init_94 : decode kc_Nm_init 94 = .ok (.aload_n 0, 1) := by decide +kernel
theorem kd_Nm_init_95 : decode kc_Nm_init 95 = .ok (.sipush 6001, 3) := by decide +kernel
theorem kd_Nm_init_98 : decode kc_Nm_init 98 = .ok (.newarray .int, 2) := by decide +kernel
theorem kd_Nm_init_100 : decode kc_Nm_init 100 = .ok (.putfield 36, 3) := by decide +kernel
theorem kd_Nm_init_103 : decode kc_Nm_init 103 = .ok (.aload_n 0, 1) := by decide +kernel
theorem kd_Nm_init_104 : decode kc_Nm_init 104 = .ok (.sipush 6000, 3) := by decide +kernel
theorem kd_Nm_init_107 : decode kc_Nm_init 107 = .ok (.newarray .int, 2) := by decide +kernel
theorem kd_Nm_init_109 : decode kc_Nm_init 109 = .ok (.putfield 40, 3) := by decide +kernel
theorem kd_Nm_init_112 : decode kc_Nm_init 112 = .ok (.aload_n 0, 1) := by decide +kernel
theorem kd_Nm_init_113 : decode kc_Nm_init 113 = .ok (.sipush 1024, 3) := by decide +kernel
theorem kd_Nm_init_116 : decode kc_Nm_init 116 = .ok (.newarray .int, 2) := by decide +kernel
theorem kd_Nm_init_118 : decode kc_Nm_init 118 = .ok (.putfield 43, 3) := by decide +kernel
theorem kd_Nm_init_121 : decode kc_Nm_init 121 = .ok (.return_, 1) := by decide +kernel
set_option maxHeartbeats 4000000 in
set_option maxRecDepth 100000 in
/-- Names.spell: the text's bytes stand in the row from place f on -/
theorem cn_spell {l : Launch} {D : va_G} {cI cB cC cZ cJ : ClassId} {sz0 : Nat} {P : ze_T} {ws : va_W} (q0 i : Nat) (hi : i < 22) (f : Nat) {a N : Nat} {g : Nat → Int32} {F : Int32} (ha : ws[q0]? = some (a, .inl (cB, N, .inl g))) (hF : F = nI f) (hf : f + ze_n i ≤ N) (hN : N < 2 ^ 30) : zk_Sp (l, D, zk_cls, zk_TY cI cB cC cZ cJ, sz0) (ze_E P) km_Nm_spell { frames := 4, cells := 0, slots := 0, locals := 85 } [.ref (P.1 i), .ref a, .int F] ws (fun v w => v = none ∧ w = ws.set q0 (a, .inl (cB, N, .inl (zn_sp g f (ze_n i) (ze_f i))))) := by
  refine zk_met ku_Nm_spell (Nat.le_of_ble_eq_true rfl) (ze_Em P) ?_
  intro X C hR
  subst hF
  have loop : ∀ (m c : Nat) (w : va_W), c + m = ze_n i → w[q0]? = some (a, .inl (cB, N, .inl (zn_sp g f c (ze_f i)))) → (∀ z, w.set q0 z = ws.set q0 z) → zk_Ab X w 0 0 2 [(0, .ref (P.1 i)), (1, .ref a), (2, .int (nI f)), (3, .int (nI c))] [] := by
    intro m
    induction m with
    | zero =>
      intro c w hc hw he
      refine zk_iload_n C kd_Nm_spell_2 rfl 3 rfl rfl ?_
      refine zk_aload_n C kd_Nm_spell_3 rfl 0 rfl rfl ?_
      refine ze_callStr (As := []) (rest := [.int (nI c)]) C (cs_length w i hi) ku_St_length kw37 kv_St_length hi rfl rfl ⟨by decide, by decide⟩ ⟨by decide, by decide⟩ rfl (Nat.le_of_ble_eq_true rfl) kd_Nm_spell_4 rfl (c1 := 0) (s1 := 0) rfl rfl (fun v w2 hp => ?_)
      obtain ⟨rfl, ew⟩ := hp
      rw [ew]
      refine zk_stk (r' := [.int (nI (ze_n i)), .int (nI c)]) rfl ?_
      refine zk_icmp_ge (tgt := 35) C kd_Nm_spell_7 (by decide) rfl (fun h => ?_) (fun h => absurd (nI_le (by omega) (by omega)) h)
      refine zk_vret C hR kd_Nm_spell_35 rfl rfl ⟨rfl, ?_⟩
      have e1 : c = ze_n i := by omega
      subst e1
      rw [← he, zk_si hw]
    | succ m ih =>
      intro c w hc hw he
      refine zk_iload_n C kd_Nm_spell_2 rfl 3 rfl rfl ?_
      refine zk_aload_n C kd_Nm_spell_3 rfl 0 rfl rfl ?_
      refine ze_callStr (As := []) (rest := [.int (nI c)]) C (cs_length w i hi) ku_St_length kw37 kv_St_length hi rfl rfl ⟨by decide, by decide⟩ ⟨by decide, by decide⟩ rfl (Nat.le_of_ble_eq_true rfl) kd_Nm_spell_4 rfl (c1 := 0) (s1 := 0) rfl rfl (fun v w2 hp => ?_)
      obtain ⟨rfl, ew⟩ := hp
      rw [ew]
      refine zk_stk (r' := [.int (nI (ze_n i)), .int (nI c)]) rfl ?_
      refine zk_icmp_ge (tgt := 35) C kd_Nm_spell_7 (by decide) rfl (fun h => absurd h (nI_ge (by omega) (by omega))) (fun h => ?_)
      refine zk_iload_n C kd_Nm_spell_10 rfl 2 rfl rfl ?_
      refine zk_iload_n C kd_Nm_spell_11 rfl 3 rfl rfl ?_
      refine zk_iadd C kd_Nm_spell_12 rfl ?_
      refine zk_aload_n C kd_Nm_spell_13 rfl 1 rfl rfl ?_
      refine zk_alen (v := nI N) C q0 1 hw rfl rfl kd_Nm_spell_14 rfl ?_
      rw [nI_add]
      refine zk_icmp_ge (tgt := 35) C kd_Nm_spell_15 (by decide) rfl (fun h => absurd h (nI_ge (by omega) (by omega))) (fun h => ?_)
      refine zk_aload_n C kd_Nm_spell_18 rfl 1 rfl rfl ?_
      refine zk_iload_n C kd_Nm_spell_19 rfl 2 rfl rfl ?_
      refine zk_iload_n C kd_Nm_spell_20 rfl 3 rfl rfl ?_
      refine zk_iadd C kd_Nm_spell_21 rfl ?_
      rw [nI_add]
      refine zk_aload_n C kd_Nm_spell_22 rfl 0 rfl rfl ?_
      refine zk_iload_n C kd_Nm_spell_23 rfl 3 rfl rfl ?_
      refine ze_callStr (As := [.int (nI c)]) (rest := [.int (nI (f + c)), .ref a]) C (cs_charAt w i hi c (by omega) (by omega)) ku_St_charAt kw53 kv_St_charAt hi rfl rfl ⟨by decide, by decide⟩ ⟨by decide, by decide⟩ rfl (Nat.le_of_ble_eq_true rfl) kd_Nm_spell_24 rfl (c1 := 0) (s1 := 0) rfl rfl (fun v w3 hp => ?_)
      obtain ⟨rfl, ew3⟩ := hp
      rw [ew3]
      refine zk_stk (r' := [.int (ze_f i c &&& 255), .int (nI (f + c)), .ref a]) rfl ?_
      refine zk_i2b C kd_Nm_spell_27 rfl ?_
      refine zk_bast (ws' := w.set q0 (a, .inl (cB, N, .inl (zn_sp g f (c + 1) (ze_f i))))) C q0 1 hw rfl (vp_in_nI (by omega) (by omega)) kd_Nm_spell_28 (by rw [pk_vb, nI_clamp (by omega), zn_sp1]) rfl ?_
      refine zk_iinc (lv' := [(3, _), (0, _), (1, _), (2, _)]) C kd_Nm_spell_29 3 rfl rfl (by decide) rfl rfl ?_
      refine zk_goto (tgt := 2) C kd_Nm_spell_32 (by decide) ?_
      refine zk_lvs (lv' := [(0, .ref (P.1 i)), (1, .ref a), (2, .int (nI f)), (3, .int (nI (c + 1)))]) [1, 2, 3, 0] (by rw [nI_succ]; rfl) ?_
      exact ih (c + 1) _ (by omega) (zk_sg hw) (fun z => by rw [List.set_set]; exact he z)
  refine zk_iconst (v := 0) C kd_Nm_spell_0 (by decide) rfl ?_
  refine zk_istore_n (lv' := [(3, _), (0, _), (1, _), (2, _)]) C kd_Nm_spell_1 rfl (by decide) rfl rfl ?_
  refine zk_lvs (lv' := [(0, .ref (P.1 i)), (1, .ref a), (2, .int (nI f)), (3, .int (nI 0))]) [1, 2, 3, 0] rfl ?_
  exact loop (ze_n i) 0 ws (by omega) (by rw [zn_sp0]; exact ha) (fun _ => rfl)
set_option maxHeartbeats 4000000 in
set_option maxRecDepth 100000 in
theorem ct_Nm {l : Launch} {D : va_G} {cI cB cC cZ cJ : ClassId} {sz0 : Nat} {P : ze_T} (hEm : zk_Em (ze_E P)) (ws0 : va_W) (h0 : Nat) : zk_Sp (l, D, zk_cls, zk_TY cI cB cC cZ cJ, sz0) (ze_E P) km_Nm_init { frames := 5, cells := 5, slots := 30219, locals := 108 } [.ref h0] (ws0 ++ [(h0, .inr (1, [.null, .null, .null, .null, .null, .int 0]))]) (fun v w => v = none ∧ ∃ q1 q2 q3 q4 q5 : Nat, w = ws0 ++ [(h0, .inr (1, [.ref q1, .ref q2, .ref q3, .ref q4, .ref q5, .int 0])), (q1, .inl (cB, 405, .inl (zn_sp (zn_sp (zn_sp (zn_sp (fun _ => 0) 0 270 (ze_f 0)) 270 39 (ze_f 1)) 309 53 (ze_f 2)) 362 43 (ze_f 3)))), (q2, .inl (cB, 16789, .inl (fun _ => 0))), (q3, .inl (cI, 6001, .inl (fun _ => 0))), (q4, .inl (cI, 6000, .inl (fun _ => 0))), (q5, .inl (cI, 1024, .inl (fun _ => 0)))]) := by
  refine zk_met ku_Nm_init (Nat.le_of_ble_eq_true rfl) hEm ?_
  intro X C hR
  refine zk_lvs (lv' := [(0, .ref h0)]) [0] rfl ?_
  refine zk_aload_n C kd_Nm_init_0 rfl 0 rfl rfl ?_
  refine zk_objInit C kw35 kw28 kw_obj kd_Nm_init_1 rfl (by decide) (by decide) rfl ?_
  refine ze_ldcS (i := 0) C zn_s0 kd_Nm_init_4 rfl ?_
  refine ze_callStr (i := 0) (As := []) (rest := []) C (cs_length _ 0 (by decide)) ku_St_length kw37 kv_St_length (by decide) rfl rfl ⟨by decide, by decide⟩ ⟨by decide, by decide⟩ rfl (Nat.le_of_ble_eq_true rfl) kd_Nm_init_6 rfl (c1 := 0) (s1 := 0) rfl rfl (fun v w hp => ?_)
  obtain ⟨rfl, rfl⟩ := hp
  refine zk_stk (r' := [.int 270]) rfl ?_
  refine zk_istore_n (lv' := [(1, _), (0, _)]) C kd_Nm_init_9 rfl (by decide) rfl rfl ?_
  refine zk_iload_n C kd_Nm_init_10 rfl 0 rfl rfl ?_
  refine ze_ldcS (i := 1) C zn_s1 kd_Nm_init_11 rfl ?_
  refine ze_callStr (i := 1) (As := []) (rest := [.int 270]) C (cs_length _ 1 (by decide)) ku_St_length kw37 kv_St_length (by decide) rfl rfl ⟨by decide, by decide⟩ ⟨by decide, by decide⟩ rfl (Nat.le_of_ble_eq_true rfl) kd_Nm_init_13 rfl (c1 := 0) (s1 := 0) rfl rfl (fun v w hp => ?_)
  obtain ⟨rfl, rfl⟩ := hp
  refine zk_stk (r' := [.int 39, .int 270]) rfl ?_
  refine zk_iadd C kd_Nm_init_16 rfl ?_
  refine zk_stk (r' := [.int 309]) (by rw [show (270 : Int32) + 39 = 309 by decide]) ?_
  refine zk_istore_n (lv' := [(2, _), (1, _), (0, _)]) C kd_Nm_init_17 rfl (by decide) rfl rfl ?_
  refine zk_iload_n C kd_Nm_init_18 rfl 0 rfl rfl ?_
  refine ze_ldcS (i := 2) C zn_s2 kd_Nm_init_19 rfl ?_
  refine ze_callStr (i := 2) (As := []) (rest := [.int 309]) C (cs_length _ 2 (by decide)) ku_St_length kw37 kv_St_length (by decide) rfl rfl ⟨by decide, by decide⟩ ⟨by decide, by decide⟩ rfl (Nat.le_of_ble_eq_true rfl) kd_Nm_init_21 rfl (c1 := 0) (s1 := 0) rfl rfl (fun v w hp => ?_)
  obtain ⟨rfl, rfl⟩ := hp
  refine zk_stk (r' := [.int 53, .int 309]) rfl ?_
  refine zk_iadd C kd_Nm_init_24 rfl ?_
  refine zk_stk (r' := [.int 362]) (by rw [show (309 : Int32) + 53 = 362 by decide]) ?_
  refine zk_istore_n (lv' := [(3, _), (2, _), (1, _), (0, _)]) C kd_Nm_init_25 rfl (by decide) rfl rfl ?_
  refine zk_aload_n C kd_Nm_init_26 rfl 3 rfl rfl ?_
  refine zk_iload_n C kd_Nm_init_27 rfl 0 rfl rfl ?_
  refine ze_ldcS (i := 3) C zn_s3 kd_Nm_init_28 rfl ?_
  refine ze_callStr (i := 3) (As := []) (rest := [.int 362, .ref h0]) C (cs_length _ 3 (by decide)) ku_St_length kw37 kv_St_length (by decide) rfl rfl ⟨by decide, by decide⟩ ⟨by decide, by decide⟩ rfl (Nat.le_of_ble_eq_true rfl) kd_Nm_init_30 rfl (c1 := 0) (s1 := 0) rfl rfl (fun v w hp => ?_)
  obtain ⟨rfl, rfl⟩ := hp
  refine zk_stk (r' := [.int 43, .int 362, .ref h0]) rfl ?_
  refine zk_iadd C kd_Nm_init_33 rfl ?_
  refine zk_stk (r' := [.int 405, .ref h0]) (by rw [show (362 : Int32) + 43 = 405 by decide]) ?_
  refine zk_newa (cA := cB) (N := 405) (a0 := (405, .inl (fun _ => 0))) C kw110 rfl 1 rfl (zk_zi 405) (by decide) (by decide) (by decide) (by decide) (by decide) kd_Nm_init_34 rfl (c1 := 1) (s1 := 405) rfl rfl (fun q1 => ?_)
  refine zk_wsE (ws' := ws0 ++ [(h0, .inr (1, [.null, .null, .null, .null, .null, .int 0])), (q1, .inl (cB, 405, .inl (fun _ => 0)))]) (zk_apE rfl) ?_
  refine zk_putF (ty := .array .byte) (ws' := ws0 ++ [(h0, .inr (1, [.ref q1, .null, .null, .null, .null, .int 0])), (q1, .inl (cB, 405, .inl (fun _ => 0)))]) C (ws0.length + 0) (zk_ap 0 rfl) rfl ki_Nm ky_Nm ko_Nm kn_Nm 0 (by decide) kw91 rfl rfl rfl rfl rfl rfl (Nat.le_of_ble_eq_true rfl) kd_Nm_init_36 (zk_apS 0 rfl) rfl ?_
  refine ze_ldcS (i := 0) C zn_s0 kd_Nm_init_39 rfl ?_
  refine zk_aload_n C kd_Nm_init_41 rfl 3 rfl rfl ?_
  refine zk_get C (ws0.length + 0) (zk_ap 0 rfl) rfl ki_Nm 0 (by decide) kw91 rfl kd_Nm_init_42 rfl ?_
  refine zk_iconst (v := 0) C kd_Nm_init_45 (by decide) rfl ?_
  refine zk_callS (rn := { frames := 4, cells := 0, slots := 0, locals := 85 }) (As := [.ref (P.1 0), .ref q1, .int 0]) (rest := []) C (cn_spell (ws0.length + 1) 0 (by decide) 0 (N := 405) (zk_ap 1 rfl) rfl (by decide) (by decide)) ku_Nm_spell kw50 ks_Nm_spell rfl ⟨by decide, by decide⟩ ⟨by decide, by decide⟩ rfl (Nat.le_of_ble_eq_true rfl) kd_Nm_init_46 rfl (c1 := 1) (s1 := 405) rfl rfl (fun v w hp => ?_)
  obtain ⟨rfl, rfl⟩ := hp
  refine zk_wsE (ws' := ws0 ++ [(h0, .inr (1, [.ref q1, .null, .null, .null, .null, .int 0])), (q1, .inl (cB, 405, .inl (zn_sp (fun _ => 0) 0 270 (ze_f 0))))]) (zk_apT 1 rfl) ?_
  refine zk_stk (r' := []) rfl ?_
  refine ze_ldcS (i := 1) C zn_s1 kd_Nm_init_49 rfl ?_
  refine zk_aload_n C kd_Nm_init_51 rfl 3 rfl rfl ?_
  refine zk_get C (ws0.length + 0) (zk_ap 0 rfl) rfl ki_Nm 0 (by decide) kw91 rfl kd_Nm_init_52 rfl ?_
  refine zk_iload_n C kd_Nm_init_55 rfl 2 rfl rfl ?_
  refine zk_callS (rn := { frames := 4, cells := 0, slots := 0, locals := 85 }) (As := [.ref (P.1 1), .ref q1, .int 270]) (rest := []) C (cn_spell (ws0.length + 1) 1 (by decide) 270 (N := 405) (zk_ap 1 rfl) rfl (by decide) (by decide)) ku_Nm_spell kw50 ks_Nm_spell rfl ⟨by decide, by decide⟩ ⟨by decide, by decide⟩ rfl (Nat.le_of_ble_eq_true rfl) kd_Nm_init_56 rfl (c1 := 1) (s1 := 405) rfl rfl (fun v w hp => ?_)
  obtain ⟨rfl, rfl⟩ := hp
  refine zk_wsE (ws' := ws0 ++ [(h0, .inr (1, [.ref q1, .null, .null, .null, .null, .int 0])), (q1, .inl (cB, 405, .inl (zn_sp (zn_sp (fun _ => 0) 0 270 (ze_f 0)) 270 39 (ze_f 1))))]) (zk_apT 1 rfl) ?_
  refine zk_stk (r' := []) rfl ?_
  refine ze_ldcS (i := 2) C zn_s2 kd_Nm_init_59 rfl ?_
  refine zk_aload_n C kd_Nm_init_61 rfl 3 rfl rfl ?_
  refine zk_get C (ws0.length + 0) (zk_ap 0 rfl) rfl ki_Nm 0 (by decide) kw91 rfl kd_Nm_init_62 rfl ?_
  refine zk_iload_n C kd_Nm_init_65 rfl 1 rfl rfl ?_
  refine zk_callS (rn := { frames := 4, cells := 0, slots := 0, locals := 85 }) (As := [.ref (P.1 2), .ref q1, .int 309]) (rest := []) C (cn_spell (ws0.length + 1) 2 (by decide) 309 (N := 405) (zk_ap 1 rfl) rfl (by decide) (by decide)) ku_Nm_spell kw50 ks_Nm_spell rfl ⟨by decide, by decide⟩ ⟨by decide, by decide⟩ rfl (Nat.le_of_ble_eq_true rfl) kd_Nm_init_66 rfl (c1 := 1) (s1 := 405) rfl rfl (fun v w hp => ?_)
  obtain ⟨rfl, rfl⟩ := hp
  refine zk_wsE (ws' := ws0 ++ [(h0, .inr (1, [.ref q1, .null, .null, .null, .null, .int 0])), (q1, .inl (cB, 405, .inl (zn_sp (zn_sp (zn_sp (fun _ => 0) 0 270 (ze_f 0)) 270 39 (ze_f 1)) 309 53 (ze_f 2))))]) (zk_apT 1 rfl) ?_
  refine zk_stk (r' := []) rfl ?_
  refine ze_ldcS (i := 3) C zn_s3 kd_Nm_init_69 rfl ?_
  refine zk_aload_n C kd_Nm_init_71 rfl 3 rfl rfl ?_
  refine zk_get C (ws0.length + 0) (zk_ap 0 rfl) rfl ki_Nm 0 (by decide) kw91 rfl kd_Nm_init_72 rfl ?_
  refine zk_iload_n C kd_Nm_init_75 rfl 0 rfl rfl ?_
  refine zk_callS (rn := { frames := 4, cells := 0, slots := 0, locals := 85 }) (As := [.ref (P.1 3), .ref q1, .int 362]) (rest := []) C (cn_spell (ws0.length + 1) 3 (by decide) 362 (N := 405) (zk_ap 1 rfl) rfl (by decide) (by decide)) ku_Nm_spell kw50 ks_Nm_spell rfl ⟨by decide, by decide⟩ ⟨by decide, by decide⟩ rfl (Nat.le_of_ble_eq_true rfl) kd_Nm_init_76 rfl (c1 := 1) (s1 := 405) rfl rfl (fun v w hp => ?_)
  obtain ⟨rfl, rfl⟩ := hp
  refine zk_wsE (ws' := ws0 ++ [(h0, .inr (1, [.ref q1, .null, .null, .null, .null, .int 0])), (q1, .inl (cB, 405, .inl (zn_sp (zn_sp (zn_sp (zn_sp (fun _ => 0) 0 270 (ze_f 0)) 270 39 (ze_f 1)) 309 53 (ze_f 2)) 362 43 (ze_f 3))))]) (zk_apT 1 rfl) ?_
  refine zk_stk (r' := []) rfl ?_
  refine zk_aload_n C kd_Nm_init_79 rfl 3 rfl rfl ?_
  refine zk_aload_n C kd_Nm_init_80 rfl 3 rfl rfl ?_
  refine zk_get C (ws0.length + 0) (zk_ap 0 rfl) rfl ki_Nm 0 (by decide) kw91 rfl kd_Nm_init_81 rfl ?_
  refine zk_alen (v := 405) C (ws0.length + 1) 1 (zk_ap 1 rfl) rfl rfl kd_Nm_init_84 rfl ?_
  refine zk_sipush (v := 16384) C kd_Nm_init_85 (by decide) rfl ?_
  refine zk_iadd C kd_Nm_init_88 rfl ?_
  refine zk_stk (r' := [.int 16789, .ref h0]) (by rw [show (405 : Int32) + 16384 = 16789 by decide]) ?_
  refine zk_newa (cA := cB) (N := 16789) (a0 := (16789, .inl (fun _ => 0))) C kw110 rfl 1 rfl (zk_zi 16789) (by decide) (by decide) (by decide) (by decide) (by decide) kd_Nm_init_89 rfl (c1 := 2) (s1 := 17194) rfl rfl (fun q2 => ?_)
  refine zk_wsE (ws' := ws0 ++ [(h0, .inr (1, [.ref q1, .null, .null, .null, .null, .int 0])), (q1, .inl (cB, 405, .inl (zn_sp (zn_sp (zn_sp (zn_sp (fun _ => 0) 0 270 (ze_f 0)) 270 39 (ze_f 1)) 309 53 (ze_f 2)) 362 43 (ze_f 3)))), (q2, .inl (cB, 16789, .inl (fun _ => 0)))]) (zk_apE rfl) ?_
  refine zk_putF (ty := .array .byte) (ws' := ws0 ++ [(h0, .inr (1, [.ref q1, .ref q2, .null, .null, .null, .int 0])), (q1, .inl (cB, 405, .inl (zn_sp (zn_sp (zn_sp (zn_sp (fun _ => 0) 0 270 (ze_f 0)) 270 39 (ze_f 1)) 309 53 (ze_f 2)) 362 43 (ze_f 3)))), (q2, .inl (cB, 16789, .inl (fun _ => 0)))]) C (ws0.length + 0) (zk_ap 0 rfl) rfl ki_Nm ky_Nm ko_Nm kn_Nm 1 (by decide) kw92 rfl rfl rfl rfl rfl rfl (Nat.le_of_ble_eq_true rfl) kd_Nm_init_91 (zk_apS 0 rfl) rfl ?_
  refine zk_aload_n C kd_Nm_init_94 rfl 3 rfl rfl ?_
  refine zk_sipush (v := 6001) C kd_Nm_init_95 (by decide) rfl ?_
  refine zk_newa (cA := cI) (N := 6001) (a0 := (6001, .inl (fun _ => 0))) C kw111 rfl 0 rfl (zk_zi 6001) (by decide) (by decide) (by decide) (by decide) (by decide) kd_Nm_init_98 rfl (c1 := 3) (s1 := 23195) rfl rfl (fun q3 => ?_)
  refine zk_wsE (ws' := ws0 ++ [(h0, .inr (1, [.ref q1, .ref q2, .null, .null, .null, .int 0])), (q1, .inl (cB, 405, .inl (zn_sp (zn_sp (zn_sp (zn_sp (fun _ => 0) 0 270 (ze_f 0)) 270 39 (ze_f 1)) 309 53 (ze_f 2)) 362 43 (ze_f 3)))), (q2, .inl (cB, 16789, .inl (fun _ => 0))), (q3, .inl (cI, 6001, .inl (fun _ => 0)))]) (zk_apE rfl) ?_
  refine zk_putF (ty := .array .int) (ws' := ws0 ++ [(h0, .inr (1, [.ref q1, .ref q2, .ref q3, .null, .null, .int 0])), (q1, .inl (cB, 405, .inl (zn_sp (zn_sp (zn_sp (zn_sp (fun _ => 0) 0 270 (ze_f 0)) 270 39 (ze_f 1)) 309 53 (ze_f 2)) 362 43 (ze_f 3)))), (q2, .inl (cB, 16789, .inl (fun _ => 0))), (q3, .inl (cI, 6001, .inl (fun _ => 0)))]) C (ws0.length + 0) (zk_ap 0 rfl) rfl ki_Nm ky_Nm ko_Nm kn_Nm 2 (by decide) kw93 rfl rfl rfl rfl rfl rfl (Nat.le_of_ble_eq_true rfl) kd_Nm_init_100 (zk_apS 0 rfl) rfl ?_
  refine zk_aload_n C kd_Nm_init_103 rfl 3 rfl rfl ?_
  refine zk_sipush (v := 6000) C kd_Nm_init_104 (by decide) rfl ?_
  refine zk_newa (cA := cI) (N := 6000) (a0 := (6000, .inl (fun _ => 0))) C kw111 rfl 0 rfl (zk_zi 6000) (by decide) (by decide) (by decide) (by decide) (by decide) kd_Nm_init_107 rfl (c1 := 4) (s1 := 29195) rfl rfl (fun q4 => ?_)
  refine zk_wsE (ws' := ws0 ++ [(h0, .inr (1, [.ref q1, .ref q2, .ref q3, .null, .null, .int 0])), (q1, .inl (cB, 405, .inl (zn_sp (zn_sp (zn_sp (zn_sp (fun _ => 0) 0 270 (ze_f 0)) 270 39 (ze_f 1)) 309 53 (ze_f 2)) 362 43 (ze_f 3)))), (q2, .inl (cB, 16789, .inl (fun _ => 0))), (q3, .inl (cI, 6001, .inl (fun _ => 0))), (q4, .inl (cI, 6000, .inl (fun _ => 0)))]) (zk_apE rfl) ?_
  refine zk_putF (ty := .array .int) (ws' := ws0 ++ [(h0, .inr (1, [.ref q1, .ref q2, .ref q3, .ref q4, .null, .int 0])), (q1, .inl (cB, 405, .inl (zn_sp (zn_sp (zn_sp (zn_sp (fun _ => 0) 0 270 (ze_f 0)) 270 39 (ze_f 1)) 309 53 (ze_f 2)) 362 43 (ze_f 3)))), (q2, .inl (cB, 16789, .inl (fun _ => 0))), (q3, .inl (cI, 6001, .inl (fun _ => 0))), (q4, .inl (cI, 6000, .inl (fun _ => 0)))]) C (ws0.length + 0) (zk_ap 0 rfl) rfl ki_Nm ky_Nm ko_Nm kn_Nm 3 (by decide) kw94 rfl rfl rfl rfl rfl rfl (Nat.le_of_ble_eq_true rfl) kd_Nm_init_109 (zk_apS 0 rfl) rfl ?_
  refine zk_aload_n C kd_Nm_init_112 rfl 3 rfl rfl ?_
  refine zk_sipush (v := 1024) C kd_Nm_init_113 (by decide) rfl ?_
  refine zk_newa (cA := cI) (N := 1024) (a0 := (1024, .inl (fun _ => 0))) C kw111 rfl 0 rfl (zk_zi 1024) (by decide) (by decide) (by decide) (by decide) (by decide) kd_Nm_init_116 rfl (c1 := 5) (s1 := 30219) rfl rfl (fun q5 => ?_)
  refine zk_wsE (ws' := ws0 ++ [(h0, .inr (1, [.ref q1, .ref q2, .ref q3, .ref q4, .null, .int 0])), (q1, .inl (cB, 405, .inl (zn_sp (zn_sp (zn_sp (zn_sp (fun _ => 0) 0 270 (ze_f 0)) 270 39 (ze_f 1)) 309 53 (ze_f 2)) 362 43 (ze_f 3)))), (q2, .inl (cB, 16789, .inl (fun _ => 0))), (q3, .inl (cI, 6001, .inl (fun _ => 0))), (q4, .inl (cI, 6000, .inl (fun _ => 0))), (q5, .inl (cI, 1024, .inl (fun _ => 0)))]) (zk_apE rfl) ?_
  refine zk_putF (ty := .array .int) (ws' := ws0 ++ [(h0, .inr (1, [.ref q1, .ref q2, .ref q3, .ref q4, .ref q5, .int 0])), (q1, .inl (cB, 405, .inl (zn_sp (zn_sp (zn_sp (zn_sp (fun _ => 0) 0 270 (ze_f 0)) 270 39 (ze_f 1)) 309 53 (ze_f 2)) 362 43 (ze_f 3)))), (q2, .inl (cB, 16789, .inl (fun _ => 0))), (q3, .inl (cI, 6001, .inl (fun _ => 0))), (q4, .inl (cI, 6000, .inl (fun _ => 0))), (q5, .inl (cI, 1024, .inl (fun _ => 0)))]) C (ws0.length + 0) (zk_ap 0 rfl) rfl ki_Nm ky_Nm ko_Nm kn_Nm 4 (by decide) kw95 rfl rfl rfl rfl rfl rfl (Nat.le_of_ble_eq_true rfl) kd_Nm_init_118 (zk_apS 0 rfl) rfl ?_
  exact zk_vret C hR kd_Nm_init_121 rfl rfl ⟨rfl, q1, q2, q3, q4, q5, rfl⟩
