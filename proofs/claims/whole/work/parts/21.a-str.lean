/-! Strings that the model makes: rows, and the JDK's methods over them. -/
section JS1
variable {X : zkj_T} {M : zk_MT} {G : zk_GT} {rm : Room} {E : Nat → State → Prop} {ws ws' : va_W} {cells slots pc n : Nat} {lv lv' : List (Nat × Value)} {r : List Value}
theorem js_l {ws ex : va_W} {k : Nat} {q : Nat × va_E} (h : ws[k]? = some q) : (ws ++ ex)[k]? = some q := by rw [List.getElem?_append_left (List.getElem?_eq_some_iff.mp h).1]; exact h
theorem js_P {D : va_G} {cl : List vw_C} {ws ex : va_W} {H : Heap} (h : va_P D cl (ws ++ ex) H) : va_P D cl ws H := fun k q hq => h k q (js_l hq)
theorem js_D {A : Nat → Prop} {ws ex : va_W} (h : va_D A (ws ++ ex)) : va_D A ws := ⟨fun i j p q hi hj e => h.1 i j p q (js_l hi) (js_l hj) e, fun k q hq => h.2 k q (js_l hq)⟩
/-- the last cells are forgotten -/
theorem js_drop {ex : va_W} (k : zk_Ab X ws cells slots pc lv r) : zk_Ab X (ws ++ ex) cells slots pc lv r := by
  obtain ⟨p, l, e, R, s, m, args, below, meth, c, Q, D, cl, tys, sz0, nL⟩ := X
  exact fun H locs ls hP hD hS h => k H locs ls (js_P hP) (js_D hD) hS h
theorem js_aret {Post : Option Value → va_W → Prop} {v : Value} {rt : FieldType} (C : zk_C X M G rm E) (hR : zkj_R X Post (some rt)) (hrt : (∃ n, rt = .object n) ∨ ∃ t, rt = .array t) (hv : v = .null ∨ ∃ a, v = .ref a) (d : decode M.2.1 pc = .ok (.areturn, 1)) (h1 : cells = rm.cells) (h2 : slots = rm.slots) (hp : Post (some v) ws) : zk_Ab X ws cells slots pc lv [v] := by
  obtain ⟨p, l, e, R, s, m, args, below, meth, c, Q, D, cl, tys, sz0, nL⟩ := X
  obtain ⟨⟨hx, hb, hml, hown, hts⟩, hK, hsz, hE, hEm, hG9, hnL9, hrm9, hin0⟩ := C; subst hG9; subst hnL9; subst hrm9
  obtain ⟨hr, hlk, rfl⟩ := hR
  subst h1; subst h2
  exact fun H locs ls hP hD hS h => W.aret hx hb hr hrt hv (fun t ht hW => ⟨⟨some v, ws, rfl, hp, by rw [ht]; exact hP, hD⟩, hS.F ht⟩) hS.2.2 d hlk
theorem js_ifnull {x : Nat} {off : Int} (C : zk_C X M G rm E) (d : decode M.2.1 pc = .ok (.ifnull off, 3)) (hpc : pc + 3 = n) (k : zk_Ab X ws cells slots n lv r) : zk_Ab X ws cells slots pc lv (.ref x :: r) := by
  obtain ⟨p, l, e, R, s, m, args, below, meth, c, Q, D, cl, tys, sz0, nL⟩ := X
  obtain ⟨⟨hx, hb, hml, hown, hts⟩, hK, hsz, hE, hEm, hG9, hnL9, hrm9, hin0⟩ := C; subst hG9; subst hnL9; subst hrm9
  subst hpc
  exact fun H locs ls hP hD hS h => lv_ifnull hx hb d (k H locs ls hP hD hS h)
theorem js_ifnullN {off : Int} {tgt : Nat} (C : zk_C X M G rm E) (d : decode M.2.1 pc = .ok (.ifnull off, 3)) (ht : (pc : Int) + off = (tgt : Int)) (k : zk_Ab X ws cells slots tgt lv r) : zk_Ab X ws cells slots pc lv (.null :: r) := by
  obtain ⟨p, l, e, R, s, m, args, below, meth, c, Q, D, cl, tys, sz0, nL⟩ := X
  obtain ⟨⟨hx, hb, hml, hown, hts⟩, hK, hsz, hE, hEm, hG9, hnL9, hrm9, hin0⟩ := C; subst hG9; subst hnL9; subst hrm9
  exact fun H locs ls hP hD hS h => lv_ifnullN hx hb d ht (k H locs ls hP hD hS h)
theorem js_aloadN {i : Nat} (C : zk_C X M G rm E) (d : decode M.2.1 pc = .ok (.aload i, 2)) (q : Nat) (hq : lv[q]? = some (i, .null)) (hpc : pc + 2 = n) (k : zk_Ab X ws cells slots n lv (.null :: r)) : zk_Ab X ws cells slots pc lv (r) := by
  obtain ⟨p, l, e, R, s, m, args, below, meth, c, Q, D, cl, tys, sz0, nL⟩ := X
  obtain ⟨⟨hx, hb, hml, hown, hts⟩, hK, hsz, hE, hEm, hG9, hnL9, hrm9, hin0⟩ := C; subst hG9; subst hnL9; subst hrm9
  subst hpc
  exact fun H locs ls hP hD hS h => lv_aloadN hx hb d (lv_at h q hq) (k H locs ls hP hD hS h)
theorem js_astoreN {i : Nat} (C : zk_C X M G rm E) (d : decode M.2.1 pc = .ok (.astore i, 2)) (hn : i < M.2.2.1) (hl : (i, Value.null) :: lv.filter (fun q => !(q.1 == i) && !(q.1 + 1 == i && q.2.category == 2)) = lv') (hpc : pc + 2 = n) (k : zk_Ab X ws cells slots n lv' r) : zk_Ab X ws cells slots pc lv (.null :: r) := by
  obtain ⟨p, l, e, R, s, m, args, below, meth, c, Q, D, cl, tys, sz0, nL⟩ := X
  obtain ⟨⟨hx, hb, hml, hown, hts⟩, hK, hsz, hE, hEm, hG9, hnL9, hrm9, hin0⟩ := C; subst hG9; subst hnL9; subst hrm9
  subst hpc
  exact fun H locs ls hP hD hS h => lv_astoreN hx hb d h hn hl (fun ls h => k H locs ls hP hD hS h)
end JS1
section JS2
variable {X : zkj_T} {M : zk_MT} {G : zk_GT} {rm : Room} {P : ze_T} {ws ws' : va_W} {cells slots pc n1 : Nat} {lv lv' : List (Nat × Value)} {r : List Value}
/-- a part of a String constant's bytes is copied -/
theorem js_copyT {i a k1 : Nat} {c1 : ClassId} {g : Nat → Int32} {index : Nat} {sp dp n : Int32} (C : zk_C X M G rm (ze_E P)) (hi : i < 22) (q1 t1 : Nat) (ha1 : ws[q1]? = some (a, .inl (c1, k1, .inl g))) (ht1 : G.2.2.2.1[t1]? = some (c1, .byte)) (h1 : ¬ sp < 0) (h2 : ¬ dp < 0) (h3 : ¬ n < 0) (h4 : sp.toNatClampNeg + n.toNatClampNeg ≤ ze_n i) (h5 : dp.toNatClampNeg + n.toNatClampNeg ≤ k1) (hfit : ∀ j : Nat, j < n.toNatClampNeg → fits .byte (.int (ze_f i (sp.toNatClampNeg + j))) = true) (hl : Cond.methodLink M.1.cls index arraycopyName ∈ zk_BW) (hna : Cond.native arraycopyName ∈ zk_BW) (hst : Cond.static arraycopyName ∈ zk_BW) (hin : Cond.initialized "java/lang/System" ∈ zk_BW) (hfr : 1 ≤ rm.frames) (hlo : (r.map fun v => v.category).sum + (nativeFrameWords "java/lang/System" "arraycopy" 5 + 11) ≤ rm.locals) (d : decode M.2.1 pc = .ok (.invokestatic index, 3)) (hws : ws.set q1 (a, .inl (c1, k1, .inl (va_cpy (ze_f i) g sp.toNatClampNeg dp.toNatClampNeg n.toNatClampNeg))) = ws') (hpc : pc + 3 = n1) (kk : zk_Ab X ws' cells slots n1 lv r) : zk_Ab X ws cells slots pc lv (.int n :: .int dp :: .ref a :: .int sp :: .ref (P.2.1 i) :: r) := by
  obtain ⟨p, l, e, R, s, m, args, below, meth, c, Q, D, cl, tys, sz0, nL⟩ := X
  obtain ⟨⟨hx, hb, hml, hown, hts⟩, hK, hsz, hE, hEm, hG9, hnL9, hrm9, hin0⟩ := C; subst hG9; subst hnL9; subst hrm9
  subst hpc; subst hws
  exact fun H locs ls hP hD hS h => vk_copyt hx hb (hml.trans h.1.symm) hown (hts _ hl) (hts _ hna) (hts _ hst) (hts _ hin) hK hP hD hS (hE.1 i hi).2.2.2 q1 t1 ha1 ht1 h1 h2 h3 h4 h5 hfit hfr hlo d (fun H locs hP hD hS => kk H locs ls hP hD hS h)
end JS2
theorem js_fit : ∀ i, i < 22 → ∀ j, j < ze_n i → fits .byte (.int (ze_f i j)) = true := by decide +kernel
theorem js_len : ∀ i, i < 22 → ze_n i < 2 ^ 31 := by decide +kernel
/-- a String of the word s, behind the world: the object, its bytes -/
abbrev js_str (S : zs_T) (a v : Nat) (s : List Int32) : va_W := [(a, .inr (13, [.ref v, .int 0, .int 0, .int 0])), (v, .inl (S.2 1, s.length, .inl (fun j => s.getD j 0)))]
theorem js_len2 : ∀ i, i < 22 → ze_n i < 1000 := by decide +kernel
theorem kx3 : Jvm.Cond.initialized "java/lang/String" ∈ zk_BW := zk_inT 3 (by decide +kernel) rfl
theorem kx4 : Jvm.Cond.initialized "java/lang/StringLatin1" ∈ zk_BW := zk_inT 4 (by decide +kernel) rfl
theorem kx5 : Jvm.Cond.initialized "jdk/internal/util/Preconditions" ∈ zk_BW := zk_inT 5 (by decide +kernel) rfl
theorem kx17 : Jvm.Cond.initialized "PlantKeeperModel" ∈ zk_BW := zk_inT 17 (by decide +kernel) rfl
theorem kx18 : Jvm.Cond.initialized "java/util/Arrays" ∈ zk_BW := zk_inT 18 (by decide +kernel) rfl
theorem kx19 : Jvm.Cond.initialized "java/lang/Math" ∈ zk_BW := zk_inT 19 (by decide +kernel) rfl
theorem kx21 : Jvm.Cond.initialized "java/lang/System" ∈ zk_BW := zk_inT 21 (by decide +kernel) rfl
theorem kx28 : Jvm.Cond.instanceMethod ({ cls := "java/lang/Object", name := "<init>", desc := "()V" } : Jvm.MethodName) ∈ zk_BW := zk_inT 28 (by decide +kernel) rfl
theorem kx29 : Jvm.Cond.code ({ cls := "java/lang/Object", name := "<init>", desc := "()V" } : Jvm.MethodName) object_method_1_code (1 : Nat) (Option.none : Option FieldType) ∈ zk_BW := zk_inT 29 (by decide +kernel) rfl
theorem kx41 : Jvm.Cond.methodLink "java/lang/String" (335 : Nat) ({ cls := "java/lang/String", name := "coder", desc := "()B" } : Jvm.MethodName) ∈ zk_BW := zk_inT 41 (by decide +kernel) rfl
theorem kx45 : Jvm.Cond.fieldLink "java/lang/String" (38 : Nat) "java/lang/String" "COMPACT_STRINGS" "Z" ∈ zk_BW := zk_inT 45 (by decide +kernel) rfl
theorem kx57 : Jvm.Cond.methodLink "java/lang/String" (492 : Nat) ({ cls := "java/lang/String", name := "isLatin1", desc := "()Z" } : Jvm.MethodName) ∈ zk_BW := zk_inT 57 (by decide +kernel) rfl
theorem kx61 : Jvm.Cond.methodLink "java/lang/String" (495 : Nat) ({ cls := "java/lang/StringLatin1", name := "charAt", desc := "([BI)C" } : Jvm.MethodName) ∈ zk_BW := zk_inT 61 (by decide +kernel) rfl
theorem kx64 : Jvm.Cond.methodLink "java/lang/StringLatin1" (9 : Nat) ({ cls := "java/lang/String", name := "checkIndex", desc := "(II)V" } : Jvm.MethodName) ∈ zk_BW := zk_inT 64 (by decide +kernel) rfl
theorem kx67 : Jvm.Cond.fieldLink "java/lang/String" (1053 : Nat) "jdk/internal/util/Preconditions" "SIOOBE_FORMATTER" "Ljava/util/function/BiFunction;" ∈ zk_BW := zk_inT 67 (by decide +kernel) rfl
theorem kx110 : Jvm.Cond.arrayClass FieldType.byte ∈ zk_BW := zk_inT 110 (by decide +kernel) rfl
theorem kx797 : Jvm.Cond.static ({ cls := "java/lang/Math", name := "max", desc := "(II)I" } : Jvm.MethodName) ∈ zk_BW := zk_inT 797 (by decide +kernel) rfl
theorem kx804 : Jvm.Cond.instanceMethod ({ cls := "java/lang/String", name := "indexOf", desc := "(II)I" } : Jvm.MethodName) ∈ zk_BW := zk_inT 804 (by decide +kernel) rfl
theorem kx805 : Jvm.Cond.selects "java/lang/String" ({ cls := "java/lang/String", name := "indexOf", desc := "(II)I" } : Jvm.MethodName) ({ cls := "java/lang/String", name := "indexOf", desc := "(II)I" } : Jvm.MethodName) ∈ zk_BW := zk_inT 805 (by decide +kernel) rfl
theorem kx806 : Jvm.Cond.code ({ cls := "java/lang/String", name := "indexOf", desc := "(II)I" } : Jvm.MethodName) prog_18_method_80_code (3 : Nat) (Option.some FieldType.int) ∈ zk_BW := zk_inT 806 (by decide +kernel) rfl
theorem kx807 : Jvm.Cond.methodLink "java/lang/String" (505 : Nat) ({ cls := "java/lang/String", name := "length", desc := "()I" } : Jvm.MethodName) ∈ zk_BW := zk_inT 807 (by decide +kernel) rfl
theorem kx808 : Jvm.Cond.methodLink "java/lang/String" (637 : Nat) ({ cls := "java/lang/StringLatin1", name := "indexOf", desc := "([BIII)I" } : Jvm.MethodName) ∈ zk_BW := zk_inT 808 (by decide +kernel) rfl
theorem kx809 : Jvm.Cond.static ({ cls := "java/lang/StringLatin1", name := "indexOf", desc := "([BIII)I" } : Jvm.MethodName) ∈ zk_BW := zk_inT 809 (by decide +kernel) rfl
theorem kx810 : Jvm.Cond.code ({ cls := "java/lang/StringLatin1", name := "indexOf", desc := "([BIII)I" } : Jvm.MethodName) prog_19_method_22_code (4 : Nat) (Option.some FieldType.int) ∈ zk_BW := zk_inT 810 (by decide +kernel) rfl
theorem kx811 : Jvm.Cond.methodLink "java/lang/StringLatin1" (88 : Nat) ({ cls := "java/lang/StringLatin1", name := "canEncode", desc := "(I)Z" } : Jvm.MethodName) ∈ zk_BW := zk_inT 811 (by decide +kernel) rfl
theorem kx812 : Jvm.Cond.static ({ cls := "java/lang/StringLatin1", name := "canEncode", desc := "(I)Z" } : Jvm.MethodName) ∈ zk_BW := zk_inT 812 (by decide +kernel) rfl
theorem kx813 : Jvm.Cond.code ({ cls := "java/lang/StringLatin1", name := "canEncode", desc := "(I)Z" } : Jvm.MethodName) prog_19_method_4_code (1 : Nat) (Option.some FieldType.boolean) ∈ zk_BW := zk_inT 813 (by decide +kernel) rfl
theorem kx814 : Jvm.Cond.methodLink "java/lang/StringLatin1" (92 : Nat) ({ cls := "java/lang/Math", name := "max", desc := "(II)I" } : Jvm.MethodName) ∈ zk_BW := zk_inT 814 (by decide +kernel) rfl
theorem kx815 : Jvm.Cond.methodLink "java/lang/StringLatin1" (38 : Nat) ({ cls := "java/lang/Math", name := "min", desc := "(II)I" } : Jvm.MethodName) ∈ zk_BW := zk_inT 815 (by decide +kernel) rfl
theorem kx816 : Jvm.Cond.static ({ cls := "java/lang/Math", name := "min", desc := "(II)I" } : Jvm.MethodName) ∈ zk_BW := zk_inT 816 (by decide +kernel) rfl
theorem kx818 : Jvm.Cond.methodLink "java/lang/StringLatin1" (95 : Nat) ({ cls := "java/lang/StringLatin1", name := "indexOfChar", desc := "([BIII)I" } : Jvm.MethodName) ∈ zk_BW := zk_inT 818 (by decide +kernel) rfl
theorem kx819 : Jvm.Cond.static ({ cls := "java/lang/StringLatin1", name := "indexOfChar", desc := "([BIII)I" } : Jvm.MethodName) ∈ zk_BW := zk_inT 819 (by decide +kernel) rfl
theorem kx820 : Jvm.Cond.code ({ cls := "java/lang/StringLatin1", name := "indexOfChar", desc := "([BIII)I" } : Jvm.MethodName) prog_19_method_23_code (6 : Nat) (Option.some FieldType.int) ∈ zk_BW := zk_inT 820 (by decide +kernel) rfl
theorem kx834 : Jvm.Cond.static ({ cls := "java/lang/String", name := "checkBoundsBeginEnd", desc := "(III)V" } : Jvm.MethodName) ∈ zk_BW := zk_inT 834 (by decide +kernel) rfl
theorem kx835 : Jvm.Cond.code ({ cls := "java/lang/String", name := "checkBoundsBeginEnd", desc := "(III)V" } : Jvm.MethodName) prog_18_method_158_code (3 : Nat) (Option.none : Option FieldType) ∈ zk_BW := zk_inT 835 (by decide +kernel) rfl
theorem kx836 : Jvm.Cond.methodLink "java/lang/String" (1062 : Nat) ({ cls := "jdk/internal/util/Preconditions", name := "checkFromToIndex", desc := "(IIILjava/util/function/BiFunction;)I" } : Jvm.MethodName) ∈ zk_BW := zk_inT 836 (by decide +kernel) rfl
theorem kx837 : Jvm.Cond.static ({ cls := "jdk/internal/util/Preconditions", name := "checkFromToIndex", desc := "(IIILjava/util/function/BiFunction;)I" } : Jvm.MethodName) ∈ zk_BW := zk_inT 837 (by decide +kernel) rfl
theorem kx838 : Jvm.Cond.code ({ cls := "jdk/internal/util/Preconditions", name := "checkFromToIndex", desc := "(IIILjava/util/function/BiFunction;)I" } : Jvm.MethodName) prog_23_method_12_code (4 : Nat) (Option.some FieldType.int) ∈ zk_BW := zk_inT 838 (by decide +kernel) rfl
theorem kx1458 : Jvm.Cond.static ({ cls := "java/lang/System", name := "arraycopy", desc := "(Ljava/lang/Object;ILjava/lang/Object;II)V" } : Jvm.MethodName) ∈ zk_BW := zk_inT 1458 (by decide +kernel) rfl
theorem kx1459 : Jvm.Cond.native ({ cls := "java/lang/System", name := "arraycopy", desc := "(Ljava/lang/Object;ILjava/lang/Object;II)V" } : Jvm.MethodName) ∈ zk_BW := zk_inT 1459 (by decide +kernel) rfl
theorem kx2060 : Jvm.Cond.methodLink "PlantKeeperModel" (250 : Nat) ({ cls := "java/lang/String", name := "length", desc := "()I" } : Jvm.MethodName) ∈ zk_BW := zk_inT 2060 (by decide +kernel) rfl
theorem kx2061 : Jvm.Cond.methodLink "PlantKeeperModel" (255 : Nat) ({ cls := "java/lang/String", name := "charAt", desc := "(I)C" } : Jvm.MethodName) ∈ zk_BW := zk_inT 2061 (by decide +kernel) rfl
theorem kx2322 : Jvm.Cond.constant "PlantKeeperModel" (485 : Nat) (100005 : Int32) ∈ zk_BW := zk_inT 2322 (by decide +kernel) rfl
theorem kx2367 : Jvm.Cond.static ({ cls := "PlantKeeperModel", name := "standardName", desc := "(IZI)Ljava/lang/String;" } : Jvm.MethodName) ∈ zk_BW := zk_inT 2367 (by decide +kernel) rfl
theorem kx2368 : Jvm.Cond.code ({ cls := "PlantKeeperModel", name := "standardName", desc := "(IZI)Ljava/lang/String;" } : Jvm.MethodName) prog_14_method_72_code (6 : Nat) (Option.some (FieldType.object "java/lang/String")) ∈ zk_BW := zk_inT 2368 (by decide +kernel) rfl
theorem kx2369 : Jvm.Cond.constant "PlantKeeperModel" (468 : Nat) (100003 : Int32) ∈ zk_BW := zk_inT 2369 (by decide +kernel) rfl
theorem kx2372 : Jvm.Cond.constant "PlantKeeperModel" (473 : Nat) (100004 : Int32) ∈ zk_BW := zk_inT 2372 (by decide +kernel) rfl
theorem kx2374 : Jvm.Cond.constant "PlantKeeperModel" (476 : Nat) (100007 : Int32) ∈ zk_BW := zk_inT 2374 (by decide +kernel) rfl
theorem kx2382 : Jvm.Cond.methodLink "PlantKeeperModel" (492 : Nat) ({ cls := "java/lang/String", name := "indexOf", desc := "(II)I" } : Jvm.MethodName) ∈ zk_BW := zk_inT 2382 (by decide +kernel) rfl
theorem kx2383 : Jvm.Cond.methodLink "PlantKeeperModel" (494 : Nat) ({ cls := "java/lang/String", name := "substring", desc := "(II)Ljava/lang/String;" } : Jvm.MethodName) ∈ zk_BW := zk_inT 2383 (by decide +kernel) rfl
theorem kx2384 : Jvm.Cond.instanceMethod ({ cls := "java/lang/String", name := "substring", desc := "(II)Ljava/lang/String;" } : Jvm.MethodName) ∈ zk_BW := zk_inT 2384 (by decide +kernel) rfl
theorem kx2385 : Jvm.Cond.selects "java/lang/String" ({ cls := "java/lang/String", name := "substring", desc := "(II)Ljava/lang/String;" } : Jvm.MethodName) ({ cls := "java/lang/String", name := "substring", desc := "(II)Ljava/lang/String;" } : Jvm.MethodName) ∈ zk_BW := zk_inT 2385 (by decide +kernel) rfl
theorem kx2386 : Jvm.Cond.code ({ cls := "java/lang/String", name := "substring", desc := "(II)Ljava/lang/String;" } : Jvm.MethodName) prog_18_method_92_code (5 : Nat) (Option.some (FieldType.object "java/lang/String")) ∈ zk_BW := zk_inT 2386 (by decide +kernel) rfl
theorem kx2387 : Jvm.Cond.methodLink "java/lang/String" (521 : Nat) ({ cls := "java/lang/String", name := "checkBoundsBeginEnd", desc := "(III)V" } : Jvm.MethodName) ∈ zk_BW := zk_inT 2387 (by decide +kernel) rfl
theorem kx2388 : Jvm.Cond.methodLink "java/lang/String" (685 : Nat) ({ cls := "java/lang/StringLatin1", name := "newString", desc := "([BII)Ljava/lang/String;" } : Jvm.MethodName) ∈ zk_BW := zk_inT 2388 (by decide +kernel) rfl
theorem kx2389 : Jvm.Cond.static ({ cls := "java/lang/StringLatin1", name := "newString", desc := "([BII)Ljava/lang/String;" } : Jvm.MethodName) ∈ zk_BW := zk_inT 2389 (by decide +kernel) rfl
theorem kx2390 : Jvm.Cond.code ({ cls := "java/lang/StringLatin1", name := "newString", desc := "([BII)Ljava/lang/String;" } : Jvm.MethodName) prog_19_method_47_code (3 : Nat) (Option.some (FieldType.object "java/lang/String")) ∈ zk_BW := zk_inT 2390 (by decide +kernel) rfl
theorem kx2392 : Jvm.Cond.classLink "java/lang/StringLatin1" (1 : Nat) "java/lang/String" ∈ zk_BW := zk_inT 2392 (by decide +kernel) rfl
theorem kx2393 : Jvm.Cond.instantiable "java/lang/String" (4 : Nat) ∈ zk_BW := zk_inT 2393 (by decide +kernel) rfl
theorem kx2394 : Jvm.Cond.methodLink "java/lang/StringLatin1" (232 : Nat) ({ cls := "java/util/Arrays", name := "copyOfRange", desc := "([BII)[B" } : Jvm.MethodName) ∈ zk_BW := zk_inT 2394 (by decide +kernel) rfl
theorem kx2395 : Jvm.Cond.static ({ cls := "java/util/Arrays", name := "copyOfRange", desc := "([BII)[B" } : Jvm.MethodName) ∈ zk_BW := zk_inT 2395 (by decide +kernel) rfl
theorem kx2396 : Jvm.Cond.code ({ cls := "java/util/Arrays", name := "copyOfRange", desc := "([BII)[B" } : Jvm.MethodName) prog_22_method_132_code (3 : Nat) (Option.some (FieldType.array FieldType.byte)) ∈ zk_BW := zk_inT 2396 (by decide +kernel) rfl
theorem kx2397 : Jvm.Cond.methodLink "java/util/Arrays" (339 : Nat) ({ cls := "java/util/Arrays", name := "copyOfRangeByte", desc := "([BII)[B" } : Jvm.MethodName) ∈ zk_BW := zk_inT 2397 (by decide +kernel) rfl
theorem kx2398 : Jvm.Cond.static ({ cls := "java/util/Arrays", name := "copyOfRangeByte", desc := "([BII)[B" } : Jvm.MethodName) ∈ zk_BW := zk_inT 2398 (by decide +kernel) rfl
theorem kx2399 : Jvm.Cond.code ({ cls := "java/util/Arrays", name := "copyOfRangeByte", desc := "([BII)[B" } : Jvm.MethodName) prog_22_method_133_code (5 : Nat) (Option.some (FieldType.array FieldType.byte)) ∈ zk_BW := zk_inT 2399 (by decide +kernel) rfl
theorem kx2400 : Jvm.Cond.methodLink "java/util/Arrays" (343 : Nat) ({ cls := "java/util/Arrays", name := "checkLength", desc := "(II)V" } : Jvm.MethodName) ∈ zk_BW := zk_inT 2400 (by decide +kernel) rfl
theorem kx2401 : Jvm.Cond.static ({ cls := "java/util/Arrays", name := "checkLength", desc := "(II)V" } : Jvm.MethodName) ∈ zk_BW := zk_inT 2401 (by decide +kernel) rfl
theorem kx2402 : Jvm.Cond.code ({ cls := "java/util/Arrays", name := "checkLength", desc := "(II)V" } : Jvm.MethodName) prog_22_method_131_code (2 : Nat) (Option.none : Option FieldType) ∈ zk_BW := zk_inT 2402 (by decide +kernel) rfl
theorem kx2403 : Jvm.Cond.methodLink "java/util/Arrays" (304 : Nat) ({ cls := "java/lang/Math", name := "min", desc := "(II)I" } : Jvm.MethodName) ∈ zk_BW := zk_inT 2403 (by decide +kernel) rfl
theorem kx2404 : Jvm.Cond.methodLink "java/util/Arrays" (150 : Nat) ({ cls := "java/lang/System", name := "arraycopy", desc := "(Ljava/lang/Object;ILjava/lang/Object;II)V" } : Jvm.MethodName) ∈ zk_BW := zk_inT 2404 (by decide +kernel) rfl
theorem kx2412 : Jvm.Cond.methodLink "java/lang/StringLatin1" (112 : Nat) ({ cls := "java/lang/String", name := "<init>", desc := "([BB)V" } : Jvm.MethodName) ∈ zk_BW := zk_inT 2412 (by decide +kernel) rfl
theorem kx2413 : Jvm.Cond.instanceMethod ({ cls := "java/lang/String", name := "<init>", desc := "([BB)V" } : Jvm.MethodName) ∈ zk_BW := zk_inT 2413 (by decide +kernel) rfl
theorem kx2414 : Jvm.Cond.code ({ cls := "java/lang/String", name := "<init>", desc := "([BB)V" } : Jvm.MethodName) prog_18_method_151_code (3 : Nat) (Option.none : Option FieldType) ∈ zk_BW := zk_inT 2414 (by decide +kernel) rfl
theorem kx2415 : Jvm.Cond.methodLink "java/lang/String" (1 : Nat) ({ cls := "java/lang/Object", name := "<init>", desc := "()V" } : Jvm.MethodName) ∈ zk_BW := zk_inT 2415 (by decide +kernel) rfl
theorem kx2416 : Jvm.Cond.fieldLink "java/lang/String" (9 : Nat) "java/lang/String" "value" "[B" ∈ zk_BW := zk_inT 2416 (by decide +kernel) rfl
theorem kx2417 : Jvm.Cond.fieldLink "java/lang/String" (15 : Nat) "java/lang/String" "coder" "B" ∈ zk_BW := zk_inT 2417 (by decide +kernel) rfl
abbrev kc_Pr_checkFromToIndex : ByteArray := prog_23_method_12_code
def km_Pr_checkFromToIndex : zk_MT := (⟨"jdk/internal/util/Preconditions", "checkFromToIndex", "(IIILjava/util/function/BiFunction;)I"⟩, kc_Pr_checkFromToIndex, 4, some .int, 4)
theorem ku_Pr_checkFromToIndex : zk_My km_Pr_checkFromToIndex := ⟨kx838, kx5, by decide, by decide, by decide, by decide +kernel⟩
theorem ks_Pr_checkFromToIndex : Cond.static km_Pr_checkFromToIndex.1 ∈ zk_BW := kx837
abbrev kc_St_checkBoundsBeginEnd : ByteArray := prog_18_method_158_code
def km_St_checkBoundsBeginEnd : zk_MT := (⟨"java/lang/String", "checkBoundsBeginEnd", "(III)V"⟩, kc_St_checkBoundsBeginEnd, 3, none, 3)
theorem ku_St_checkBoundsBeginEnd : zk_My km_St_checkBoundsBeginEnd := ⟨kx835, kx3, by decide, by decide, by decide, by decide +kernel⟩
theorem ks_St_checkBoundsBeginEnd : Cond.static km_St_checkBoundsBeginEnd.1 ∈ zk_BW := kx834
abbrev kc_Ar_checkLength : ByteArray := prog_22_method_131_code
def km_Ar_checkLength : zk_MT := (⟨"java/util/Arrays", "checkLength", "(II)V"⟩, kc_Ar_checkLength, 2, none, 2)
theorem ku_Ar_checkLength : zk_My km_Ar_checkLength := ⟨kx2402, kx18, by decide, by decide, by decide, by decide +kernel⟩
theorem ks_Ar_checkLength : Cond.static km_Ar_checkLength.1 ∈ zk_BW := kx2401
abbrev kc_Ar_copyOfRangeByte : ByteArray := prog_22_method_133_code
def km_Ar_copyOfRangeByte : zk_MT := (⟨"java/util/Arrays", "copyOfRangeByte", "([BII)[B"⟩, kc_Ar_copyOfRangeByte, 5, some (.array .byte), 3)
theorem ku_Ar_copyOfRangeByte : zk_My km_Ar_copyOfRangeByte := ⟨kx2399, kx18, by decide, by decide, by decide, by decide +kernel⟩
theorem ks_Ar_copyOfRangeByte : Cond.static km_Ar_copyOfRangeByte.1 ∈ zk_BW := kx2398
abbrev kc_Ar_copyOfRange : ByteArray := prog_22_method_132_code
def km_Ar_copyOfRange : zk_MT := (⟨"java/util/Arrays", "copyOfRange", "([BII)[B"⟩, kc_Ar_copyOfRange, 3, some (.array .byte), 3)
theorem ku_Ar_copyOfRange : zk_My km_Ar_copyOfRange := ⟨kx2396, kx18, by decide, by decide, by decide, by decide +kernel⟩
theorem ks_Ar_copyOfRange : Cond.static km_Ar_copyOfRange.1 ∈ zk_BW := kx2395
abbrev kc_St_init : ByteArray := prog_18_method_151_code
def km_St_init : zk_MT := (⟨"java/lang/String", "<init>", "([BB)V"⟩, kc_St_init, 3, none, 2)
theorem ku_St_init : zk_My km_St_init := ⟨kx2414, kx3, by decide, by decide, by decide, by decide +kernel⟩
theorem kj_St_init : Cond.instanceMethod km_St_init.1 ∈ zk_BW := kx2413
abbrev kc_Sl_newString : ByteArray := prog_19_method_47_code
def km_Sl_newString : zk_MT := (⟨"java/lang/StringLatin1", "newString", "([BII)Ljava/lang/String;"⟩, kc_Sl_newString, 3, some (.object "java/lang/String"), 3)
theorem ku_Sl_newString : zk_My km_Sl_newString := ⟨kx2390, kx4, by decide, by decide, by decide, by decide +kernel⟩
theorem ks_Sl_newString : Cond.static km_Sl_newString.1 ∈ zk_BW := kx2389
abbrev kc_St_substring : ByteArray := prog_18_method_92_code
def km_St_substring : zk_MT := (⟨"java/lang/String", "substring", "(II)Ljava/lang/String;"⟩, kc_St_substring, 5, some (.object "java/lang/String"), 2)
theorem ku_St_substring : zk_My km_St_substring := ⟨kx2386, kx3, by decide, by decide, by decide, by decide +kernel⟩
theorem kv_St_substring : zk_Mv km_St_substring := ⟨kx2384, kx2385⟩
abbrev kc_Mo_standardName : ByteArray := prog_14_method_72_code
def km_Mo_standardName : zk_MT := (⟨"PlantKeeperModel", "standardName", "(IZI)Ljava/lang/String;"⟩, kc_Mo_standardName, 6, some (.object "java/lang/String"), 3)
theorem ku_Mo_standardName : zk_My km_Mo_standardName := ⟨kx2368, kx17, by decide, by decide, by decide, by decide +kernel⟩
theorem ks_Mo_standardName : Cond.static km_Mo_standardName.1 ∈ zk_BW := kx2367
theorem kd_St_indexOf2_23 : decode kc_St_indexOf2 23 = .ok (.aload_n 0, 1) := by decide +kernel
theorem kd_St_indexOf2_24 : decode kc_St_indexOf2 24 = .ok (.getfield 9, 3) := by decide +kernel
theorem kd_St_indexOf2_27 : decode kc_St_indexOf2 27 = .ok (.iload_n 1, 1) := by decide +kernel
theorem kd_St_indexOf2_28 : decode kc_St_indexOf2 28 = .ok (.iload_n 2, 1) := by decide +kernel
theorem kd_St_indexOf2_29 : decode kc_St_indexOf2 29 = .ok (.aload_n 0, 1) := by decide +kernel
theorem kd_St_indexOf2_30 : decode kc_St_indexOf2 30 = .ok (.invokevirtual 505, 3) := by decide +kernel
theorem kd_St_indexOf2_33 : decode kc_St_indexOf2 33 = .ok (.invokestatic 640, 3) := by decide +kernel
theorem kd_Pr_checkFromToIndex_0 : decode kc_Pr_checkFromToIndex 0 = .ok (.iload_n 0, 1) := by decide +kernel
theorem kd_Pr_checkFromToIndex_1 : decode kc_Pr_checkFromToIndex 1 = .ok (.ifCond .lt 13, 3) := by decide +kernel
theorem kd_Pr_checkFromToIndex_4 : decode kc_Pr_checkFromToIndex 4 = .ok (.iload_n 0, 1) := by decide +kernel
theorem kd_Pr_checkFromToIndex_5 : decode kc_Pr_checkFromToIndex 5 = .ok (.iload_n 1, 1) := by decide +kernel
theorem kd_Pr_checkFromToIndex_6 : decode kc_Pr_checkFromToIndex 6 = .ok (.if_icmp .gt 8, 3) := by decide +kernel
theorem kd_Pr_checkFromToIndex_9 : decode kc_Pr_checkFromToIndex 9 = .ok (.iload_n 1, 1) := by decide +kernel
theorem kd_Pr_checkFromToIndex_10 : decode kc_Pr_checkFromToIndex 10 = .ok (.iload_n 2, 1) := by decide +kernel
theorem kd_Pr_checkFromToIndex_11 : decode kc_Pr_checkFromToIndex 11 = .ok (.if_icmp .le 11, 3) := by decide +kernel
theorem kd_Pr_checkFromToIndex_14 : decode kc_Pr_checkFromToIndex 14 = .ok (.aload_n 3, 1) := by decide +kernel
theorem kd_Pr_checkFromToIndex_15 : decode kc_Pr_checkFromToIndex 15 = .ok (.iload_n 0, 1) := by decide +kernel
theorem kd_Pr_checkFromToIndex_16 : decode kc_Pr_checkFromToIndex 16 = .ok (.iload_n 1, 1) := by decide +kernel
theorem kd_Pr_checkFromToIndex_17 : decode kc_Pr_checkFromToIndex 17 = .ok (.iload_n 2, 1) := by decide +kernel
theorem kd_Pr_checkFromToIndex_18 : decode kc_Pr_checkFromToIndex 18 = .ok (.invokestatic 99, 3) := by decide +kernel
theorem kd_Pr_checkFromToIndex_21 : decode kc_Pr_checkFromToIndex 21 = .ok (.athrow, 1) := by decide +kernel
theorem kd_Pr_checkFromToIndex_22 : decode kc_Pr_checkFromToIndex 22 = .ok (.iload_n 0, 1) := by decide +kernel
theorem kd_Pr_checkFromToIndex_23 : decode kc_Pr_checkFromToIndex 23 = .ok (.ireturn, 1) := by decide +kernel
theorem kd_St_checkBoundsBeginEnd_0 : decode kc_St_checkBoundsBeginEnd 0 = .ok (.iload_n 0, 1) := by decide +kernel
theorem kd_St_checkBoundsBeginEnd_1 : decode kc_St_checkBoundsBeginEnd 1 = .ok (.iload_n 1, 1) := by decide +kernel
theorem kd_St_checkBoundsBeginEnd_2 : decode kc_St_checkBoundsBeginEnd 2 = .ok (.iload_n 2, 1) := by decide +kernel
theorem kd_St_checkBoundsBeginEnd_3 : decode kc_St_checkBoundsBeginEnd 3 = .ok (.getstatic 1053, 3) := by decide +kernel
theorem kd_St_checkBoundsBeginEnd_6 : decode kc_St_checkBoundsBeginEnd 6 = .ok (.invokestatic 1062, 3) := by decide +kernel
theorem kd_St_checkBoundsBeginEnd_9 : decode kc_St_checkBoundsBeginEnd 9 = .ok (.pop, 1) := by decide +kernel
theorem kd_St_checkBoundsBeginEnd_10 : decode kc_St_checkBoundsBeginEnd 10 = .ok (.return_, 1) := by decide +kernel
theorem kd_Ar_checkLength_0 : decode kc_Ar_checkLength 0 = .ok (.iload_n 1, 1) := by decide +kernel
theorem kd_Ar_checkLength_1 : decode kc_Ar_checkLength 1 = .ok (.iload_n 0, 1) := by decide +kernel
theorem kd_Ar_checkLength_2 : decode kc_Ar_checkLength 2 = .ok (.if_icmp .ge 35, 3) := by decide +kernel
theorem kd_Ar_checkLength_5 : decode kc_Ar_checkLength 5 = .ok (.new 43, 3) := by decide +kernel
theorem kd_Ar_checkLength_8 : decode kc_Ar_checkLength 8 = .ok (.dup, 1) := by decide +kernel
theorem kd_Ar_checkLength_9 : decode kc_Ar_checkLength 9 = .ok (.new 45, 3) := by decide +kernel
theorem kd_Ar_checkLength_12 : decode kc_Ar_checkLength 12 = .ok (.dup, 1) := by decide +kernel
theorem kd_Ar_checkLength_13 : decode kc_Ar_checkLength 13 = .ok (.invokespecial 47, 3) := by decide +kernel
theorem kd_Ar_checkLength_16 : decode kc_Ar_checkLength 16 = .ok (.iload_n 0, 1) := by decide +kernel
theorem kd_Ar_checkLength_17 : decode kc_Ar_checkLength 17 = .ok (.invokevirtual 54, 3) := by decide +kernel
theorem kd_Ar_checkLength_20 : decode kc_Ar_checkLength 20 = .ok (.ldc_w 337, 3) := by decide +kernel
theorem kd_Ar_checkLength_23 : decode kc_Ar_checkLength 23 = .ok (.invokevirtual 50, 3) := by decide +kernel
theorem kd_Ar_checkLength_26 : decode kc_Ar_checkLength 26 = .ok (.iload_n 1, 1) := by decide +kernel
theorem kd_Ar_checkLength_27 : decode kc_Ar_checkLength 27 = .ok (.invokevirtual 54, 3) := by decide +kernel
theorem kd_Ar_checkLength_30 : decode kc_Ar_checkLength 30 = .ok (.invokevirtual 61, 3) := by decide +kernel
theorem kd_Ar_checkLength_33 : decode kc_Ar_checkLength 33 = .ok (.invokespecial 65, 3) := by decide +kernel
theorem kd_Ar_checkLength_36 : decode kc_Ar_checkLength 36 = .ok (.athrow, 1) := by decide +kernel
theorem kd_Ar_checkLength_37 : decode kc_Ar_checkLength 37 = .ok (.return_, 1) := by decide +kernel
theorem kd_Ar_copyOfRangeByte_0 : decode kc_Ar_copyOfRangeByte 0 = .ok (.iload_n 1, 1) := by decide +kernel
theorem kd_Ar_copyOfRangeByte_1 : decode kc_Ar_copyOfRangeByte 1 = .ok (.iload_n 2, 1) := by decide +kernel
theorem kd_Ar_copyOfRangeByte_2 : decode kc_Ar_copyOfRangeByte 2 = .ok (.invokestatic 343, 3) := by decide +kernel
theorem kd_Ar_copyOfRangeByte_5 : decode kc_Ar_copyOfRangeByte 5 = .ok (.iload_n 2, 1) := by decide +kernel
theorem kd_Ar_copyOfRangeByte_6 : decode kc_Ar_copyOfRangeByte 6 = .ok (.iload_n 1, 1) := by decide +kernel
theorem kd_Ar_copyOfRangeByte_7 : decode kc_Ar_copyOfRangeByte 7 = .ok (.isub, 1) := by decide +kernel
theorem kd_Ar_copyOfRangeByte_8 : decode kc_Ar_copyOfRangeByte 8 = .ok (.istore_n 3, 1) := by decide +kernel
theorem kd_Ar_copyOfRangeByte_9 : decode kc_Ar_copyOfRangeByte 9 = .ok (.iload_n 3, 1) := by decide +kernel
theorem kd_Ar_copyOfRangeByte_10 : decode kc_Ar_copyOfRangeByte 10 = .ok (.newarray .byte, 2) := by decide +kernel
theorem kd_Ar_copyOfRangeByte_12 : decode kc_Ar_copyOfRangeByte 12 = .ok (.astore 4, 2) := by decide +kernel
theorem kd_Ar_copyOfRangeByte_14 : decode kc_Ar_copyOfRangeByte 14 = .ok (.aload_n 0, 1) := by decide +kernel
theorem kd_Ar_copyOfRangeByte_15 : decode kc_Ar_copyOfRangeByte 15 = .ok (.iload_n 1, 1) := by decide +kernel
theorem kd_Ar_copyOfRangeByte_16 : decode kc_Ar_copyOfRangeByte 16 = .ok (.aload 4, 2) := by decide +kernel
theorem kd_Ar_copyOfRangeByte_18 : decode kc_Ar_copyOfRangeByte 18 = .ok (.iconst 0, 1) := by decide +kernel
theorem kd_Ar_copyOfRangeByte_19 : decode kc_Ar_copyOfRangeByte 19 = .ok (.aload_n 0, 1) := by decide +kernel
theorem kd_Ar_copyOfRangeByte_20 : decode kc_Ar_copyOfRangeByte 20 = .ok (.arraylength, 1) := by decide +kernel
theorem kd_Ar_copyOfRangeByte_21 : decode kc_Ar_copyOfRangeByte 21 = .ok (.iload_n 1, 1) := by decide +kernel
theorem kd_Ar_copyOfRangeByte_22 : decode kc_Ar_copyOfRangeByte 22 = .ok (.isub, 1) := by decide +kernel
theorem kd_Ar_copyOfRangeByte_23 : decode kc_Ar_copyOfRangeByte 23 = .ok (.iload_n 3, 1) := by decide +kernel
theorem kd_Ar_copyOfRangeByte_24 : decode kc_Ar_copyOfRangeByte 24 = .ok (.invokestatic 304, 3) := by decide +kernel
theorem kd_Ar_copyOfRangeByte_27 : decode kc_Ar_copyOfRangeByte 27 = .ok (.invokestatic 150, 3) := by decide +kernel
theorem kd_Ar_copyOfRangeByte_30 : decode kc_Ar_copyOfRangeByte 30 = .ok (.aload 4, 2) := by decide +kernel
theorem kd_Ar_copyOfRangeByte_32 : decode kc_Ar_copyOfRangeByte 32 = .ok (.areturn, 1) := by decide +kernel
theorem kd_Ar_copyOfRange_0 : decode kc_Ar_copyOfRange 0 = .ok (.iload_n 1, 1) := by decide +kernel
theorem kd_Ar_copyOfRange_1 : decode kc_Ar_copyOfRange 1 = .ok (.ifCond .ne 9, 3) := by decide +kernel
theorem kd_Ar_copyOfRange_4 : decode kc_Ar_copyOfRange 4 = .ok (.iload_n 2, 1) := by decide +kernel
theorem kd_Ar_copyOfRange_5 : decode kc_Ar_copyOfRange 5 = .ok (.aload_n 0, 1) := by decide +kernel
theorem kd_Ar_copyOfRange_6 : decode kc_Ar_copyOfRange 6 = .ok (.arraylength, 1) := by decide +kernel
theorem kd_Ar_copyOfRange_7 : decode kc_Ar_copyOfRange 7 = .ok (.if_icmp .eq 10, 3) := by decide +kernel
theorem kd_Ar_copyOfRange_10 : decode kc_Ar_copyOfRange 10 = .ok (.aload_n 0, 1) := by decide +kernel
theorem kd_Ar_copyOfRange_11 : decode kc_Ar_copyOfRange 11 = .ok (.iload_n 1, 1) := by decide +kernel
theorem kd_Ar_copyOfRange_12 : decode kc_Ar_copyOfRange 12 = .ok (.iload_n 2, 1) := by decide +kernel
theorem kd_Ar_copyOfRange_13 : decode kc_Ar_copyOfRange 13 = .ok (.invokestatic 339, 3) := by decide +kernel
theorem kd_Ar_copyOfRange_16 : decode kc_Ar_copyOfRange 16 = .ok (.areturn, 1) := by decide +kernel
theorem kd_Ar_copyOfRange_17 : decode kc_Ar_copyOfRange 17 = .ok (.aload_n 0, 1) := by decide +kernel
theorem kd_Ar_copyOfRange_18 : decode kc_Ar_copyOfRange 18 = .ok (.invokevirtual 310, 3) := by decide +kernel
theorem kd_Ar_copyOfRange_21 : decode kc_Ar_copyOfRange 21 = .ok (.checkcast 311, 3) := by decide +kernel
theorem kd_Ar_copyOfRange_24 : decode kc_Ar_copyOfRange 24 = .ok (.areturn, 1) := by decide +kernel
theorem kd_St_init_0 : decode kc_St_init 0 = .ok (.aload_n 0, 1) := by decide +kernel
theorem kd_St_init_1 : decode kc_St_init 1 = .ok (.invokespecial 1, 3) := by decide +kernel
theorem kd_St_init_4 : decode kc_St_init 4 = .ok (.aload_n 0, 1) := by decide +kernel
theorem kd_St_init_5 : decode kc_St_init 5 = .ok (.aload_n 1, 1) := by decide +kernel
theorem kd_St_init_6 : decode kc_St_init 6 = .ok (.putfield 9, 3) := by decide +kernel
theorem kd_St_init_9 : decode kc_St_init 9 = .ok (.aload_n 0, 1) := by decide +kernel
theorem kd_St_init_10 : decode kc_St_init 10 = .ok (.iload_n 2, 1) := by decide +kernel
theorem kd_St_init_11 : decode kc_St_init 11 = .ok (.putfield 15, 3) := by decide +kernel
theorem kd_St_init_14 : decode kc_St_init 14 = .ok (.return_, 1) := by decide +kernel
theorem kd_Sl_newString_0 : decode kc_Sl_newString 0 = .ok (.iload_n 2, 1) := by decide +kernel
theorem kd_Sl_newString_1 : decode kc_Sl_newString 1 = .ok (.ifCond .ne 6, 3) := by decide +kernel
theorem kd_Sl_newString_4 : decode kc_Sl_newString 4 = .ok (.ldc 151, 2) := by decide +kernel
theorem kd_Sl_newString_6 : decode kc_Sl_newString 6 = .ok (.areturn, 1) := by decide +kernel
theorem kd_Sl_newString_7 : decode kc_Sl_newString 7 = .ok (.new 1, 3) := by decide +kernel
theorem kd_Sl_newString_10 : decode kc_Sl_newString 10 = .ok (.dup, 1) := by decide +kernel
theorem kd_Sl_newString_11 : decode kc_Sl_newString 11 = .ok (.aload_n 0, 1) := by decide +kernel
theorem kd_Sl_newString_12 : decode kc_Sl_newString 12 = .ok (.iload_n 1, 1) := by decide +kernel
theorem kd_Sl_newString_13 : decode kc_Sl_newString 13 = .ok (.iload_n 1, 1) := by decide +kernel
theorem kd_Sl_newString_14 : decode kc_Sl_newString 14 = .ok (.iload_n 2, 1) := by decide +kernel
theorem kd_Sl_newString_15 : decode kc_Sl_newString 15 = .ok (.iadd, 1) := by decide +kernel
theorem kd_Sl_newString_16 : decode kc_Sl_newString 16 = .ok (.invokestatic 232, 3) := by decide +kernel
theorem kd_Sl_newString_19 : decode kc_Sl_newString 19 = .ok (.iconst 0, 1) := by decide +kernel
theorem kd_Sl_newString_20 : decode kc_Sl_newString 20 = .ok (.invokespecial 112, 3) := by decide +kernel
theorem kd_Sl_newString_23 : decode kc_Sl_newString 23 = .ok (.areturn, 1) := by decide +kernel
theorem kd_St_substring_0 : decode kc_St_substring 0 = .ok (.aload_n 0, 1) := by decide +kernel
theorem kd_St_substring_1 : decode kc_St_substring 1 = .ok (.invokevirtual 505, 3) := by decide +kernel
theorem kd_St_substring_4 : decode kc_St_substring 4 = .ok (.istore_n 3, 1) := by decide +kernel
theorem kd_St_substring_5 : decode kc_St_substring 5 = .ok (.iload_n 1, 1) := by decide +kernel
theorem kd_St_substring_6 : decode kc_St_substring 6 = .ok (.iload_n 2, 1) := by decide +kernel
theorem kd_St_substring_7 : decode kc_St_substring 7 = .ok (.iload_n 3, 1) := by decide +kernel
theorem kd_St_substring_8 : decode kc_St_substring 8 = .ok (.invokestatic 521, 3) := by decide +kernel
theorem kd_St_substring_11 : decode kc_St_substring 11 = .ok (.iload_n 1, 1) := by decide +kernel
theorem kd_St_substring_12 : decode kc_St_substring 12 = .ok (.ifCond .ne 10, 3) := by decide +kernel
theorem kd_St_substring_15 : decode kc_St_substring 15 = .ok (.iload_n 2, 1) := by decide +kernel
theorem kd_St_substring_16 : decode kc_St_substring 16 = .ok (.iload_n 3, 1) := by decide +kernel
theorem kd_St_substring_17 : decode kc_St_substring 17 = .ok (.if_icmp .ne 5, 3) := by decide +kernel
theorem kd_St_substring_20 : decode kc_St_substring 20 = .ok (.aload_n 0, 1) := by decide +kernel
theorem kd_St_substring_21 : decode kc_St_substring 21 = .ok (.areturn, 1) := by decide +kernel
theorem kd_St_substring_22 : decode kc_St_substring 22 = .ok (.iload_n 2, 1) := by decide +kernel
theorem kd_St_substring_23 : decode kc_St_substring 23 = .ok (.iload_n 1, 1) := by decide +kernel
theorem kd_St_substring_24 : decode kc_St_substring 24 = .ok (.isub, 1) := by decide +kernel
theorem kd_St_substring_25 : decode kc_St_substring 25 = .ok (.istore 4, 2) := by decide +kernel
theorem kd_St_substring_27 : decode kc_St_substring 27 = .ok (.aload_n 0, 1) := by decide +kernel
theorem kd_St_substring_28 : decode kc_St_substring 28 = .ok (.invokevirtual 492, 3) := by decide +kernel
theorem kd_St_substring_31 : decode kc_St_substring 31 = .ok (.ifCond .eq 16, 3) := by decide +kernel
theorem kd_St_substring_34 : decode kc_St_substring 34 = .ok (.aload_n 0, 1) := by decide +kernel
theorem kd_St_substring_35 : decode kc_St_substring 35 = .ok (.getfield 9, 3) := by decide +kernel
theorem kd_St_substring_38 : decode kc_St_substring 38 = .ok (.iload_n 1, 1) := by decide +kernel
theorem kd_St_substring_39 : decode kc_St_substring 39 = .ok (.iload 4, 2) := by decide +kernel
theorem kd_St_substring_41 : decode kc_St_substring 41 = .ok (.invokestatic 685, 3) := by decide +kernel
theorem kd_St_substring_44 : decode kc_St_substring 44 = .ok (.goto 13, 3) := by decide +kernel
theorem kd_St_substring_47 : decode kc_St_substring 47 = .ok (.aload_n 0, 1) := by decide +kernel
theorem kd_St_substring_48 : decode kc_St_substring 48 = .ok (.getfield 9, 3) := by decide +kernel
theorem kd_St_substring_51 : decode kc_St_substring 51 = .ok (.iload_n 1, 1) := by decide +kernel
theorem kd_St_substring_52 : decode kc_St_substring 52 = .ok (.iload 4, 2) := by decide +kernel
theorem kd_St_substring_54 : decode kc_St_substring 54 = .ok (.invokestatic 689, 3) := by decide +kernel
theorem kd_St_substring_57 : decode kc_St_substring 57 = .ok (.areturn, 1) := by decide +kernel
theorem kd_Mo_standardName_0 : decode kc_Mo_standardName 0 = .ok (.iload_n 1, 1) := by decide +kernel
theorem kd_Mo_standardName_1 : decode kc_Mo_standardName 1 = .ok (.ifCond .eq 74, 3) := by decide +kernel
theorem kd_Mo_standardName_4 : decode kc_Mo_standardName 4 = .ok (.iload_n 0, 1) := by decide +kernel
theorem kd_Mo_standardName_5 : decode kc_Mo_standardName 5 = .ok (.ldc_w 468, 3) := by decide +kernel
theorem kd_Mo_standardName_8 : decode kc_Mo_standardName 8 = .ok (.if_icmp .ge 9, 3) := by decide +kernel
theorem kd_Mo_standardName_11 : decode kc_Mo_standardName 11 = .ok (.ldc_w 469, 3) := by decide +kernel
theorem kd_Mo_standardName_14 : decode kc_Mo_standardName 14 = .ok (.goto 103, 3) := by decide +kernel
theorem kd_Mo_standardName_17 : decode kc_Mo_standardName 17 = .ok (.iload_n 0, 1) := by decide +kernel
theorem kd_Mo_standardName_18 : decode kc_Mo_standardName 18 = .ok (.ldc_w 468, 3) := by decide +kernel
theorem kd_Mo_standardName_21 : decode kc_Mo_standardName 21 = .ok (.if_icmp .ne 9, 3) := by decide +kernel
theorem kd_Mo_standardName_24 : decode kc_Mo_standardName 24 = .ok (.ldc_w 471, 3) := by decide +kernel
theorem kd_Mo_standardName_27 : decode kc_Mo_standardName 27 = .ok (.goto 90, 3) := by decide +kernel
theorem kd_Mo_standardName_30 : decode kc_Mo_standardName 30 = .ok (.iload_n 0, 1) := by decide +kernel
theorem kd_Mo_standardName_31 : decode kc_Mo_standardName 31 = .ok (.ldc_w 473, 3) := by decide +kernel
theorem kd_Mo_standardName_34 : decode kc_Mo_standardName 34 = .ok (.if_icmp .ne 9, 3) := by decide +kernel
theorem kd_Mo_standardName_37 : decode kc_Mo_standardName 37 = .ok (.ldc_w 474, 3) := by decide +kernel
theorem kd_Mo_standardName_40 : decode kc_Mo_standardName 40 = .ok (.goto 77, 3) := by decide +kernel
theorem kd_Mo_standardName_43 : decode kc_Mo_standardName 43 = .ok (.iload_n 0, 1) := by decide +kernel
theorem kd_Mo_standardName_44 : decode kc_Mo_standardName 44 = .ok (.ldc_w 476, 3) := by decide +kernel
theorem kd_Mo_standardName_47 : decode kc_Mo_standardName 47 = .ok (.if_icmp .ge 9, 3) := by decide +kernel
theorem kd_Mo_standardName_50 : decode kc_Mo_standardName 50 = .ok (.ldc_w 477, 3) := by decide +kernel
theorem kd_Mo_standardName_53 : decode kc_Mo_standardName 53 = .ok (.goto 64, 3) := by decide +kernel
theorem kd_Mo_standardName_56 : decode kc_Mo_standardName 56 = .ok (.iload_n 0, 1) := by decide +kernel
theorem kd_Mo_standardName_57 : decode kc_Mo_standardName 57 = .ok (.ldc_w 476, 3) := by decide +kernel
theorem kd_Mo_standardName_60 : decode kc_Mo_standardName 60 = .ok (.if_icmp .ne 9, 3) := by decide +kernel
theorem kd_Mo_standardName_63 : decode kc_Mo_standardName 63 = .ok (.ldc_w 479, 3) := by decide +kernel
theorem kd_Mo_standardName_66 : decode kc_Mo_standardName 66 = .ok (.goto 51, 3) := by decide +kernel
theorem kd_Mo_standardName_69 : decode kc_Mo_standardName 69 = .ok (.ldc_w 481, 3) := by decide +kernel
theorem kd_Mo_standardName_72 : decode kc_Mo_standardName 72 = .ok (.goto 45, 3) := by decide +kernel
theorem kd_Mo_standardName_75 : decode kc_Mo_standardName 75 = .ok (.iload_n 0, 1) := by decide +kernel
theorem kd_Mo_standardName_76 : decode kc_Mo_standardName 76 = .ok (.ldc_w 468, 3) := by decide +kernel
theorem kd_Mo_standardName_79 : decode kc_Mo_standardName 79 = .ok (.if_icmp .ge 9, 3) := by decide +kernel
theorem kd_Mo_standardName_82 : decode kc_Mo_standardName 82 = .ok (.ldc_w 483, 3) := by decide +kernel
theorem kd_Mo_standardName_85 : decode kc_Mo_standardName 85 = .ok (.goto 32, 3) := by decide +kernel
theorem kd_Mo_standardName_88 : decode kc_Mo_standardName 88 = .ok (.iload_n 0, 1) := by decide +kernel
theorem kd_Mo_standardName_89 : decode kc_Mo_standardName 89 = .ok (.ldc_w 485, 3) := by decide +kernel
theorem kd_Mo_standardName_92 : decode kc_Mo_standardName 92 = .ok (.if_icmp .ge 9, 3) := by decide +kernel
theorem kd_Mo_standardName_95 : decode kc_Mo_standardName 95 = .ok (.ldc_w 486, 3) := by decide +kernel
theorem kd_Mo_standardName_98 : decode kc_Mo_standardName 98 = .ok (.goto 19, 3) := by decide +kernel
theorem kd_Mo_standardName_101 : decode kc_Mo_standardName 101 = .ok (.iload_n 0, 1) := by decide +kernel
theorem kd_Mo_standardName_102 : decode kc_Mo_standardName 102 = .ok (.ldc_w 476, 3) := by decide +kernel
theorem kd_Mo_standardName_105 : decode kc_Mo_standardName 105 = .ok (.if_icmp .ge 9, 3) := by decide +kernel
theorem kd_Mo_standardName_108 : decode kc_Mo_standardName 108 = .ok (.ldc_w 488, 3) := by decide +kernel
theorem kd_Mo_standardName_111 : decode kc_Mo_standardName 111 = .ok (.goto 6, 3) := by decide +kernel
theorem kd_Mo_standardName_114 : decode kc_Mo_standardName 114 = .ok (.ldc_w 490, 3) := by decide +kernel
theorem kd_Mo_standardName_117 : decode kc_Mo_standardName 117 = .ok (.astore_n 3, 1) := by decide +kernel
theorem kd_Mo_standardName_118 : decode kc_Mo_standardName 118 = .ok (.iconst 0, 1) := by decide +kernel
theorem kd_Mo_standardName_119 : decode kc_Mo_standardName 119 = .ok (.istore 4, 2) := by decide +kernel
theorem kd_Mo_standardName_121 : decode kc_Mo_standardName 121 = .ok (.iconst 0, 1) := by decide +kernel
theorem kd_Mo_standardName_122 : decode kc_Mo_standardName 122 = .ok (.istore 5, 2) := by decide +kernel
theorem kd_Mo_standardName_124 : decode kc_Mo_standardName 124 = .ok (.iload 5, 2) := by decide +kernel
theorem kd_Mo_standardName_126 : decode kc_Mo_standardName 126 = .ok (.iload_n 2, 1) := by decide +kernel
theorem kd_Mo_standardName_127 : decode kc_Mo_standardName 127 = .ok (.if_icmp .ge 39, 3) := by decide +kernel
theorem kd_Mo_standardName_130 : decode kc_Mo_standardName 130 = .ok (.iload 4, 2) := by decide +kernel
theorem kd_Mo_standardName_132 : decode kc_Mo_standardName 132 = .ok (.aload_n 3, 1) := by decide +kernel
theorem kd_Mo_standardName_133 : decode kc_Mo_standardName 133 = .ok (.invokevirtual 250, 3) := by decide +kernel
theorem kd_Mo_standardName_136 : decode kc_Mo_standardName 136 = .ok (.if_icmp .ge 30, 3) := by decide +kernel
theorem kd_Mo_standardName_139 : decode kc_Mo_standardName 139 = .ok (.iload 5, 2) := by decide +kernel
theorem kd_Mo_standardName_141 : decode kc_Mo_standardName 141 = .ok (.aload_n 3, 1) := by decide +kernel
theorem kd_Mo_standardName_142 : decode kc_Mo_standardName 142 = .ok (.iload 4, 2) := by decide +kernel
theorem kd_Mo_standardName_144 : decode kc_Mo_standardName 144 = .ok (.invokevirtual 255, 3) := by decide +kernel
theorem kd_Mo_standardName_147 : decode kc_Mo_standardName 147 = .ok (.bipush 32, 2) := by decide +kernel
theorem kd_Mo_standardName_149 : decode kc_Mo_standardName 149 = .ok (.if_icmp .ne 7, 3) := by decide +kernel
theorem kd_Mo_standardName_152 : decode kc_Mo_standardName 152 = .ok (.iconst 1, 1) := by decide +kernel
theorem kd_Mo_standardName_153 : decode kc_Mo_standardName 153 = .ok (.goto 4, 3) := by decide +kernel
theorem kd_Mo_standardName_156 : decode kc_Mo_standardName 156 = .ok (.iconst 0, 1) := by decide +kernel
theorem kd_Mo_standardName_157 : decode kc_Mo_standardName 157 = .ok (.iadd, 1) := by decide +kernel
theorem kd_Mo_standardName_158 : decode kc_Mo_standardName 158 = .ok (.istore 5, 2) := by decide +kernel
theorem kd_Mo_standardName_160 : decode kc_Mo_standardName 160 = .ok (.iinc 4 1, 3) := by decide +kernel
theorem kd_Mo_standardName_163 : decode kc_Mo_standardName 163 = .ok (.goto (-39), 3) := by decide +kernel
theorem kd_Mo_standardName_166 : decode kc_Mo_standardName 166 = .ok (.iload 4, 2) := by decide +kernel
theorem kd_Mo_standardName_168 : decode kc_Mo_standardName 168 = .ok (.aload_n 3, 1) := by decide +kernel
theorem kd_Mo_standardName_169 : decode kc_Mo_standardName 169 = .ok (.invokevirtual 250, 3) := by decide +kernel
theorem kd_Mo_standardName_172 : decode kc_Mo_standardName 172 = .ok (.if_icmp .ge 20, 3) := by decide +kernel
theorem kd_Mo_standardName_175 : decode kc_Mo_standardName 175 = .ok (.aload_n 3, 1) := by decide +kernel
theorem kd_Mo_standardName_176 : decode kc_Mo_standardName 176 = .ok (.iload 4, 2) := by decide +kernel
theorem kd_Mo_standardName_178 : decode kc_Mo_standardName 178 = .ok (.aload_n 3, 1) := by decide +kernel
theorem kd_Mo_standardName_179 : decode kc_Mo_standardName 179 = .ok (.bipush 32, 2) := by decide +kernel
theorem kd_Mo_standardName_181 : decode kc_Mo_standardName 181 = .ok (.iload 4, 2) := by decide +kernel
theorem kd_Mo_standardName_183 : decode kc_Mo_standardName 183 = .ok (.invokevirtual 492, 3) := by decide +kernel
theorem kd_Mo_standardName_186 : decode kc_Mo_standardName 186 = .ok (.invokevirtual 494, 3) := by decide +kernel
theorem kd_Mo_standardName_189 : decode kc_Mo_standardName 189 = .ok (.goto 4, 3) := by decide +kernel
theorem kd_Mo_standardName_192 : decode kc_Mo_standardName 192 = .ok (.aconst_null, 1) := by decide +kernel
theorem kd_Mo_standardName_193 : decode kc_Mo_standardName 193 = .ok (.areturn, 1) := by decide +kernel
set_option maxHeartbeats 4000000 in
set_option maxRecDepth 100000 in
theorem js_coder {S : zs_T} {l : Launch} {D : va_G} {sz0 : Nat} {P : ze_T} (ws : va_W) (a v : Nat) (s : List Int32) : zk_Sp (zs_G S l D sz0) (ze_E P) km_St_coder { frames := 0, cells := 0, slots := 0, locals := 0 } [.ref a] (ws ++ js_str S a v s) (fun v0 w => v0 = some (.int 0) ∧ w = ws ++ js_str S a v s) := by
  refine zk_met ku_St_coder (Nat.le_of_ble_eq_true rfl) (ze_Em P) ?_
  intro X C hR
  refine zk_lvs (lv' := [(0, .ref a)]) [0] rfl ?_
  refine ze_getsC C kx45 kd_St_coder_0 rfl ?_
  refine zk_if_eq (tgt := 13) C kd_St_coder_3 (by decide) rfl (fun h => absurd h (by decide)) (fun h => ?_)
  refine zk_aload_n C kd_St_coder_6 rfl 0 rfl rfl ?_
  refine zk_get C (ws.length + 0) (zk_ap 0 rfl) rfl ki_St 1 (by decide) kx2417 rfl kd_St_coder_7 rfl ?_
  refine zk_goto (tgt := 14) C kd_St_coder_10 (by decide) ?_
  exact zk_zret C hR rfl kd_St_coder_14 rfl rfl ⟨rfl, rfl⟩
set_option maxHeartbeats 4000000 in
set_option maxRecDepth 100000 in
theorem js_length {S : zs_T} {l : Launch} {D : va_G} {sz0 : Nat} {P : ze_T} (ws : va_W) (a v : Nat) (s : List Int32) : zk_Sp (zs_G S l D sz0) (ze_E P) km_St_length { frames := 1, cells := 0, slots := 0, locals := 20 } [.ref a] (ws ++ js_str S a v s) (fun v0 w => v0 = some (.int (nI s.length)) ∧ w = ws ++ js_str S a v s) := by
  refine zk_met ku_St_length (Nat.le_of_ble_eq_true rfl) (ze_Em P) ?_
  intro X C hR
  refine zk_lvs (lv' := [(0, .ref a)]) [0] rfl ?_
  refine zk_aload_n C kd_St_length_0 rfl 0 rfl rfl ?_
  refine zk_get C (ws.length + 0) (zk_ap 0 rfl) rfl ki_St 0 (by decide) kx2416 rfl kd_St_length_1 rfl ?_
  refine zk_alen (v := nI s.length) C (ws.length + 1) 1 (zk_ap 1 rfl) rfl rfl kd_St_length_4 rfl ?_
  refine zk_aload_n C kd_St_length_5 rfl 0 rfl rfl ?_
  refine zk_callV (b := a) (As := []) (rest := [.int (nI s.length)]) C (js_coder ws a v s) ku_St_coder kx41 kv_St_coder rfl ⟨by decide, by decide⟩ ⟨by decide, by decide⟩ (ws.length + 0) (zk_ap 0 rfl) rfl rfl (Nat.le_of_ble_eq_true rfl) kd_St_length_6 rfl (c1 := 0) (s1 := 0) rfl rfl (fun v w hp => ?_)
  obtain ⟨rfl, ew⟩ := hp
  rw [ew]
  refine zk_stk (r' := [.int 0, .int (nI s.length)]) rfl ?_
  refine zk_ishr C kd_St_length_9 rfl ?_
  rw [sb_shr0]
  exact zk_iret C hR kd_St_length_10 rfl rfl ⟨rfl, rfl⟩
set_option maxHeartbeats 4000000 in
set_option maxRecDepth 100000 in
theorem js_isLatin1 {S : zs_T} {l : Launch} {D : va_G} {sz0 : Nat} {P : ze_T} (ws : va_W) (a v : Nat) (s : List Int32) : zk_Sp (zs_G S l D sz0) (ze_E P) km_St_isLatin1 { frames := 0, cells := 0, slots := 0, locals := 0 } [.ref a] (ws ++ js_str S a v s) (fun v0 w => v0 = some (.int 1) ∧ w = ws ++ js_str S a v s) := by
  refine zk_met ku_St_isLatin1 (Nat.le_of_ble_eq_true rfl) (ze_Em P) ?_
  intro X C hR
  refine zk_lvs (lv' := [(0, .ref a)]) [0] rfl ?_
  refine ze_getsC C kx45 kd_St_isLatin1_0 rfl ?_
  refine zk_if_eq (tgt := 17) C kd_St_isLatin1_3 (by decide) rfl (fun h => absurd h (by decide)) (fun h => ?_)
  refine zk_aload_n C kd_St_isLatin1_6 rfl 0 rfl rfl ?_
  refine zk_get C (ws.length + 0) (zk_ap 0 rfl) rfl ki_St 1 (by decide) kx2417 rfl kd_St_isLatin1_7 rfl ?_
  refine zk_if_ne (tgt := 17) C kd_St_isLatin1_10 (by decide) rfl (fun h => absurd rfl h) (fun h => ?_)
  refine zk_iconst (v := 1) C kd_St_isLatin1_13 (by decide) rfl ?_
  refine zk_goto (tgt := 18) C kd_St_isLatin1_14 (by decide) ?_
  exact zk_zret C hR rfl kd_St_isLatin1_18 rfl rfl ⟨rfl, rfl⟩
set_option maxHeartbeats 4000000 in
set_option maxRecDepth 100000 in
theorem js_charL {S : zs_T} {l : Launch} {D : va_G} {sz0 : Nat} {P : ze_T} (ws : va_W) (a v : Nat) (s : List Int32) (j : Nat) (hj : j < s.length) (hN : s.length < 2 ^ 31) : zk_Sp (zs_G S l D sz0) (ze_E P) km_Sl_charAt { frames := 2, cells := 0, slots := 0, locals := 43 } [.ref v, .int (nI j)] (ws ++ js_str S a v s) (fun v0 w => v0 = some (.int (s.getD j 0 &&& 255)) ∧ w = ws ++ js_str S a v s) := by
  refine zk_met ku_Sl_charAt (Nat.le_of_ble_eq_true rfl) (ze_Em P) ?_
  intro X C hR
  refine zk_lvs (lv' := [(0, .ref v), (1, .int (nI j))]) [0, 1] rfl ?_
  refine zk_iload_n C kd_Sl_charAt_0 rfl 1 rfl rfl ?_
  refine zk_aload_n C kd_Sl_charAt_1 rfl 0 rfl rfl ?_
  refine zk_alen (v := nI s.length) C (ws.length + 1) 1 (zk_ap 1 rfl) rfl rfl kd_Sl_charAt_2 rfl ?_
  refine zk_callS (As := [.int (nI j), .int (nI s.length)]) (rest := []) C (cs_checkI _ j s.length hj hN) ku_St_checkIndex kx64 ks_St_checkIndex rfl ⟨by decide, by decide⟩ ⟨by decide, by decide⟩ rfl (by decide) kd_Sl_charAt_3 rfl (c1 := 0) (s1 := 0) rfl rfl (fun v w hp => ?_)
  obtain ⟨rfl, ew⟩ := hp
  rw [ew]
  refine zk_stk (r' := []) rfl ?_
  refine zk_aload_n C kd_Sl_charAt_6 rfl 0 rfl rfl ?_
  refine zk_iload_n C kd_Sl_charAt_7 rfl 1 rfl rfl ?_
  refine zk_bald C (ws.length + 1) 1 (zk_ap 1 rfl) rfl (vp_in_nI hj hN) kd_Sl_charAt_8 rfl ?_
  refine zk_sipush (v := 255) C kd_Sl_charAt_9 (by decide) rfl ?_
  refine zk_iand C kd_Sl_charAt_12 rfl ?_
  refine zk_i2c C kd_Sl_charAt_13 rfl ?_
  rw [nI_clamp (by omega), sc_c2]
  exact zk_zret C hR (sc_nar _) kd_Sl_charAt_14 rfl rfl ⟨rfl, rfl⟩
set_option maxHeartbeats 4000000 in
set_option maxRecDepth 100000 in
theorem js_charAt {S : zs_T} {l : Launch} {D : va_G} {sz0 : Nat} {P : ze_T} (ws : va_W) (a v : Nat) (s : List Int32) (j : Nat) (hj : j < s.length) (hN : s.length < 2 ^ 31) : zk_Sp (zs_G S l D sz0) (ze_E P) km_St_charAt { frames := 3, cells := 0, slots := 0, locals := 64 } [.ref a, .int (nI j)] (ws ++ js_str S a v s) (fun v0 w => v0 = some (.int (s.getD j 0 &&& 255)) ∧ w = ws ++ js_str S a v s) := by
  refine zk_met ku_St_charAt (Nat.le_of_ble_eq_true rfl) (ze_Em P) ?_
  intro X C hR
  refine zk_lvs (lv' := [(0, .ref a), (1, .int (nI j))]) [0, 1] rfl ?_
  refine zk_aload_n C kd_St_charAt_0 rfl 0 rfl rfl ?_
  refine zk_callV (b := a) (As := []) (rest := []) C (js_isLatin1 ws a v s) ku_St_isLatin1 kx57 kv_St_isLatin1 rfl ⟨by decide, by decide⟩ ⟨by decide, by decide⟩ (ws.length + 0) (zk_ap 0 rfl) rfl rfl (Nat.le_of_ble_eq_true rfl) kd_St_charAt_1 rfl (c1 := 0) (s1 := 0) rfl rfl (fun v w hp => ?_)
  obtain ⟨rfl, ew⟩ := hp
  rw [ew]
  refine zk_stk (r' := [.int 1]) rfl ?_
  refine zk_if_eq (tgt := 16) C kd_St_charAt_4 (by decide) rfl (fun h => absurd h (by decide)) (fun h => ?_)
  refine zk_aload_n C kd_St_charAt_7 rfl 0 rfl rfl ?_
  refine zk_get C (ws.length + 0) (zk_ap 0 rfl) rfl ki_St 0 (by decide) kx2416 rfl kd_St_charAt_8 rfl ?_
  refine zk_iload_n C kd_St_charAt_11 rfl 1 rfl rfl ?_
  refine zk_callS (As := [.ref v, .int (nI j)]) (rest := []) C (js_charL ws a v s j hj hN) ku_Sl_charAt kx61 ks_Sl_charAt rfl ⟨by decide, by decide⟩ ⟨by decide, by decide⟩ rfl (by decide) kd_St_charAt_12 rfl (c1 := 0) (s1 := 0) rfl rfl (fun v w hp => ?_)
  obtain ⟨rfl, ew⟩ := hp
  rw [ew]
  refine zk_stk (r' := [.int (s.getD j 0 &&& 255)]) rfl ?_
  exact zk_zret C hR (sc_nar _) kd_St_charAt_15 rfl rfl ⟨rfl, rfl⟩
