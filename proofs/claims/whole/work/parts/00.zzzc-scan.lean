/-! The judge: a declaration's children, on both sides. -/
theorem zv_m18 {K : zs_H → Int32 → Int32 → Int32 → Int32 → Int32 → Int32 → Option zs_H} {g : zs_H} {b kd n : Nat} {x1 pl ty cn : Int32} (hb : b < 33500) (hkd : kd < 100) (m : (g.2.1 72) b = nI kd) : f_Mo_lookAtDeclaration_18 K g x1 (nI n) pl ty cn (nI b) = K g x1 (nI (if kd = 6 then n + 1 else n)) (if kd = 7 then (g.2.1 74) b else pl) (if 7 < kd ∧ kd < 11 then nI b else ty) (if 29 < kd then nI b else cn) ((g.2.1 78) b) := by
  unfold f_Mo_lookAtDeclaration_18 f_Mo_lookAtDeclaration_41 f_Mo_lookAtDeclaration_66 f_Mo_lookAtDeclaration_96 f_Mo_lookAtDeclaration_98 f_Mo_lookAtDeclaration_119
  have hin : zd_in (nI b) 33500 := zi_in (by omega) hb
  have cb : (nI b).toNatClampNeg = b := nI_clamp (by omega)
  have e6 : (nI kd = 6) ↔ kd = 6 := zc_eq (k := 6) (by decide) (by omega)
  have e7 : (nI kd = 7) ↔ kd = 7 := zc_eq (k := 7) (by decide) (by omega)
  have l7 : (nI kd ≤ 7) ↔ ¬ 7 < kd := by rw [zc_el (k := 7) (by decide) (by omega)]; omega
  have l11 : (11 ≤ nI kd) ↔ ¬ kd < 11 := by rw [zc_le (k := 11) (by decide) (by omega)]; omega
  have l29 : (nI kd ≤ 29) ↔ ¬ 29 < kd := by rw [zc_el (k := 29) (by decide) (by omega)]; omega
  simp only [if_neg (mt (zc_tl (k := 0) (by decide) (show b < 2147483648 by omega)).mp (by omega)), if_pos hin, cb, m, e6, e7, l7, l11, l29, nI_1, show ∀ z : Nat, nI z + 0 = nI z from fun z => Int32.add_zero _]
  by_cases z6 : kd = 6
  · subst z6; simp (config := { decide := true }) only [if_true, if_false]
  · by_cases z7 : kd = 7
    · subst z7; simp (config := { decide := true }) only [if_true, if_false]
    · by_cases y1 : 7 < kd <;> by_cases y2 : kd < 11 <;> by_cases y3 : 29 < kd <;> simp only [z6, z7, y1, y2, y3, if_true, if_false, not_true, not_false_iff, and_self, and_true, true_and, and_false, false_and]
/-- a step of the grammar is a row of it -/
theorem zv_qR {kd st c : Nat} (h : ¬ zg_q kd st c = 99) : ∃ cs to, (kd, st, cs, to) ∈ zg_R ∧ c ∈ cs ∧ zg_q kd st c = to := by
  unfold zg_q at h ⊢
  cases e : zg_R.find? (fun r => r.1 == kd && r.2.1 == st && r.2.2.1.elem c) with
  | none => rw [e] at h; exact absurd rfl h
  | some r =>
    have h1 := List.mem_of_find?_eq_some e
    have h2 := List.find?_some e
    simp only [Bool.and_eq_true, beq_iff_eq, List.elem_eq_mem, decide_eq_true_eq] at h2
    obtain ⟨⟨a1, a2⟩, a3⟩ := h2
    obtain ⟨r1, r2, r3, r4⟩ := r
    subst a1; subst a2
    exact ⟨r3, r4, h1, a3, rfl⟩
theorem zv_q5 {st c : Nat} (h : ¬ zg_q 5 st c = 99) : (c = 37 ∧ st ≤ 1 ∧ zg_q 5 st c = 1) ∨ (c = 7 ∧ st = 1 ∧ zg_q 5 st c = 2) ∨ ((c = 8 ∨ c = 9 ∨ c = 10) ∧ (st = 1 ∨ st = 2) ∧ zg_q 5 st c = 3) ∨ ((c = 30 ∨ c = 31) ∧ st = 3 ∧ zg_q 5 st c = 4) := by
  obtain ⟨cs, to, h1, h2, h3⟩ := zv_qR h
  have key : ∀ r ∈ zg_R, r.1 = 5 → r.2 ∈ [(0, [37], 1), (1, [37], 1), (1, [7], 2), (1, [8, 9, 10], 3), (2, [8, 9, 10], 3), (3, [30, 31], 4)] := by decide +kernel
  have m := key _ h1 rfl
  simp only [List.mem_cons, List.not_mem_nil, or_false, Prod.mk.injEq] at m
  rw [h3]
  rcases m with ⟨e1, e2, e3⟩ | ⟨e1, e2, e3⟩ | ⟨e1, e2, e3⟩ | ⟨e1, e2, e3⟩ | ⟨e1, e2, e3⟩ | ⟨e1, e2, e3⟩ <;> subst e2 <;> simp only [List.mem_cons, List.not_mem_nil, or_false] at h2 <;> omega
theorem zv_q99 (kd : Nat) : ∀ (u : zt_T), zg_run kd 99 u = 99 := by
  have key : ∀ c, zg_q kd 99 c = 99 := by
    intro c
    unfold zg_q
    have : zg_R.find? (fun r => r.1 == kd && r.2.1 == 99 && r.2.2.1.elem c) = none := by
      rw [List.find?_eq_none]
      intro r hr
      have : ∀ r ∈ zg_R, ¬ r.2.1 = 99 := by decide +kernel
      have h1 := this r hr
      simp [h1]
    rw [this]; rfl
  intro u
  induction u with
  | leaf => rfl
  | inner c k v l r ihl ihr => show zg_run kd (zg_q kd 99 c) r = 99; rw [key]; exact ihr
/-- the class's nodes don't tell what is above -/
theorem zv_up0 {h : zs_H} : ∀ (t : zt_T) (P : Nat → Prop) (up x y : Int32), zt_G (zt_NC h) ((h.2.1 17)) ((h.2.1 18)) t P up x y → zt_C h t P x y := by
  intro t
  induction t with
  | leaf => intro P up x y q; exact q
  | inner kd k v l r ihl ihr =>
    intro P up x y q
    obtain ⟨i, P1, P2, z1, z2, q1, q2, q3, q4, q5, q6, q7, q8, q9⟩ := q
    exact ⟨i, P1, P2, z1, z2, q1, q2, q3, q4, q5, q6, q7, ihr _ _ _ _ q8, q9⟩
/-- a forest's first tree in the class -/
theorem zv_hC {h : zs_H} {c : Nat} {kv : Int32 × Int32} {w : Unit} {l r : zt_T} {P : Nat → Prop} {x y : Int32} (H : zt_C h (.inner c kv w l r) P x y) : ∃ a P1 P2 z1 z2, x = nI a ∧ a < 40000 ∧ P a ∧ (h.2.1 13) a = nI c ∧ (h.2.1 15) a = kv.1 ∧ (h.2.1 16) a = kv.2 ∧ (∀ j, P1 j → P j ∧ ¬ j = a ∧ ¬ P2 j) ∧ (∀ j, P2 j → P j ∧ ¬ j = a) ∧ zt_C h l P1 ((h.2.1 17) a) z1 ∧ zt_C h r P2 ((h.2.1 18) a) z2 ∧ y = (if z2 = -1 then x else z2) := by
  obtain ⟨a, P1, P2, z1, z2, q1, q2, q3, ⟨q4, q5, q6⟩, q7, q8, q9, q10, q11⟩ := H
  exact ⟨a, P1, P2, z1, z2, q3, q2, q1, q4, q5, q6, q7, q8, zv_up0 l P1 _ _ _ q9, q10, q11⟩
theorem zv_hM {LC LM : List (List Int32)} {g : zs_H} {c : Nat} {kv : Int32 × Int32} {w : Unit} {l r : zt_T} {P : Nat → Prop} {up x y : Int32} (H : zt_M LC LM g (.inner c kv w l r) P up x y) : ∃ b P1 P2 z2, x = nI b ∧ b < 40000 ∧ P b ∧ (g.2.1 72) b = nI (zt_km c) ∧ (¬ c = 11 → (g.2.1 73) b = kv.1) ∧ (if zt_nk c = true then zt_nr LC LM kv.2 ((g.2.1 74) b) else (g.2.1 74) b = kv.2) ∧ (g.2.1 75) b = up ∧ (∀ j, P1 j → P j ∧ ¬ j = b ∧ ¬ P2 j) ∧ (∀ j, P2 j → P j ∧ ¬ j = b) ∧ zt_M LC LM g l P1 (nI b) ((g.2.1 76) b) ((g.2.1 77) b) ∧ zt_M LC LM g r P2 up ((g.2.1 78) b) z2 ∧ y = (if z2 = -1 then x else z2) := by
  obtain ⟨b, P1, P2, z1, z2, q1, q2, q3, ⟨q4, q5, q6, q7, q8⟩, q9, q10, q11, q12, q13⟩ := H
  exact ⟨b, P1, P2, z2, q3, q2, q1, q4, q5, q6, q7, q9, q10, by rw [q8]; exact q11, q12, q13⟩
