/-! CX: not too many bodies, not too many EXITs: the class's reader. -/
theorem zc_cnt_mb {P Q : Nat → Prop} : ∀ m, (∀ i, i < m → P i → Q i) → zc_cnt P m ≤ zc_cnt Q m := by
  intro m
  induction m with
  | zero => intro _; exact Nat.le_refl 0
  | succ m ih =>
    intro H
    have a := ih (fun i hi => H i (by omega))
    have b := H m (by omega)
    show zc_cnt P m + @ite Nat (P m) (Classical.propDecidable _) 1 0 ≤ zc_cnt Q m + @ite Nat (Q m) (Classical.propDecidable _) 1 0
    by_cases z : P m
    · rw [if_pos z, if_pos (b z)]; omega
    · rw [if_neg z]; omega
theorem zc_cnt_up {P : Nat → Prop} {m : Nat} : ∀ k, zc_cnt P m ≤ zc_cnt P (m + k) := by
  intro k
  induction k with
  | zero => exact Nat.le_refl _
  | succ k ih =>
    show _ ≤ zc_cnt P (m + k) + @ite Nat (P (m + k)) (Classical.propDecidable _) 1 0
    omega
abbrev zcx_T : Type := (Nat → Nat) × (Nat → Nat) × Nat
def zcx_E (E : zcx_T) : Prop := (∀ j, j < E.2.2 → E.2.1 j + 1 ≤ E.2.1 (j + 1) ∧ (128 ≤ E.1 j → E.2.1 j + 2 ≤ E.2.1 (j + 1)) ∧ (E.1 j = 156 → E.2.1 j + 4 ≤ E.2.1 (j + 1))) ∧ E.2.2 ≤ 10240 ∧ ∀ j, j ≤ E.2.2 → E.1 j < 1000 ∧ E.2.1 j ≤ 10240
noncomputable def zcx_c (k s : Nat) (h : zs_H) : Nat := zc_cnt (fun i => h.2.1 13 i = nI k) s
def zcx_P (E : zcx_T) (a : Int) (h : zs_H) : Prop := zcx_E E ∧ (h.1 8 3 = nI (E.2.2 + 1) ∧ (∀ j, j ≤ E.2.2 → h.2.1 9 j = nI (E.1 j)) ∧ ∀ j, j ≤ E.2.2 → E.1 j = 7 → ¬ h.2.1 11 j = 0) ∧ ∃ s, h.1 12 6 = nI s ∧ s ≤ 32784 ∧ (¬ h.1 19 3 = 0 ∨ ∃ j, j ≤ E.2.2 ∧ h.1 19 4 = nI j ∧ h.1 19 5 = nI (E.1 j) ∧ 2 * (zcx_c 11 s h : Int) + 4 * (zcx_c 20 s h : Int) + a ≤ (E.2.1 j : Int))
def zcx_1 (E : zcx_T) (a : Int) (o : Option zs_H) : Prop := ∀ h, o = some h → zcx_P E a h
def zcx_2 (E : zcx_T) (a : Int) (o : Option (Int32 × zs_H)) : Prop := ∀ x h, o = some (x, h) → zcx_P E a h
def zcx_kb (x : Int32) : Bool := decide (¬ vp_nar .byte (x.toInt8.toInt32) = nI 11) && decide (¬ vp_nar .byte (x.toInt8.toInt32) = nI 20)
def zcx_k (x : Int32) : Prop := zcx_kb x = true
theorem zcx_kI {x : Int32} (h : zcx_kb x = true) : zcx_k x := h
theorem zcx_ke {x : Int32} (h : zcx_k x) : ¬ vp_nar .byte (x.toInt8.toInt32) = nI 11 ∧ ¬ vp_nar .byte (x.toInt8.toInt32) = nI 20 := by
  unfold zcx_k zcx_kb at h
  rw [Bool.and_eq_true] at h
  exact ⟨of_decide_eq_true h.1, of_decide_eq_true h.2⟩
section ZXS
variable {E : zcx_T} {a b : Int}
theorem zcx_1s {h : zs_H} (H : zcx_P E a h) : zcx_1 E a (some h) := fun h' e => by cases e; exact H
theorem zcx_2s {h : zs_H} {x : Int32} (H : zcx_P E a h) : zcx_2 E a (some (x, h)) := fun x' h' e => by cases e; exact H
theorem zcx_1n : zcx_1 E a none := fun h' e => by cases e
theorem zcx_2n : zcx_2 E a none := fun x h' e => by cases e
theorem zcx_1i {c : Prop} [Decidable c] {A B : Option zs_H} (p : c → zcx_1 E a A) (q : ¬ c → zcx_1 E a B) : zcx_1 E a (if c then A else B) := by
  by_cases h : c
  · rw [if_pos h]; exact p h
  · rw [if_neg h]; exact q h
theorem zcx_2i {c : Prop} [Decidable c] {A B : Option (Int32 × zs_H)} (p : c → zcx_2 E a A) (q : ¬ c → zcx_2 E a B) : zcx_2 E a (if c then A else B) := by
  by_cases h : c
  · rw [if_pos h]; exact p h
  · rw [if_neg h]; exact q h
theorem zcx_b2 {A : Option zs_H} {F : zs_H → Option (Int32 × zs_H)} (p : zcx_1 E b A) (q : ∀ h, zcx_P E b h → zcx_2 E a (F h)) : zcx_2 E a (A.bind F) := by
  cases A with
  | none => exact zcx_2n
  | some h => exact q h (p h rfl)
theorem zcx_b1 {A : Option zs_H} {F : zs_H → Option zs_H} (p : zcx_1 E b A) (q : ∀ h, zcx_P E b h → zcx_1 E a (F h)) : zcx_1 E a (A.bind F) := by
  cases A with
  | none => exact zcx_1n
  | some h => exact q h (p h rfl)
theorem zcx_B2 {A : Option (Int32 × zs_H)} {F : Int32 → zs_H → Option (Int32 × zs_H)} (p : zcx_2 E b A) (q : ∀ x h, zcx_P E b h → zcx_2 E a (F x h)) : zcx_2 E a (zd_B A F) := by
  cases A with
  | none => exact zcx_2n
  | some p' => exact q p'.1 p'.2 (p p'.1 p'.2 rfl)
theorem zcx_b2e {A : Option zs_H} {F : zs_H → Option (Int32 × zs_H)} (p : zcx_1 E a A) (q : ∀ h, zcx_P E a h → zcx_2 E a (F h)) : zcx_2 E a (A.bind F) := zcx_b2 p q
theorem zcx_b1e {A : Option zs_H} {F : zs_H → Option zs_H} (p : zcx_1 E a A) (q : ∀ h, zcx_P E a h → zcx_1 E a (F h)) : zcx_1 E a (A.bind F) := zcx_b1 p q
theorem zcx_B2e {A : Option (Int32 × zs_H)} {F : Int32 → zs_H → Option (Int32 × zs_H)} (p : zcx_2 E a A) (q : ∀ x h, zcx_P E a h → zcx_2 E a (F x h)) : zcx_2 E a (zd_B A F) := zcx_B2 p q
theorem zcx_le {h : zs_H} (H : zcx_P E a h) (hb : b ≤ a) : zcx_P E b h := by
  obtain ⟨hE, t, s, s1, s2, alt⟩ := H
  refine ⟨hE, t, s, s1, s2, ?_⟩
  rcases alt with q | ⟨j, j1, j2, j3, j4⟩
  · exact .inl q
  · exact .inr ⟨j, j1, j2, j3, by omega⟩
theorem zcx_2le {o : Option (Int32 × zs_H)} (H : zcx_2 E a o) (hb : b ≤ a) : zcx_2 E b o := fun x h e => zcx_le (H x h e) hb
theorem zcx_big {h : zs_H} (H : zcx_P E a h) (ha : 10240 < a) : zcx_P E b h := by
  obtain ⟨hE, t, s, s1, s2, alt⟩ := H
  refine ⟨hE, t, s, s1, s2, ?_⟩
  rcases alt with q | ⟨j, j1, j2, j3, j4⟩
  · exact .inl q
  · have := (hE.2.2 j j1).2
    omega
theorem zcx_uF {h : zs_H} {k j : Nat} {v : Int32} (hk : ¬ (k, j) ∈ [(8, 3), (12, 6), (19, 3), (19, 4), (19, 5)]) (H : zcx_P E a h) : zcx_P E a (zs_uF h k j v) := by
  have ne : ∀ p : Nat × Nat, p ∈ [(8, 3), (12, 6), (19, 3), (19, 4), (19, 5)] → (zs_uF h k j v).1 p.1 p.2 = h.1 p.1 p.2 := fun p hp => by
    show (if p.1 = k ∧ p.2 = j then v else h.1 p.1 p.2) = _
    rw [if_neg (fun z => hk (by rw [← z.1, ← z.2]; exact hp))]
  obtain ⟨hE, ⟨t1, t2, t3⟩, s, s1, s2, alt⟩ := H
  refine ⟨hE, ⟨(ne (8, 3) (by decide)).trans t1, t2, t3⟩, s, (ne (12, 6) (by decide)).trans s1, s2, ?_⟩
  rcases alt with q | ⟨j', j1, j2, j3, j4⟩
  · exact .inl (fun z => q ((ne (19, 3) (by decide)).symm.trans z))
  · exact .inr ⟨j', j1, (ne (19, 4) (by decide)).trans j2, (ne (19, 5) (by decide)).trans j3, j4⟩
theorem zcx_uM {h : zs_H} {k j : Nat} {v : Int32} (hk : ¬ k ∈ [9, 11, 13]) (H : zcx_P E a h) : zcx_P E a (zs_uM h k j v) := by
  have ne : ∀ m : Nat, m ∈ [9, 11, 13] → (zs_uM h k j v).2.1 m = h.2.1 m := fun m hm => by
    funext i
    show (if m = k ∧ i = j then v else h.2.1 m i) = _
    rw [if_neg (fun z => hk (by rw [← z.1]; exact hm))]
  obtain ⟨hE, ⟨t1, t2, t3⟩, s, s1, s2, alt⟩ := H
  refine ⟨hE, ⟨t1, by rw [ne 9 (by decide)]; exact t2, by rw [ne 11 (by decide)]; exact t3⟩, s, s1, s2, ?_⟩
  unfold zcx_c at alt ⊢
  rw [ne 13 (by decide)]
  exact alt
theorem zcx_uK {h : zs_H} {j : Nat} {v : Int32} (hv : ¬ v = nI 11 ∧ ¬ v = nI 20) (H : zcx_P E a h) : zcx_P E a (zs_uM h 13 j v) := by
  have ne : ∀ m : Nat, m ∈ [9, 11] → (zs_uM h 13 j v).2.1 m = h.2.1 m := fun m hm => by
    funext i
    show (if m = 13 ∧ i = j then v else h.2.1 m i) = _
    rw [if_neg (fun z => by
      have : ∀ m, m ∈ [9, 11] → ¬ m = 13 := by decide
      exact this m hm z.1)]
  obtain ⟨hE, ⟨t1, t2, t3⟩, s, s1, s2, alt⟩ := H
  refine ⟨hE, ⟨t1, by rw [ne 9 (by decide)]; exact t2, by rw [ne 11 (by decide)]; exact t3⟩, s, s1, s2, ?_⟩
  rcases alt with q | ⟨j', j1, j2, j3, j4⟩
  · exact .inl q
  · have key : ∀ k, ¬ v = nI k → zcx_c k s (zs_uM h 13 j v) ≤ zcx_c k s h := fun k hk => zc_cnt_mb s (fun i _ z => by
      have z' : (if 13 = 13 ∧ i = j then v else h.2.1 13 i) = nI k := z
      by_cases q : i = j
      · rw [if_pos ⟨rfl, q⟩] at z'; exact absurd z' hk
      · rw [if_neg (fun w => q w.2)] at z'; exact z')
    have k1 := key 11 hv.1
    have k2 := key 20 hv.2
    exact .inr ⟨j', j1, j2, j3, by omega⟩
theorem zcx_addc {h h' : zs_H} {k s p : Nat} {v : Int32} (hp : p ≤ s) (e : ∀ i, h'.2.1 13 i = if i = p then v else h.2.1 13 i) : zcx_c k (p + 1) h' ≤ zcx_c k s h + (if v = nI k then 1 else 0) := by
  have e1 : zc_cnt (fun i => h'.2.1 13 i = nI k) p ≤ zc_cnt (fun i => h.2.1 13 i = nI k) p := zc_cnt_mb p (fun i hi z => by
    have z' : h'.2.1 13 i = nI k := z
    rw [e, if_neg (by omega)] at z'
    exact z')
  have e2 : zc_cnt (fun i => h.2.1 13 i = nI k) p ≤ zc_cnt (fun i => h.2.1 13 i = nI k) s := by
    have := zc_cnt_up (P := fun i => h.2.1 13 i = nI k) (m := p) (s - p)
    rw [show p + (s - p) = s by omega] at this
    exact this
  have e3 : h'.2.1 13 p = v := by rw [e, if_pos rfl]
  unfold zcx_c
  show zc_cnt (fun i => h'.2.1 13 i = nI k) p + @ite Nat (h'.2.1 13 p = nI k) (Classical.propDecidable _) 1 0 ≤ _
  by_cases z : v = nI k
  · rw [if_pos (e3.trans z), if_pos z]; omega
  · rw [if_neg (fun q => z (e3.symm.trans q)), if_neg z]; omega
theorem zcx_add {h : zs_H} {x1 x2 x3 : Int32} (H : zcx_P E a h) (hb : b + 2 * (if vp_nar .byte (x1.toInt8.toInt32) = nI 11 then 1 else 0) + 4 * (if vp_nar .byte (x1.toInt8.toInt32) = nI 20 then 1 else 0) ≤ a) : zcx_2 E b (f_Tr_add h x1 x2 x3) := by
  intro x h' e
  obtain ⟨hE, ⟨t1, t2, t3⟩, s, s1, s2, alt⟩ := H
  unfold f_Tr_add at e
  rw [s1, zq_min s2, if_pos (zi_in (by omega) (by omega)), nI_clamp (by omega), nI_1] at e
  have key : ∀ k, zcx_c k (min s 32783 + 1) h' ≤ zcx_c k s h + (if vp_nar .byte (x1.toInt8.toInt32) = nI k then 1 else 0) := fun k => zcx_addc (by omega) (fun i => by
    cases e
    by_cases ei : i = min s 32783
    · subst ei; simp [zu_FM, zu_MM]
    · simp [zu_FM, zu_MM, ei])
  have k1 := key 11
  have k2 := key 20
  have le : 2 * (zcx_c 11 (min s 32783 + 1) h' : Int) + 4 * (zcx_c 20 (min s 32783 + 1) h' : Int) + b ≤ 2 * (zcx_c 11 s h : Int) + 4 * (zcx_c 20 s h : Int) + a := by
    by_cases c1 : vp_nar .byte (x1.toInt8.toInt32) = nI 11
    · rw [if_pos c1] at k1 hb
      by_cases c2 : vp_nar .byte (x1.toInt8.toInt32) = nI 20
      · rw [if_pos c2] at k2 hb; omega
      · rw [if_neg c2] at k2 hb; omega
    · rw [if_neg c1] at k1 hb
      by_cases c2 : vp_nar .byte (x1.toInt8.toInt32) = nI 20
      · rw [if_pos c2] at k2 hb; omega
      · rw [if_neg c2] at k2 hb; omega
  refine ⟨hE, ?_, min s 32783 + 1, ?_, by omega, ?_⟩
  · cases e; exact ⟨t1, t2, t3⟩
  · cases e; rfl
  · rcases alt with q | ⟨j, j1, j2, j3, j4⟩
    · left
      cases e; exact q
    · right
      refine ⟨j, j1, ?_, ?_, by omega⟩
      · cases e; exact j2
      · cases e; exact j3
theorem cx_f_Tr_add {h : zs_H} {x1 x2 x3 : Int32} (hk : zcx_k x1) (H : zcx_P E a h) : zcx_2 E a (f_Tr_add h x1 x2 x3) := zcx_add H (by rw [if_neg (zcx_ke hk).1, if_neg (zcx_ke hk).2]; omega)
theorem zcx_bad {h : zs_H} {v w : Int32} (H : zcx_P E a h) (hv : ¬ v = 0) : zcx_P E b (zs_uF (zs_uF (zs_uF h 19 3 v) 19 0 w) 19 5 0) := by
  obtain ⟨hE, t, s, s1, s2, alt⟩ := H
  exact ⟨hE, t, s, s1, s2, .inl hv⟩
theorem zcx_t74 {h : zs_H} (H : zcx_P E a h) : zcx_1 E b (f_Ps_take_74 h) := by
  obtain ⟨hE, ⟨t1, t2, t3⟩, s, s1, s2, alt⟩ := id H
  unfold f_Ps_take_74 f_Ps_take_108 f_Ps_take_119
  by_cases c1 : h.1 19 3 = 0
  · rw [if_pos c1]
    rcases alt with q | ⟨j, j1, j2, j3, j4⟩
    · exact absurd c1 q
    have hj := hE.2.1
    by_cases c2 : h.1 19 5 = 7
    · rw [if_pos c2, j2]
      have e7 : E.1 j = 7 := by
        have := (hE.2.2 j j1).1
        exact (zc_eq (k := 7) (by decide) (by omega)).mp (j3.symm.trans c2)
      rw [if_pos (zi_in (by omega) (show j < 16385 by omega)), nI_clamp (by omega)]
      exact zcx_1s (zcx_bad H (t3 j j1 e7))
    · rw [if_neg c2]
      exact zcx_1s (zcx_bad H (by decide))
  · rw [if_neg c1]
    refine zcx_1s ⟨hE, ⟨t1, t2, t3⟩, s, s1, s2, .inl c1⟩
theorem zcx_take {h : zs_H} {x : Int32} {w : Int} (H : zcx_P E a h) (hw : ∀ j, j < E.2.2 → nI (E.1 j) = x → (E.2.1 j : Int) + w ≤ (E.2.1 (j + 1) : Int)) : zcx_1 E (a + w) (f_Ps_take h x) := by
  obtain ⟨hE, ⟨t1, t2, t3⟩, s, s1, s2, alt⟩ := id H
  unfold f_Ps_take
  by_cases c1 : h.1 19 3 = 0
  · rw [if_pos c1]
    rcases alt with q | ⟨j, j1, j2, j3, j4⟩
    · exact absurd c1 q
    have hj := hE.2.1
    by_cases c2 : h.1 19 5 = x
    · rw [if_pos c2, t1, j2, nI_1]
      by_cases c3 : j < E.2.2
      · rw [if_neg (mt (nI_leI (by omega) (by omega)).mp (by omega)), if_pos (zi_in (by omega) (show j + 1 < 16385 by omega)), nI_clamp (by omega), t2 (j + 1) (by omega)]
        have := hw j c3 (j3.symm.trans c2)
        refine zcx_1s ⟨hE, ⟨t1, t2, t3⟩, s, s1, s2, .inr ⟨j + 1, by omega, rfl, rfl, ?_⟩⟩
        show 2 * (zcx_c 11 s h : Int) + 4 * (zcx_c 20 s h : Int) + (a + w) ≤ (E.2.1 (j + 1) : Int)
        omega
      · rw [if_pos ((nI_leI (by omega) (by omega)).mpr (by omega))]
        exact zcx_t74 H
    · rw [if_neg c2]; exact zcx_t74 H
  · rw [if_neg c1]; exact zcx_t74 H
theorem cx_take1 {h : zs_H} {x : Int32} (H : zcx_P E a h) : zcx_1 E (a + 1) (f_Ps_take h x) := zcx_take H (fun j hj _ => by have := (H.1.1 j hj).1; omega)
theorem cx_f_Ps_take {h : zs_H} {x : Int32} (H : zcx_P E a h) : zcx_1 E a (f_Ps_take h x) := fun h' e => zcx_le (cx_take1 H h' e) (by omega)
theorem cx_takeK {h : zs_H} {x : Int32} (hx : (128 : Int32) ≤ x) (H : zcx_P E a h) : zcx_1 E (a + 2) (f_Ps_take h x) := zcx_take H (fun j hj e => by
  have l := (H.1.2.2 j (by omega)).1
  have : 128 ≤ E.1 j := (zc_le (k := 128) (by decide) (by omega)).mp (by rw [e]; exact hx)
  have := (H.1.1 j hj).2.1 this
  omega)
theorem cx_takeX {h : zs_H} (H : zcx_P E a h) : zcx_1 E (a + 4) (f_Ps_take h 156) := zcx_take H (fun j hj e => by
  have l := (H.1.2.2 j (by omega)).1
  have : E.1 j = 156 := (zc_eq (k := 156) (by decide) (by omega)).mp e
  have := (H.1.1 j hj).2.2 this
  omega)
theorem cx_f_Ps_deepen {h : zs_H} (H : zcx_P E a h) : zcx_1 E a (f_Ps_deepen h) := by
  unfold f_Ps_deepen f_Ps_deepen_35
  refine zcx_1i (fun _ => zcx_1s (zcx_uF (by decide) H)) (fun _ => zcx_1i (fun _ => ?_) (fun _ => zcx_1s (zcx_uF (by decide) H)))
  exact zcx_1s (zcx_uF (by decide) (zcx_bad H (by decide)))
end ZXS
