/-! CX: not too many bodies, not too many EXITs: the class's reader. -/
theorem zc_cnt_mb {P Q : Nat → Prop} : ∀ m, (∀ i, i < m → P i → Q i) → zc_cnt P m ≤ zc_cnt Q m := by
  intro m
  induction m with
  | zero => intro _; exact Nat.le_refl 0
  | succ m ih =>
    intro H
    have a := ih (fun i hi => H i (by omega))
    have b := H m (by omega)
    show zc_cnt P m + @ite Nat (P m) (Classical.propDecidable _) 1 0 ≤ zc_cnt Q m + @ite Nat (Q m) (Classical.propDecidable _) 1 0
    by_cases z : P m
    · rw [if_pos z, if_pos (b z)]; omega
    · rw [if_neg z]; omega
theorem zc_cnt_up {P : Nat → Prop} {m : Nat} : ∀ k, zc_cnt P m ≤ zc_cnt P (m + k) := by
  intro k
  induction k with
  | zero => exact Nat.le_refl _
  | succ k ih =>
    show _ ≤ zc_cnt P (m + k) + @ite Nat (P (m + k)) (Classical.propDecidable _) 1 0
    omega
abbrev zcx_T : Type := (Nat → Nat) × (Nat → Nat) × Nat
def zcx_E (E : zcx_T) : Prop := (∀ j, j < E.2.2 → E.2.1 j + 1 ≤ E.2.1 (j + 1) ∧ (128 ≤ E.1 j → E.2.1 j + 2 ≤ E.2.1 (j + 1)) ∧ (E.1 j = 156 → E.2.1 j + 4 ≤ E.2.1 (j + 1))) ∧ E.2.2 ≤ 10240 ∧ ∀ j, j ≤ E.2.2 → E.1 j < 1000 ∧ E.2.1 j ≤ 10240
noncomputable def zcx_c (k s : Nat) (h : zs_H) : Nat := zc_cnt (fun i => h.2.1 13 i = nI k) s
def zcx_P (E : zcx_T) (a : Int) (h : zs_H) : Prop := zcx_E E ∧ (h.1 8 3 = nI (E.2.2 + 1) ∧ (∀ j, j ≤ E.2.2 → h.2.1 9 j = nI (E.1 j)) ∧ ∀ j, j ≤ E.2.2 → E.1 j = 7 → ¬ h.2.1 11 j = 0) ∧ ∃ s, h.1 12 6 = nI s ∧ s ≤ 32784 ∧ (¬ h.1 19 3 = 0 ∨ ∃ j, j ≤ E.2.2 ∧ h.1 19 4 = nI j ∧ h.1 19 5 = nI (E.1 j) ∧ 2 * (zcx_c 11 s h : Int) + 4 * (zcx_c 20 s h : Int) + a ≤ (E.2.1 j : Int))
def zcx_1 (E : zcx_T) (a : Int) (o : Option zs_H) : Prop := ∀ h, o = some h → zcx_P E a h
def zcx_2 (E : zcx_T) (a : Int) (o : Option (Int32 × zs_H)) : Prop := ∀ x h, o = some (x, h) → zcx_P E a h
abbrev zcx_k (x : Int32) : Prop := ¬ vp_nar .byte (x.toInt8.toInt32) = nI 11 ∧ ¬ vp_nar .byte (x.toInt8.toInt32) = nI 20
section ZXS
variable {E : zcx_T} {a b : Int}
theorem zcx_1s {h : zs_H} (H : zcx_P E a h) : zcx_1 E a (some h) := fun h' e => by cases e; exact H
theorem zcx_2s {h : zs_H} {x : Int32} (H : zcx_P E a h) : zcx_2 E a (some (x, h)) := fun x' h' e => by cases e; exact H
theorem zcx_1n : zcx_1 E a none := fun h' e => by cases e
theorem zcx_2n : zcx_2 E a none := fun x h' e => by cases e
theorem zcx_1i {c : Prop} [Decidable c] {A B : Option zs_H} (p : c → zcx_1 E a A) (q : ¬ c → zcx_1 E a B) : zcx_1 E a (if c then A else B) := by
  by_cases h : c
  · rw [if_pos h]; exact p h
  · rw [if_neg h]; exact q h
theorem zcx_2i {c : Prop} [Decidable c] {A B : Option (Int32 × zs_H)} (p : c → zcx_2 E a A) (q : ¬ c → zcx_2 E a B) : zcx_2 E a (if c then A else B) := by
  by_cases h : c
  · rw [if_pos h]; exact p h
  · rw [if_neg h]; exact q h
theorem zcx_b2 {A : Option zs_H} {F : zs_H → Option (Int32 × zs_H)} (p : zcx_1 E b A) (q : ∀ h, zcx_P E b h → zcx_2 E a (F h)) : zcx_2 E a (A.bind F) := by
  cases A with
  | none => exact zcx_2n
  | some h => exact q h (p h rfl)
theorem zcx_b1 {A : Option zs_H} {F : zs_H → Option zs_H} (p : zcx_1 E b A) (q : ∀ h, zcx_P E b h → zcx_1 E a (F h)) : zcx_1 E a (A.bind F) := by
  cases A with
  | none => exact zcx_1n
  | some h => exact q h (p h rfl)
theorem zcx_B2 {A : Option (Int32 × zs_H)} {F : Int32 → zs_H → Option (Int32 × zs_H)} (p : zcx_2 E b A) (q : ∀ x h, zcx_P E b h → zcx_2 E a (F x h)) : zcx_2 E a (zd_B A F) := by
  cases A with
  | none => exact zcx_2n
  | some p' => exact q p'.1 p'.2 (p p'.1 p'.2 rfl)
theorem zcx_b2e {A : Option zs_H} {F : zs_H → Option (Int32 × zs_H)} (p : zcx_1 E a A) (q : ∀ h, zcx_P E a h → zcx_2 E a (F h)) : zcx_2 E a (A.bind F) := zcx_b2 p q
theorem zcx_b1e {A : Option zs_H} {F : zs_H → Option zs_H} (p : zcx_1 E a A) (q : ∀ h, zcx_P E a h → zcx_1 E a (F h)) : zcx_1 E a (A.bind F) := zcx_b1 p q
theorem zcx_B2e {A : Option (Int32 × zs_H)} {F : Int32 → zs_H → Option (Int32 × zs_H)} (p : zcx_2 E a A) (q : ∀ x h, zcx_P E a h → zcx_2 E a (F x h)) : zcx_2 E a (zd_B A F) := zcx_B2 p q
theorem zcx_le {h : zs_H} (H : zcx_P E a h) (hb : b ≤ a) : zcx_P E b h := by
  obtain ⟨hE, t, s, s1, s2, alt⟩ := H
  refine ⟨hE, t, s, s1, s2, ?_⟩
  rcases alt with q | ⟨j, j1, j2, j3, j4⟩
  · exact .inl q
  · exact .inr ⟨j, j1, j2, j3, by omega⟩
theorem zcx_2le {o : Option (Int32 × zs_H)} (H : zcx_2 E a o) (hb : b ≤ a) : zcx_2 E b o := fun x h e => zcx_le (H x h e) hb
theorem zcx_big {h : zs_H} (H : zcx_P E a h) (ha : 10240 < a) : zcx_P E b h := by
  obtain ⟨hE, t, s, s1, s2, alt⟩ := H
  refine ⟨hE, t, s, s1, s2, ?_⟩
  rcases alt with q | ⟨j, j1, j2, j3, j4⟩
  · exact .inl q
  · have := (hE.2.2 j j1).2
    omega
theorem zcx_uF {h : zs_H} {k j : Nat} {v : Int32} (hk : ¬ (k, j) ∈ [(8, 3), (12, 6), (19, 3), (19, 4), (19, 5)]) (H : zcx_P E a h) : zcx_P E a (zs_uF h k j v) := by
  have ne : ∀ p : Nat × Nat, p ∈ [(8, 3), (12, 6), (19, 3), (19, 4), (19, 5)] → (zs_uF h k j v).1 p.1 p.2 = h.1 p.1 p.2 := fun p hp => by
    show (if p.1 = k ∧ p.2 = j then v else h.1 p.1 p.2) = _
    rw [if_neg (fun z => hk (by rw [← z.1, ← z.2]; exact hp))]
  obtain ⟨hE, ⟨t1, t2, t3⟩, s, s1, s2, alt⟩ := H
  refine ⟨hE, ⟨(ne (8, 3) (by decide)).trans t1, t2, t3⟩, s, (ne (12, 6) (by decide)).trans s1, s2, ?_⟩
  rcases alt with q | ⟨j', j1, j2, j3, j4⟩
  · exact .inl (fun z => q ((ne (19, 3) (by decide)).symm.trans z))
  · exact .inr ⟨j', j1, (ne (19, 4) (by decide)).trans j2, (ne (19, 5) (by decide)).trans j3, j4⟩
theorem zcx_uM {h : zs_H} {k j : Nat} {v : Int32} (hk : ¬ k ∈ [9, 11, 13]) (H : zcx_P E a h) : zcx_P E a (zs_uM h k j v) := by
  have ne : ∀ m : Nat, m ∈ [9, 11, 13] → (zs_uM h k j v).2.1 m = h.2.1 m := fun m hm => by
    funext i
    show (if m = k ∧ i = j then v else h.2.1 m i) = _
    rw [if_neg (fun z => hk (by rw [← z.1]; exact hm))]
  obtain ⟨hE, ⟨t1, t2, t3⟩, s, s1, s2, alt⟩ := H
  refine ⟨hE, ⟨t1, by rw [ne 9 (by decide)]; exact t2, by rw [ne 11 (by decide)]; exact t3⟩, s, s1, s2, ?_⟩
  unfold zcx_c at alt ⊢
  rw [ne 13 (by decide)]
  exact alt
theorem zcx_uK {h : zs_H} {j : Nat} {v : Int32} (hv : ¬ v = nI 11 ∧ ¬ v = nI 20) (H : zcx_P E a h) : zcx_P E a (zs_uM h 13 j v) := by
  have ne : ∀ m : Nat, m ∈ [9, 11] → (zs_uM h 13 j v).2.1 m = h.2.1 m := fun m hm => by
    funext i
    show (if m = 13 ∧ i = j then v else h.2.1 m i) = _
    rw [if_neg (fun z => by
      have : ∀ m, m ∈ [9, 11] → ¬ m = 13 := by decide
      exact this m hm z.1)]
  obtain ⟨hE, ⟨t1, t2, t3⟩, s, s1, s2, alt⟩ := H
  refine ⟨hE, ⟨t1, by rw [ne 9 (by decide)]; exact t2, by rw [ne 11 (by decide)]; exact t3⟩, s, s1, s2, ?_⟩
  rcases alt with q | ⟨j', j1, j2, j3, j4⟩
  · exact .inl q
  · have key : ∀ k, ¬ v = nI k → zcx_c k s (zs_uM h 13 j v) ≤ zcx_c k s h := fun k hk => zc_cnt_mb s (fun i _ z => by
      have z' : (if 13 = 13 ∧ i = j then v else h.2.1 13 i) = nI k := z
      by_cases q : i = j
      · rw [if_pos ⟨rfl, q⟩] at z'; exact absurd z' hk
      · rw [if_neg (fun w => q w.2)] at z'; exact z')
    have k1 := key 11 hv.1
    have k2 := key 20 hv.2
    exact .inr ⟨j', j1, j2, j3, by omega⟩
theorem zcx_addc {h h' : zs_H} {k s p : Nat} {v : Int32} (hp : p ≤ s) (e : ∀ i, h'.2.1 13 i = if i = p then v else h.2.1 13 i) : zcx_c k (p + 1) h' ≤ zcx_c k s h + (if v = nI k then 1 else 0) := by
  have e1 : zc_cnt (fun i => h'.2.1 13 i = nI k) p ≤ zc_cnt (fun i => h.2.1 13 i = nI k) p := zc_cnt_mb p (fun i hi z => by
    have z' : h'.2.1 13 i = nI k := z
    rw [e, if_neg (by omega)] at z'
    exact z')
  have e2 : zc_cnt (fun i => h.2.1 13 i = nI k) p ≤ zc_cnt (fun i => h.2.1 13 i = nI k) s := by
    have := zc_cnt_up (P := fun i => h.2.1 13 i = nI k) (m := p) (s - p)
    rw [show p + (s - p) = s by omega] at this
    exact this
  have e3 : h'.2.1 13 p = v := by rw [e, if_pos rfl]
  unfold zcx_c
  show zc_cnt (fun i => h'.2.1 13 i = nI k) p + @ite Nat (h'.2.1 13 p = nI k) (Classical.propDecidable _) 1 0 ≤ _
  by_cases z : v = nI k
  · rw [if_pos (e3.trans z), if_pos z]; omega
  · rw [if_neg (fun q => z (e3.symm.trans q)), if_neg z]; omega
theorem zcx_add {h : zs_H} {x1 x2 x3 : Int32} (H : zcx_P E a h) (hb : b + 2 * (if vp_nar .byte (x1.toInt8.toInt32) = nI 11 then 1 else 0) + 4 * (if vp_nar .byte (x1.toInt8.toInt32) = nI 20 then 1 else 0) ≤ a) : zcx_2 E b (f_Tr_add h x1 x2 x3) := by
  intro x h' e
  obtain ⟨hE, ⟨t1, t2, t3⟩, s, s1, s2, alt⟩ := H
  unfold f_Tr_add at e
  rw [s1, zq_min s2, if_pos (zi_in (by omega) (by omega)), nI_clamp (by omega), nI_1] at e
  have key : ∀ k, zcx_c k (min s 32783 + 1) h' ≤ zcx_c k s h + (if vp_nar .byte (x1.toInt8.toInt32) = nI k then 1 else 0) := fun k => zcx_addc (by omega) (fun i => by
    cases e
    by_cases ei : i = min s 32783
    · subst ei; simp [zu_FM, zu_MM]
    · simp [zu_FM, zu_MM, ei])
  have k1 := key 11
  have k2 := key 20
  have le : 2 * (zcx_c 11 (min s 32783 + 1) h' : Int) + 4 * (zcx_c 20 (min s 32783 + 1) h' : Int) + b ≤ 2 * (zcx_c 11 s h : Int) + 4 * (zcx_c 20 s h : Int) + a := by
    by_cases c1 : vp_nar .byte (x1.toInt8.toInt32) = nI 11
    · rw [if_pos c1] at k1 hb
      by_cases c2 : vp_nar .byte (x1.toInt8.toInt32) = nI 20
      · rw [if_pos c2] at k2 hb; omega
      · rw [if_neg c2] at k2 hb; omega
    · rw [if_neg c1] at k1 hb
      by_cases c2 : vp_nar .byte (x1.toInt8.toInt32) = nI 20
      · rw [if_pos c2] at k2 hb; omega
      · rw [if_neg c2] at k2 hb; omega
  refine ⟨hE, ?_, min s 32783 + 1, ?_, by omega, ?_⟩
  · cases e; exact ⟨t1, t2, t3⟩
  · cases e; rfl
  · rcases alt with q | ⟨j, j1, j2, j3, j4⟩
    · left
      cases e; exact q
    · right
      refine ⟨j, j1, ?_, ?_, by omega⟩
      · cases e; exact j2
      · cases e; exact j3
theorem cx_f_Tr_add {h : zs_H} {x1 x2 x3 : Int32} (hk : zcx_k x1) (H : zcx_P E a h) : zcx_2 E a (f_Tr_add h x1 x2 x3) := zcx_add H (by rw [if_neg hk.1, if_neg hk.2]; omega)
theorem zcx_bad {h : zs_H} {v w : Int32} (H : zcx_P E a h) (hv : ¬ v = 0) : zcx_P E b (zs_uF (zs_uF (zs_uF h 19 3 v) 19 0 w) 19 5 0) := by
  obtain ⟨hE, t, s, s1, s2, alt⟩ := H
  exact ⟨hE, t, s, s1, s2, .inl hv⟩
theorem zcx_t74 {h : zs_H} (H : zcx_P E a h) : zcx_1 E b (f_Ps_take_74 h) := by
  obtain ⟨hE, ⟨t1, t2, t3⟩, s, s1, s2, alt⟩ := id H
  unfold f_Ps_take_74 f_Ps_take_108 f_Ps_take_119
  by_cases c1 : h.1 19 3 = 0
  · rw [if_pos c1]
    rcases alt with q | ⟨j, j1, j2, j3, j4⟩
    · exact absurd c1 q
    have hj := hE.2.1
    by_cases c2 : h.1 19 5 = 7
    · rw [if_pos c2, j2]
      have e7 : E.1 j = 7 := by
        have := (hE.2.2 j j1).1
        exact (zc_eq (k := 7) (by decide) (by omega)).mp (j3.symm.trans c2)
      rw [if_pos (zi_in (by omega) (show j < 16385 by omega)), nI_clamp (by omega)]
      exact zcx_1s (zcx_bad H (t3 j j1 e7))
    · rw [if_neg c2]
      exact zcx_1s (zcx_bad H (by decide))
  · rw [if_neg c1]
    refine zcx_1s ⟨hE, ⟨t1, t2, t3⟩, s, s1, s2, .inl c1⟩
theorem zcx_take {h : zs_H} {x : Int32} {w : Int} (H : zcx_P E a h) (hw : ∀ j, j < E.2.2 → nI (E.1 j) = x → (E.2.1 j : Int) + w ≤ (E.2.1 (j + 1) : Int)) : zcx_1 E (a + w) (f_Ps_take h x) := by
  obtain ⟨hE, ⟨t1, t2, t3⟩, s, s1, s2, alt⟩ := id H
  unfold f_Ps_take
  by_cases c1 : h.1 19 3 = 0
  · rw [if_pos c1]
    rcases alt with q | ⟨j, j1, j2, j3, j4⟩
    · exact absurd c1 q
    have hj := hE.2.1
    by_cases c2 : h.1 19 5 = x
    · rw [if_pos c2, t1, j2, nI_1]
      by_cases c3 : j < E.2.2
      · rw [if_neg (mt (nI_leI (by omega) (by omega)).mp (by omega)), if_pos (zi_in (by omega) (show j + 1 < 16385 by omega)), nI_clamp (by omega), t2 (j + 1) (by omega)]
        have := hw j c3 (j3.symm.trans c2)
        refine zcx_1s ⟨hE, ⟨t1, t2, t3⟩, s, s1, s2, .inr ⟨j + 1, by omega, rfl, rfl, ?_⟩⟩
        show 2 * (zcx_c 11 s h : Int) + 4 * (zcx_c 20 s h : Int) + (a + w) ≤ (E.2.1 (j + 1) : Int)
        omega
      · rw [if_pos ((nI_leI (by omega) (by omega)).mpr (by omega))]
        exact zcx_t74 H
    · rw [if_neg c2]; exact zcx_t74 H
  · rw [if_neg c1]; exact zcx_t74 H
theorem cx_take1 {h : zs_H} {x : Int32} (H : zcx_P E a h) : zcx_1 E (a + 1) (f_Ps_take h x) := zcx_take H (fun j hj _ => by have := (H.1.1 j hj).1; omega)
theorem cx_f_Ps_take {h : zs_H} {x : Int32} (H : zcx_P E a h) : zcx_1 E a (f_Ps_take h x) := fun h' e => zcx_le (cx_take1 H h' e) (by omega)
theorem cx_takeK {h : zs_H} {x : Int32} (hx : (128 : Int32) ≤ x) (H : zcx_P E a h) : zcx_1 E (a + 2) (f_Ps_take h x) := zcx_take H (fun j hj e => by
  have l := (H.1.2.2 j (by omega)).1
  have : 128 ≤ E.1 j := (zc_le (k := 128) (by decide) (by omega)).mp (by rw [e]; exact hx)
  have := (H.1.1 j hj).2.1 this
  omega)
theorem cx_takeX {h : zs_H} (H : zcx_P E a h) : zcx_1 E (a + 4) (f_Ps_take h 156) := zcx_take H (fun j hj e => by
  have l := (H.1.2.2 j (by omega)).1
  have : E.1 j = 156 := (zc_eq (k := 156) (by decide) (by omega)).mp e
  have := (H.1.1 j hj).2.2 this
  omega)
theorem cx_f_Ps_deepen {h : zs_H} (H : zcx_P E a h) : zcx_1 E a (f_Ps_deepen h) := by
  unfold f_Ps_deepen f_Ps_deepen_35
  refine zcx_1i (fun _ => zcx_1s (zcx_uF (by decide) H)) (fun _ => zcx_1i (fun _ => ?_) (fun _ => zcx_1s (zcx_uF (by decide) H)))
  exact zcx_1s (zcx_uF (by decide) (zcx_bad H (by decide)))
end ZXS

theorem cx_f_Ps_simpleType_61 {E : zcx_T} {a : Int} {h : zs_H} {x1 : Int32} {y0 : Int32}  (H : zcx_P E a h) : zcx_2 E a (f_Ps_simpleType_61 h x1 y0) := by
  unfold f_Ps_simpleType_61
  repeat' first
    | assumption
    | (with_reducible refine zcx_uF ?_ ?_; · decide)
    | (with_reducible refine zcx_uM ?_ ?_; · decide)
    | (with_reducible refine zcx_uK ?_ ?_; · decide)
    | with_reducible exact zcx_2n
    | with_reducible refine zcx_2s ?_
    | with_reducible refine zcx_2i ?_ ?_
    | with_reducible refine cx_f_Ps_take  ?_
    | with_reducible refine zcx_b2e (cx_f_Ps_take  ?_) ?_
    | intro _
    | decide
theorem cx_f_Ps_simpleType_47 {E : zcx_T} {a : Int} {h : zs_H} {x1 : Int32} {y0 : Int32}  (H : zcx_P E a h) : zcx_2 E a (f_Ps_simpleType_47 h x1 y0) := by
  unfold f_Ps_simpleType_47
  repeat' first
    | assumption
    | (with_reducible refine zcx_uF ?_ ?_; · decide)
    | (with_reducible refine zcx_uM ?_ ?_; · decide)
    | (with_reducible refine zcx_uK ?_ ?_; · decide)
    | with_reducible exact zcx_2n
    | with_reducible refine zcx_2s ?_
    | with_reducible refine zcx_2i ?_ ?_
    | with_reducible refine cx_f_Ps_simpleType_61  ?_
    | with_reducible refine zcx_B2e (cx_f_Ps_simpleType_61  ?_) ?_
    | intro _
    | decide
theorem cx_f_Ps_simpleType_46 {E : zcx_T} {a : Int} {h : zs_H} {x1 : Int32}  (H : zcx_P E a h) : zcx_2 E a (f_Ps_simpleType_46 h x1) := by
  unfold f_Ps_simpleType_46
  repeat' first
    | assumption
    | (with_reducible refine zcx_uF ?_ ?_; · decide)
    | (with_reducible refine zcx_uM ?_ ?_; · decide)
    | (with_reducible refine zcx_uK ?_ ?_; · decide)
    | with_reducible exact zcx_2n
    | with_reducible refine zcx_2s ?_
    | with_reducible refine zcx_2i ?_ ?_
    | with_reducible refine cx_f_Ps_simpleType_47  ?_
    | with_reducible refine zcx_B2e (cx_f_Ps_simpleType_47  ?_) ?_
    | intro _
    | decide
theorem cx_f_Ps_simpleType {E : zcx_T} {a : Int} {h : zs_H}  (H : zcx_P E a h) : zcx_2 E a (f_Ps_simpleType h) := by
  unfold f_Ps_simpleType
  repeat' first
    | assumption
    | (with_reducible refine zcx_uF ?_ ?_; · decide)
    | (with_reducible refine zcx_uM ?_ ?_; · decide)
    | (with_reducible refine zcx_uK ?_ ?_; · decide)
    | with_reducible exact zcx_2n
    | with_reducible refine zcx_2s ?_
    | with_reducible refine zcx_2i ?_ ?_
    | with_reducible refine cx_f_Tr_add ?_ ?_
    | with_reducible refine zcx_B2e (cx_f_Tr_add ?_ ?_) ?_
    | with_reducible refine cx_f_Ps_simpleType_46  ?_
    | with_reducible refine zcx_B2e (cx_f_Ps_simpleType_46  ?_) ?_
    | with_reducible refine cx_f_Ps_simpleType_47  ?_
    | with_reducible refine zcx_B2e (cx_f_Ps_simpleType_47  ?_) ?_
    | intro _
    | decide
theorem cx_f_Tr_hang {E : zcx_T} {a : Int} {h : zs_H} {x1 : Int32} {x2 : Int32} {x3 : Int32}  (H : zcx_P E a h) : zcx_2 E a (f_Tr_hang h x1 x2 x3) := by
  unfold f_Tr_hang
  repeat' first
    | assumption
    | (with_reducible refine zcx_uF ?_ ?_; · decide)
    | (with_reducible refine zcx_uM ?_ ?_; · decide)
    | (with_reducible refine zcx_uK ?_ ?_; · decide)
    | with_reducible exact zcx_2n
    | with_reducible refine zcx_2s ?_
    | with_reducible refine zcx_2i ?_ ?_
    | intro _
    | decide
theorem cx_f_Ps_constant_45 {E : zcx_T} {a : Int} {h : zs_H} {y0 : Int32} {y1 : Int32} {y2 : Int32} (Hk : zcx_k y2)  (H : zcx_P E a h) : zcx_2 E a (f_Ps_constant_45 h y0 y1 y2) := by
  unfold f_Ps_constant_45
  repeat' first
    | assumption
    | (with_reducible refine zcx_uF ?_ ?_; · decide)
    | (with_reducible refine zcx_uM ?_ ?_; · decide)
    | (with_reducible refine zcx_uK ?_ ?_; · decide)
    | with_reducible exact zcx_2n
    | with_reducible refine zcx_2s ?_
    | with_reducible refine zcx_2i ?_ ?_
    | with_reducible refine cx_f_Tr_add ?_ ?_
    | with_reducible refine zcx_B2e (cx_f_Tr_add ?_ ?_) ?_
    | with_reducible refine cx_f_Ps_take  ?_
    | with_reducible refine zcx_b2e (cx_f_Ps_take  ?_) ?_
    | intro _
    | decide
theorem cx_f_Ps_constant_20 {E : zcx_T} {a : Int} {h : zs_H}  (H : zcx_P E a h) : zcx_2 E a (f_Ps_constant_20 h) := by
  unfold f_Ps_constant_20
  repeat' first
    | assumption
    | (with_reducible refine zcx_uF ?_ ?_; · decide)
    | (with_reducible refine zcx_uM ?_ ?_; · decide)
    | (with_reducible refine zcx_uK ?_ ?_; · decide)
    | with_reducible exact zcx_2n
    | with_reducible refine zcx_2s ?_
    | with_reducible refine zcx_2i ?_ ?_
    | with_reducible refine cx_f_Ps_constant_45 ?_ ?_
    | with_reducible refine zcx_B2e (cx_f_Ps_constant_45 ?_ ?_) ?_
    | intro _
    | decide
theorem cx_f_Ps_constant_139 {E : zcx_T} {a : Int} {h : zs_H} {x1 : Int32} {y0 : Int32} {y1 : Int32}  (H : zcx_P E a h) : zcx_2 E a (f_Ps_constant_139 h x1 y0 y1) := by
  unfold f_Ps_constant_139
  repeat' first
    | assumption
    | (with_reducible refine zcx_uF ?_ ?_; · decide)
    | (with_reducible refine zcx_uM ?_ ?_; · decide)
    | (with_reducible refine zcx_uK ?_ ?_; · decide)
    | with_reducible exact zcx_2n
    | with_reducible refine zcx_2s ?_
    | with_reducible refine zcx_2i ?_ ?_
    | with_reducible refine cx_f_Ps_take  ?_
    | with_reducible refine zcx_b2e (cx_f_Ps_take  ?_) ?_
    | intro _
    | decide
theorem cx_f_Ps_constant_99 {E : zcx_T} {a : Int} {h : zs_H} {x1 : Int32} {x2 : Int32}  (H : zcx_P E a h) : zcx_2 E a (f_Ps_constant_99 h x1 x2) := by
  unfold f_Ps_constant_99
  repeat' first
    | assumption
    | (with_reducible refine zcx_uF ?_ ?_; · decide)
    | (with_reducible refine zcx_uM ?_ ?_; · decide)
    | (with_reducible refine zcx_uK ?_ ?_; · decide)
    | with_reducible exact zcx_2n
    | with_reducible refine zcx_2s ?_
    | with_reducible refine zcx_2i ?_ ?_
    | with_reducible refine cx_f_Ps_constant_139  ?_
    | with_reducible refine zcx_B2e (cx_f_Ps_constant_139  ?_) ?_
    | intro _
    | decide
theorem cx_f_Ps_constant_88 {E : zcx_T} {a : Int} {h : zs_H} {x1 : Int32} {y0 : Int32}  (H : zcx_P E a h) : zcx_2 E a (f_Ps_constant_88 h x1 y0) := by
  unfold f_Ps_constant_88
  repeat' first
    | assumption
    | (with_reducible refine zcx_uF ?_ ?_; · decide)
    | (with_reducible refine zcx_uM ?_ ?_; · decide)
    | (with_reducible refine zcx_uK ?_ ?_; · decide)
    | with_reducible exact zcx_2n
    | with_reducible refine zcx_2s ?_
    | with_reducible refine zcx_2i ?_ ?_
    | with_reducible refine cx_f_Ps_constant_99  ?_
    | with_reducible refine zcx_B2e (cx_f_Ps_constant_99  ?_) ?_
    | with_reducible refine cx_f_Ps_take  ?_
    | with_reducible refine zcx_b2e (cx_f_Ps_take  ?_) ?_
    | intro _
    | decide
theorem cx_f_Ps_constant {E : zcx_T} {a : Int} {h : zs_H}  (H : zcx_P E a h) : zcx_2 E a (f_Ps_constant h) := by
  unfold f_Ps_constant
  repeat' first
    | assumption
    | (with_reducible refine zcx_uF ?_ ?_; · decide)
    | (with_reducible refine zcx_uM ?_ ?_; · decide)
    | (with_reducible refine zcx_uK ?_ ?_; · decide)
    | with_reducible exact zcx_2n
    | with_reducible refine zcx_2s ?_
    | with_reducible refine zcx_2i ?_ ?_
    | with_reducible refine cx_f_Ps_constant_20  ?_
    | with_reducible refine zcx_B2e (cx_f_Ps_constant_20  ?_) ?_
    | with_reducible refine cx_f_Tr_add ?_ ?_
    | with_reducible refine zcx_B2e (cx_f_Tr_add ?_ ?_) ?_
    | with_reducible refine cx_f_Ps_constant_88  ?_
    | with_reducible refine zcx_B2e (cx_f_Ps_constant_88  ?_) ?_
    | intro _
    | decide
section ZXC
variable {E : zcx_T} {a : Int} {h : zs_H}
theorem cxp_45 {y0 y1 y2 : Int32} (hk : zcx_k y2) (H : zcx_P E a h) : zcx_2 E (a + 1) (f_Ps_constant_45 h y0 y1 y2) := by
  unfold f_Ps_constant_45
  refine zcx_B2 (cx_f_Tr_add hk H) ?_
  intro x h' H'
  refine zcx_b2 (cx_take1 H') ?_
  intro h2 H2
  exact zcx_2s H2
theorem cxp_139 {x1 y0 y1 : Int32} (H : zcx_P E a h) : zcx_2 E (a + 1) (f_Ps_constant_139 h x1 y0 y1) := by
  unfold f_Ps_constant_139
  refine zcx_2i (fun _ => ?_) (fun _ => zcx_2n)
  refine zcx_b2 (cx_take1 (zcx_uM (by decide) H)) ?_
  intro h2 H2
  exact zcx_2s H2
theorem cxp_99 {x1 x2 : Int32} (H : zcx_P E a h) : zcx_2 E (a + 1) (f_Ps_constant_99 h x1 x2) := by
  unfold f_Ps_constant_99
  exact zcx_2i (fun _ => zcx_2i (fun _ => cxp_139 H) (fun _ => zcx_2n)) (fun _ => zcx_2i (fun _ => cxp_139 H) (fun _ => zcx_2n))
theorem cxp_constant (H : zcx_P E a h) : zcx_2 E (a + 1) (f_Ps_constant h) := by
  have c20 : zcx_2 E (a + 1) (f_Ps_constant_20 h) := by
    unfold f_Ps_constant_20
    exact zcx_2i (fun _ => cxp_45 (by decide) H) (fun _ => cxp_45 (by decide) H)
  unfold f_Ps_constant
  refine zcx_2i (fun _ => c20) (fun _ => zcx_2i (fun _ => c20) (fun _ => ?_))
  refine zcx_B2 (cx_f_Tr_add (by decide) H) ?_
  intro v4 h5 H5
  have c88 : ∀ y0, zcx_2 E (a + 1) (f_Ps_constant_88 h5 v4 y0) := fun y0 => by
    unfold f_Ps_constant_88
    refine zcx_2i (fun _ => cxp_99 H5) (fun _ => ?_)
    refine zcx_b2 (cx_f_Ps_take H5) ?_
    intro h3 H3
    exact cxp_99 H3
  exact zcx_2i (fun _ => c88 _) (fun _ => c88 _)
end ZXC
theorem cx_f_Ps_type {E : zcx_T} {a : Int} {h : zs_H}  (H : zcx_P E a h) : zcx_2 E a (f_Ps_type h) := by
  unfold f_Ps_type
  repeat' first
    | assumption
    | (with_reducible refine zcx_uF ?_ ?_; · decide)
    | (with_reducible refine zcx_uM ?_ ?_; · decide)
    | (with_reducible refine zcx_uK ?_ ?_; · decide)
    | with_reducible exact zcx_2n
    | with_reducible refine zcx_2s ?_
    | with_reducible refine zcx_2i ?_ ?_
    | with_reducible refine cx_f_Tr_add ?_ ?_
    | with_reducible refine zcx_B2e (cx_f_Tr_add ?_ ?_) ?_
    | with_reducible refine cx_f_Ps_take  ?_
    | with_reducible refine zcx_b2e (cx_f_Ps_take  ?_) ?_
    | with_reducible refine cx_f_Ps_constant  ?_
    | with_reducible refine zcx_B2e (cx_f_Ps_constant  ?_) ?_
    | with_reducible refine cx_f_Tr_hang  ?_
    | with_reducible refine zcx_B2e (cx_f_Tr_hang  ?_) ?_
    | with_reducible refine cx_f_Ps_simpleType  ?_
    | with_reducible refine zcx_B2e (cx_f_Ps_simpleType  ?_) ?_
    | intro _
    | decide
theorem cx_f_Ps_declaration_231 {E : zcx_T} {a : Int} {h : zs_H} {x1 : Int32}  (H : zcx_P E a h) : zcx_2 E a (f_Ps_declaration_231 h x1) := by
  unfold f_Ps_declaration_231
  repeat' first
    | assumption
    | (with_reducible refine zcx_uF ?_ ?_; · decide)
    | (with_reducible refine zcx_uM ?_ ?_; · decide)
    | (with_reducible refine zcx_uK ?_ ?_; · decide)
    | with_reducible exact zcx_2n
    | with_reducible refine zcx_2s ?_
    | with_reducible refine zcx_2i ?_ ?_
    | with_reducible refine cx_f_Ps_take  ?_
    | with_reducible refine zcx_b2e (cx_f_Ps_take  ?_) ?_
    | intro _
    | decide
theorem cx_f_Ps_declaration_184 {E : zcx_T} {a : Int} {h : zs_H} {x1 : Int32} {x2 : Int32}  (H : zcx_P E a h) : zcx_2 E a (f_Ps_declaration_184 h x1 x2) := by
  unfold f_Ps_declaration_184
  repeat' first
    | assumption
    | (with_reducible refine zcx_uF ?_ ?_; · decide)
    | (with_reducible refine zcx_uM ?_ ?_; · decide)
    | (with_reducible refine zcx_uK ?_ ?_; · decide)
    | with_reducible exact zcx_2n
    | with_reducible refine zcx_2s ?_
    | with_reducible refine zcx_2i ?_ ?_
    | with_reducible refine cx_f_Ps_take  ?_
    | with_reducible refine zcx_b2e (cx_f_Ps_take  ?_) ?_
    | with_reducible refine cx_f_Ps_type  ?_
    | with_reducible refine zcx_B2e (cx_f_Ps_type  ?_) ?_
    | with_reducible refine cx_f_Tr_hang  ?_
    | with_reducible refine zcx_B2e (cx_f_Tr_hang  ?_) ?_
    | with_reducible refine cx_f_Ps_constant  ?_
    | with_reducible refine zcx_B2e (cx_f_Ps_constant  ?_) ?_
    | with_reducible refine cx_f_Ps_declaration_231  ?_
    | with_reducible refine zcx_B2e (cx_f_Ps_declaration_231  ?_) ?_
    | intro _
    | decide
theorem cx_f_Ps_declaration_126 {E : zcx_T} {a : Int} {h : zs_H} {x1 : Int32} {x2 : Int32}  (H : zcx_P E a h) : zcx_2 E a (f_Ps_declaration_126 h x1 x2) := by
  unfold f_Ps_declaration_126
  repeat' first
    | assumption
    | (with_reducible refine zcx_uF ?_ ?_; · decide)
    | (with_reducible refine zcx_uM ?_ ?_; · decide)
    | (with_reducible refine zcx_uK ?_ ?_; · decide)
    | with_reducible exact zcx_2n
    | with_reducible refine zcx_2s ?_
    | with_reducible refine zcx_2i ?_ ?_
    | with_reducible refine cx_f_Ps_take  ?_
    | with_reducible refine zcx_b2e (cx_f_Ps_take  ?_) ?_
    | with_reducible refine cx_f_Tr_add ?_ ?_
    | with_reducible refine zcx_B2e (cx_f_Tr_add ?_ ?_) ?_
    | with_reducible refine cx_f_Tr_hang  ?_
    | with_reducible refine zcx_B2e (cx_f_Tr_hang  ?_) ?_
    | with_reducible refine cx_f_Ps_declaration_184  ?_
    | with_reducible refine zcx_B2e (cx_f_Ps_declaration_184  ?_) ?_
    | intro _
    | decide
theorem cx_f_Ps_declaration_57 {E : zcx_T} {a : Int} {k57 : zs_H → Int32 → Int32 → Int32 → (Option (Int32 × zs_H))} {h : zs_H} {x1 : Int32} {x2 : Int32} {x3 : Int32} (H_k57 : ∀ z0 z1 z2 z3, zcx_P E a z0 → zcx_2 E a (k57 z0 z1 z2 z3)) (H : zcx_P E a h) : zcx_2 E a (f_Ps_declaration_57 k57 h x1 x2 x3) := by
  unfold f_Ps_declaration_57
  repeat' first
    | assumption
    | (with_reducible refine zcx_uF ?_ ?_; · decide)
    | (with_reducible refine zcx_uM ?_ ?_; · decide)
    | (with_reducible refine zcx_uK ?_ ?_; · decide)
    | with_reducible exact zcx_2n
    | with_reducible refine zcx_2s ?_
    | with_reducible refine zcx_2i ?_ ?_
    | with_reducible refine cx_f_Ps_declaration_126  ?_
    | with_reducible refine zcx_B2e (cx_f_Ps_declaration_126  ?_) ?_
    | with_reducible refine cx_f_Ps_take  ?_
    | with_reducible refine zcx_b2e (cx_f_Ps_take  ?_) ?_
    | with_reducible refine cx_f_Tr_add ?_ ?_
    | with_reducible refine zcx_B2e (cx_f_Tr_add ?_ ?_) ?_
    | with_reducible refine cx_f_Tr_hang  ?_
    | with_reducible refine zcx_B2e (cx_f_Tr_hang  ?_) ?_
    | with_reducible exact H_k57
    | with_reducible refine H_k57 _ _ _ _ ?_
    | with_reducible refine zcx_B2e (H_k57 _ _ _ _ ?_) ?_
    | intro _
    | decide
theorem cx_f_Ps_declaration_L57 {E : zcx_T} {a : Int}   : ∀ (N : Nat) (h : zs_H) (x1 : Int32) (x2 : Int32) (x3 : Int32), zcx_P E a h → zcx_2 E a (f_Ps_declaration_L57  N h x1 x2 x3) := by
  intro N
  induction N with
  | zero => intro h x1 x2 x3 _; exact zcx_2n
  | succ N ih =>
    intro h x1 x2 x3 H
    exact cx_f_Ps_declaration_57  (fun b0 b1 b2 b3 z => ih b0 b1 b2 b3 z) H
theorem cx_f_Ps_declaration_L57' {E : zcx_T} {a : Int}   {N : Nat} {h : zs_H} {x1 : Int32} {x2 : Int32} {x3 : Int32} (H : zcx_P E a h) : zcx_2 E a (f_Ps_declaration_L57  N h x1 x2 x3) := cx_f_Ps_declaration_L57  N h x1 x2 x3 H
theorem cx_f_Ps_declaration {E : zcx_T} {a : Int} {h : zs_H}  (H : zcx_P E a h) : zcx_2 E a (f_Ps_declaration h) := by
  unfold f_Ps_declaration
  repeat' first
    | assumption
    | (with_reducible refine zcx_uF ?_ ?_; · decide)
    | (with_reducible refine zcx_uM ?_ ?_; · decide)
    | (with_reducible refine zcx_uK ?_ ?_; · decide)
    | with_reducible exact zcx_2n
    | with_reducible refine zcx_2s ?_
    | with_reducible refine zcx_2i ?_ ?_
    | with_reducible refine cx_f_Tr_add ?_ ?_
    | with_reducible refine zcx_B2e (cx_f_Tr_add ?_ ?_) ?_
    | with_reducible refine cx_f_Tr_hang  ?_
    | with_reducible refine zcx_B2e (cx_f_Tr_hang  ?_) ?_
    | with_reducible refine cx_f_Ps_take  ?_
    | with_reducible refine zcx_b2e (cx_f_Ps_take  ?_) ?_
    | with_reducible refine cx_f_Ps_declaration_L57'  ?_
    | with_reducible refine zcx_B2e (cx_f_Ps_declaration_L57'  ?_) ?_
    | intro _
    | decide
theorem cx_f_Ps_section_69 {E : zcx_T} {a : Int} {h : zs_H} {x1 : Int32}  (H : zcx_P E a h) : zcx_2 E a (f_Ps_section_69 h x1) := by
  unfold f_Ps_section_69
  repeat' first
    | assumption
    | (with_reducible refine zcx_uF ?_ ?_; · decide)
    | (with_reducible refine zcx_uM ?_ ?_; · decide)
    | (with_reducible refine zcx_uK ?_ ?_; · decide)
    | with_reducible exact zcx_2n
    | with_reducible refine zcx_2s ?_
    | with_reducible refine zcx_2i ?_ ?_
    | with_reducible refine cx_f_Ps_take  ?_
    | with_reducible refine zcx_b2e (cx_f_Ps_take  ?_) ?_
    | intro _
    | decide
theorem cx_f_Ps_section_33 {E : zcx_T} {a : Int} {k33 : zs_H → Int32 → Int32 → Int32 → (Option (Int32 × zs_H))} {h : zs_H} {x1 : Int32} {x2 : Int32} {x3 : Int32} (H_k33 : ∀ z0 z1 z2 z3, zcx_P E a z0 → zcx_2 E a (k33 z0 z1 z2 z3)) (H : zcx_P E a h) : zcx_2 E a (f_Ps_section_33 k33 h x1 x2 x3) := by
  unfold f_Ps_section_33
  repeat' first
    | assumption
    | (with_reducible refine zcx_uF ?_ ?_; · decide)
    | (with_reducible refine zcx_uM ?_ ?_; · decide)
    | (with_reducible refine zcx_uK ?_ ?_; · decide)
    | with_reducible exact zcx_2n
    | with_reducible refine zcx_2s ?_
    | with_reducible refine zcx_2i ?_ ?_
    | with_reducible refine cx_f_Ps_section_69  ?_
    | with_reducible refine zcx_B2e (cx_f_Ps_section_69  ?_) ?_
    | with_reducible refine cx_f_Ps_declaration  ?_
    | with_reducible refine zcx_B2e (cx_f_Ps_declaration  ?_) ?_
    | with_reducible refine cx_f_Tr_hang  ?_
    | with_reducible refine zcx_B2e (cx_f_Tr_hang  ?_) ?_
    | with_reducible exact H_k33
    | with_reducible refine H_k33 _ _ _ _ ?_
    | with_reducible refine zcx_B2e (H_k33 _ _ _ _ ?_) ?_
    | intro _
    | decide
theorem cx_f_Ps_section_L33 {E : zcx_T} {a : Int}   : ∀ (N : Nat) (h : zs_H) (x1 : Int32) (x2 : Int32) (x3 : Int32), zcx_P E a h → zcx_2 E a (f_Ps_section_L33  N h x1 x2 x3) := by
  intro N
  induction N with
  | zero => intro h x1 x2 x3 _; exact zcx_2n
  | succ N ih =>
    intro h x1 x2 x3 H
    exact cx_f_Ps_section_33  (fun b0 b1 b2 b3 z => ih b0 b1 b2 b3 z) H
theorem cx_f_Ps_section_L33' {E : zcx_T} {a : Int}   {N : Nat} {h : zs_H} {x1 : Int32} {x2 : Int32} {x3 : Int32} (H : zcx_P E a h) : zcx_2 E a (f_Ps_section_L33  N h x1 x2 x3) := cx_f_Ps_section_L33  N h x1 x2 x3 H
theorem cx_f_Ps_section {E : zcx_T} {a : Int} {h : zs_H}  (H : zcx_P E a h) : zcx_2 E a (f_Ps_section h) := by
  unfold f_Ps_section
  repeat' first
    | assumption
    | (with_reducible refine zcx_uF ?_ ?_; · decide)
    | (with_reducible refine zcx_uM ?_ ?_; · decide)
    | (with_reducible refine zcx_uK ?_ ?_; · decide)
    | with_reducible exact zcx_2n
    | with_reducible refine zcx_2s ?_
    | with_reducible refine zcx_2i ?_ ?_
    | with_reducible refine cx_f_Tr_add ?_ ?_
    | with_reducible refine zcx_B2e (cx_f_Tr_add ?_ ?_) ?_
    | with_reducible refine cx_f_Ps_take  ?_
    | with_reducible refine zcx_b2e (cx_f_Ps_take  ?_) ?_
    | with_reducible refine cx_f_Ps_section_L33'  ?_
    | with_reducible refine zcx_B2e (cx_f_Ps_section_L33'  ?_) ?_
    | intro _
    | decide
theorem cx_f_Ps_coil_92 {E : zcx_T} {a : Int} {h : zs_H} {x1 : Int32}  (H : zcx_P E a h) : zcx_2 E a (f_Ps_coil_92 h x1) := by
  unfold f_Ps_coil_92
  repeat' first
    | assumption
    | (with_reducible refine zcx_uF ?_ ?_; · decide)
    | (with_reducible refine zcx_uM ?_ ?_; · decide)
    | (with_reducible refine zcx_uK ?_ ?_; · decide)
    | with_reducible exact zcx_2n
    | with_reducible refine zcx_2s ?_
    | with_reducible refine zcx_2i ?_ ?_
    | with_reducible refine cx_f_Tr_add ?_ ?_
    | with_reducible refine zcx_B2e (cx_f_Tr_add ?_ ?_) ?_
    | with_reducible refine cx_f_Tr_hang  ?_
    | with_reducible refine zcx_B2e (cx_f_Tr_hang  ?_) ?_
    | with_reducible refine cx_f_Ps_take  ?_
    | with_reducible refine zcx_b2e (cx_f_Ps_take  ?_) ?_
    | intro _
    | decide
theorem cx_f_Ps_coil_83 {E : zcx_T} {a : Int} {h : zs_H} {x1 : Int32} {y0 : Int32} {y1 : Int32}  (H : zcx_P E a h) : zcx_2 E a (f_Ps_coil_83 h x1 y0 y1) := by
  unfold f_Ps_coil_83
  repeat' first
    | assumption
    | (with_reducible refine zcx_uF ?_ ?_; · decide)
    | (with_reducible refine zcx_uM ?_ ?_; · decide)
    | (with_reducible refine zcx_uK ?_ ?_; · decide)
    | with_reducible exact zcx_2n
    | with_reducible refine zcx_2s ?_
    | with_reducible refine zcx_2i ?_ ?_
    | with_reducible refine cx_f_Ps_take  ?_
    | with_reducible refine zcx_b2e (cx_f_Ps_take  ?_) ?_
    | with_reducible refine cx_f_Ps_coil_92  ?_
    | with_reducible refine zcx_B2e (cx_f_Ps_coil_92  ?_) ?_
    | intro _
    | decide
theorem cx_f_Ps_coil_48 {E : zcx_T} {a : Int} {h : zs_H} {x1 : Int32}  (H : zcx_P E a h) : zcx_2 E a (f_Ps_coil_48 h x1) := by
  unfold f_Ps_coil_48
  repeat' first
    | assumption
    | (with_reducible refine zcx_uF ?_ ?_; · decide)
    | (with_reducible refine zcx_uM ?_ ?_; · decide)
    | (with_reducible refine zcx_uK ?_ ?_; · decide)
    | with_reducible exact zcx_2n
    | with_reducible refine zcx_2s ?_
    | with_reducible refine zcx_2i ?_ ?_
    | with_reducible refine cx_f_Ps_coil_83  ?_
    | with_reducible refine zcx_B2e (cx_f_Ps_coil_83  ?_) ?_
    | intro _
    | decide
theorem cx_f_Ps_coil {E : zcx_T} {a : Int} {h : zs_H}  (H : zcx_P E a h) : zcx_2 E a (f_Ps_coil h) := by
  unfold f_Ps_coil
  repeat' first
    | assumption
    | (with_reducible refine zcx_uF ?_ ?_; · decide)
    | (with_reducible refine zcx_uM ?_ ?_; · decide)
    | (with_reducible refine zcx_uK ?_ ?_; · decide)
    | with_reducible exact zcx_2n
    | with_reducible refine zcx_2s ?_
    | with_reducible refine zcx_2i ?_ ?_
    | with_reducible refine cx_f_Tr_add ?_ ?_
    | with_reducible refine zcx_B2e (cx_f_Tr_add ?_ ?_) ?_
    | with_reducible refine cx_f_Ps_take  ?_
    | with_reducible refine zcx_b2e (cx_f_Ps_take  ?_) ?_
    | with_reducible refine cx_f_Ps_coil_48  ?_
    | with_reducible refine zcx_B2e (cx_f_Ps_coil_48  ?_) ?_
    | with_reducible refine cx_f_Ps_coil_92  ?_
    | with_reducible refine zcx_B2e (cx_f_Ps_coil_92  ?_) ?_
    | intro _
    | decide
theorem cx_f_Ps_ladderCell_52 {E : zcx_T} {a : Int} {h : zs_H} {y0 : Int32} (Hk : zcx_k y0)  (H : zcx_P E a h) : zcx_2 E a (f_Ps_ladderCell_52 h y0) := by
  unfold f_Ps_ladderCell_52
  repeat' first
    | assumption
    | (with_reducible refine zcx_uF ?_ ?_; · decide)
    | (with_reducible refine zcx_uM ?_ ?_; · decide)
    | (with_reducible refine zcx_uK ?_ ?_; · decide)
    | with_reducible exact zcx_2n
    | with_reducible refine zcx_2s ?_
    | with_reducible refine zcx_2i ?_ ?_
    | with_reducible refine cx_f_Tr_add ?_ ?_
    | with_reducible refine zcx_B2e (cx_f_Tr_add ?_ ?_) ?_
    | with_reducible refine cx_f_Ps_take  ?_
    | with_reducible refine zcx_b2e (cx_f_Ps_take  ?_) ?_
    | intro _
    | decide
theorem cx_f_Ps_ladderCell_32 {E : zcx_T} {a : Int} {h : zs_H}  (H : zcx_P E a h) : zcx_2 E a (f_Ps_ladderCell_32 h) := by
  unfold f_Ps_ladderCell_32
  repeat' first
    | assumption
    | (with_reducible refine zcx_uF ?_ ?_; · decide)
    | (with_reducible refine zcx_uM ?_ ?_; · decide)
    | (with_reducible refine zcx_uK ?_ ?_; · decide)
    | with_reducible exact zcx_2n
    | with_reducible refine zcx_2s ?_
    | with_reducible refine zcx_2i ?_ ?_
    | with_reducible refine cx_f_Ps_ladderCell_52 ?_ ?_
    | with_reducible refine zcx_B2e (cx_f_Ps_ladderCell_52 ?_ ?_) ?_
    | intro _
    | decide
theorem cx_f_Ps_ladderCell_153 {E : zcx_T} {a : Int} {h : zs_H} {x1 : Int32}  (H : zcx_P E a h) : zcx_2 E a (f_Ps_ladderCell_153 h x1) := by
  unfold f_Ps_ladderCell_153
  repeat' first
    | assumption
    | (with_reducible refine zcx_uF ?_ ?_; · decide)
    | (with_reducible refine zcx_uM ?_ ?_; · decide)
    | (with_reducible refine zcx_uK ?_ ?_; · decide)
    | with_reducible exact zcx_2n
    | with_reducible refine zcx_2s ?_
    | with_reducible refine zcx_2i ?_ ?_
    | with_reducible refine cx_f_Tr_add ?_ ?_
    | with_reducible refine zcx_B2e (cx_f_Tr_add ?_ ?_) ?_
    | with_reducible refine cx_f_Ps_take  ?_
    | with_reducible refine zcx_b2e (cx_f_Ps_take  ?_) ?_
    | with_reducible refine cx_f_Tr_hang  ?_
    | with_reducible refine zcx_B2e (cx_f_Tr_hang  ?_) ?_
    | intro _
    | decide
theorem cx_f_Ps_ladderCell_150 {E : zcx_T} {a : Int} {h : zs_H} {x1 : Int32} {y0 : Int32}  (H : zcx_P E a h) : zcx_2 E a (f_Ps_ladderCell_150 h x1 y0) := by
  unfold f_Ps_ladderCell_150
  repeat' first
    | assumption
    | (with_reducible refine zcx_uF ?_ ?_; · decide)
    | (with_reducible refine zcx_uM ?_ ?_; · decide)
    | (with_reducible refine zcx_uK ?_ ?_; · decide)
    | with_reducible exact zcx_2n
    | with_reducible refine zcx_2s ?_
    | with_reducible refine zcx_2i ?_ ?_
    | with_reducible refine cx_f_Ps_take  ?_
    | with_reducible refine zcx_b2e (cx_f_Ps_take  ?_) ?_
    | with_reducible refine cx_f_Ps_ladderCell_153  ?_
    | with_reducible refine zcx_B2e (cx_f_Ps_ladderCell_153  ?_) ?_
    | intro _
    | decide
theorem cx_f_Ps_ladderCell_121 {E : zcx_T} {a : Int} {h : zs_H} {y0 : Int32} {y1 : Int32} {y2 : Int32} (Hk : zcx_k y2)  (H : zcx_P E a h) : zcx_2 E a (f_Ps_ladderCell_121 h y0 y1 y2) := by
  unfold f_Ps_ladderCell_121
  repeat' first
    | assumption
    | (with_reducible refine zcx_uF ?_ ?_; · decide)
    | (with_reducible refine zcx_uM ?_ ?_; · decide)
    | (with_reducible refine zcx_uK ?_ ?_; · decide)
    | with_reducible exact zcx_2n
    | with_reducible refine zcx_2s ?_
    | with_reducible refine zcx_2i ?_ ?_
    | with_reducible refine cx_f_Tr_add ?_ ?_
    | with_reducible refine zcx_B2e (cx_f_Tr_add ?_ ?_) ?_
    | with_reducible refine cx_f_Ps_ladderCell_153  ?_
    | with_reducible refine zcx_B2e (cx_f_Ps_ladderCell_153  ?_) ?_
    | with_reducible refine cx_f_Ps_ladderCell_150  ?_
    | with_reducible refine zcx_B2e (cx_f_Ps_ladderCell_150  ?_) ?_
    | intro _
    | decide
theorem cx_f_Ps_ladderCell {E : zcx_T} {a : Int} {h : zs_H}  (H : zcx_P E a h) : zcx_2 E a (f_Ps_ladderCell h) := by
  unfold f_Ps_ladderCell
  repeat' first
    | assumption
    | (with_reducible refine zcx_uF ?_ ?_; · decide)
    | (with_reducible refine zcx_uM ?_ ?_; · decide)
    | (with_reducible refine zcx_uK ?_ ?_; · decide)
    | with_reducible exact zcx_2n
    | with_reducible refine zcx_2s ?_
    | with_reducible refine zcx_2i ?_ ?_
    | with_reducible refine cx_f_Ps_coil  ?_
    | with_reducible refine zcx_B2e (cx_f_Ps_coil  ?_) ?_
    | with_reducible refine cx_f_Ps_ladderCell_32  ?_
    | with_reducible refine zcx_B2e (cx_f_Ps_ladderCell_32  ?_) ?_
    | with_reducible refine cx_f_Ps_ladderCell_121 ?_ ?_
    | with_reducible refine zcx_B2e (cx_f_Ps_ladderCell_121 ?_ ?_) ?_
    | intro _
    | decide
theorem cx_f_Ps_row_93 {E : zcx_T} {a : Int} {k31 : zs_H → Int32 → Int32 → Int32 → (Option (Int32 × zs_H))} {h : zs_H} {x1 : Int32} {x2 : Int32} {x3 : Int32} (H_k31 : ∀ z0 z1 z2 z3, zcx_P E a z0 → zcx_2 E a (k31 z0 z1 z2 z3)) (H : zcx_P E a h) : zcx_2 E a (f_Ps_row_93 k31 h x1 x2 x3) := by
  unfold f_Ps_row_93
  repeat' first
    | assumption
    | (with_reducible refine zcx_uF ?_ ?_; · decide)
    | (with_reducible refine zcx_uM ?_ ?_; · decide)
    | (with_reducible refine zcx_uK ?_ ?_; · decide)
    | with_reducible exact zcx_2n
    | with_reducible refine zcx_2s ?_
    | with_reducible refine zcx_2i ?_ ?_
    | with_reducible refine cx_f_Ps_ladderCell  ?_
    | with_reducible refine zcx_B2e (cx_f_Ps_ladderCell  ?_) ?_
    | with_reducible refine cx_f_Tr_hang  ?_
    | with_reducible refine zcx_B2e (cx_f_Tr_hang  ?_) ?_
    | with_reducible exact H_k31
    | with_reducible refine H_k31 _ _ _ _ ?_
    | with_reducible refine zcx_B2e (H_k31 _ _ _ _ ?_) ?_
    | intro _
    | decide
theorem cx_f_Ps_row_54 {E : zcx_T} {a : Int} {k31 : zs_H → Int32 → Int32 → Int32 → (Option (Int32 × zs_H))} {h : zs_H} {x1 : Int32} {x2 : Int32} {x3 : Int32} (H_k31 : ∀ z0 z1 z2 z3, zcx_P E a z0 → zcx_2 E a (k31 z0 z1 z2 z3)) (H : zcx_P E a h) : zcx_2 E a (f_Ps_row_54 k31 h x1 x2 x3) := by
  unfold f_Ps_row_54
  repeat' first
    | assumption
    | (with_reducible refine zcx_uF ?_ ?_; · decide)
    | (with_reducible refine zcx_uM ?_ ?_; · decide)
    | (with_reducible refine zcx_uK ?_ ?_; · decide)
    | with_reducible exact zcx_2n
    | with_reducible refine zcx_2s ?_
    | with_reducible refine zcx_2i ?_ ?_
    | with_reducible refine cx_f_Tr_add ?_ ?_
    | with_reducible refine zcx_B2e (cx_f_Tr_add ?_ ?_) ?_
    | with_reducible refine cx_f_Tr_hang  ?_
    | with_reducible refine zcx_B2e (cx_f_Tr_hang  ?_) ?_
    | with_reducible refine cx_f_Ps_take  ?_
    | with_reducible refine zcx_b2e (cx_f_Ps_take  ?_) ?_
    | with_reducible refine cx_f_Ps_row_93 ?_ ?_
    | with_reducible refine zcx_B2e (cx_f_Ps_row_93 ?_ ?_) ?_
    | with_reducible exact H_k31
    | with_reducible refine H_k31 _ _ _ _ ?_
    | with_reducible refine zcx_B2e (H_k31 _ _ _ _ ?_) ?_
    | intro _
    | decide
theorem cx_f_Ps_row_113 {E : zcx_T} {a : Int} {h : zs_H} {x1 : Int32}  (H : zcx_P E a h) : zcx_2 E a (f_Ps_row_113 h x1) := by
  unfold f_Ps_row_113
  repeat' first
    | assumption
    | (with_reducible refine zcx_uF ?_ ?_; · decide)
    | (with_reducible refine zcx_uM ?_ ?_; · decide)
    | (with_reducible refine zcx_uK ?_ ?_; · decide)
    | with_reducible exact zcx_2n
    | with_reducible refine zcx_2s ?_
    | with_reducible refine zcx_2i ?_ ?_
    | with_reducible refine cx_f_Ps_take  ?_
    | with_reducible refine zcx_b2e (cx_f_Ps_take  ?_) ?_
    | intro _
    | decide
theorem cx_f_Ps_row_31 {E : zcx_T} {a : Int} {k31 : zs_H → Int32 → Int32 → Int32 → (Option (Int32 × zs_H))} {h : zs_H} {x1 : Int32} {x2 : Int32} {x3 : Int32} (H_k31 : ∀ z0 z1 z2 z3, zcx_P E a z0 → zcx_2 E a (k31 z0 z1 z2 z3)) (H : zcx_P E a h) : zcx_2 E a (f_Ps_row_31 k31 h x1 x2 x3) := by
  unfold f_Ps_row_31
  repeat' first
    | assumption
    | (with_reducible refine zcx_uF ?_ ?_; · decide)
    | (with_reducible refine zcx_uM ?_ ?_; · decide)
    | (with_reducible refine zcx_uK ?_ ?_; · decide)
    | with_reducible exact zcx_2n
    | with_reducible refine zcx_2s ?_
    | with_reducible refine zcx_2i ?_ ?_
    | with_reducible refine cx_f_Ps_row_113  ?_
    | with_reducible refine zcx_B2e (cx_f_Ps_row_113  ?_) ?_
    | with_reducible refine cx_f_Ps_row_54 ?_ ?_
    | with_reducible refine zcx_B2e (cx_f_Ps_row_54 ?_ ?_) ?_
    | with_reducible exact H_k31
    | with_reducible refine H_k31 _ _ _ _ ?_
    | with_reducible refine zcx_B2e (H_k31 _ _ _ _ ?_) ?_
    | intro _
    | decide
theorem cx_f_Ps_row_L31 {E : zcx_T} {a : Int}   : ∀ (N : Nat) (h : zs_H) (x1 : Int32) (x2 : Int32) (x3 : Int32), zcx_P E a h → zcx_2 E a (f_Ps_row_L31  N h x1 x2 x3) := by
  intro N
  induction N with
  | zero => intro h x1 x2 x3 _; exact zcx_2n
  | succ N ih =>
    intro h x1 x2 x3 H
    exact cx_f_Ps_row_31  (fun b0 b1 b2 b3 z => ih b0 b1 b2 b3 z) H
theorem cx_f_Ps_row_L31' {E : zcx_T} {a : Int}   {N : Nat} {h : zs_H} {x1 : Int32} {x2 : Int32} {x3 : Int32} (H : zcx_P E a h) : zcx_2 E a (f_Ps_row_L31  N h x1 x2 x3) := cx_f_Ps_row_L31  N h x1 x2 x3 H
theorem cx_f_Ps_row {E : zcx_T} {a : Int} {h : zs_H}  (H : zcx_P E a h) : zcx_2 E a (f_Ps_row h) := by
  unfold f_Ps_row
  repeat' first
    | assumption
    | (with_reducible refine zcx_uF ?_ ?_; · decide)
    | (with_reducible refine zcx_uM ?_ ?_; · decide)
    | (with_reducible refine zcx_uK ?_ ?_; · decide)
    | with_reducible exact zcx_2n
    | with_reducible refine zcx_2s ?_
    | with_reducible refine zcx_2i ?_ ?_
    | with_reducible refine cx_f_Tr_add ?_ ?_
    | with_reducible refine zcx_B2e (cx_f_Tr_add ?_ ?_) ?_
    | with_reducible refine cx_f_Ps_ladderCell  ?_
    | with_reducible refine zcx_B2e (cx_f_Ps_ladderCell  ?_) ?_
    | with_reducible refine cx_f_Tr_hang  ?_
    | with_reducible refine zcx_B2e (cx_f_Tr_hang  ?_) ?_
    | with_reducible refine cx_f_Ps_row_L31'  ?_
    | with_reducible refine zcx_B2e (cx_f_Ps_row_L31'  ?_) ?_
    | intro _
    | decide
theorem cx_f_Ps_ladder_123 {E : zcx_T} {a : Int} {k26 : zs_H → Int32 → Int32 → Int32 → (Option (Int32 × zs_H))} {h : zs_H} {x1 : Int32} {x2 : Int32} {x3 : Int32} {x4 : Int32} (H_k26 : ∀ z0 z1 z2 z3, zcx_P E a z0 → zcx_2 E a (k26 z0 z1 z2 z3)) (H : zcx_P E a h) : zcx_2 E a (f_Ps_ladder_123 k26 h x1 x2 x3 x4) := by
  unfold f_Ps_ladder_123
  repeat' first
    | assumption
    | (with_reducible refine zcx_uF ?_ ?_; · decide)
    | (with_reducible refine zcx_uM ?_ ?_; · decide)
    | (with_reducible refine zcx_uK ?_ ?_; · decide)
    | with_reducible exact zcx_2n
    | with_reducible refine zcx_2s ?_
    | with_reducible refine zcx_2i ?_ ?_
    | with_reducible refine cx_f_Ps_take  ?_
    | with_reducible refine zcx_b2e (cx_f_Ps_take  ?_) ?_
    | with_reducible refine cx_f_Tr_hang  ?_
    | with_reducible refine zcx_B2e (cx_f_Tr_hang  ?_) ?_
    | with_reducible exact H_k26
    | with_reducible refine H_k26 _ _ _ _ ?_
    | with_reducible refine zcx_B2e (H_k26 _ _ _ _ ?_) ?_
    | intro _
    | decide
theorem cx_f_Ps_ladder_85 {E : zcx_T} {a : Int} {k26 : zs_H → Int32 → Int32 → Int32 → (Option (Int32 × zs_H))} {k85 : zs_H → Int32 → Int32 → Int32 → Int32 → Int32 → Int32 → (Option (Int32 × zs_H))} {h : zs_H} {x1 : Int32} {x2 : Int32} {x3 : Int32} {x4 : Int32} {x5 : Int32} {x6 : Int32} (H_k26 : ∀ z0 z1 z2 z3, zcx_P E a z0 → zcx_2 E a (k26 z0 z1 z2 z3)) (H_k85 : ∀ z0 z1 z2 z3 z4 z5 z6, zcx_P E a z0 → zcx_2 E a (k85 z0 z1 z2 z3 z4 z5 z6)) (H : zcx_P E a h) : zcx_2 E a (f_Ps_ladder_85 k26 k85 h x1 x2 x3 x4 x5 x6) := by
  unfold f_Ps_ladder_85
  repeat' first
    | assumption
    | (with_reducible refine zcx_uF ?_ ?_; · decide)
    | (with_reducible refine zcx_uM ?_ ?_; · decide)
    | (with_reducible refine zcx_uK ?_ ?_; · decide)
    | with_reducible exact zcx_2n
    | with_reducible refine zcx_2s ?_
    | with_reducible refine zcx_2i ?_ ?_
    | with_reducible refine cx_f_Ps_ladder_123 ?_ ?_
    | with_reducible refine zcx_B2e (cx_f_Ps_ladder_123 ?_ ?_) ?_
    | with_reducible refine cx_f_Ps_row  ?_
    | with_reducible refine zcx_B2e (cx_f_Ps_row  ?_) ?_
    | with_reducible refine cx_f_Tr_hang  ?_
    | with_reducible refine zcx_B2e (cx_f_Tr_hang  ?_) ?_
    | with_reducible exact H_k26
    | with_reducible refine H_k26 _ _ _ _ ?_
    | with_reducible refine zcx_B2e (H_k26 _ _ _ _ ?_) ?_
    | with_reducible exact H_k85
    | with_reducible refine H_k85 _ _ _ _ _ _ _ ?_
    | with_reducible refine zcx_B2e (H_k85 _ _ _ _ _ _ _ ?_) ?_
    | intro _
    | decide
theorem cx_f_Ps_ladder_L85 {E : zcx_T} {a : Int} {k26 : zs_H → Int32 → Int32 → Int32 → (Option (Int32 × zs_H))} (H_k26 : ∀ z0 z1 z2 z3, zcx_P E a z0 → zcx_2 E a (k26 z0 z1 z2 z3)) : ∀ (N : Nat) (h : zs_H) (x1 : Int32) (x2 : Int32) (x3 : Int32) (x4 : Int32) (x5 : Int32) (x6 : Int32), zcx_P E a h → zcx_2 E a (f_Ps_ladder_L85 k26 N h x1 x2 x3 x4 x5 x6) := by
  intro N
  induction N with
  | zero => intro h x1 x2 x3 x4 x5 x6 _; exact zcx_2n
  | succ N ih =>
    intro h x1 x2 x3 x4 x5 x6 H
    exact cx_f_Ps_ladder_85 H_k26 (fun b0 b1 b2 b3 b4 b5 b6 z => ih b0 b1 b2 b3 b4 b5 b6 z) H
theorem cx_f_Ps_ladder_L85' {E : zcx_T} {a : Int} {k26 : zs_H → Int32 → Int32 → Int32 → (Option (Int32 × zs_H))} (H_k26 : ∀ z0 z1 z2 z3, zcx_P E a z0 → zcx_2 E a (k26 z0 z1 z2 z3)) {N : Nat} {h : zs_H} {x1 : Int32} {x2 : Int32} {x3 : Int32} {x4 : Int32} {x5 : Int32} {x6 : Int32} (H : zcx_P E a h) : zcx_2 E a (f_Ps_ladder_L85 k26 N h x1 x2 x3 x4 x5 x6) := cx_f_Ps_ladder_L85 H_k26 N h x1 x2 x3 x4 x5 x6 H
theorem cx_f_Ps_ladder_148 {E : zcx_T} {a : Int} {h : zs_H} {x1 : Int32}  (H : zcx_P E a h) : zcx_2 E a (f_Ps_ladder_148 h x1) := by
  unfold f_Ps_ladder_148
  repeat' first
    | assumption
    | (with_reducible refine zcx_uF ?_ ?_; · decide)
    | (with_reducible refine zcx_uM ?_ ?_; · decide)
    | (with_reducible refine zcx_uK ?_ ?_; · decide)
    | with_reducible exact zcx_2n
    | with_reducible refine zcx_2s ?_
    | with_reducible refine zcx_2i ?_ ?_
    | with_reducible refine cx_f_Ps_take  ?_
    | with_reducible refine zcx_b2e (cx_f_Ps_take  ?_) ?_
    | intro _
    | decide
theorem cx_f_Ps_ladder_26 {E : zcx_T} {a : Int} {k26 : zs_H → Int32 → Int32 → Int32 → (Option (Int32 × zs_H))} {h : zs_H} {x1 : Int32} {x2 : Int32} {x3 : Int32} (H_k26 : ∀ z0 z1 z2 z3, zcx_P E a z0 → zcx_2 E a (k26 z0 z1 z2 z3)) (H : zcx_P E a h) : zcx_2 E a (f_Ps_ladder_26 k26 h x1 x2 x3) := by
  unfold f_Ps_ladder_26
  repeat' first
    | assumption
    | (with_reducible refine zcx_uF ?_ ?_; · decide)
    | (with_reducible refine zcx_uM ?_ ?_; · decide)
    | (with_reducible refine zcx_uK ?_ ?_; · decide)
    | with_reducible exact zcx_2n
    | with_reducible refine zcx_2s ?_
    | with_reducible refine zcx_2i ?_ ?_
    | with_reducible refine cx_f_Ps_ladder_148  ?_
    | with_reducible refine zcx_B2e (cx_f_Ps_ladder_148  ?_) ?_
    | with_reducible refine cx_f_Tr_add ?_ ?_
    | with_reducible refine zcx_B2e (cx_f_Tr_add ?_ ?_) ?_
    | with_reducible refine cx_f_Ps_take  ?_
    | with_reducible refine zcx_b2e (cx_f_Ps_take  ?_) ?_
    | with_reducible refine cx_f_Ps_row  ?_
    | with_reducible refine zcx_B2e (cx_f_Ps_row  ?_) ?_
    | with_reducible refine cx_f_Tr_hang  ?_
    | with_reducible refine zcx_B2e (cx_f_Tr_hang  ?_) ?_
    | with_reducible refine cx_f_Ps_ladder_L85' ?_ ?_
    | with_reducible refine zcx_B2e (cx_f_Ps_ladder_L85' ?_ ?_) ?_
    | with_reducible exact H_k26
    | with_reducible refine H_k26 _ _ _ _ ?_
    | with_reducible refine zcx_B2e (H_k26 _ _ _ _ ?_) ?_
    | intro _
    | decide
theorem cx_f_Ps_ladder_L26 {E : zcx_T} {a : Int}   : ∀ (N : Nat) (h : zs_H) (x1 : Int32) (x2 : Int32) (x3 : Int32), zcx_P E a h → zcx_2 E a (f_Ps_ladder_L26  N h x1 x2 x3) := by
  intro N
  induction N with
  | zero => intro h x1 x2 x3 _; exact zcx_2n
  | succ N ih =>
    intro h x1 x2 x3 H
    exact cx_f_Ps_ladder_26  (fun b0 b1 b2 b3 z => ih b0 b1 b2 b3 z) H
theorem cx_f_Ps_ladder_L26' {E : zcx_T} {a : Int}   {N : Nat} {h : zs_H} {x1 : Int32} {x2 : Int32} {x3 : Int32} (H : zcx_P E a h) : zcx_2 E a (f_Ps_ladder_L26  N h x1 x2 x3) := cx_f_Ps_ladder_L26  N h x1 x2 x3 H
theorem cx_f_Ps_ladder {E : zcx_T} {a : Int} {h : zs_H}  (H : zcx_P E a h) : zcx_2 E a (f_Ps_ladder h) := by
  unfold f_Ps_ladder
  repeat' first
    | assumption
    | (with_reducible refine zcx_uF ?_ ?_; · decide)
    | (with_reducible refine zcx_uM ?_ ?_; · decide)
    | (with_reducible refine zcx_uK ?_ ?_; · decide)
    | with_reducible exact zcx_2n
    | with_reducible refine zcx_2s ?_
    | with_reducible refine zcx_2i ?_ ?_
    | with_reducible refine cx_f_Tr_add ?_ ?_
    | with_reducible refine zcx_B2e (cx_f_Tr_add ?_ ?_) ?_
    | with_reducible refine cx_f_Ps_take  ?_
    | with_reducible refine zcx_b2e (cx_f_Ps_take  ?_) ?_
    | with_reducible refine cx_f_Ps_ladder_L26'  ?_
    | with_reducible refine zcx_B2e (cx_f_Ps_ladder_L26'  ?_) ?_
    | intro _
    | decide
theorem cx_f_Ps_expression_13 {E : zcx_T} {a : Int} {r_Ps_expression : zs_H → Int32 → (Option (Int32 × zs_H))} {k13 : zs_H → Int32 → Int32 → Int32 → Int32 → (Option (Int32 × zs_H))} {h : zs_H} {x1 : Int32} {x2 : Int32} {x3 : Int32} {x4 : Int32} (H_r_Ps_expression : ∀ z0 z1, zcx_P E a z0 → zcx_2 E a (r_Ps_expression z0 z1)) (H_k13 : ∀ z0 z1 z2 z3 z4, zcx_P E a z0 → zcx_2 E a (k13 z0 z1 z2 z3 z4)) (H : zcx_P E a h) : zcx_2 E a (f_Ps_expression_13 r_Ps_expression k13 h x1 x2 x3 x4) := by
  unfold f_Ps_expression_13
  repeat' first
    | assumption
    | (with_reducible refine zcx_uF ?_ ?_; · decide)
    | (with_reducible refine zcx_uM ?_ ?_; · decide)
    | (with_reducible refine zcx_uK ?_ ?_; · decide)
    | with_reducible exact zcx_2n
    | with_reducible refine zcx_2s ?_
    | with_reducible refine zcx_2i ?_ ?_
    | with_reducible refine cx_f_Tr_add ?_ ?_
    | with_reducible refine zcx_B2e (cx_f_Tr_add ?_ ?_) ?_
    | with_reducible refine cx_f_Ps_deepen  ?_
    | with_reducible refine zcx_b2e (cx_f_Ps_deepen  ?_) ?_
    | with_reducible refine cx_f_Ps_take  ?_
    | with_reducible refine zcx_b2e (cx_f_Ps_take  ?_) ?_
    | with_reducible refine cx_f_Tr_hang  ?_
    | with_reducible refine zcx_B2e (cx_f_Tr_hang  ?_) ?_
    | with_reducible exact H_r_Ps_expression
    | with_reducible refine H_r_Ps_expression _ _ ?_
    | with_reducible refine zcx_B2e (H_r_Ps_expression _ _ ?_) ?_
    | with_reducible exact H_k13
    | with_reducible refine H_k13 _ _ _ _ _ ?_
    | with_reducible refine zcx_B2e (H_k13 _ _ _ _ _ ?_) ?_
    | intro _
    | decide
theorem cx_f_Ps_expression_L13 {E : zcx_T} {a : Int} {r_Ps_expression : zs_H → Int32 → (Option (Int32 × zs_H))} (H_r_Ps_expression : ∀ z0 z1, zcx_P E a z0 → zcx_2 E a (r_Ps_expression z0 z1)) : ∀ (N : Nat) (h : zs_H) (x1 : Int32) (x2 : Int32) (x3 : Int32) (x4 : Int32), zcx_P E a h → zcx_2 E a (f_Ps_expression_L13 r_Ps_expression N h x1 x2 x3 x4) := by
  intro N
  induction N with
  | zero => intro h x1 x2 x3 x4 _; exact zcx_2n
  | succ N ih =>
    intro h x1 x2 x3 x4 H
    exact cx_f_Ps_expression_13 H_r_Ps_expression (fun b0 b1 b2 b3 b4 z => ih b0 b1 b2 b3 b4 z) H
theorem cx_f_Ps_expression_L13' {E : zcx_T} {a : Int} {r_Ps_expression : zs_H → Int32 → (Option (Int32 × zs_H))} (H_r_Ps_expression : ∀ z0 z1, zcx_P E a z0 → zcx_2 E a (r_Ps_expression z0 z1)) {N : Nat} {h : zs_H} {x1 : Int32} {x2 : Int32} {x3 : Int32} {x4 : Int32} (H : zcx_P E a h) : zcx_2 E a (f_Ps_expression_L13 r_Ps_expression N h x1 x2 x3 x4) := cx_f_Ps_expression_L13 H_r_Ps_expression N h x1 x2 x3 x4 H
theorem cx_g_Ps_expression {E : zcx_T} {a : Int} {r_Ps_expression : zs_H → Int32 → (Option (Int32 × zs_H))} {r_Ps_operand : zs_H → (Option (Int32 × zs_H))} {h : zs_H} {x1 : Int32} (H_r_Ps_expression : ∀ z0 z1, zcx_P E a z0 → zcx_2 E a (r_Ps_expression z0 z1)) (H_r_Ps_operand : ∀ z0, zcx_P E a z0 → zcx_2 E a (r_Ps_operand z0)) (H : zcx_P E a h) : zcx_2 E a (g_Ps_expression r_Ps_expression r_Ps_operand h x1) := by
  unfold g_Ps_expression
  repeat' first
    | assumption
    | (with_reducible refine zcx_uF ?_ ?_; · decide)
    | (with_reducible refine zcx_uM ?_ ?_; · decide)
    | (with_reducible refine zcx_uK ?_ ?_; · decide)
    | with_reducible exact zcx_2n
    | with_reducible refine zcx_2s ?_
    | with_reducible refine zcx_2i ?_ ?_
    | with_reducible refine cx_f_Ps_expression_L13' ?_ ?_
    | with_reducible refine zcx_B2e (cx_f_Ps_expression_L13' ?_ ?_) ?_
    | with_reducible exact H_r_Ps_expression
    | with_reducible refine H_r_Ps_expression _ _ ?_
    | with_reducible refine zcx_B2e (H_r_Ps_expression _ _ ?_) ?_
    | with_reducible exact H_r_Ps_operand
    | with_reducible refine H_r_Ps_operand _ ?_
    | with_reducible refine zcx_B2e (H_r_Ps_operand _ ?_) ?_
    | intro _
    | decide
theorem cx_f_Ps_namedOperand_268 {E : zcx_T} {a : Int} {r_Ps_expression : zs_H → Int32 → (Option (Int32 × zs_H))} {k216 : zs_H → Int32 → Int32 → Int32 → Int32 → (Option (Int32 × zs_H))} {h : zs_H} {x1 : Int32} {x2 : Int32} {x3 : Int32} {x4 : Int32} (H_r_Ps_expression : ∀ z0 z1, zcx_P E a z0 → zcx_2 E a (r_Ps_expression z0 z1)) (H_k216 : ∀ z0 z1 z2 z3 z4, zcx_P E a z0 → zcx_2 E a (k216 z0 z1 z2 z3 z4)) (H : zcx_P E a h) : zcx_2 E a (f_Ps_namedOperand_268 r_Ps_expression k216 h x1 x2 x3 x4) := by
  unfold f_Ps_namedOperand_268
  repeat' first
    | assumption
    | (with_reducible refine zcx_uF ?_ ?_; · decide)
    | (with_reducible refine zcx_uM ?_ ?_; · decide)
    | (with_reducible refine zcx_uK ?_ ?_; · decide)
    | with_reducible exact zcx_2n
    | with_reducible refine zcx_2s ?_
    | with_reducible refine zcx_2i ?_ ?_
    | with_reducible exact H_r_Ps_expression
    | with_reducible refine H_r_Ps_expression _ _ ?_
    | with_reducible refine zcx_B2e (H_r_Ps_expression _ _ ?_) ?_
    | with_reducible exact H_k216
    | with_reducible refine H_k216 _ _ _ _ _ ?_
    | with_reducible refine zcx_B2e (H_k216 _ _ _ _ _ ?_) ?_
    | intro _
    | decide
theorem cx_f_Ps_namedOperand_257 {E : zcx_T} {a : Int} {r_Ps_expression : zs_H → Int32 → (Option (Int32 × zs_H))} {k216 : zs_H → Int32 → Int32 → Int32 → Int32 → (Option (Int32 × zs_H))} {h : zs_H} {x1 : Int32} {x2 : Int32} {x4 : Int32} {y0 : Int32} (H_r_Ps_expression : ∀ z0 z1, zcx_P E a z0 → zcx_2 E a (r_Ps_expression z0 z1)) (H_k216 : ∀ z0 z1 z2 z3 z4, zcx_P E a z0 → zcx_2 E a (k216 z0 z1 z2 z3 z4)) (H : zcx_P E a h) : zcx_2 E a (f_Ps_namedOperand_257 r_Ps_expression k216 h x1 x2 x4 y0) := by
  unfold f_Ps_namedOperand_257
  repeat' first
    | assumption
    | (with_reducible refine zcx_uF ?_ ?_; · decide)
    | (with_reducible refine zcx_uM ?_ ?_; · decide)
    | (with_reducible refine zcx_uK ?_ ?_; · decide)
    | with_reducible exact zcx_2n
    | with_reducible refine zcx_2s ?_
    | with_reducible refine zcx_2i ?_ ?_
    | with_reducible refine cx_f_Ps_namedOperand_268 ?_ ?_ ?_
    | with_reducible refine zcx_B2e (cx_f_Ps_namedOperand_268 ?_ ?_ ?_) ?_
    | with_reducible refine cx_f_Ps_take  ?_
    | with_reducible refine zcx_b2e (cx_f_Ps_take  ?_) ?_
    | with_reducible exact H_r_Ps_expression
    | with_reducible refine H_r_Ps_expression _ _ ?_
    | with_reducible refine zcx_B2e (H_r_Ps_expression _ _ ?_) ?_
    | with_reducible exact H_k216
    | with_reducible refine H_k216 _ _ _ _ _ ?_
    | with_reducible refine zcx_B2e (H_k216 _ _ _ _ _ ?_) ?_
    | intro _
    | decide
theorem cx_f_Ps_namedOperand_274 {E : zcx_T} {a : Int} {h : zs_H} {x1 : Int32}  (H : zcx_P E a h) : zcx_2 E a (f_Ps_namedOperand_274 h x1) := by
  unfold f_Ps_namedOperand_274
  repeat' first
    | assumption
    | (with_reducible refine zcx_uF ?_ ?_; · decide)
    | (with_reducible refine zcx_uM ?_ ?_; · decide)
    | (with_reducible refine zcx_uK ?_ ?_; · decide)
    | with_reducible exact zcx_2n
    | with_reducible refine zcx_2s ?_
    | with_reducible refine zcx_2i ?_ ?_
    | with_reducible refine cx_f_Ps_take  ?_
    | with_reducible refine zcx_b2e (cx_f_Ps_take  ?_) ?_
    | intro _
    | decide
theorem cx_f_Ps_namedOperand_216 {E : zcx_T} {a : Int} {r_Ps_expression : zs_H → Int32 → (Option (Int32 × zs_H))} {k216 : zs_H → Int32 → Int32 → Int32 → Int32 → (Option (Int32 × zs_H))} {h : zs_H} {x1 : Int32} {x2 : Int32} {x3 : Int32} {x4 : Int32} (H_r_Ps_expression : ∀ z0 z1, zcx_P E a z0 → zcx_2 E a (r_Ps_expression z0 z1)) (H_k216 : ∀ z0 z1 z2 z3 z4, zcx_P E a z0 → zcx_2 E a (k216 z0 z1 z2 z3 z4)) (H : zcx_P E a h) : zcx_2 E a (f_Ps_namedOperand_216 r_Ps_expression k216 h x1 x2 x3 x4) := by
  unfold f_Ps_namedOperand_216
  repeat' first
    | assumption
    | (with_reducible refine zcx_uF ?_ ?_; · decide)
    | (with_reducible refine zcx_uM ?_ ?_; · decide)
    | (with_reducible refine zcx_uK ?_ ?_; · decide)
    | with_reducible exact zcx_2n
    | with_reducible refine zcx_2s ?_
    | with_reducible refine zcx_2i ?_ ?_
    | with_reducible refine cx_f_Ps_namedOperand_274  ?_
    | with_reducible refine zcx_B2e (cx_f_Ps_namedOperand_274  ?_) ?_
    | with_reducible refine cx_f_Tr_hang  ?_
    | with_reducible refine zcx_B2e (cx_f_Tr_hang  ?_) ?_
    | with_reducible refine cx_f_Ps_namedOperand_257 ?_ ?_ ?_
    | with_reducible refine zcx_B2e (cx_f_Ps_namedOperand_257 ?_ ?_ ?_) ?_
    | with_reducible exact H_r_Ps_expression
    | with_reducible refine H_r_Ps_expression _ _ ?_
    | with_reducible refine zcx_B2e (H_r_Ps_expression _ _ ?_) ?_
    | with_reducible exact H_k216
    | with_reducible refine H_k216 _ _ _ _ _ ?_
    | with_reducible refine zcx_B2e (H_k216 _ _ _ _ _ ?_) ?_
    | intro _
    | decide
theorem cx_f_Ps_namedOperand_L216 {E : zcx_T} {a : Int} {r_Ps_expression : zs_H → Int32 → (Option (Int32 × zs_H))} (H_r_Ps_expression : ∀ z0 z1, zcx_P E a z0 → zcx_2 E a (r_Ps_expression z0 z1)) : ∀ (N : Nat) (h : zs_H) (x1 : Int32) (x2 : Int32) (x3 : Int32) (x4 : Int32), zcx_P E a h → zcx_2 E a (f_Ps_namedOperand_L216 r_Ps_expression N h x1 x2 x3 x4) := by
  intro N
  induction N with
  | zero => intro h x1 x2 x3 x4 _; exact zcx_2n
  | succ N ih =>
    intro h x1 x2 x3 x4 H
    exact cx_f_Ps_namedOperand_216 H_r_Ps_expression (fun b0 b1 b2 b3 b4 z => ih b0 b1 b2 b3 b4 z) H
theorem cx_f_Ps_namedOperand_L216' {E : zcx_T} {a : Int} {r_Ps_expression : zs_H → Int32 → (Option (Int32 × zs_H))} (H_r_Ps_expression : ∀ z0 z1, zcx_P E a z0 → zcx_2 E a (r_Ps_expression z0 z1)) {N : Nat} {h : zs_H} {x1 : Int32} {x2 : Int32} {x3 : Int32} {x4 : Int32} (H : zcx_P E a h) : zcx_2 E a (f_Ps_namedOperand_L216 r_Ps_expression N h x1 x2 x3 x4) := cx_f_Ps_namedOperand_L216 H_r_Ps_expression N h x1 x2 x3 x4 H
theorem cx_f_Ps_namedOperand_212 {E : zcx_T} {a : Int} {r_Ps_expression : zs_H → Int32 → (Option (Int32 × zs_H))} {h : zs_H} {x1 : Int32} {x2 : Int32} {y0 : Int32} (H_r_Ps_expression : ∀ z0 z1, zcx_P E a z0 → zcx_2 E a (r_Ps_expression z0 z1)) (H : zcx_P E a h) : zcx_2 E a (f_Ps_namedOperand_212 r_Ps_expression h x1 x2 y0) := by
  unfold f_Ps_namedOperand_212
  repeat' first
    | assumption
    | (with_reducible refine zcx_uF ?_ ?_; · decide)
    | (with_reducible refine zcx_uM ?_ ?_; · decide)
    | (with_reducible refine zcx_uK ?_ ?_; · decide)
    | with_reducible exact zcx_2n
    | with_reducible refine zcx_2s ?_
    | with_reducible refine zcx_2i ?_ ?_
    | with_reducible refine cx_f_Ps_namedOperand_L216' ?_ ?_
    | with_reducible refine zcx_B2e (cx_f_Ps_namedOperand_L216' ?_ ?_) ?_
    | with_reducible exact H_r_Ps_expression
    | with_reducible refine H_r_Ps_expression _ _ ?_
    | with_reducible refine zcx_B2e (H_r_Ps_expression _ _ ?_) ?_
    | intro _
    | decide
theorem cx_g_Ps_namedOperand {E : zcx_T} {a : Int} {r_Ps_expression : zs_H → Int32 → (Option (Int32 × zs_H))} {h : zs_H} (H_r_Ps_expression : ∀ z0 z1, zcx_P E a z0 → zcx_2 E a (r_Ps_expression z0 z1)) (H : zcx_P E a h) : zcx_2 E a (g_Ps_namedOperand r_Ps_expression h) := by
  unfold g_Ps_namedOperand
  repeat' first
    | assumption
    | (with_reducible refine zcx_uF ?_ ?_; · decide)
    | (with_reducible refine zcx_uM ?_ ?_; · decide)
    | (with_reducible refine zcx_uK ?_ ?_; · decide)
    | with_reducible exact zcx_2n
    | with_reducible refine zcx_2s ?_
    | with_reducible refine zcx_2i ?_ ?_
    | with_reducible refine cx_f_Tr_add ?_ ?_
    | with_reducible refine zcx_B2e (cx_f_Tr_add ?_ ?_) ?_
    | with_reducible refine cx_f_Ps_take  ?_
    | with_reducible refine zcx_b2e (cx_f_Ps_take  ?_) ?_
    | with_reducible refine cx_f_Tr_hang  ?_
    | with_reducible refine zcx_B2e (cx_f_Tr_hang  ?_) ?_
    | with_reducible refine cx_f_Ps_deepen  ?_
    | with_reducible refine zcx_b2e (cx_f_Ps_deepen  ?_) ?_
    | with_reducible refine cx_f_Ps_namedOperand_212 ?_ ?_
    | with_reducible refine zcx_B2e (cx_f_Ps_namedOperand_212 ?_ ?_) ?_
    | with_reducible exact H_r_Ps_expression
    | with_reducible refine H_r_Ps_expression _ _ ?_
    | with_reducible refine zcx_B2e (H_r_Ps_expression _ _ ?_) ?_
    | intro _
    | decide
theorem cx_f_Ps_operand_189 {E : zcx_T} {a : Int} {h : zs_H} {y0 : Int32} {y1 : Int32} {y2 : Int32} (Hk : zcx_k y2)  (H : zcx_P E a h) : zcx_2 E a (f_Ps_operand_189 h y0 y1 y2) := by
  unfold f_Ps_operand_189
  repeat' first
    | assumption
    | (with_reducible refine zcx_uF ?_ ?_; · decide)
    | (with_reducible refine zcx_uM ?_ ?_; · decide)
    | (with_reducible refine zcx_uK ?_ ?_; · decide)
    | with_reducible exact zcx_2n
    | with_reducible refine zcx_2s ?_
    | with_reducible refine zcx_2i ?_ ?_
    | with_reducible refine cx_f_Tr_add ?_ ?_
    | with_reducible refine zcx_B2e (cx_f_Tr_add ?_ ?_) ?_
    | with_reducible refine cx_f_Ps_take  ?_
    | with_reducible refine zcx_b2e (cx_f_Ps_take  ?_) ?_
    | intro _
    | decide
theorem cx_f_Ps_operand_88 {E : zcx_T} {a : Int} {r_Ps_operand : zs_H → (Option (Int32 × zs_H))} {h : zs_H} {y0 : Int32} {y1 : Int32} {y2 : Int32} (Hk : zcx_k y2) (H_r_Ps_operand : ∀ z0, zcx_P E a z0 → zcx_2 E a (r_Ps_operand z0)) (H : zcx_P E a h) : zcx_2 E a (f_Ps_operand_88 r_Ps_operand h y0 y1 y2) := by
  unfold f_Ps_operand_88
  repeat' first
    | assumption
    | (with_reducible refine zcx_uF ?_ ?_; · decide)
    | (with_reducible refine zcx_uM ?_ ?_; · decide)
    | (with_reducible refine zcx_uK ?_ ?_; · decide)
    | with_reducible exact zcx_2n
    | with_reducible refine zcx_2s ?_
    | with_reducible refine zcx_2i ?_ ?_
    | with_reducible refine cx_f_Tr_add ?_ ?_
    | with_reducible refine zcx_B2e (cx_f_Tr_add ?_ ?_) ?_
    | with_reducible refine cx_f_Ps_deepen  ?_
    | with_reducible refine zcx_b2e (cx_f_Ps_deepen  ?_) ?_
    | with_reducible refine cx_f_Ps_take  ?_
    | with_reducible refine zcx_b2e (cx_f_Ps_take  ?_) ?_
    | with_reducible refine cx_f_Tr_hang  ?_
    | with_reducible refine zcx_B2e (cx_f_Tr_hang  ?_) ?_
    | with_reducible exact H_r_Ps_operand
    | with_reducible refine H_r_Ps_operand _ ?_
    | with_reducible refine zcx_B2e (H_r_Ps_operand _ ?_) ?_
    | intro _
    | decide
theorem cx_g_Ps_operand {E : zcx_T} {a : Int} {r_Ps_expression : zs_H → Int32 → (Option (Int32 × zs_H))} {r_Ps_namedOperand : zs_H → (Option (Int32 × zs_H))} {r_Ps_operand : zs_H → (Option (Int32 × zs_H))} {h : zs_H} (H_r_Ps_expression : ∀ z0 z1, zcx_P E a z0 → zcx_2 E a (r_Ps_expression z0 z1)) (H_r_Ps_namedOperand : ∀ z0, zcx_P E a z0 → zcx_2 E a (r_Ps_namedOperand z0)) (H_r_Ps_operand : ∀ z0, zcx_P E a z0 → zcx_2 E a (r_Ps_operand z0)) (H : zcx_P E a h) : zcx_2 E a (g_Ps_operand r_Ps_expression r_Ps_namedOperand r_Ps_operand h) := by
  unfold g_Ps_operand
  repeat' first
    | assumption
    | (with_reducible refine zcx_uF ?_ ?_; · decide)
    | (with_reducible refine zcx_uM ?_ ?_; · decide)
    | (with_reducible refine zcx_uK ?_ ?_; · decide)
    | with_reducible exact zcx_2n
    | with_reducible refine zcx_2s ?_
    | with_reducible refine zcx_2i ?_ ?_
    | with_reducible refine cx_f_Ps_deepen  ?_
    | with_reducible refine zcx_b2e (cx_f_Ps_deepen  ?_) ?_
    | with_reducible refine cx_f_Ps_take  ?_
    | with_reducible refine zcx_b2e (cx_f_Ps_take  ?_) ?_
    | with_reducible refine cx_f_Ps_operand_88 ?_ ?_ ?_
    | with_reducible refine zcx_B2e (cx_f_Ps_operand_88 ?_ ?_ ?_) ?_
    | with_reducible refine cx_f_Ps_operand_189 ?_ ?_
    | with_reducible refine zcx_B2e (cx_f_Ps_operand_189 ?_ ?_) ?_
    | with_reducible refine cx_f_Tr_add ?_ ?_
    | with_reducible refine zcx_B2e (cx_f_Tr_add ?_ ?_) ?_
    | with_reducible exact H_r_Ps_expression
    | with_reducible refine H_r_Ps_expression _ _ ?_
    | with_reducible refine zcx_B2e (H_r_Ps_expression _ _ ?_) ?_
    | with_reducible exact H_r_Ps_namedOperand
    | with_reducible refine H_r_Ps_namedOperand _ ?_
    | with_reducible refine zcx_B2e (H_r_Ps_namedOperand _ ?_) ?_
    | with_reducible exact H_r_Ps_operand
    | with_reducible refine H_r_Ps_operand _ ?_
    | with_reducible refine zcx_B2e (H_r_Ps_operand _ ?_) ?_
    | intro _
    | decide
theorem cx_rec1 {E : zcx_T} {a : Int} : ∀ d, (∀ h x, zcx_P E a h → zcx_2 E a (f_Ps_expression d h x)) ∧ (∀ h, zcx_P E a h → zcx_2 E a (f_Ps_namedOperand d h)) ∧ (∀ h, zcx_P E a h → zcx_2 E a (f_Ps_operand d h)) := by
  intro d
  induction d with
  | zero => exact ⟨fun _ _ _ => zcx_2n, fun _ _ => zcx_2n, fun _ _ => zcx_2n⟩
  | succ d ih =>
    obtain ⟨p, q, r⟩ := ih
    rw [zy_e, zy_n, zy_o]
    exact ⟨fun h x H => cx_g_Ps_expression p r H, fun h H => cx_g_Ps_namedOperand p H, fun h H => cx_g_Ps_operand p q r H⟩
theorem cx_f_Ps_expression {E : zcx_T} {a : Int} {d : Nat} {h : zs_H} {x : Int32} (H : zcx_P E a h) : zcx_2 E a (f_Ps_expression d h x) := (cx_rec1 d).1 h x H
theorem cx_f_Ps_wholeExpression {E : zcx_T} {a : Int} {h : zs_H}  (H : zcx_P E a h) : zcx_2 E a (f_Ps_wholeExpression h) := by
  unfold f_Ps_wholeExpression
  repeat' first
    | assumption
    | (with_reducible refine zcx_uF ?_ ?_; · decide)
    | (with_reducible refine zcx_uM ?_ ?_; · decide)
    | (with_reducible refine zcx_uK ?_ ?_; · decide)
    | with_reducible exact zcx_2n
    | with_reducible refine zcx_2s ?_
    | with_reducible refine zcx_2i ?_ ?_
    | with_reducible refine cx_f_Ps_expression  ?_
    | with_reducible refine zcx_B2e (cx_f_Ps_expression  ?_) ?_
    | intro _
    | decide
theorem cx_ranges_L7 {E : zcx_T} : ∀ (N i : Nat) (h : zs_H) (x1 x2 x3 : Int32), (x3 = 0 → zcx_P E 2 h) → (¬ x3 = 0 → zcx_P E (2 * (i : Int)) h) → i ≤ 16384 → zcx_2 E 2 (f_Ps_ranges_L7 N h x1 x2 x3 (nI i)) := by
  intro N
  induction N with
  | zero => intro i h x1 x2 x3 _ _ _; exact zcx_2n
  | succ N ih =>
    intro i h x1 x2 x3 h0 h1 hi
    show zcx_2 E 2 (f_Ps_ranges_7 (f_Ps_ranges_L7 N) h x1 x2 x3 (nI i))
    unfold f_Ps_ranges_7
    refine zcx_2i (fun c => ?_) (fun c => ?_)
    · have hi : 16384 ≤ i := (zc_le (k := 16384) (by decide) (by omega)).mp c
      refine zcx_2s ?_
      by_cases z : x3 = 0
      · exact h0 z
      · exact zcx_big (h1 z) (by omega)
    · have hi : i < 16384 := by
        have := mt (zc_le (k := 16384) (t := i) (by decide) (by omega)).mpr c
        omega
      refine zcx_2i (fun z => zcx_2s (h0 z)) (fun z => ?_)
      have fin : ∀ (h : zs_H) (x1 x2 v : Int32), zcx_P E (2 * (i : Int) + 1) h → zcx_2 E 2 (f_Ps_ranges_80 (f_Ps_ranges_L7 N) h x1 x2 (nI i) v) := by
        intro h x1 x2 v H
        unfold f_Ps_ranges_80 f_Ps_ranges_106 f_Ps_ranges_119
        refine zcx_B2 (cx_f_Tr_hang H) ?_
        intro v2 h3 H3
        have go : ∀ y x3 : Int32, zcx_2 E 2 ((f_Ps_take h3 y).bind fun h2 => f_Ps_ranges_L7 N h2 x1 v2 x3 (nI i + 1)) := fun y x3 => by
          refine zcx_b2 (cx_take1 H3) ?_
          intro h2 H2
          rw [nI_1]
          exact ih (i + 1) h2 _ _ _ (fun _ => zcx_le H2 (by omega)) (fun _ => zcx_le H2 (by omega)) (by omega)
        exact zcx_2i (fun _ => zcx_2i (fun _ => go _ _) (fun _ => go _ _)) (fun _ => zcx_2i (fun _ => go _ _) (fun _ => go _ _))
      refine zcx_B2 (cx_f_Tr_add (by decide) (h1 z)) ?_
      intro v4 h5 H5
      refine zcx_B2 (cxp_constant H5) ?_
      intro v7 h8 H8
      refine zcx_B2 (cx_f_Tr_hang H8) ?_
      intro v10 h11 H11
      refine zcx_2i (fun _ => ?_) (fun _ => fin _ _ _ _ H11)
      refine zcx_b2 (cx_f_Ps_take H11) ?_
      intro h14 H14
      refine zcx_B2 (cx_f_Ps_constant H14) ?_
      intro v16 h17 H17
      refine zcx_B2 (cx_f_Tr_hang H17) ?_
      intro v19 h20 H20
      exact fin _ _ _ _ H20
theorem cx_ranges {E : zcx_T} {h : zs_H} {x1 : Int32} (H : zcx_P E 0 h) : zcx_2 E 2 (f_Ps_ranges h x1) := by
  unfold f_Ps_ranges
  exact cx_ranges_L7 zF 0 h x1 (-1) 1 (fun z => absurd z (by decide)) (fun _ => zcx_le H (by omega)) (by decide)
theorem cx_f_Ps_invocation_164 {E : zcx_T} {a : Int} {k62 : zs_H → Int32 → Int32 → Int32 → Int32 → (Option (Int32 × zs_H))} {h : zs_H} {x1 : Int32} {x2 : Int32} {x3 : Int32} {x4 : Int32} (H_k62 : ∀ z0 z1 z2 z3 z4, zcx_P E a z0 → zcx_2 E a (k62 z0 z1 z2 z3 z4)) (H : zcx_P E a h) : zcx_2 E a (f_Ps_invocation_164 k62 h x1 x2 x3 x4) := by
  unfold f_Ps_invocation_164
  repeat' first
    | assumption
    | (with_reducible refine zcx_uF ?_ ?_; · decide)
    | (with_reducible refine zcx_uM ?_ ?_; · decide)
    | (with_reducible refine zcx_uK ?_ ?_; · decide)
    | with_reducible exact zcx_2n
    | with_reducible refine zcx_2s ?_
    | with_reducible refine zcx_2i ?_ ?_
    | with_reducible exact H_k62
    | with_reducible refine H_k62 _ _ _ _ _ ?_
    | with_reducible refine zcx_B2e (H_k62 _ _ _ _ _ ?_) ?_
    | intro _
    | decide
theorem cx_f_Ps_invocation_153 {E : zcx_T} {a : Int} {k62 : zs_H → Int32 → Int32 → Int32 → Int32 → (Option (Int32 × zs_H))} {h : zs_H} {x1 : Int32} {x2 : Int32} {x4 : Int32} {y0 : Int32} (H_k62 : ∀ z0 z1 z2 z3 z4, zcx_P E a z0 → zcx_2 E a (k62 z0 z1 z2 z3 z4)) (H : zcx_P E a h) : zcx_2 E a (f_Ps_invocation_153 k62 h x1 x2 x4 y0) := by
  unfold f_Ps_invocation_153
  repeat' first
    | assumption
    | (with_reducible refine zcx_uF ?_ ?_; · decide)
    | (with_reducible refine zcx_uM ?_ ?_; · decide)
    | (with_reducible refine zcx_uK ?_ ?_; · decide)
    | with_reducible exact zcx_2n
    | with_reducible refine zcx_2s ?_
    | with_reducible refine zcx_2i ?_ ?_
    | with_reducible refine cx_f_Ps_invocation_164 ?_ ?_
    | with_reducible refine zcx_B2e (cx_f_Ps_invocation_164 ?_ ?_) ?_
    | with_reducible refine cx_f_Ps_take  ?_
    | with_reducible refine zcx_b2e (cx_f_Ps_take  ?_) ?_
    | with_reducible exact H_k62
    | with_reducible refine H_k62 _ _ _ _ _ ?_
    | with_reducible refine zcx_B2e (H_k62 _ _ _ _ _ ?_) ?_
    | intro _
    | decide
theorem cx_f_Ps_invocation_170 {E : zcx_T} {a : Int} {h : zs_H} {x1 : Int32}  (H : zcx_P E a h) : zcx_2 E a (f_Ps_invocation_170 h x1) := by
  unfold f_Ps_invocation_170
  repeat' first
    | assumption
    | (with_reducible refine zcx_uF ?_ ?_; · decide)
    | (with_reducible refine zcx_uM ?_ ?_; · decide)
    | (with_reducible refine zcx_uK ?_ ?_; · decide)
    | with_reducible exact zcx_2n
    | with_reducible refine zcx_2s ?_
    | with_reducible refine zcx_2i ?_ ?_
    | with_reducible refine cx_f_Ps_take  ?_
    | with_reducible refine zcx_b2e (cx_f_Ps_take  ?_) ?_
    | intro _
    | decide
theorem cx_f_Ps_invocation_62 {E : zcx_T} {a : Int} {k62 : zs_H → Int32 → Int32 → Int32 → Int32 → (Option (Int32 × zs_H))} {h : zs_H} {x1 : Int32} {x2 : Int32} {x3 : Int32} {x4 : Int32} (H_k62 : ∀ z0 z1 z2 z3 z4, zcx_P E a z0 → zcx_2 E a (k62 z0 z1 z2 z3 z4)) (H : zcx_P E a h) : zcx_2 E a (f_Ps_invocation_62 k62 h x1 x2 x3 x4) := by
  unfold f_Ps_invocation_62
  repeat' first
    | assumption
    | (with_reducible refine zcx_uF ?_ ?_; · decide)
    | (with_reducible refine zcx_uM ?_ ?_; · decide)
    | (with_reducible refine zcx_uK ?_ ?_; · decide)
    | with_reducible exact zcx_2n
    | with_reducible refine zcx_2s ?_
    | with_reducible refine zcx_2i ?_ ?_
    | with_reducible refine cx_f_Ps_invocation_170  ?_
    | with_reducible refine zcx_B2e (cx_f_Ps_invocation_170  ?_) ?_
    | with_reducible refine cx_f_Tr_add ?_ ?_
    | with_reducible refine zcx_B2e (cx_f_Tr_add ?_ ?_) ?_
    | with_reducible refine cx_f_Ps_take  ?_
    | with_reducible refine zcx_b2e (cx_f_Ps_take  ?_) ?_
    | with_reducible refine cx_f_Ps_wholeExpression  ?_
    | with_reducible refine zcx_B2e (cx_f_Ps_wholeExpression  ?_) ?_
    | with_reducible refine cx_f_Tr_hang  ?_
    | with_reducible refine zcx_B2e (cx_f_Tr_hang  ?_) ?_
    | with_reducible refine cx_f_Ps_invocation_153 ?_ ?_
    | with_reducible refine zcx_B2e (cx_f_Ps_invocation_153 ?_ ?_) ?_
    | with_reducible exact H_k62
    | with_reducible refine H_k62 _ _ _ _ _ ?_
    | with_reducible refine zcx_B2e (H_k62 _ _ _ _ _ ?_) ?_
    | intro _
    | decide
theorem cx_f_Ps_invocation_L62 {E : zcx_T} {a : Int}   : ∀ (N : Nat) (h : zs_H) (x1 : Int32) (x2 : Int32) (x3 : Int32) (x4 : Int32), zcx_P E a h → zcx_2 E a (f_Ps_invocation_L62  N h x1 x2 x3 x4) := by
  intro N
  induction N with
  | zero => intro h x1 x2 x3 x4 _; exact zcx_2n
  | succ N ih =>
    intro h x1 x2 x3 x4 H
    exact cx_f_Ps_invocation_62  (fun b0 b1 b2 b3 b4 z => ih b0 b1 b2 b3 b4 z) H
theorem cx_f_Ps_invocation_L62' {E : zcx_T} {a : Int}   {N : Nat} {h : zs_H} {x1 : Int32} {x2 : Int32} {x3 : Int32} {x4 : Int32} (H : zcx_P E a h) : zcx_2 E a (f_Ps_invocation_L62  N h x1 x2 x3 x4) := cx_f_Ps_invocation_L62  N h x1 x2 x3 x4 H
theorem cx_f_Ps_invocation_58 {E : zcx_T} {a : Int} {h : zs_H} {x1 : Int32} {x2 : Int32} {y0 : Int32}  (H : zcx_P E a h) : zcx_2 E a (f_Ps_invocation_58 h x1 x2 y0) := by
  unfold f_Ps_invocation_58
  repeat' first
    | assumption
    | (with_reducible refine zcx_uF ?_ ?_; · decide)
    | (with_reducible refine zcx_uM ?_ ?_; · decide)
    | (with_reducible refine zcx_uK ?_ ?_; · decide)
    | with_reducible exact zcx_2n
    | with_reducible refine zcx_2s ?_
    | with_reducible refine zcx_2i ?_ ?_
    | with_reducible refine cx_f_Ps_invocation_L62'  ?_
    | with_reducible refine zcx_B2e (cx_f_Ps_invocation_L62'  ?_) ?_
    | intro _
    | decide
theorem cx_f_Ps_invocation {E : zcx_T} {a : Int} {h : zs_H}  (H : zcx_P E a h) : zcx_2 E a (f_Ps_invocation h) := by
  unfold f_Ps_invocation
  repeat' first
    | assumption
    | (with_reducible refine zcx_uF ?_ ?_; · decide)
    | (with_reducible refine zcx_uM ?_ ?_; · decide)
    | (with_reducible refine zcx_uK ?_ ?_; · decide)
    | with_reducible exact zcx_2n
    | with_reducible refine zcx_2s ?_
    | with_reducible refine zcx_2i ?_ ?_
    | with_reducible refine cx_f_Tr_add ?_ ?_
    | with_reducible refine zcx_B2e (cx_f_Tr_add ?_ ?_) ?_
    | with_reducible refine cx_f_Ps_take  ?_
    | with_reducible refine zcx_b2e (cx_f_Ps_take  ?_) ?_
    | with_reducible refine cx_f_Ps_deepen  ?_
    | with_reducible refine zcx_b2e (cx_f_Ps_deepen  ?_) ?_
    | with_reducible refine cx_f_Ps_invocation_58  ?_
    | with_reducible refine zcx_B2e (cx_f_Ps_invocation_58  ?_) ?_
    | intro _
    | decide
theorem cx_f_Ps_assignment_92 {E : zcx_T} {a : Int} {h : zs_H} {x1 : Int32}  (H : zcx_P E a h) : zcx_2 E a (f_Ps_assignment_92 h x1) := by
  unfold f_Ps_assignment_92
  repeat' first
    | assumption
    | (with_reducible refine zcx_uF ?_ ?_; · decide)
    | (with_reducible refine zcx_uM ?_ ?_; · decide)
    | (with_reducible refine zcx_uK ?_ ?_; · decide)
    | with_reducible exact zcx_2n
    | with_reducible refine zcx_2s ?_
    | with_reducible refine zcx_2i ?_ ?_
    | with_reducible refine cx_f_Tr_add ?_ ?_
    | with_reducible refine zcx_B2e (cx_f_Tr_add ?_ ?_) ?_
    | with_reducible refine cx_f_Ps_take  ?_
    | with_reducible refine zcx_b2e (cx_f_Ps_take  ?_) ?_
    | with_reducible refine cx_f_Tr_hang  ?_
    | with_reducible refine zcx_B2e (cx_f_Tr_hang  ?_) ?_
    | with_reducible refine cx_f_Ps_wholeExpression  ?_
    | with_reducible refine zcx_B2e (cx_f_Ps_wholeExpression  ?_) ?_
    | intro _
    | decide
theorem cx_f_Ps_assignment {E : zcx_T} {a : Int} {h : zs_H}  (H : zcx_P E a h) : zcx_2 E a (f_Ps_assignment h) := by
  unfold f_Ps_assignment
  repeat' first
    | assumption
    | (with_reducible refine zcx_uF ?_ ?_; · decide)
    | (with_reducible refine zcx_uM ?_ ?_; · decide)
    | (with_reducible refine zcx_uK ?_ ?_; · decide)
    | with_reducible exact zcx_2n
    | with_reducible refine zcx_2s ?_
    | with_reducible refine zcx_2i ?_ ?_
    | with_reducible refine cx_f_Tr_add ?_ ?_
    | with_reducible refine zcx_B2e (cx_f_Tr_add ?_ ?_) ?_
    | with_reducible refine cx_f_Ps_take  ?_
    | with_reducible refine zcx_b2e (cx_f_Ps_take  ?_) ?_
    | with_reducible refine cx_f_Ps_deepen  ?_
    | with_reducible refine zcx_b2e (cx_f_Ps_deepen  ?_) ?_
    | with_reducible refine cx_f_Ps_wholeExpression  ?_
    | with_reducible refine zcx_B2e (cx_f_Ps_wholeExpression  ?_) ?_
    | with_reducible refine cx_f_Tr_hang  ?_
    | with_reducible refine zcx_B2e (cx_f_Tr_hang  ?_) ?_
    | with_reducible refine cx_f_Ps_assignment_92  ?_
    | with_reducible refine zcx_B2e (cx_f_Ps_assignment_92  ?_) ?_
    | intro _
    | decide
theorem cx_f_Ps_caseStatement_152 {E : zcx_T} {a : Int} {h : zs_H} {x1 : Int32}  (H : zcx_P E a h) : zcx_2 E a (f_Ps_caseStatement_152 h x1) := by
  unfold f_Ps_caseStatement_152
  repeat' first
    | assumption
    | (with_reducible refine zcx_uF ?_ ?_; · decide)
    | (with_reducible refine zcx_uM ?_ ?_; · decide)
    | (with_reducible refine zcx_uK ?_ ?_; · decide)
    | with_reducible exact zcx_2n
    | with_reducible refine zcx_2s ?_
    | with_reducible refine zcx_2i ?_ ?_
    | with_reducible refine cx_f_Ps_take  ?_
    | with_reducible refine zcx_b2e (cx_f_Ps_take  ?_) ?_
    | intro _
    | decide
theorem cx_f_Ps_ifStatement_125 {E : zcx_T} {a : Int} {h : zs_H} {x1 : Int32}  (H : zcx_P E a h) : zcx_2 E a (f_Ps_ifStatement_125 h x1) := by
  unfold f_Ps_ifStatement_125
  repeat' first
    | assumption
    | (with_reducible refine zcx_uF ?_ ?_; · decide)
    | (with_reducible refine zcx_uM ?_ ?_; · decide)
    | (with_reducible refine zcx_uK ?_ ?_; · decide)
    | with_reducible exact zcx_2n
    | with_reducible refine zcx_2s ?_
    | with_reducible refine zcx_2i ?_ ?_
    | with_reducible refine cx_f_Ps_take  ?_
    | with_reducible refine zcx_b2e (cx_f_Ps_take  ?_) ?_
    | intro _
    | decide
theorem cx_f_Ps_statement_103 {E : zcx_T} {a : Int} {h : zs_H} {y0 : Int32}  (H : zcx_P E a h) : zcx_2 E a (f_Ps_statement_103 h y0) := by
  unfold f_Ps_statement_103
  repeat' first
    | assumption
    | (with_reducible refine zcx_uF ?_ ?_; · decide)
    | (with_reducible refine zcx_uM ?_ ?_; · decide)
    | (with_reducible refine zcx_uK ?_ ?_; · decide)
    | with_reducible exact zcx_2n
    | with_reducible refine zcx_2s ?_
    | with_reducible refine zcx_2i ?_ ?_
    | with_reducible refine cx_f_Ps_assignment  ?_
    | with_reducible refine zcx_B2e (cx_f_Ps_assignment  ?_) ?_
    | with_reducible refine cx_f_Ps_invocation  ?_
    | with_reducible refine zcx_B2e (cx_f_Ps_invocation  ?_) ?_
    | intro _
    | decide
theorem cx_f_Ps_statement_102 {E : zcx_T} {a : Int} {h : zs_H}  (H : zcx_P E a h) : zcx_2 E a (f_Ps_statement_102 h) := by
  unfold f_Ps_statement_102
  repeat' first
    | assumption
    | (with_reducible refine zcx_uF ?_ ?_; · decide)
    | (with_reducible refine zcx_uM ?_ ?_; · decide)
    | (with_reducible refine zcx_uK ?_ ?_; · decide)
    | with_reducible exact zcx_2n
    | with_reducible refine zcx_2s ?_
    | with_reducible refine zcx_2i ?_ ?_
    | with_reducible refine cx_f_Ps_statement_103  ?_
    | with_reducible refine zcx_B2e (cx_f_Ps_statement_103  ?_) ?_
    | intro _
    | decide
section ZXT
variable {E : zcx_T} {h : zs_H} {r rc rf ri : zs_H → Option (Int32 × zs_H)}
abbrev zcx_R (E : zcx_T) (r : zs_H → Option (Int32 × zs_H)) : Prop := ∀ h, zcx_P E 2 h → zcx_2 E 0 (r h)
abbrev zcx_S (E : zcx_T) (r : zs_H → Option (Int32 × zs_H)) : Prop := ∀ h, zcx_P E 0 h → zcx_2 E 0 (r h)
theorem zcx_K0 {x : Int32} (hx : (128 : Int32) ≤ x) (H : zcx_P E 0 h) : zcx_1 E 2 (f_Ps_take h x) := cx_takeK hx H
theorem cx_case121 {x1 x2 : Int32} (Hr : zcx_R E r) (H : zcx_P E 0 h) : zcx_2 E 0 (f_Ps_caseStatement_121 r h x1 x2) := by
  unfold f_Ps_caseStatement_121
  refine zcx_2i (fun _ => ?_) (fun _ => cx_f_Ps_caseStatement_152 H)
  refine zcx_b2 (zcx_K0 (by decide) H) ?_
  intro h3 H3
  refine zcx_B2 (Hr _ H3) ?_
  intro v5 h6 H6
  refine zcx_B2 (cx_f_Tr_hang H6) ?_
  intro v8 h9 H9
  exact cx_f_Ps_caseStatement_152 H9
theorem cx_case49 (Hr : zcx_R E r) : ∀ (N : Nat) (h : zs_H) (x1 x2 x3 : Int32), zcx_P E 0 h → zcx_2 E 0 (f_Ps_caseStatement_L49 r N h x1 x2 x3) := by
  intro N
  induction N with
  | zero => intro h x1 x2 x3 _; exact zcx_2n
  | succ N ih =>
    intro h x1 x2 x3 H
    show zcx_2 E 0 (f_Ps_caseStatement_49 r (f_Ps_caseStatement_L49 r N) h x1 x2 x3)
    unfold f_Ps_caseStatement_49
    refine zcx_2i (fun _ => cx_case121 Hr H) (fun _ => zcx_2i (fun _ => cx_case121 Hr H) (fun _ => ?_))
    refine zcx_B2 (cx_f_Tr_add (by decide) H) ?_
    intro v5 h6 H6
    refine zcx_B2 (cx_f_Tr_hang H6) ?_
    intro v8 h9 H9
    refine zcx_B2 (cx_ranges H9) ?_
    intro v11 h12 H12
    refine zcx_B2 (Hr _ H12) ?_
    intro v14 h15 H15
    refine zcx_B2 (cx_f_Tr_hang H15) ?_
    intro v17 h18 H18
    exact ih _ _ _ _ H18
theorem cx_case (Hr : zcx_R E r) (H : zcx_P E 0 h) : zcx_2 E 0 (g_Ps_caseStatement r h) := by
  unfold g_Ps_caseStatement
  refine zcx_B2 (cx_f_Tr_add (by decide) H) ?_
  intro v2 h3 H3
  refine zcx_b2 (cx_f_Ps_deepen H3) ?_
  intro h5 H5
  refine zcx_b2 (cx_f_Ps_take H5) ?_
  intro h7 H7
  refine zcx_B2 (cx_f_Ps_wholeExpression H7) ?_
  intro v9 h10 H10
  refine zcx_B2 (cx_f_Tr_hang H10) ?_
  intro v12 h13 H13
  refine zcx_b2 (cx_f_Ps_take H13) ?_
  intro h15 H15
  exact cx_case49 Hr _ _ _ _ _ H15
theorem cx_for124 {x1 x2 : Int32} (Hr : zcx_R E r) (H : zcx_P E 0 h) : zcx_2 E 0 (f_Ps_forStatement_124 r h x1 x2) := by
  unfold f_Ps_forStatement_124
  refine zcx_b2 (zcx_K0 (by decide) H) ?_
  intro h3 H3
  refine zcx_B2 (Hr _ H3) ?_
  intro v5 h6 H6
  refine zcx_B2 (cx_f_Tr_hang H6) ?_
  intro v8 h9 H9
  refine zcx_b2 (cx_f_Ps_take H9) ?_
  intro h10 H10
  exact zcx_2s (zcx_uF (by decide) H10)
theorem cx_for (Hr : zcx_R E r) (H : zcx_P E 0 h) : zcx_2 E 0 (g_Ps_forStatement r h) := by
  unfold g_Ps_forStatement
  refine zcx_B2 (cx_f_Tr_add (by decide) H) ?_
  intro v2 h3 H3
  refine zcx_b2 (cx_f_Ps_deepen H3) ?_
  intro h5 H5
  refine zcx_b2 (cx_f_Ps_take H5) ?_
  intro h7 H7
  refine zcx_2i (fun _ => zcx_2i (fun _ => ?_) (fun _ => zcx_2n)) (fun _ => zcx_2n)
  refine zcx_b2 (cx_f_Ps_take (zcx_uM (by decide) H7)) ?_
  intro h11 H11
  refine zcx_b2 (cx_f_Ps_take H11) ?_
  intro h13 H13
  refine zcx_B2 (cx_f_Ps_constant H13) ?_
  intro v15 h16 H16
  refine zcx_B2 (cx_f_Tr_hang H16) ?_
  intro v18 h19 H19
  refine zcx_b2 (cx_f_Ps_take H19) ?_
  intro h21 H21
  refine zcx_B2 (cx_f_Ps_constant H21) ?_
  intro v23 h24 H24
  refine zcx_B2 (cx_f_Tr_hang H24) ?_
  intro v26 h27 H27
  refine zcx_2i (fun _ => ?_) (fun _ => cx_for124 Hr H27)
  refine zcx_b2 (cx_f_Ps_take H27) ?_
  intro h30 H30
  refine zcx_B2 (cx_f_Ps_constant H30) ?_
  intro v32 h33 H33
  refine zcx_B2 (cx_f_Tr_hang H33) ?_
  intro v35 h36 H36
  exact cx_for124 Hr H36
theorem cx_if94 {x1 x2 : Int32} (Hr : zcx_R E r) (H : zcx_P E 0 h) : zcx_2 E 0 (f_Ps_ifStatement_94 r h x1 x2) := by
  unfold f_Ps_ifStatement_94
  refine zcx_2i (fun _ => ?_) (fun _ => cx_f_Ps_ifStatement_125 H)
  refine zcx_b2 (zcx_K0 (by decide) H) ?_
  intro h3 H3
  refine zcx_B2 (Hr _ H3) ?_
  intro v5 h6 H6
  refine zcx_B2 (cx_f_Tr_hang H6) ?_
  intro v8 h9 H9
  exact cx_f_Ps_ifStatement_125 H9
theorem cx_if28 (Hr : zcx_R E r) : ∀ (N : Nat) (h : zs_H) (x1 x2 x3 x4 : Int32), zcx_P E 0 h → zcx_2 E 0 (f_Ps_ifStatement_L28 r N h x1 x2 x3 x4) := by
  intro N
  induction N with
  | zero => intro h x1 x2 x3 x4 _; exact zcx_2n
  | succ N ih =>
    intro h x1 x2 x3 x4 H
    show zcx_2 E 0 (f_Ps_ifStatement_28 r (f_Ps_ifStatement_L28 r N) h x1 x2 x3 x4)
    unfold f_Ps_ifStatement_28
    refine zcx_2i (fun _ => cx_if94 Hr H) (fun _ => zcx_2i (fun _ => ?_) (fun _ => cx_if94 Hr H))
    refine zcx_b2 (cx_f_Ps_take H) ?_
    intro h4 H4
    refine zcx_B2 (cx_f_Ps_wholeExpression H4) ?_
    intro v6 h7 H7
    refine zcx_B2 (cx_f_Tr_hang H7) ?_
    intro v9 h10 H10
    refine zcx_b2 (zcx_K0 (by decide) H10) ?_
    intro h12 H12
    refine zcx_B2 (Hr _ H12) ?_
    intro v14 h15 H15
    refine zcx_B2 (cx_f_Tr_hang H15) ?_
    intro v17 h18 H18
    exact ih _ _ _ _ _ H18
theorem cx_if (Hr : zcx_R E r) (H : zcx_P E 0 h) : zcx_2 E 0 (g_Ps_ifStatement r h) := by
  unfold g_Ps_ifStatement
  refine zcx_B2 (cx_f_Tr_add (by decide) H) ?_
  intro v2 h3 H3
  refine zcx_b2 (cx_f_Ps_deepen H3) ?_
  intro h5 H5
  exact cx_if28 Hr _ _ _ _ _ _ H5
theorem cx_statement (Hc : zcx_S E rc) (Hf : zcx_S E rf) (Hi : zcx_S E ri) (H : zcx_P E 0 h) : zcx_2 E 0 (g_Ps_statement rc rf ri h) := by
  unfold g_Ps_statement
  have w : ∀ (r : zs_H → Option (Int32 × zs_H)), zcx_S E r → zcx_2 E 0 (zd_B (r h) fun v7 h8 => (some (v7, h8))) := fun r Hr => by
    refine zcx_B2 (Hr _ H) ?_
    intro v h' H'
    exact zcx_2s H'
  refine zcx_2i (fun _ => zcx_2i (fun _ => cx_f_Ps_statement_102 H) (fun _ => zcx_2i (fun _ => zcx_2i (fun _ => cx_f_Ps_statement_103 H) (fun _ => cx_f_Ps_statement_102 H)) (fun _ => zcx_2n))) (fun _ => zcx_2i (fun _ => w _ Hi) (fun _ => zcx_2i (fun _ => w _ Hc) (fun _ => zcx_2i (fun _ => w _ Hf) (fun _ => zcx_2i (fun c => ?_) (fun _ => ?_)))))
  · unfold f_Ps_statement_141
    have A : zcx_2 E (-4) (f_Tr_add h 20 (h.1 19 6) 0) := zcx_add H (by rw [if_neg (by decide), if_pos (by decide)]; decide)
    intro x h' e
    cases q : f_Tr_add h 20 (h.1 19 6) 0 with
    | none => rw [q] at e; cases e
    | some p =>
      have t5 : p.2.1 19 5 = 156 := by
        unfold f_Tr_add at q
        split at q
        · cases q; exact c
        · cases q
      rw [q] at e
      have B := A p.1 p.2 q
      have e' : ((f_Ps_take p.2 (p.2.1 19 5)).bind fun h5 => some (p.1, h5)) = some (x, h') := e
      rw [t5] at e'
      exact zcx_b2 (cx_takeX B) (fun h5 H5 => zcx_2s (zcx_le H5 (by decide))) x h' e'
  · unfold f_Ps_statement_141
    refine zcx_B2 (cx_f_Tr_add (by decide) H) ?_
    intro v2 h3 H3
    refine zcx_b2 (cx_f_Ps_take H3) ?_
    intro h5 H5
    exact zcx_2s H5
theorem cx_statements (Hs : zcx_S E r) (H : zcx_P E 2 h) : zcx_2 E 0 (g_Ps_statements r h) := by
  have L : ∀ (N : Nat) (h : zs_H) (x1 x2 x3 : Int32), zcx_P E 0 h → zcx_2 E 0 (f_Ps_statements_L19 r N h x1 x2 x3) := by
    intro N
    induction N with
    | zero => intro h x1 x2 x3 _; exact zcx_2n
    | succ N ih =>
      intro h x1 x2 x3 H
      show zcx_2 E 0 (f_Ps_statements_19 r (f_Ps_statements_L19 r N) h x1 x2 x3)
      unfold f_Ps_statements_19
      have f56 : ∀ (h : zs_H) (x1 x2 x3 : Int32), zcx_P E 0 h → zcx_2 E 0 (f_Ps_statements_56 r (f_Ps_statements_L19 r N) h x1 x2 x3) := fun h x1 x2 x3 H => by
        unfold f_Ps_statements_56
        refine zcx_b2 (cx_f_Ps_take H) ?_
        intro h2 H2
        exact ih _ _ _ _ H2
      refine zcx_2i (fun _ => zcx_2s H) (fun _ => zcx_2i (fun _ => zcx_2s H) (fun _ => zcx_2i (fun _ => f56 _ _ _ _ H) (fun _ => ?_)))
      refine zcx_B2 (Hs _ H) ?_
      intro v6 h7 H7
      refine zcx_B2 (cx_f_Tr_hang H7) ?_
      intro v9 h10 H10
      exact f56 _ _ _ _ H10
  unfold g_Ps_statements
  have A : zcx_2 E 0 (f_Tr_add h 11 (h.1 19 6) 0) := zcx_add H (by rw [if_pos (by decide), if_neg (by decide)]; decide)
  refine zcx_B2 A ?_
  intro v2 h3 H3
  exact L _ _ _ _ _ H3
theorem cx_rec2 : ∀ d, zcx_S E (f_Ps_caseStatement d) ∧ zcx_S E (f_Ps_forStatement d) ∧ zcx_S E (f_Ps_ifStatement d) ∧ zcx_S E (f_Ps_statement d) ∧ zcx_R E (f_Ps_statements d) := by
  intro d
  induction d with
  | zero => exact ⟨fun _ _ => zcx_2n, fun _ _ => zcx_2n, fun _ _ => zcx_2n, fun _ _ => zcx_2n, fun _ _ => zcx_2n⟩
  | succ d ih =>
    obtain ⟨a, b, c, e, f⟩ := ih
    rw [zy_ps, zy_pt, zy_pi, zy_pc, zy_pf]
    exact ⟨fun h H => cx_case f H, fun h H => cx_for f H, fun h H => cx_if f H, fun h H => cx_statement a b c H, fun h H => cx_statements e H⟩
end ZXT
theorem cx_f_Ps_block_184 {E : zcx_T} {a : Int} {h : zs_H} {x1 : Int32} {x3 : Int32} {y0 : Int32} {y1 : Int32} {y2 : Int32}  (H : zcx_P E a h) : zcx_2 E a (f_Ps_block_184 h x1 x3 y0 y1 y2) := by
  unfold f_Ps_block_184
  repeat' first
    | assumption
    | (with_reducible refine zcx_uF ?_ ?_; · decide)
    | (with_reducible refine zcx_uM ?_ ?_; · decide)
    | (with_reducible refine zcx_uK ?_ ?_; · decide)
    | with_reducible exact zcx_2n
    | with_reducible refine zcx_2s ?_
    | with_reducible refine zcx_2i ?_ ?_
    | with_reducible refine cx_f_Tr_hang  ?_
    | with_reducible refine zcx_B2e (cx_f_Tr_hang  ?_) ?_
    | with_reducible refine cx_f_Ps_take  ?_
    | with_reducible refine zcx_b2e (cx_f_Ps_take  ?_) ?_
    | intro _
    | decide
section ZXB
variable {E : zcx_T} {h : zs_H}
theorem cx_block116 {x1 x3 x4 : Int32} (H : zcx_P E 2 h) : zcx_2 E 0 (f_Ps_block_116 h x1 x3 x4) := by
  have f156 : ∀ (h : zs_H) (x1 x3 x4 : Int32), zcx_P E 2 h → zcx_2 E 0 (f_Ps_block_156 h x1 x3 x4) := fun h x1 x3 x4 H => by
    unfold f_Ps_block_156
    refine zcx_2i (fun _ => ?_) (fun _ => ?_)
    · refine zcx_B2 (cx_f_Ps_ladder (zcx_le H (show (0 : Int) ≤ 2 by decide))) ?_
      intro v6 h7 H7
      exact cx_f_Ps_block_184 H7
    · refine zcx_B2 ((cx_rec2 400).2.2.2.2 _ H) ?_
      intro v6 h7 H7
      exact cx_f_Ps_block_184 H7
  have L : ∀ (N : Nat) (h : zs_H) (x1 x3 x4 x5 : Int32), zcx_P E 2 h → zcx_2 E 0 (f_Ps_block_L119 N h x1 x3 x4 x5) := by
    intro N
    induction N with
    | zero => intro h x1 x3 x4 x5 _; exact zcx_2n
    | succ N ih =>
      intro h x1 x3 x4 x5 H
      show zcx_2 E 0 (f_Ps_block_119 (f_Ps_block_L119 N) h x1 x3 x4 x5)
      unfold f_Ps_block_119
      refine zcx_2i (fun _ => f156 _ _ _ _ H) (fun _ => zcx_2i (fun _ => f156 _ _ _ _ H) (fun _ => ?_))
      refine zcx_B2 (cx_f_Ps_section H) ?_
      intro v5 h6 H6
      refine zcx_B2 (cx_f_Tr_hang H6) ?_
      intro v8 h9 H9
      exact ih _ _ _ _ _ H9
  unfold f_Ps_block_116
  exact L _ _ _ _ _ _ H
theorem cx_block56 {x1 x2 x3 y0 : Int32} (H : zcx_P E 0 h) : zcx_2 E 0 (f_Ps_block_56 h x1 x2 x3 y0) := by
  unfold f_Ps_block_56
  refine zcx_b2 (cx_take1 H) ?_
  intro h2 H2
  refine zcx_2i (fun _ => zcx_2i (fun _ => ?_) (fun _ => zcx_2n)) (fun _ => zcx_2n)
  refine zcx_b2 (cx_take1 (zcx_uM (by decide) H2)) ?_
  intro h6 H6
  have H6' : zcx_P E 2 h6 := zcx_le H6 (by decide)
  refine zcx_2i (fun _ => ?_) (fun _ => cx_block116 H6')
  refine zcx_b2 (cx_f_Ps_take H6') ?_
  intro h9 H9
  refine zcx_B2 (cx_f_Ps_simpleType H9) ?_
  intro v11 h12 H12
  refine zcx_B2 (cx_f_Tr_hang H12) ?_
  intro v14 h15 H15
  exact cx_block116 H15
theorem cx_block (H : zcx_P E 0 h) : zcx_2 E 0 (f_Ps_block h) := by
  have f28 : ∀ (x1 y0 : Int32), zcx_k y0 → zcx_2 E 0 (f_Ps_block_28 h x1 y0) := fun x1 y0 hk => by
    unfold f_Ps_block_28
    refine zcx_B2 (cx_f_Tr_add hk H) ?_
    intro v2 h3 H3
    exact zcx_2i (fun _ => cx_block56 H3) (fun _ => cx_block56 H3)
  unfold f_Ps_block
  exact zcx_2i (fun _ => f28 _ _ (by decide)) (fun _ => zcx_2i (fun _ => f28 _ _ (by decide)) (fun _ => f28 _ _ (by decide)))
def zcx_3 (E : zcx_T) (o : Option (Int32 × zs_H)) : Prop := ∀ x h, o = some (x, h) → zcx_P E 0 h ∧ x = h.1 19 3
theorem cx_parse64 : ∀ (N : Nat) (h : zs_H) (x1 x2 x3 : Int32), zcx_P E 0 h → zcx_3 E (f_Ps_parse_L64 N h x1 x2 x3) := by
  intro N
  induction N with
  | zero => intro h x1 x2 x3 _ x h' e; cases e
  | succ N ih =>
    intro h x1 x2 x3 H x h' e
    have e1 : f_Ps_parse_64 (f_Ps_parse_L64 N) h x1 x2 x3 = some (x, h') := e
    have f107 : f_Ps_parse_107 h = some (x, h') → zcx_P E 0 h' ∧ x = h'.1 19 3 := fun q => by
      unfold f_Ps_parse_107 at q
      cases q
      exact ⟨H, rfl⟩
    unfold f_Ps_parse_64 at e1
    split at e1
    · exact f107 e1
    split at e1
    · exact f107 e1
    split at e1
    · cases q : f_Ps_block h with
      | none => rw [q] at e1; cases e1
      | some p =>
        have B := cx_block H p.1 p.2 q
        rw [q] at e1
        have e2 : (zd_B (f_Tr_hang p.2 x1 x2 p.1) fun v8 h9 => f_Ps_parse_L64 N h9 x1 v8 (x3 + 1)) = some (x, h') := e1
        cases q2 : f_Tr_hang p.2 x1 x2 p.1 with
        | none => rw [q2] at e2; cases e2
        | some p2 =>
          have C := cx_f_Tr_hang B p2.1 p2.2 q2
          rw [q2] at e2
          exact ih _ _ _ _ C x h' e2
    · exact f107 e1
end ZXB
