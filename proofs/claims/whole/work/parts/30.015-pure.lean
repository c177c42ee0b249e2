section
/-! The class's reader leaves all types at nothing. -/
def zy_P (h : zs_H) : Prop := ∃ s, h.1 12 6 = nI s ∧ s ≤ 32784 ∧ ∀ i, i < s → h.2.1 14 i = 0
def zy_1 (o : Option zs_H) : Prop := ∀ h, o = some h → zy_P h
def zy_2 (o : Option (Int32 × zs_H)) : Prop := ∀ x h, o = some (x, h) → zy_P h
theorem zy_1s {h : zs_H} (H : zy_P h) : zy_1 (some h) := fun h' e => by cases e; exact H
theorem zy_2s {h : zs_H} {x : Int32} (H : zy_P h) : zy_2 (some (x, h)) := fun x' h' e => by cases e; exact H
theorem zy_1n : zy_1 none := fun h' e => by cases e
theorem zy_2n : zy_2 none := fun x h' e => by cases e
theorem zy_1i {c : Prop} [Decidable c] {A B : Option zs_H} (a : c → zy_1 A) (b : ¬ c → zy_1 B) : zy_1 (if c then A else B) := by
  by_cases h : c
  · rw [if_pos h]; exact a h
  · rw [if_neg h]; exact b h
theorem zy_2i {c : Prop} [Decidable c] {A B : Option (Int32 × zs_H)} (a : c → zy_2 A) (b : ¬ c → zy_2 B) : zy_2 (if c then A else B) := by
  by_cases h : c
  · rw [if_pos h]; exact a h
  · rw [if_neg h]; exact b h
theorem zy_b2 {A : Option zs_H} {F : zs_H → Option (Int32 × zs_H)} (a : zy_1 A) (b : ∀ h, zy_P h → zy_2 (F h)) : zy_2 (A.bind F) := by
  cases A with
  | none => exact zy_2n
  | some h => exact b h (a h rfl)
theorem zy_b1 {A : Option zs_H} {F : zs_H → Option zs_H} (a : zy_1 A) (b : ∀ h, zy_P h → zy_1 (F h)) : zy_1 (A.bind F) := by
  cases A with
  | none => exact zy_1n
  | some h => exact b h (a h rfl)
theorem zy_B2 {A : Option (Int32 × zs_H)} {F : Int32 → zs_H → Option (Int32 × zs_H)} (a : zy_2 A) (b : ∀ x h, zy_P h → zy_2 (F x h)) : zy_2 (zd_B A F) := by
  cases A with
  | none => exact zy_2n
  | some p => exact b p.1 p.2 (a p.1 p.2 rfl)
theorem zy_uF {h : zs_H} {k j : Nat} {v : Int32} (hk : ¬ (k, j) = (12, 6)) (H : zy_P h) : zy_P (zs_uF h k j v) := by
  obtain ⟨s, a, b, c⟩ := H
  refine ⟨s, ?_, b, c⟩
  show (if 12 = k ∧ 6 = j then v else h.1 12 6) = _
  rw [if_neg (by rintro ⟨rfl, rfl⟩; exact hk rfl)]; exact a
theorem zy_uM {h : zs_H} {k j : Nat} {v : Int32} (hk : ¬ k = 14) (H : zy_P h) : zy_P (zs_uM h k j v) := by
  obtain ⟨s, a, b, c⟩ := H
  refine ⟨s, a, b, fun i hi => ?_⟩
  show (if 14 = k ∧ i = j then v else h.2.1 14 i) = _
  rw [if_neg (fun z => hk z.1.symm)]; exact c i hi
theorem ty_f_Tr_add {h : zs_H} {x1 x2 x3 : Int32} (H : zy_P h) : zy_2 (f_Tr_add h x1 x2 x3) := by
  intro x h' e
  obtain ⟨s, a, b, c⟩ := H
  unfold f_Tr_add at e
  rw [a, zq_min b, if_pos (zi_in (by omega) (by omega)), nI_clamp (by omega), nI_1] at e
  cases e
  refine ⟨min s 32783 + 1, rfl, by omega, fun i hi => ?_⟩
  by_cases ei : i = min s 32783
  · subst ei; simp [zu_FM, zu_MM]; rfl
  · simp [zu_FM, zu_MM, ei]; exact c i (by omega)

theorem ty_f_Ps_take_119 {h : zs_H}  (H : zy_P h) : zy_1 (f_Ps_take_119 h) := by
  unfold f_Ps_take_119
  repeat' first
    | assumption
    | (with_reducible refine zy_uF ?_ ?_; · decide)
    | (with_reducible refine zy_uM ?_ ?_; · decide)
    | with_reducible exact zy_1n
    | with_reducible refine zy_1s ?_
    | with_reducible refine zy_1i ?_ ?_
    | intro _
theorem ty_f_Ps_take_108 {h : zs_H} {y0 : Int32}  (H : zy_P h) : zy_1 (f_Ps_take_108 h y0) := by
  unfold f_Ps_take_108
  repeat' first
    | assumption
    | (with_reducible refine zy_uF ?_ ?_; · decide)
    | (with_reducible refine zy_uM ?_ ?_; · decide)
    | with_reducible exact zy_1n
    | with_reducible refine zy_1s ?_
    | with_reducible refine zy_1i ?_ ?_
    | with_reducible refine ty_f_Ps_take_119  ?_
    | with_reducible refine zy_b1 (ty_f_Ps_take_119  ?_) ?_
    | intro _
theorem ty_f_Ps_take_74 {h : zs_H}  (H : zy_P h) : zy_1 (f_Ps_take_74 h) := by
  unfold f_Ps_take_74
  repeat' first
    | assumption
    | (with_reducible refine zy_uF ?_ ?_; · decide)
    | (with_reducible refine zy_uM ?_ ?_; · decide)
    | with_reducible exact zy_1n
    | with_reducible refine zy_1s ?_
    | with_reducible refine zy_1i ?_ ?_
    | with_reducible refine ty_f_Ps_take_108  ?_
    | with_reducible refine zy_b1 (ty_f_Ps_take_108  ?_) ?_
    | with_reducible refine ty_f_Ps_take_119  ?_
    | with_reducible refine zy_b1 (ty_f_Ps_take_119  ?_) ?_
    | intro _
theorem ty_f_Ps_take {h : zs_H} {x1 : Int32}  (H : zy_P h) : zy_1 (f_Ps_take h x1) := by
  unfold f_Ps_take
  repeat' first
    | assumption
    | (with_reducible refine zy_uF ?_ ?_; · decide)
    | (with_reducible refine zy_uM ?_ ?_; · decide)
    | with_reducible exact zy_1n
    | with_reducible refine zy_1s ?_
    | with_reducible refine zy_1i ?_ ?_
    | with_reducible refine ty_f_Ps_take_74  ?_
    | with_reducible refine zy_b1 (ty_f_Ps_take_74  ?_) ?_
    | intro _
theorem ty_f_Ps_simpleType_61 {h : zs_H} {x1 : Int32} {y0 : Int32}  (H : zy_P h) : zy_2 (f_Ps_simpleType_61 h x1 y0) := by
  unfold f_Ps_simpleType_61
  repeat' first
    | assumption
    | (with_reducible refine zy_uF ?_ ?_; · decide)
    | (with_reducible refine zy_uM ?_ ?_; · decide)
    | with_reducible exact zy_2n
    | with_reducible refine zy_2s ?_
    | with_reducible refine zy_2i ?_ ?_
    | with_reducible refine ty_f_Ps_take  ?_
    | with_reducible refine zy_b2 (ty_f_Ps_take  ?_) ?_
    | intro _
theorem ty_f_Ps_simpleType_47 {h : zs_H} {x1 : Int32} {y0 : Int32}  (H : zy_P h) : zy_2 (f_Ps_simpleType_47 h x1 y0) := by
  unfold f_Ps_simpleType_47
  repeat' first
    | assumption
    | (with_reducible refine zy_uF ?_ ?_; · decide)
    | (with_reducible refine zy_uM ?_ ?_; · decide)
    | with_reducible exact zy_2n
    | with_reducible refine zy_2s ?_
    | with_reducible refine zy_2i ?_ ?_
    | with_reducible refine ty_f_Ps_simpleType_61  ?_
    | with_reducible refine zy_B2 (ty_f_Ps_simpleType_61  ?_) ?_
    | intro _
theorem ty_f_Ps_simpleType_46 {h : zs_H} {x1 : Int32}  (H : zy_P h) : zy_2 (f_Ps_simpleType_46 h x1) := by
  unfold f_Ps_simpleType_46
  repeat' first
    | assumption
    | (with_reducible refine zy_uF ?_ ?_; · decide)
    | (with_reducible refine zy_uM ?_ ?_; · decide)
    | with_reducible exact zy_2n
    | with_reducible refine zy_2s ?_
    | with_reducible refine zy_2i ?_ ?_
    | with_reducible refine ty_f_Ps_simpleType_47  ?_
    | with_reducible refine zy_B2 (ty_f_Ps_simpleType_47  ?_) ?_
    | intro _
theorem ty_f_Ps_simpleType {h : zs_H}  (H : zy_P h) : zy_2 (f_Ps_simpleType h) := by
  unfold f_Ps_simpleType
  repeat' first
    | assumption
    | (with_reducible refine zy_uF ?_ ?_; · decide)
    | (with_reducible refine zy_uM ?_ ?_; · decide)
    | with_reducible exact zy_2n
    | with_reducible refine zy_2s ?_
    | with_reducible refine zy_2i ?_ ?_
    | with_reducible refine ty_f_Tr_add  ?_
    | with_reducible refine zy_B2 (ty_f_Tr_add  ?_) ?_
    | with_reducible refine ty_f_Ps_simpleType_46  ?_
    | with_reducible refine zy_B2 (ty_f_Ps_simpleType_46  ?_) ?_
    | with_reducible refine ty_f_Ps_simpleType_47  ?_
    | with_reducible refine zy_B2 (ty_f_Ps_simpleType_47  ?_) ?_
    | intro _
theorem ty_f_Tr_hang {h : zs_H} {x1 : Int32} {x2 : Int32} {x3 : Int32}  (H : zy_P h) : zy_2 (f_Tr_hang h x1 x2 x3) := by
  unfold f_Tr_hang
  repeat' first
    | assumption
    | (with_reducible refine zy_uF ?_ ?_; · decide)
    | (with_reducible refine zy_uM ?_ ?_; · decide)
    | with_reducible exact zy_2n
    | with_reducible refine zy_2s ?_
    | with_reducible refine zy_2i ?_ ?_
    | intro _
theorem ty_f_Ps_constant_45 {h : zs_H} {y0 : Int32} {y1 : Int32} {y2 : Int32}  (H : zy_P h) : zy_2 (f_Ps_constant_45 h y0 y1 y2) := by
  unfold f_Ps_constant_45
  repeat' first
    | assumption
    | (with_reducible refine zy_uF ?_ ?_; · decide)
    | (with_reducible refine zy_uM ?_ ?_; · decide)
    | with_reducible exact zy_2n
    | with_reducible refine zy_2s ?_
    | with_reducible refine zy_2i ?_ ?_
    | with_reducible refine ty_f_Tr_add  ?_
    | with_reducible refine zy_B2 (ty_f_Tr_add  ?_) ?_
    | with_reducible refine ty_f_Ps_take  ?_
    | with_reducible refine zy_b2 (ty_f_Ps_take  ?_) ?_
    | intro _
theorem ty_f_Ps_constant_20 {h : zs_H}  (H : zy_P h) : zy_2 (f_Ps_constant_20 h) := by
  unfold f_Ps_constant_20
  repeat' first
    | assumption
    | (with_reducible refine zy_uF ?_ ?_; · decide)
    | (with_reducible refine zy_uM ?_ ?_; · decide)
    | with_reducible exact zy_2n
    | with_reducible refine zy_2s ?_
    | with_reducible refine zy_2i ?_ ?_
    | with_reducible refine ty_f_Ps_constant_45  ?_
    | with_reducible refine zy_B2 (ty_f_Ps_constant_45  ?_) ?_
    | intro _
theorem ty_f_Ps_constant_139 {h : zs_H} {x1 : Int32} {y0 : Int32} {y1 : Int32}  (H : zy_P h) : zy_2 (f_Ps_constant_139 h x1 y0 y1) := by
  unfold f_Ps_constant_139
  repeat' first
    | assumption
    | (with_reducible refine zy_uF ?_ ?_; · decide)
    | (with_reducible refine zy_uM ?_ ?_; · decide)
    | with_reducible exact zy_2n
    | with_reducible refine zy_2s ?_
    | with_reducible refine zy_2i ?_ ?_
    | with_reducible refine ty_f_Ps_take  ?_
    | with_reducible refine zy_b2 (ty_f_Ps_take  ?_) ?_
    | intro _
theorem ty_f_Ps_constant_99 {h : zs_H} {x1 : Int32} {x2 : Int32}  (H : zy_P h) : zy_2 (f_Ps_constant_99 h x1 x2) := by
  unfold f_Ps_constant_99
  repeat' first
    | assumption
    | (with_reducible refine zy_uF ?_ ?_; · decide)
    | (with_reducible refine zy_uM ?_ ?_; · decide)
    | with_reducible exact zy_2n
    | with_reducible refine zy_2s ?_
    | with_reducible refine zy_2i ?_ ?_
    | with_reducible refine ty_f_Ps_constant_139  ?_
    | with_reducible refine zy_B2 (ty_f_Ps_constant_139  ?_) ?_
    | intro _
theorem ty_f_Ps_constant_88 {h : zs_H} {x1 : Int32} {y0 : Int32}  (H : zy_P h) : zy_2 (f_Ps_constant_88 h x1 y0) := by
  unfold f_Ps_constant_88
  repeat' first
    | assumption
    | (with_reducible refine zy_uF ?_ ?_; · decide)
    | (with_reducible refine zy_uM ?_ ?_; · decide)
    | with_reducible exact zy_2n
    | with_reducible refine zy_2s ?_
    | with_reducible refine zy_2i ?_ ?_
    | with_reducible refine ty_f_Ps_constant_99  ?_
    | with_reducible refine zy_B2 (ty_f_Ps_constant_99  ?_) ?_
    | with_reducible refine ty_f_Ps_take  ?_
    | with_reducible refine zy_b2 (ty_f_Ps_take  ?_) ?_
    | intro _
theorem ty_f_Ps_constant {h : zs_H}  (H : zy_P h) : zy_2 (f_Ps_constant h) := by
  unfold f_Ps_constant
  repeat' first
    | assumption
    | (with_reducible refine zy_uF ?_ ?_; · decide)
    | (with_reducible refine zy_uM ?_ ?_; · decide)
    | with_reducible exact zy_2n
    | with_reducible refine zy_2s ?_
    | with_reducible refine zy_2i ?_ ?_
    | with_reducible refine ty_f_Ps_constant_20  ?_
    | with_reducible refine zy_B2 (ty_f_Ps_constant_20  ?_) ?_
    | with_reducible refine ty_f_Tr_add  ?_
    | with_reducible refine zy_B2 (ty_f_Tr_add  ?_) ?_
    | with_reducible refine ty_f_Ps_constant_88  ?_
    | with_reducible refine zy_B2 (ty_f_Ps_constant_88  ?_) ?_
    | intro _
theorem ty_f_Ps_type {h : zs_H}  (H : zy_P h) : zy_2 (f_Ps_type h) := by
  unfold f_Ps_type
  repeat' first
    | assumption
    | (with_reducible refine zy_uF ?_ ?_; · decide)
    | (with_reducible refine zy_uM ?_ ?_; · decide)
    | with_reducible exact zy_2n
    | with_reducible refine zy_2s ?_
    | with_reducible refine zy_2i ?_ ?_
    | with_reducible refine ty_f_Tr_add  ?_
    | with_reducible refine zy_B2 (ty_f_Tr_add  ?_) ?_
    | with_reducible refine ty_f_Ps_take  ?_
    | with_reducible refine zy_b2 (ty_f_Ps_take  ?_) ?_
    | with_reducible refine ty_f_Ps_constant  ?_
    | with_reducible refine zy_B2 (ty_f_Ps_constant  ?_) ?_
    | with_reducible refine ty_f_Tr_hang  ?_
    | with_reducible refine zy_B2 (ty_f_Tr_hang  ?_) ?_
    | with_reducible refine ty_f_Ps_simpleType  ?_
    | with_reducible refine zy_B2 (ty_f_Ps_simpleType  ?_) ?_
    | intro _
theorem ty_f_Ps_declaration_231 {h : zs_H} {x1 : Int32}  (H : zy_P h) : zy_2 (f_Ps_declaration_231 h x1) := by
  unfold f_Ps_declaration_231
  repeat' first
    | assumption
    | (with_reducible refine zy_uF ?_ ?_; · decide)
    | (with_reducible refine zy_uM ?_ ?_; · decide)
    | with_reducible exact zy_2n
    | with_reducible refine zy_2s ?_
    | with_reducible refine zy_2i ?_ ?_
    | with_reducible refine ty_f_Ps_take  ?_
    | with_reducible refine zy_b2 (ty_f_Ps_take  ?_) ?_
    | intro _
theorem ty_f_Ps_declaration_184 {h : zs_H} {x1 : Int32} {x2 : Int32}  (H : zy_P h) : zy_2 (f_Ps_declaration_184 h x1 x2) := by
  unfold f_Ps_declaration_184
  repeat' first
    | assumption
    | (with_reducible refine zy_uF ?_ ?_; · decide)
    | (with_reducible refine zy_uM ?_ ?_; · decide)
    | with_reducible exact zy_2n
    | with_reducible refine zy_2s ?_
    | with_reducible refine zy_2i ?_ ?_
    | with_reducible refine ty_f_Ps_take  ?_
    | with_reducible refine zy_b2 (ty_f_Ps_take  ?_) ?_
    | with_reducible refine ty_f_Ps_type  ?_
    | with_reducible refine zy_B2 (ty_f_Ps_type  ?_) ?_
    | with_reducible refine ty_f_Tr_hang  ?_
    | with_reducible refine zy_B2 (ty_f_Tr_hang  ?_) ?_
    | with_reducible refine ty_f_Ps_constant  ?_
    | with_reducible refine zy_B2 (ty_f_Ps_constant  ?_) ?_
    | with_reducible refine ty_f_Ps_declaration_231  ?_
    | with_reducible refine zy_B2 (ty_f_Ps_declaration_231  ?_) ?_
    | intro _
theorem ty_f_Ps_declaration_126 {h : zs_H} {x1 : Int32} {x2 : Int32}  (H : zy_P h) : zy_2 (f_Ps_declaration_126 h x1 x2) := by
  unfold f_Ps_declaration_126
  repeat' first
    | assumption
    | (with_reducible refine zy_uF ?_ ?_; · decide)
    | (with_reducible refine zy_uM ?_ ?_; · decide)
    | with_reducible exact zy_2n
    | with_reducible refine zy_2s ?_
    | with_reducible refine zy_2i ?_ ?_
    | with_reducible refine ty_f_Ps_take  ?_
    | with_reducible refine zy_b2 (ty_f_Ps_take  ?_) ?_
    | with_reducible refine ty_f_Tr_add  ?_
    | with_reducible refine zy_B2 (ty_f_Tr_add  ?_) ?_
    | with_reducible refine ty_f_Tr_hang  ?_
    | with_reducible refine zy_B2 (ty_f_Tr_hang  ?_) ?_
    | with_reducible refine ty_f_Ps_declaration_184  ?_
    | with_reducible refine zy_B2 (ty_f_Ps_declaration_184  ?_) ?_
    | intro _
theorem ty_f_Ps_declaration_57 {k57 : zs_H → Int32 → Int32 → Int32 → (Option (Int32 × zs_H))} {h : zs_H} {x1 : Int32} {x2 : Int32} {x3 : Int32} (H_k57 : ∀ a0 a1 a2 a3, zy_P a0 → zy_2 (k57 a0 a1 a2 a3)) (H : zy_P h) : zy_2 (f_Ps_declaration_57 k57 h x1 x2 x3) := by
  unfold f_Ps_declaration_57
  repeat' first
    | assumption
    | (with_reducible refine zy_uF ?_ ?_; · decide)
    | (with_reducible refine zy_uM ?_ ?_; · decide)
    | with_reducible exact zy_2n
    | with_reducible refine zy_2s ?_
    | with_reducible refine zy_2i ?_ ?_
    | with_reducible refine ty_f_Ps_declaration_126  ?_
    | with_reducible refine zy_B2 (ty_f_Ps_declaration_126  ?_) ?_
    | with_reducible refine ty_f_Ps_take  ?_
    | with_reducible refine zy_b2 (ty_f_Ps_take  ?_) ?_
    | with_reducible refine ty_f_Tr_add  ?_
    | with_reducible refine zy_B2 (ty_f_Tr_add  ?_) ?_
    | with_reducible refine ty_f_Tr_hang  ?_
    | with_reducible refine zy_B2 (ty_f_Tr_hang  ?_) ?_
    | with_reducible exact H_k57
    | with_reducible refine H_k57 _ _ _ _ ?_
    | with_reducible refine zy_B2 (H_k57 _ _ _ _ ?_) ?_
    | intro _
theorem ty_f_Ps_declaration_L57   : ∀ (N : Nat) (h : zs_H) (x1 : Int32) (x2 : Int32) (x3 : Int32), zy_P h → zy_2 (f_Ps_declaration_L57  N h x1 x2 x3) := by
  intro N
  induction N with
  | zero => intro h x1 x2 x3 _; exact zy_2n
  | succ N ih =>
    intro h x1 x2 x3 H
    exact ty_f_Ps_declaration_57  (fun b0 b1 b2 b3 z => ih b0 b1 b2 b3 z) H
theorem ty_f_Ps_declaration_L57'   {N : Nat} {h : zs_H} {x1 : Int32} {x2 : Int32} {x3 : Int32} (H : zy_P h) : zy_2 (f_Ps_declaration_L57  N h x1 x2 x3) := ty_f_Ps_declaration_L57  N h x1 x2 x3 H
theorem ty_f_Ps_declaration {h : zs_H}  (H : zy_P h) : zy_2 (f_Ps_declaration h) := by
  unfold f_Ps_declaration
  repeat' first
    | assumption
    | (with_reducible refine zy_uF ?_ ?_; · decide)
    | (with_reducible refine zy_uM ?_ ?_; · decide)
    | with_reducible exact zy_2n
    | with_reducible refine zy_2s ?_
    | with_reducible refine zy_2i ?_ ?_
    | with_reducible refine ty_f_Tr_add  ?_
    | with_reducible refine zy_B2 (ty_f_Tr_add  ?_) ?_
    | with_reducible refine ty_f_Tr_hang  ?_
    | with_reducible refine zy_B2 (ty_f_Tr_hang  ?_) ?_
    | with_reducible refine ty_f_Ps_take  ?_
    | with_reducible refine zy_b2 (ty_f_Ps_take  ?_) ?_
    | with_reducible refine ty_f_Ps_declaration_L57'  ?_
    | with_reducible refine zy_B2 (ty_f_Ps_declaration_L57'  ?_) ?_
    | intro _
theorem ty_f_Ps_section_69 {h : zs_H} {x1 : Int32}  (H : zy_P h) : zy_2 (f_Ps_section_69 h x1) := by
  unfold f_Ps_section_69
  repeat' first
    | assumption
    | (with_reducible refine zy_uF ?_ ?_; · decide)
    | (with_reducible refine zy_uM ?_ ?_; · decide)
    | with_reducible exact zy_2n
    | with_reducible refine zy_2s ?_
    | with_reducible refine zy_2i ?_ ?_
    | with_reducible refine ty_f_Ps_take  ?_
    | with_reducible refine zy_b2 (ty_f_Ps_take  ?_) ?_
    | intro _
theorem ty_f_Ps_section_33 {k33 : zs_H → Int32 → Int32 → Int32 → (Option (Int32 × zs_H))} {h : zs_H} {x1 : Int32} {x2 : Int32} {x3 : Int32} (H_k33 : ∀ a0 a1 a2 a3, zy_P a0 → zy_2 (k33 a0 a1 a2 a3)) (H : zy_P h) : zy_2 (f_Ps_section_33 k33 h x1 x2 x3) := by
  unfold f_Ps_section_33
  repeat' first
    | assumption
    | (with_reducible refine zy_uF ?_ ?_; · decide)
    | (with_reducible refine zy_uM ?_ ?_; · decide)
    | with_reducible exact zy_2n
    | with_reducible refine zy_2s ?_
    | with_reducible refine zy_2i ?_ ?_
    | with_reducible refine ty_f_Ps_section_69  ?_
    | with_reducible refine zy_B2 (ty_f_Ps_section_69  ?_) ?_
    | with_reducible refine ty_f_Ps_declaration  ?_
    | with_reducible refine zy_B2 (ty_f_Ps_declaration  ?_) ?_
    | with_reducible refine ty_f_Tr_hang  ?_
    | with_reducible refine zy_B2 (ty_f_Tr_hang  ?_) ?_
    | with_reducible exact H_k33
    | with_reducible refine H_k33 _ _ _ _ ?_
    | with_reducible refine zy_B2 (H_k33 _ _ _ _ ?_) ?_
    | intro _
theorem ty_f_Ps_section_L33   : ∀ (N : Nat) (h : zs_H) (x1 : Int32) (x2 : Int32) (x3 : Int32), zy_P h → zy_2 (f_Ps_section_L33  N h x1 x2 x3) := by
  intro N
  induction N with
  | zero => intro h x1 x2 x3 _; exact zy_2n
  | succ N ih =>
    intro h x1 x2 x3 H
    exact ty_f_Ps_section_33  (fun b0 b1 b2 b3 z => ih b0 b1 b2 b3 z) H
theorem ty_f_Ps_section_L33'   {N : Nat} {h : zs_H} {x1 : Int32} {x2 : Int32} {x3 : Int32} (H : zy_P h) : zy_2 (f_Ps_section_L33  N h x1 x2 x3) := ty_f_Ps_section_L33  N h x1 x2 x3 H
theorem ty_f_Ps_section {h : zs_H}  (H : zy_P h) : zy_2 (f_Ps_section h) := by
  unfold f_Ps_section
  repeat' first
    | assumption
    | (with_reducible refine zy_uF ?_ ?_; · decide)
    | (with_reducible refine zy_uM ?_ ?_; · decide)
    | with_reducible exact zy_2n
    | with_reducible refine zy_2s ?_
    | with_reducible refine zy_2i ?_ ?_
    | with_reducible refine ty_f_Tr_add  ?_
    | with_reducible refine zy_B2 (ty_f_Tr_add  ?_) ?_
    | with_reducible refine ty_f_Ps_take  ?_
    | with_reducible refine zy_b2 (ty_f_Ps_take  ?_) ?_
    | with_reducible refine ty_f_Ps_section_L33'  ?_
    | with_reducible refine zy_B2 (ty_f_Ps_section_L33'  ?_) ?_
    | intro _
theorem ty_f_Ps_coil_92 {h : zs_H} {x1 : Int32}  (H : zy_P h) : zy_2 (f_Ps_coil_92 h x1) := by
  unfold f_Ps_coil_92
  repeat' first
    | assumption
    | (with_reducible refine zy_uF ?_ ?_; · decide)
    | (with_reducible refine zy_uM ?_ ?_; · decide)
    | with_reducible exact zy_2n
    | with_reducible refine zy_2s ?_
    | with_reducible refine zy_2i ?_ ?_
    | with_reducible refine ty_f_Tr_add  ?_
    | with_reducible refine zy_B2 (ty_f_Tr_add  ?_) ?_
    | with_reducible refine ty_f_Tr_hang  ?_
    | with_reducible refine zy_B2 (ty_f_Tr_hang  ?_) ?_
    | with_reducible refine ty_f_Ps_take  ?_
    | with_reducible refine zy_b2 (ty_f_Ps_take  ?_) ?_
    | intro _
theorem ty_f_Ps_coil_83 {h : zs_H} {x1 : Int32} {y0 : Int32} {y1 : Int32}  (H : zy_P h) : zy_2 (f_Ps_coil_83 h x1 y0 y1) := by
  unfold f_Ps_coil_83
  repeat' first
    | assumption
    | (with_reducible refine zy_uF ?_ ?_; · decide)
    | (with_reducible refine zy_uM ?_ ?_; · decide)
    | with_reducible exact zy_2n
    | with_reducible refine zy_2s ?_
    | with_reducible refine zy_2i ?_ ?_
    | with_reducible refine ty_f_Ps_take  ?_
    | with_reducible refine zy_b2 (ty_f_Ps_take  ?_) ?_
    | with_reducible refine ty_f_Ps_coil_92  ?_
    | with_reducible refine zy_B2 (ty_f_Ps_coil_92  ?_) ?_
    | intro _
theorem ty_f_Ps_coil_48 {h : zs_H} {x1 : Int32}  (H : zy_P h) : zy_2 (f_Ps_coil_48 h x1) := by
  unfold f_Ps_coil_48
  repeat' first
    | assumption
    | (with_reducible refine zy_uF ?_ ?_; · decide)
    | (with_reducible refine zy_uM ?_ ?_; · decide)
    | with_reducible exact zy_2n
    | with_reducible refine zy_2s ?_
    | with_reducible refine zy_2i ?_ ?_
    | with_reducible refine ty_f_Ps_coil_83  ?_
    | with_reducible refine zy_B2 (ty_f_Ps_coil_83  ?_) ?_
    | intro _
theorem ty_f_Ps_coil {h : zs_H}  (H : zy_P h) : zy_2 (f_Ps_coil h) := by
  unfold f_Ps_coil
  repeat' first
    | assumption
    | (with_reducible refine zy_uF ?_ ?_; · decide)
    | (with_reducible refine zy_uM ?_ ?_; · decide)
    | with_reducible exact zy_2n
    | with_reducible refine zy_2s ?_
    | with_reducible refine zy_2i ?_ ?_
    | with_reducible refine ty_f_Tr_add  ?_
    | with_reducible refine zy_B2 (ty_f_Tr_add  ?_) ?_
    | with_reducible refine ty_f_Ps_take  ?_
    | with_reducible refine zy_b2 (ty_f_Ps_take  ?_) ?_
    | with_reducible refine ty_f_Ps_coil_48  ?_
    | with_reducible refine zy_B2 (ty_f_Ps_coil_48  ?_) ?_
    | with_reducible refine ty_f_Ps_coil_92  ?_
    | with_reducible refine zy_B2 (ty_f_Ps_coil_92  ?_) ?_
    | intro _
theorem ty_f_Ps_ladderCell_52 {h : zs_H} {y0 : Int32}  (H : zy_P h) : zy_2 (f_Ps_ladderCell_52 h y0) := by
  unfold f_Ps_ladderCell_52
  repeat' first
    | assumption
    | (with_reducible refine zy_uF ?_ ?_; · decide)
    | (with_reducible refine zy_uM ?_ ?_; · decide)
    | with_reducible exact zy_2n
    | with_reducible refine zy_2s ?_
    | with_reducible refine zy_2i ?_ ?_
    | with_reducible refine ty_f_Tr_add  ?_
    | with_reducible refine zy_B2 (ty_f_Tr_add  ?_) ?_
    | with_reducible refine ty_f_Ps_take  ?_
    | with_reducible refine zy_b2 (ty_f_Ps_take  ?_) ?_
    | intro _
theorem ty_f_Ps_ladderCell_32 {h : zs_H}  (H : zy_P h) : zy_2 (f_Ps_ladderCell_32 h) := by
  unfold f_Ps_ladderCell_32
  repeat' first
    | assumption
    | (with_reducible refine zy_uF ?_ ?_; · decide)
    | (with_reducible refine zy_uM ?_ ?_; · decide)
    | with_reducible exact zy_2n
    | with_reducible refine zy_2s ?_
    | with_reducible refine zy_2i ?_ ?_
    | with_reducible refine ty_f_Ps_ladderCell_52  ?_
    | with_reducible refine zy_B2 (ty_f_Ps_ladderCell_52  ?_) ?_
    | intro _
theorem ty_f_Ps_ladderCell_153 {h : zs_H} {x1 : Int32}  (H : zy_P h) : zy_2 (f_Ps_ladderCell_153 h x1) := by
  unfold f_Ps_ladderCell_153
  repeat' first
    | assumption
    | (with_reducible refine zy_uF ?_ ?_; · decide)
    | (with_reducible refine zy_uM ?_ ?_; · decide)
    | with_reducible exact zy_2n
    | with_reducible refine zy_2s ?_
    | with_reducible refine zy_2i ?_ ?_
    | with_reducible refine ty_f_Tr_add  ?_
    | with_reducible refine zy_B2 (ty_f_Tr_add  ?_) ?_
    | with_reducible refine ty_f_Ps_take  ?_
    | with_reducible refine zy_b2 (ty_f_Ps_take  ?_) ?_
    | with_reducible refine ty_f_Tr_hang  ?_
    | with_reducible refine zy_B2 (ty_f_Tr_hang  ?_) ?_
    | intro _
theorem ty_f_Ps_ladderCell_150 {h : zs_H} {x1 : Int32} {y0 : Int32}  (H : zy_P h) : zy_2 (f_Ps_ladderCell_150 h x1 y0) := by
  unfold f_Ps_ladderCell_150
  repeat' first
    | assumption
    | (with_reducible refine zy_uF ?_ ?_; · decide)
    | (with_reducible refine zy_uM ?_ ?_; · decide)
    | with_reducible exact zy_2n
    | with_reducible refine zy_2s ?_
    | with_reducible refine zy_2i ?_ ?_
    | with_reducible refine ty_f_Ps_take  ?_
    | with_reducible refine zy_b2 (ty_f_Ps_take  ?_) ?_
    | with_reducible refine ty_f_Ps_ladderCell_153  ?_
    | with_reducible refine zy_B2 (ty_f_Ps_ladderCell_153  ?_) ?_
    | intro _
theorem ty_f_Ps_ladderCell_121 {h : zs_H} {y0 : Int32} {y1 : Int32} {y2 : Int32}  (H : zy_P h) : zy_2 (f_Ps_ladderCell_121 h y0 y1 y2) := by
  unfold f_Ps_ladderCell_121
  repeat' first
    | assumption
    | (with_reducible refine zy_uF ?_ ?_; · decide)
    | (with_reducible refine zy_uM ?_ ?_; · decide)
    | with_reducible exact zy_2n
    | with_reducible refine zy_2s ?_
    | with_reducible refine zy_2i ?_ ?_
    | with_reducible refine ty_f_Tr_add  ?_
    | with_reducible refine zy_B2 (ty_f_Tr_add  ?_) ?_
    | with_reducible refine ty_f_Ps_ladderCell_153  ?_
    | with_reducible refine zy_B2 (ty_f_Ps_ladderCell_153  ?_) ?_
    | with_reducible refine ty_f_Ps_ladderCell_150  ?_
    | with_reducible refine zy_B2 (ty_f_Ps_ladderCell_150  ?_) ?_
    | intro _
theorem ty_f_Ps_ladderCell {h : zs_H}  (H : zy_P h) : zy_2 (f_Ps_ladderCell h) := by
  unfold f_Ps_ladderCell
  repeat' first
    | assumption
    | (with_reducible refine zy_uF ?_ ?_; · decide)
    | (with_reducible refine zy_uM ?_ ?_; · decide)
    | with_reducible exact zy_2n
    | with_reducible refine zy_2s ?_
    | with_reducible refine zy_2i ?_ ?_
    | with_reducible refine ty_f_Ps_coil  ?_
    | with_reducible refine zy_B2 (ty_f_Ps_coil  ?_) ?_
    | with_reducible refine ty_f_Ps_ladderCell_32  ?_
    | with_reducible refine zy_B2 (ty_f_Ps_ladderCell_32  ?_) ?_
    | with_reducible refine ty_f_Ps_ladderCell_121  ?_
    | with_reducible refine zy_B2 (ty_f_Ps_ladderCell_121  ?_) ?_
    | intro _
theorem ty_f_Ps_row_93 {k31 : zs_H → Int32 → Int32 → Int32 → (Option (Int32 × zs_H))} {h : zs_H} {x1 : Int32} {x2 : Int32} {x3 : Int32} (H_k31 : ∀ a0 a1 a2 a3, zy_P a0 → zy_2 (k31 a0 a1 a2 a3)) (H : zy_P h) : zy_2 (f_Ps_row_93 k31 h x1 x2 x3) := by
  unfold f_Ps_row_93
  repeat' first
    | assumption
    | (with_reducible refine zy_uF ?_ ?_; · decide)
    | (with_reducible refine zy_uM ?_ ?_; · decide)
    | with_reducible exact zy_2n
    | with_reducible refine zy_2s ?_
    | with_reducible refine zy_2i ?_ ?_
    | with_reducible refine ty_f_Ps_ladderCell  ?_
    | with_reducible refine zy_B2 (ty_f_Ps_ladderCell  ?_) ?_
    | with_reducible refine ty_f_Tr_hang  ?_
    | with_reducible refine zy_B2 (ty_f_Tr_hang  ?_) ?_
    | with_reducible exact H_k31
    | with_reducible refine H_k31 _ _ _ _ ?_
    | with_reducible refine zy_B2 (H_k31 _ _ _ _ ?_) ?_
    | intro _
theorem ty_f_Ps_row_54 {k31 : zs_H → Int32 → Int32 → Int32 → (Option (Int32 × zs_H))} {h : zs_H} {x1 : Int32} {x2 : Int32} {x3 : Int32} (H_k31 : ∀ a0 a1 a2 a3, zy_P a0 → zy_2 (k31 a0 a1 a2 a3)) (H : zy_P h) : zy_2 (f_Ps_row_54 k31 h x1 x2 x3) := by
  unfold f_Ps_row_54
  repeat' first
    | assumption
    | (with_reducible refine zy_uF ?_ ?_; · decide)
    | (with_reducible refine zy_uM ?_ ?_; · decide)
    | with_reducible exact zy_2n
    | with_reducible refine zy_2s ?_
    | with_reducible refine zy_2i ?_ ?_
    | with_reducible refine ty_f_Tr_add  ?_
    | with_reducible refine zy_B2 (ty_f_Tr_add  ?_) ?_
    | with_reducible refine ty_f_Tr_hang  ?_
    | with_reducible refine zy_B2 (ty_f_Tr_hang  ?_) ?_
    | with_reducible refine ty_f_Ps_take  ?_
    | with_reducible refine zy_b2 (ty_f_Ps_take  ?_) ?_
    | with_reducible refine ty_f_Ps_row_93 ?_ ?_
    | with_reducible refine zy_B2 (ty_f_Ps_row_93 ?_ ?_) ?_
    | with_reducible exact H_k31
    | with_reducible refine H_k31 _ _ _ _ ?_
    | with_reducible refine zy_B2 (H_k31 _ _ _ _ ?_) ?_
    | intro _
theorem ty_f_Ps_row_113 {h : zs_H} {x1 : Int32}  (H : zy_P h) : zy_2 (f_Ps_row_113 h x1) := by
  unfold f_Ps_row_113
  repeat' first
    | assumption
    | (with_reducible refine zy_uF ?_ ?_; · decide)
    | (with_reducible refine zy_uM ?_ ?_; · decide)
    | with_reducible exact zy_2n
    | with_reducible refine zy_2s ?_
    | with_reducible refine zy_2i ?_ ?_
    | with_reducible refine ty_f_Ps_take  ?_
    | with_reducible refine zy_b2 (ty_f_Ps_take  ?_) ?_
    | intro _
theorem ty_f_Ps_row_31 {k31 : zs_H → Int32 → Int32 → Int32 → (Option (Int32 × zs_H))} {h : zs_H} {x1 : Int32} {x2 : Int32} {x3 : Int32} (H_k31 : ∀ a0 a1 a2 a3, zy_P a0 → zy_2 (k31 a0 a1 a2 a3)) (H : zy_P h) : zy_2 (f_Ps_row_31 k31 h x1 x2 x3) := by
  unfold f_Ps_row_31
  repeat' first
    | assumption
    | (with_reducible refine zy_uF ?_ ?_; · decide)
    | (with_reducible refine zy_uM ?_ ?_; · decide)
    | with_reducible exact zy_2n
    | with_reducible refine zy_2s ?_
    | with_reducible refine zy_2i ?_ ?_
    | with_reducible refine ty_f_Ps_row_113  ?_
    | with_reducible refine zy_B2 (ty_f_Ps_row_113  ?_) ?_
    | with_reducible refine ty_f_Ps_row_54 ?_ ?_
    | with_reducible refine zy_B2 (ty_f_Ps_row_54 ?_ ?_) ?_
    | with_reducible exact H_k31
    | with_reducible refine H_k31 _ _ _ _ ?_
    | with_reducible refine zy_B2 (H_k31 _ _ _ _ ?_) ?_
    | intro _
theorem ty_f_Ps_row_L31   : ∀ (N : Nat) (h : zs_H) (x1 : Int32) (x2 : Int32) (x3 : Int32), zy_P h → zy_2 (f_Ps_row_L31  N h x1 x2 x3) := by
  intro N
  induction N with
  | zero => intro h x1 x2 x3 _; exact zy_2n
  | succ N ih =>
    intro h x1 x2 x3 H
    exact ty_f_Ps_row_31  (fun b0 b1 b2 b3 z => ih b0 b1 b2 b3 z) H
theorem ty_f_Ps_row_L31'   {N : Nat} {h : zs_H} {x1 : Int32} {x2 : Int32} {x3 : Int32} (H : zy_P h) : zy_2 (f_Ps_row_L31  N h x1 x2 x3) := ty_f_Ps_row_L31  N h x1 x2 x3 H
theorem ty_f_Ps_row {h : zs_H}  (H : zy_P h) : zy_2 (f_Ps_row h) := by
  unfold f_Ps_row
  repeat' first
    | assumption
    | (with_reducible refine zy_uF ?_ ?_; · decide)
    | (with_reducible refine zy_uM ?_ ?_; · decide)
    | with_reducible exact zy_2n
    | with_reducible refine zy_2s ?_
    | with_reducible refine zy_2i ?_ ?_
    | with_reducible refine ty_f_Tr_add  ?_
    | with_reducible refine zy_B2 (ty_f_Tr_add  ?_) ?_
    | with_reducible refine ty_f_Ps_ladderCell  ?_
    | with_reducible refine zy_B2 (ty_f_Ps_ladderCell  ?_) ?_
    | with_reducible refine ty_f_Tr_hang  ?_
    | with_reducible refine zy_B2 (ty_f_Tr_hang  ?_) ?_
    | with_reducible refine ty_f_Ps_row_L31'  ?_
    | with_reducible refine zy_B2 (ty_f_Ps_row_L31'  ?_) ?_
    | intro _
theorem ty_f_Ps_ladder_123 {k26 : zs_H → Int32 → Int32 → Int32 → (Option (Int32 × zs_H))} {h : zs_H} {x1 : Int32} {x2 : Int32} {x3 : Int32} {x4 : Int32} (H_k26 : ∀ a0 a1 a2 a3, zy_P a0 → zy_2 (k26 a0 a1 a2 a3)) (H : zy_P h) : zy_2 (f_Ps_ladder_123 k26 h x1 x2 x3 x4) := by
  unfold f_Ps_ladder_123
  repeat' first
    | assumption
    | (with_reducible refine zy_uF ?_ ?_; · decide)
    | (with_reducible refine zy_uM ?_ ?_; · decide)
    | with_reducible exact zy_2n
    | with_reducible refine zy_2s ?_
    | with_reducible refine zy_2i ?_ ?_
    | with_reducible refine ty_f_Ps_take  ?_
    | with_reducible refine zy_b2 (ty_f_Ps_take  ?_) ?_
    | with_reducible refine ty_f_Tr_hang  ?_
    | with_reducible refine zy_B2 (ty_f_Tr_hang  ?_) ?_
    | with_reducible exact H_k26
    | with_reducible refine H_k26 _ _ _ _ ?_
    | with_reducible refine zy_B2 (H_k26 _ _ _ _ ?_) ?_
    | intro _
theorem ty_f_Ps_ladder_85 {k26 : zs_H → Int32 → Int32 → Int32 → (Option (Int32 × zs_H))} {k85 : zs_H → Int32 → Int32 → Int32 → Int32 → Int32 → Int32 → (Option (Int32 × zs_H))} {h : zs_H} {x1 : Int32} {x2 : Int32} {x3 : Int32} {x4 : Int32} {x5 : Int32} {x6 : Int32} (H_k26 : ∀ a0 a1 a2 a3, zy_P a0 → zy_2 (k26 a0 a1 a2 a3)) (H_k85 : ∀ a0 a1 a2 a3 a4 a5 a6, zy_P a0 → zy_2 (k85 a0 a1 a2 a3 a4 a5 a6)) (H : zy_P h) : zy_2 (f_Ps_ladder_85 k26 k85 h x1 x2 x3 x4 x5 x6) := by
  unfold f_Ps_ladder_85
  repeat' first
    | assumption
    | (with_reducible refine zy_uF ?_ ?_; · decide)
    | (with_reducible refine zy_uM ?_ ?_; · decide)
    | with_reducible exact zy_2n
    | with_reducible refine zy_2s ?_
    | with_reducible refine zy_2i ?_ ?_
    | with_reducible refine ty_f_Ps_ladder_123 ?_ ?_
    | with_reducible refine zy_B2 (ty_f_Ps_ladder_123 ?_ ?_) ?_
    | with_reducible refine ty_f_Ps_row  ?_
    | with_reducible refine zy_B2 (ty_f_Ps_row  ?_) ?_
    | with_reducible refine ty_f_Tr_hang  ?_
    | with_reducible refine zy_B2 (ty_f_Tr_hang  ?_) ?_
    | with_reducible exact H_k26
    | with_reducible refine H_k26 _ _ _ _ ?_
    | with_reducible refine zy_B2 (H_k26 _ _ _ _ ?_) ?_
    | with_reducible exact H_k85
    | with_reducible refine H_k85 _ _ _ _ _ _ _ ?_
    | with_reducible refine zy_B2 (H_k85 _ _ _ _ _ _ _ ?_) ?_
    | intro _
theorem ty_f_Ps_ladder_L85 {k26 : zs_H → Int32 → Int32 → Int32 → (Option (Int32 × zs_H))} (H_k26 : ∀ a0 a1 a2 a3, zy_P a0 → zy_2 (k26 a0 a1 a2 a3)) : ∀ (N : Nat) (h : zs_H) (x1 : Int32) (x2 : Int32) (x3 : Int32) (x4 : Int32) (x5 : Int32) (x6 : Int32), zy_P h → zy_2 (f_Ps_ladder_L85 k26 N h x1 x2 x3 x4 x5 x6) := by
  intro N
  induction N with
  | zero => intro h x1 x2 x3 x4 x5 x6 _; exact zy_2n
  | succ N ih =>
    intro h x1 x2 x3 x4 x5 x6 H
    exact ty_f_Ps_ladder_85 H_k26 (fun b0 b1 b2 b3 b4 b5 b6 z => ih b0 b1 b2 b3 b4 b5 b6 z) H
theorem ty_f_Ps_ladder_L85' {k26 : zs_H → Int32 → Int32 → Int32 → (Option (Int32 × zs_H))} (H_k26 : ∀ a0 a1 a2 a3, zy_P a0 → zy_2 (k26 a0 a1 a2 a3)) {N : Nat} {h : zs_H} {x1 : Int32} {x2 : Int32} {x3 : Int32} {x4 : Int32} {x5 : Int32} {x6 : Int32} (H : zy_P h) : zy_2 (f_Ps_ladder_L85 k26 N h x1 x2 x3 x4 x5 x6) := ty_f_Ps_ladder_L85 H_k26 N h x1 x2 x3 x4 x5 x6 H
theorem ty_f_Ps_ladder_148 {h : zs_H} {x1 : Int32}  (H : zy_P h) : zy_2 (f_Ps_ladder_148 h x1) := by
  unfold f_Ps_ladder_148
  repeat' first
    | assumption
    | (with_reducible refine zy_uF ?_ ?_; · decide)
    | (with_reducible refine zy_uM ?_ ?_; · decide)
    | with_reducible exact zy_2n
    | with_reducible refine zy_2s ?_
    | with_reducible refine zy_2i ?_ ?_
    | with_reducible refine ty_f_Ps_take  ?_
    | with_reducible refine zy_b2 (ty_f_Ps_take  ?_) ?_
    | intro _
theorem ty_f_Ps_ladder_26 {k26 : zs_H → Int32 → Int32 → Int32 → (Option (Int32 × zs_H))} {h : zs_H} {x1 : Int32} {x2 : Int32} {x3 : Int32} (H_k26 : ∀ a0 a1 a2 a3, zy_P a0 → zy_2 (k26 a0 a1 a2 a3)) (H : zy_P h) : zy_2 (f_Ps_ladder_26 k26 h x1 x2 x3) := by
  unfold f_Ps_ladder_26
  repeat' first
    | assumption
    | (with_reducible refine zy_uF ?_ ?_; · decide)
    | (with_reducible refine zy_uM ?_ ?_; · decide)
    | with_reducible exact zy_2n
    | with_reducible refine zy_2s ?_
    | with_reducible refine zy_2i ?_ ?_
    | with_reducible refine ty_f_Ps_ladder_148  ?_
    | with_reducible refine zy_B2 (ty_f_Ps_ladder_148  ?_) ?_
    | with_reducible refine ty_f_Tr_add  ?_
    | with_reducible refine zy_B2 (ty_f_Tr_add  ?_) ?_
    | with_reducible refine ty_f_Ps_take  ?_
    | with_reducible refine zy_b2 (ty_f_Ps_take  ?_) ?_
    | with_reducible refine ty_f_Ps_row  ?_
    | with_reducible refine zy_B2 (ty_f_Ps_row  ?_) ?_
    | with_reducible refine ty_f_Tr_hang  ?_
    | with_reducible refine zy_B2 (ty_f_Tr_hang  ?_) ?_
    | with_reducible refine ty_f_Ps_ladder_L85' ?_ ?_
    | with_reducible refine zy_B2 (ty_f_Ps_ladder_L85' ?_ ?_) ?_
    | with_reducible exact H_k26
    | with_reducible refine H_k26 _ _ _ _ ?_
    | with_reducible refine zy_B2 (H_k26 _ _ _ _ ?_) ?_
    | intro _
theorem ty_f_Ps_ladder_L26   : ∀ (N : Nat) (h : zs_H) (x1 : Int32) (x2 : Int32) (x3 : Int32), zy_P h → zy_2 (f_Ps_ladder_L26  N h x1 x2 x3) := by
  intro N
  induction N with
  | zero => intro h x1 x2 x3 _; exact zy_2n
  | succ N ih =>
    intro h x1 x2 x3 H
    exact ty_f_Ps_ladder_26  (fun b0 b1 b2 b3 z => ih b0 b1 b2 b3 z) H
theorem ty_f_Ps_ladder_L26'   {N : Nat} {h : zs_H} {x1 : Int32} {x2 : Int32} {x3 : Int32} (H : zy_P h) : zy_2 (f_Ps_ladder_L26  N h x1 x2 x3) := ty_f_Ps_ladder_L26  N h x1 x2 x3 H
theorem ty_f_Ps_ladder {h : zs_H}  (H : zy_P h) : zy_2 (f_Ps_ladder h) := by
  unfold f_Ps_ladder
  repeat' first
    | assumption
    | (with_reducible refine zy_uF ?_ ?_; · decide)
    | (with_reducible refine zy_uM ?_ ?_; · decide)
    | with_reducible exact zy_2n
    | with_reducible refine zy_2s ?_
    | with_reducible refine zy_2i ?_ ?_
    | with_reducible refine ty_f_Tr_add  ?_
    | with_reducible refine zy_B2 (ty_f_Tr_add  ?_) ?_
    | with_reducible refine ty_f_Ps_take  ?_
    | with_reducible refine zy_b2 (ty_f_Ps_take  ?_) ?_
    | with_reducible refine ty_f_Ps_ladder_L26'  ?_
    | with_reducible refine zy_B2 (ty_f_Ps_ladder_L26'  ?_) ?_
    | intro _
theorem ty_f_Ps_deepen_35 {h : zs_H}  (H : zy_P h) : zy_1 (f_Ps_deepen_35 h) := by
  unfold f_Ps_deepen_35
  repeat' first
    | assumption
    | (with_reducible refine zy_uF ?_ ?_; · decide)
    | (with_reducible refine zy_uM ?_ ?_; · decide)
    | with_reducible exact zy_1n
    | with_reducible refine zy_1s ?_
    | with_reducible refine zy_1i ?_ ?_
    | intro _
theorem ty_f_Ps_deepen {h : zs_H}  (H : zy_P h) : zy_1 (f_Ps_deepen h) := by
  unfold f_Ps_deepen
  repeat' first
    | assumption
    | (with_reducible refine zy_uF ?_ ?_; · decide)
    | (with_reducible refine zy_uM ?_ ?_; · decide)
    | with_reducible exact zy_1n
    | with_reducible refine zy_1s ?_
    | with_reducible refine zy_1i ?_ ?_
    | with_reducible refine ty_f_Ps_deepen_35  ?_
    | with_reducible refine zy_b1 (ty_f_Ps_deepen_35  ?_) ?_
    | intro _
theorem ty_f_Ps_expression_13 {r_Ps_expression : zs_H → Int32 → (Option (Int32 × zs_H))} {k13 : zs_H → Int32 → Int32 → Int32 → Int32 → (Option (Int32 × zs_H))} {h : zs_H} {x1 : Int32} {x2 : Int32} {x3 : Int32} {x4 : Int32} (H_r_Ps_expression : ∀ a0 a1, zy_P a0 → zy_2 (r_Ps_expression a0 a1)) (H_k13 : ∀ a0 a1 a2 a3 a4, zy_P a0 → zy_2 (k13 a0 a1 a2 a3 a4)) (H : zy_P h) : zy_2 (f_Ps_expression_13 r_Ps_expression k13 h x1 x2 x3 x4) := by
  unfold f_Ps_expression_13
  repeat' first
    | assumption
    | (with_reducible refine zy_uF ?_ ?_; · decide)
    | (with_reducible refine zy_uM ?_ ?_; · decide)
    | with_reducible exact zy_2n
    | with_reducible refine zy_2s ?_
    | with_reducible refine zy_2i ?_ ?_
    | with_reducible refine ty_f_Tr_add  ?_
    | with_reducible refine zy_B2 (ty_f_Tr_add  ?_) ?_
    | with_reducible refine ty_f_Ps_deepen  ?_
    | with_reducible refine zy_b2 (ty_f_Ps_deepen  ?_) ?_
    | with_reducible refine ty_f_Ps_take  ?_
    | with_reducible refine zy_b2 (ty_f_Ps_take  ?_) ?_
    | with_reducible refine ty_f_Tr_hang  ?_
    | with_reducible refine zy_B2 (ty_f_Tr_hang  ?_) ?_
    | with_reducible exact H_r_Ps_expression
    | with_reducible refine H_r_Ps_expression _ _ ?_
    | with_reducible refine zy_B2 (H_r_Ps_expression _ _ ?_) ?_
    | with_reducible exact H_k13
    | with_reducible refine H_k13 _ _ _ _ _ ?_
    | with_reducible refine zy_B2 (H_k13 _ _ _ _ _ ?_) ?_
    | intro _
theorem ty_f_Ps_expression_L13 {r_Ps_expression : zs_H → Int32 → (Option (Int32 × zs_H))} (H_r_Ps_expression : ∀ a0 a1, zy_P a0 → zy_2 (r_Ps_expression a0 a1)) : ∀ (N : Nat) (h : zs_H) (x1 : Int32) (x2 : Int32) (x3 : Int32) (x4 : Int32), zy_P h → zy_2 (f_Ps_expression_L13 r_Ps_expression N h x1 x2 x3 x4) := by
  intro N
  induction N with
  | zero => intro h x1 x2 x3 x4 _; exact zy_2n
  | succ N ih =>
    intro h x1 x2 x3 x4 H
    exact ty_f_Ps_expression_13 H_r_Ps_expression (fun b0 b1 b2 b3 b4 z => ih b0 b1 b2 b3 b4 z) H
theorem ty_f_Ps_expression_L13' {r_Ps_expression : zs_H → Int32 → (Option (Int32 × zs_H))} (H_r_Ps_expression : ∀ a0 a1, zy_P a0 → zy_2 (r_Ps_expression a0 a1)) {N : Nat} {h : zs_H} {x1 : Int32} {x2 : Int32} {x3 : Int32} {x4 : Int32} (H : zy_P h) : zy_2 (f_Ps_expression_L13 r_Ps_expression N h x1 x2 x3 x4) := ty_f_Ps_expression_L13 H_r_Ps_expression N h x1 x2 x3 x4 H
theorem ty_g_Ps_expression {r_Ps_expression : zs_H → Int32 → (Option (Int32 × zs_H))} {r_Ps_operand : zs_H → (Option (Int32 × zs_H))} {h : zs_H} {x1 : Int32} (H_r_Ps_expression : ∀ a0 a1, zy_P a0 → zy_2 (r_Ps_expression a0 a1)) (H_r_Ps_operand : ∀ a0, zy_P a0 → zy_2 (r_Ps_operand a0)) (H : zy_P h) : zy_2 (g_Ps_expression r_Ps_expression r_Ps_operand h x1) := by
  unfold g_Ps_expression
  repeat' first
    | assumption
    | (with_reducible refine zy_uF ?_ ?_; · decide)
    | (with_reducible refine zy_uM ?_ ?_; · decide)
    | with_reducible exact zy_2n
    | with_reducible refine zy_2s ?_
    | with_reducible refine zy_2i ?_ ?_
    | with_reducible refine ty_f_Ps_expression_L13' ?_ ?_
    | with_reducible refine zy_B2 (ty_f_Ps_expression_L13' ?_ ?_) ?_
    | with_reducible exact H_r_Ps_expression
    | with_reducible refine H_r_Ps_expression _ _ ?_
    | with_reducible refine zy_B2 (H_r_Ps_expression _ _ ?_) ?_
    | with_reducible exact H_r_Ps_operand
    | with_reducible refine H_r_Ps_operand _ ?_
    | with_reducible refine zy_B2 (H_r_Ps_operand _ ?_) ?_
    | intro _
theorem ty_f_Ps_namedOperand_268 {r_Ps_expression : zs_H → Int32 → (Option (Int32 × zs_H))} {k216 : zs_H → Int32 → Int32 → Int32 → Int32 → (Option (Int32 × zs_H))} {h : zs_H} {x1 : Int32} {x2 : Int32} {x3 : Int32} {x4 : Int32} (H_r_Ps_expression : ∀ a0 a1, zy_P a0 → zy_2 (r_Ps_expression a0 a1)) (H_k216 : ∀ a0 a1 a2 a3 a4, zy_P a0 → zy_2 (k216 a0 a1 a2 a3 a4)) (H : zy_P h) : zy_2 (f_Ps_namedOperand_268 r_Ps_expression k216 h x1 x2 x3 x4) := by
  unfold f_Ps_namedOperand_268
  repeat' first
    | assumption
    | (with_reducible refine zy_uF ?_ ?_; · decide)
    | (with_reducible refine zy_uM ?_ ?_; · decide)
    | with_reducible exact zy_2n
    | with_reducible refine zy_2s ?_
    | with_reducible refine zy_2i ?_ ?_
    | with_reducible exact H_r_Ps_expression
    | with_reducible refine H_r_Ps_expression _ _ ?_
    | with_reducible refine zy_B2 (H_r_Ps_expression _ _ ?_) ?_
    | with_reducible exact H_k216
    | with_reducible refine H_k216 _ _ _ _ _ ?_
    | with_reducible refine zy_B2 (H_k216 _ _ _ _ _ ?_) ?_
    | intro _
theorem ty_f_Ps_namedOperand_257 {r_Ps_expression : zs_H → Int32 → (Option (Int32 × zs_H))} {k216 : zs_H → Int32 → Int32 → Int32 → Int32 → (Option (Int32 × zs_H))} {h : zs_H} {x1 : Int32} {x2 : Int32} {x4 : Int32} {y0 : Int32} (H_r_Ps_expression : ∀ a0 a1, zy_P a0 → zy_2 (r_Ps_expression a0 a1)) (H_k216 : ∀ a0 a1 a2 a3 a4, zy_P a0 → zy_2 (k216 a0 a1 a2 a3 a4)) (H : zy_P h) : zy_2 (f_Ps_namedOperand_257 r_Ps_expression k216 h x1 x2 x4 y0) := by
  unfold f_Ps_namedOperand_257
  repeat' first
    | assumption
    | (with_reducible refine zy_uF ?_ ?_; · decide)
    | (with_reducible refine zy_uM ?_ ?_; · decide)
    | with_reducible exact zy_2n
    | with_reducible refine zy_2s ?_
    | with_reducible refine zy_2i ?_ ?_
    | with_reducible refine ty_f_Ps_namedOperand_268 ?_ ?_ ?_
    | with_reducible refine zy_B2 (ty_f_Ps_namedOperand_268 ?_ ?_ ?_) ?_
    | with_reducible refine ty_f_Ps_take  ?_
    | with_reducible refine zy_b2 (ty_f_Ps_take  ?_) ?_
    | with_reducible exact H_r_Ps_expression
    | with_reducible refine H_r_Ps_expression _ _ ?_
    | with_reducible refine zy_B2 (H_r_Ps_expression _ _ ?_) ?_
    | with_reducible exact H_k216
    | with_reducible refine H_k216 _ _ _ _ _ ?_
    | with_reducible refine zy_B2 (H_k216 _ _ _ _ _ ?_) ?_
    | intro _
theorem ty_f_Ps_namedOperand_274 {h : zs_H} {x1 : Int32}  (H : zy_P h) : zy_2 (f_Ps_namedOperand_274 h x1) := by
  unfold f_Ps_namedOperand_274
  repeat' first
    | assumption
    | (with_reducible refine zy_uF ?_ ?_; · decide)
    | (with_reducible refine zy_uM ?_ ?_; · decide)
    | with_reducible exact zy_2n
    | with_reducible refine zy_2s ?_
    | with_reducible refine zy_2i ?_ ?_
    | with_reducible refine ty_f_Ps_take  ?_
    | with_reducible refine zy_b2 (ty_f_Ps_take  ?_) ?_
    | intro _
theorem ty_f_Ps_namedOperand_216 {r_Ps_expression : zs_H → Int32 → (Option (Int32 × zs_H))} {k216 : zs_H → Int32 → Int32 → Int32 → Int32 → (Option (Int32 × zs_H))} {h : zs_H} {x1 : Int32} {x2 : Int32} {x3 : Int32} {x4 : Int32} (H_r_Ps_expression : ∀ a0 a1, zy_P a0 → zy_2 (r_Ps_expression a0 a1)) (H_k216 : ∀ a0 a1 a2 a3 a4, zy_P a0 → zy_2 (k216 a0 a1 a2 a3 a4)) (H : zy_P h) : zy_2 (f_Ps_namedOperand_216 r_Ps_expression k216 h x1 x2 x3 x4) := by
  unfold f_Ps_namedOperand_216
  repeat' first
    | assumption
    | (with_reducible refine zy_uF ?_ ?_; · decide)
    | (with_reducible refine zy_uM ?_ ?_; · decide)
    | with_reducible exact zy_2n
    | with_reducible refine zy_2s ?_
    | with_reducible refine zy_2i ?_ ?_
    | with_reducible refine ty_f_Ps_namedOperand_274  ?_
    | with_reducible refine zy_B2 (ty_f_Ps_namedOperand_274  ?_) ?_
    | with_reducible refine ty_f_Tr_hang  ?_
    | with_reducible refine zy_B2 (ty_f_Tr_hang  ?_) ?_
    | with_reducible refine ty_f_Ps_namedOperand_257 ?_ ?_ ?_
    | with_reducible refine zy_B2 (ty_f_Ps_namedOperand_257 ?_ ?_ ?_) ?_
    | with_reducible exact H_r_Ps_expression
    | with_reducible refine H_r_Ps_expression _ _ ?_
    | with_reducible refine zy_B2 (H_r_Ps_expression _ _ ?_) ?_
    | with_reducible exact H_k216
    | with_reducible refine H_k216 _ _ _ _ _ ?_
    | with_reducible refine zy_B2 (H_k216 _ _ _ _ _ ?_) ?_
    | intro _
theorem ty_f_Ps_namedOperand_L216 {r_Ps_expression : zs_H → Int32 → (Option (Int32 × zs_H))} (H_r_Ps_expression : ∀ a0 a1, zy_P a0 → zy_2 (r_Ps_expression a0 a1)) : ∀ (N : Nat) (h : zs_H) (x1 : Int32) (x2 : Int32) (x3 : Int32) (x4 : Int32), zy_P h → zy_2 (f_Ps_namedOperand_L216 r_Ps_expression N h x1 x2 x3 x4) := by
  intro N
  induction N with
  | zero => intro h x1 x2 x3 x4 _; exact zy_2n
  | succ N ih =>
    intro h x1 x2 x3 x4 H
    exact ty_f_Ps_namedOperand_216 H_r_Ps_expression (fun b0 b1 b2 b3 b4 z => ih b0 b1 b2 b3 b4 z) H
theorem ty_f_Ps_namedOperand_L216' {r_Ps_expression : zs_H → Int32 → (Option (Int32 × zs_H))} (H_r_Ps_expression : ∀ a0 a1, zy_P a0 → zy_2 (r_Ps_expression a0 a1)) {N : Nat} {h : zs_H} {x1 : Int32} {x2 : Int32} {x3 : Int32} {x4 : Int32} (H : zy_P h) : zy_2 (f_Ps_namedOperand_L216 r_Ps_expression N h x1 x2 x3 x4) := ty_f_Ps_namedOperand_L216 H_r_Ps_expression N h x1 x2 x3 x4 H
theorem ty_f_Ps_namedOperand_212 {r_Ps_expression : zs_H → Int32 → (Option (Int32 × zs_H))} {h : zs_H} {x1 : Int32} {x2 : Int32} {y0 : Int32} (H_r_Ps_expression : ∀ a0 a1, zy_P a0 → zy_2 (r_Ps_expression a0 a1)) (H : zy_P h) : zy_2 (f_Ps_namedOperand_212 r_Ps_expression h x1 x2 y0) := by
  unfold f_Ps_namedOperand_212
  repeat' first
    | assumption
    | (with_reducible refine zy_uF ?_ ?_; · decide)
    | (with_reducible refine zy_uM ?_ ?_; · decide)
    | with_reducible exact zy_2n
    | with_reducible refine zy_2s ?_
    | with_reducible refine zy_2i ?_ ?_
    | with_reducible refine ty_f_Ps_namedOperand_L216' ?_ ?_
    | with_reducible refine zy_B2 (ty_f_Ps_namedOperand_L216' ?_ ?_) ?_
    | with_reducible exact H_r_Ps_expression
    | with_reducible refine H_r_Ps_expression _ _ ?_
    | with_reducible refine zy_B2 (H_r_Ps_expression _ _ ?_) ?_
    | intro _
theorem ty_g_Ps_namedOperand {r_Ps_expression : zs_H → Int32 → (Option (Int32 × zs_H))} {h : zs_H} (H_r_Ps_expression : ∀ a0 a1, zy_P a0 → zy_2 (r_Ps_expression a0 a1)) (H : zy_P h) : zy_2 (g_Ps_namedOperand r_Ps_expression h) := by
  unfold g_Ps_namedOperand
  repeat' first
    | assumption
    | (with_reducible refine zy_uF ?_ ?_; · decide)
    | (with_reducible refine zy_uM ?_ ?_; · decide)
    | with_reducible exact zy_2n
    | with_reducible refine zy_2s ?_
    | with_reducible refine zy_2i ?_ ?_
    | with_reducible refine ty_f_Tr_add  ?_
    | with_reducible refine zy_B2 (ty_f_Tr_add  ?_) ?_
    | with_reducible refine ty_f_Ps_take  ?_
    | with_reducible refine zy_b2 (ty_f_Ps_take  ?_) ?_
    | with_reducible refine ty_f_Tr_hang  ?_
    | with_reducible refine zy_B2 (ty_f_Tr_hang  ?_) ?_
    | with_reducible refine ty_f_Ps_deepen  ?_
    | with_reducible refine zy_b2 (ty_f_Ps_deepen  ?_) ?_
    | with_reducible refine ty_f_Ps_namedOperand_212 ?_ ?_
    | with_reducible refine zy_B2 (ty_f_Ps_namedOperand_212 ?_ ?_) ?_
    | with_reducible exact H_r_Ps_expression
    | with_reducible refine H_r_Ps_expression _ _ ?_
    | with_reducible refine zy_B2 (H_r_Ps_expression _ _ ?_) ?_
    | intro _
theorem ty_f_Ps_operand_189 {h : zs_H} {y0 : Int32} {y1 : Int32} {y2 : Int32}  (H : zy_P h) : zy_2 (f_Ps_operand_189 h y0 y1 y2) := by
  unfold f_Ps_operand_189
  repeat' first
    | assumption
    | (with_reducible refine zy_uF ?_ ?_; · decide)
    | (with_reducible refine zy_uM ?_ ?_; · decide)
    | with_reducible exact zy_2n
    | with_reducible refine zy_2s ?_
    | with_reducible refine zy_2i ?_ ?_
    | with_reducible refine ty_f_Tr_add  ?_
    | with_reducible refine zy_B2 (ty_f_Tr_add  ?_) ?_
    | with_reducible refine ty_f_Ps_take  ?_
    | with_reducible refine zy_b2 (ty_f_Ps_take  ?_) ?_
    | intro _
theorem ty_f_Ps_operand_88 {r_Ps_operand : zs_H → (Option (Int32 × zs_H))} {h : zs_H} {y0 : Int32} {y1 : Int32} {y2 : Int32} (H_r_Ps_operand : ∀ a0, zy_P a0 → zy_2 (r_Ps_operand a0)) (H : zy_P h) : zy_2 (f_Ps_operand_88 r_Ps_operand h y0 y1 y2) := by
  unfold f_Ps_operand_88
  repeat' first
    | assumption
    | (with_reducible refine zy_uF ?_ ?_; · decide)
    | (with_reducible refine zy_uM ?_ ?_; · decide)
    | with_reducible exact zy_2n
    | with_reducible refine zy_2s ?_
    | with_reducible refine zy_2i ?_ ?_
    | with_reducible refine ty_f_Tr_add  ?_
    | with_reducible refine zy_B2 (ty_f_Tr_add  ?_) ?_
    | with_reducible refine ty_f_Ps_deepen  ?_
    | with_reducible refine zy_b2 (ty_f_Ps_deepen  ?_) ?_
    | with_reducible refine ty_f_Ps_take  ?_
    | with_reducible refine zy_b2 (ty_f_Ps_take  ?_) ?_
    | with_reducible refine ty_f_Tr_hang  ?_
    | with_reducible refine zy_B2 (ty_f_Tr_hang  ?_) ?_
    | with_reducible exact H_r_Ps_operand
    | with_reducible refine H_r_Ps_operand _ ?_
    | with_reducible refine zy_B2 (H_r_Ps_operand _ ?_) ?_
    | intro _
theorem ty_g_Ps_operand {r_Ps_expression : zs_H → Int32 → (Option (Int32 × zs_H))} {r_Ps_namedOperand : zs_H → (Option (Int32 × zs_H))} {r_Ps_operand : zs_H → (Option (Int32 × zs_H))} {h : zs_H} (H_r_Ps_expression : ∀ a0 a1, zy_P a0 → zy_2 (r_Ps_expression a0 a1)) (H_r_Ps_namedOperand : ∀ a0, zy_P a0 → zy_2 (r_Ps_namedOperand a0)) (H_r_Ps_operand : ∀ a0, zy_P a0 → zy_2 (r_Ps_operand a0)) (H : zy_P h) : zy_2 (g_Ps_operand r_Ps_expression r_Ps_namedOperand r_Ps_operand h) := by
  unfold g_Ps_operand
  repeat' first
    | assumption
    | (with_reducible refine zy_uF ?_ ?_; · decide)
    | (with_reducible refine zy_uM ?_ ?_; · decide)
    | with_reducible exact zy_2n
    | with_reducible refine zy_2s ?_
    | with_reducible refine zy_2i ?_ ?_
    | with_reducible refine ty_f_Ps_deepen  ?_
    | with_reducible refine zy_b2 (ty_f_Ps_deepen  ?_) ?_
    | with_reducible refine ty_f_Ps_take  ?_
    | with_reducible refine zy_b2 (ty_f_Ps_take  ?_) ?_
    | with_reducible refine ty_f_Ps_operand_88 ?_ ?_
    | with_reducible refine zy_B2 (ty_f_Ps_operand_88 ?_ ?_) ?_
    | with_reducible refine ty_f_Ps_operand_189  ?_
    | with_reducible refine zy_B2 (ty_f_Ps_operand_189  ?_) ?_
    | with_reducible refine ty_f_Tr_add  ?_
    | with_reducible refine zy_B2 (ty_f_Tr_add  ?_) ?_
    | with_reducible exact H_r_Ps_expression
    | with_reducible refine H_r_Ps_expression _ _ ?_
    | with_reducible refine zy_B2 (H_r_Ps_expression _ _ ?_) ?_
    | with_reducible exact H_r_Ps_namedOperand
    | with_reducible refine H_r_Ps_namedOperand _ ?_
    | with_reducible refine zy_B2 (H_r_Ps_namedOperand _ ?_) ?_
    | with_reducible exact H_r_Ps_operand
    | with_reducible refine H_r_Ps_operand _ ?_
    | with_reducible refine zy_B2 (H_r_Ps_operand _ ?_) ?_
    | intro _
theorem ty_rec1 : ∀ d, (∀ h x, zy_P h → zy_2 (f_Ps_expression d h x)) ∧ (∀ h, zy_P h → zy_2 (f_Ps_namedOperand d h)) ∧ (∀ h, zy_P h → zy_2 (f_Ps_operand d h)) := by
  intro d
  induction d with
  | zero => exact ⟨fun _ _ _ => zy_2n, fun _ _ => zy_2n, fun _ _ => zy_2n⟩
  | succ d ih =>
    obtain ⟨a, b, c⟩ := ih
    rw [zy_e, zy_n, zy_o]
    exact ⟨fun h x H => ty_g_Ps_expression a c H, fun h H => ty_g_Ps_namedOperand a H, fun h H => ty_g_Ps_operand a b c H⟩
theorem ty_f_Ps_expression {d : Nat} {h : zs_H} {x : Int32} (H : zy_P h) : zy_2 (f_Ps_expression d h x) := (ty_rec1 d).1 h x H
theorem ty_f_Ps_wholeExpression {h : zs_H}  (H : zy_P h) : zy_2 (f_Ps_wholeExpression h) := by
  unfold f_Ps_wholeExpression
  repeat' first
    | assumption
    | (with_reducible refine zy_uF ?_ ?_; · decide)
    | (with_reducible refine zy_uM ?_ ?_; · decide)
    | with_reducible exact zy_2n
    | with_reducible refine zy_2s ?_
    | with_reducible refine zy_2i ?_ ?_
    | with_reducible refine ty_f_Ps_expression  ?_
    | with_reducible refine zy_B2 (ty_f_Ps_expression  ?_) ?_
    | intro _
theorem ty_f_Ps_ranges_119 {k7 : zs_H → Int32 → Int32 → Int32 → Int32 → (Option (Int32 × zs_H))} {h : zs_H} {x1 : Int32} {x2 : Int32} {x3 : Int32} {x4 : Int32} {y0 : Int32} (H_k7 : ∀ a0 a1 a2 a3 a4, zy_P a0 → zy_2 (k7 a0 a1 a2 a3 a4)) (H : zy_P h) : zy_2 (f_Ps_ranges_119 k7 h x1 x2 x3 x4 y0) := by
  unfold f_Ps_ranges_119
  repeat' first
    | assumption
    | (with_reducible refine zy_uF ?_ ?_; · decide)
    | (with_reducible refine zy_uM ?_ ?_; · decide)
    | with_reducible exact zy_2n
    | with_reducible refine zy_2s ?_
    | with_reducible refine zy_2i ?_ ?_
    | with_reducible refine ty_f_Ps_take  ?_
    | with_reducible refine zy_b2 (ty_f_Ps_take  ?_) ?_
    | with_reducible exact H_k7
    | with_reducible refine H_k7 _ _ _ _ _ ?_
    | with_reducible refine zy_B2 (H_k7 _ _ _ _ _ ?_) ?_
    | intro _
theorem ty_f_Ps_ranges_106 {k7 : zs_H → Int32 → Int32 → Int32 → Int32 → (Option (Int32 × zs_H))} {h : zs_H} {x1 : Int32} {x2 : Int32} {x4 : Int32} {y0 : Int32} (H_k7 : ∀ a0 a1 a2 a3 a4, zy_P a0 → zy_2 (k7 a0 a1 a2 a3 a4)) (H : zy_P h) : zy_2 (f_Ps_ranges_106 k7 h x1 x2 x4 y0) := by
  unfold f_Ps_ranges_106
  repeat' first
    | assumption
    | (with_reducible refine zy_uF ?_ ?_; · decide)
    | (with_reducible refine zy_uM ?_ ?_; · decide)
    | with_reducible exact zy_2n
    | with_reducible refine zy_2s ?_
    | with_reducible refine zy_2i ?_ ?_
    | with_reducible refine ty_f_Ps_ranges_119 ?_ ?_
    | with_reducible refine zy_B2 (ty_f_Ps_ranges_119 ?_ ?_) ?_
    | with_reducible exact H_k7
    | with_reducible refine H_k7 _ _ _ _ _ ?_
    | with_reducible refine zy_B2 (H_k7 _ _ _ _ _ ?_) ?_
    | intro _
theorem ty_f_Ps_ranges_80 {k7 : zs_H → Int32 → Int32 → Int32 → Int32 → (Option (Int32 × zs_H))} {h : zs_H} {x1 : Int32} {x2 : Int32} {x4 : Int32} {x5 : Int32} (H_k7 : ∀ a0 a1 a2 a3 a4, zy_P a0 → zy_2 (k7 a0 a1 a2 a3 a4)) (H : zy_P h) : zy_2 (f_Ps_ranges_80 k7 h x1 x2 x4 x5) := by
  unfold f_Ps_ranges_80
  repeat' first
    | assumption
    | (with_reducible refine zy_uF ?_ ?_; · decide)
    | (with_reducible refine zy_uM ?_ ?_; · decide)
    | with_reducible exact zy_2n
    | with_reducible refine zy_2s ?_
    | with_reducible refine zy_2i ?_ ?_
    | with_reducible refine ty_f_Tr_hang  ?_
    | with_reducible refine zy_B2 (ty_f_Tr_hang  ?_) ?_
    | with_reducible refine ty_f_Ps_ranges_106 ?_ ?_
    | with_reducible refine zy_B2 (ty_f_Ps_ranges_106 ?_ ?_) ?_
    | with_reducible exact H_k7
    | with_reducible refine H_k7 _ _ _ _ _ ?_
    | with_reducible refine zy_B2 (H_k7 _ _ _ _ _ ?_) ?_
    | intro _
theorem ty_f_Ps_ranges_7 {k7 : zs_H → Int32 → Int32 → Int32 → Int32 → (Option (Int32 × zs_H))} {h : zs_H} {x1 : Int32} {x2 : Int32} {x3 : Int32} {x4 : Int32} (H_k7 : ∀ a0 a1 a2 a3 a4, zy_P a0 → zy_2 (k7 a0 a1 a2 a3 a4)) (H : zy_P h) : zy_2 (f_Ps_ranges_7 k7 h x1 x2 x3 x4) := by
  unfold f_Ps_ranges_7
  repeat' first
    | assumption
    | (with_reducible refine zy_uF ?_ ?_; · decide)
    | (with_reducible refine zy_uM ?_ ?_; · decide)
    | with_reducible exact zy_2n
    | with_reducible refine zy_2s ?_
    | with_reducible refine zy_2i ?_ ?_
    | with_reducible refine ty_f_Tr_add  ?_
    | with_reducible refine zy_B2 (ty_f_Tr_add  ?_) ?_
    | with_reducible refine ty_f_Ps_constant  ?_
    | with_reducible refine zy_B2 (ty_f_Ps_constant  ?_) ?_
    | with_reducible refine ty_f_Tr_hang  ?_
    | with_reducible refine zy_B2 (ty_f_Tr_hang  ?_) ?_
    | with_reducible refine ty_f_Ps_take  ?_
    | with_reducible refine zy_b2 (ty_f_Ps_take  ?_) ?_
    | with_reducible refine ty_f_Ps_ranges_80 ?_ ?_
    | with_reducible refine zy_B2 (ty_f_Ps_ranges_80 ?_ ?_) ?_
    | with_reducible exact H_k7
    | with_reducible refine H_k7 _ _ _ _ _ ?_
    | with_reducible refine zy_B2 (H_k7 _ _ _ _ _ ?_) ?_
    | intro _
theorem ty_f_Ps_ranges_L7   : ∀ (N : Nat) (h : zs_H) (x1 : Int32) (x2 : Int32) (x3 : Int32) (x4 : Int32), zy_P h → zy_2 (f_Ps_ranges_L7  N h x1 x2 x3 x4) := by
  intro N
  induction N with
  | zero => intro h x1 x2 x3 x4 _; exact zy_2n
  | succ N ih =>
    intro h x1 x2 x3 x4 H
    exact ty_f_Ps_ranges_7  (fun b0 b1 b2 b3 b4 z => ih b0 b1 b2 b3 b4 z) H
theorem ty_f_Ps_ranges_L7'   {N : Nat} {h : zs_H} {x1 : Int32} {x2 : Int32} {x3 : Int32} {x4 : Int32} (H : zy_P h) : zy_2 (f_Ps_ranges_L7  N h x1 x2 x3 x4) := ty_f_Ps_ranges_L7  N h x1 x2 x3 x4 H
theorem ty_f_Ps_ranges {h : zs_H} {x1 : Int32}  (H : zy_P h) : zy_2 (f_Ps_ranges h x1) := by
  unfold f_Ps_ranges
  repeat' first
    | assumption
    | (with_reducible refine zy_uF ?_ ?_; · decide)
    | (with_reducible refine zy_uM ?_ ?_; · decide)
    | with_reducible exact zy_2n
    | with_reducible refine zy_2s ?_
    | with_reducible refine zy_2i ?_ ?_
    | with_reducible refine ty_f_Ps_ranges_L7'  ?_
    | with_reducible refine zy_B2 (ty_f_Ps_ranges_L7'  ?_) ?_
    | intro _
theorem ty_f_Ps_invocation_164 {k62 : zs_H → Int32 → Int32 → Int32 → Int32 → (Option (Int32 × zs_H))} {h : zs_H} {x1 : Int32} {x2 : Int32} {x3 : Int32} {x4 : Int32} (H_k62 : ∀ a0 a1 a2 a3 a4, zy_P a0 → zy_2 (k62 a0 a1 a2 a3 a4)) (H : zy_P h) : zy_2 (f_Ps_invocation_164 k62 h x1 x2 x3 x4) := by
  unfold f_Ps_invocation_164
  repeat' first
    | assumption
    | (with_reducible refine zy_uF ?_ ?_; · decide)
    | (with_reducible refine zy_uM ?_ ?_; · decide)
    | with_reducible exact zy_2n
    | with_reducible refine zy_2s ?_
    | with_reducible refine zy_2i ?_ ?_
    | with_reducible exact H_k62
    | with_reducible refine H_k62 _ _ _ _ _ ?_
    | with_reducible refine zy_B2 (H_k62 _ _ _ _ _ ?_) ?_
    | intro _
theorem ty_f_Ps_invocation_153 {k62 : zs_H → Int32 → Int32 → Int32 → Int32 → (Option (Int32 × zs_H))} {h : zs_H} {x1 : Int32} {x2 : Int32} {x4 : Int32} {y0 : Int32} (H_k62 : ∀ a0 a1 a2 a3 a4, zy_P a0 → zy_2 (k62 a0 a1 a2 a3 a4)) (H : zy_P h) : zy_2 (f_Ps_invocation_153 k62 h x1 x2 x4 y0) := by
  unfold f_Ps_invocation_153
  repeat' first
    | assumption
    | (with_reducible refine zy_uF ?_ ?_; · decide)
    | (with_reducible refine zy_uM ?_ ?_; · decide)
    | with_reducible exact zy_2n
    | with_reducible refine zy_2s ?_
    | with_reducible refine zy_2i ?_ ?_
    | with_reducible refine ty_f_Ps_invocation_164 ?_ ?_
    | with_reducible refine zy_B2 (ty_f_Ps_invocation_164 ?_ ?_) ?_
    | with_reducible refine ty_f_Ps_take  ?_
    | with_reducible refine zy_b2 (ty_f_Ps_take  ?_) ?_
    | with_reducible exact H_k62
    | with_reducible refine H_k62 _ _ _ _ _ ?_
    | with_reducible refine zy_B2 (H_k62 _ _ _ _ _ ?_) ?_
    | intro _
theorem ty_f_Ps_invocation_170 {h : zs_H} {x1 : Int32}  (H : zy_P h) : zy_2 (f_Ps_invocation_170 h x1) := by
  unfold f_Ps_invocation_170
  repeat' first
    | assumption
    | (with_reducible refine zy_uF ?_ ?_; · decide)
    | (with_reducible refine zy_uM ?_ ?_; · decide)
    | with_reducible exact zy_2n
    | with_reducible refine zy_2s ?_
    | with_reducible refine zy_2i ?_ ?_
    | with_reducible refine ty_f_Ps_take  ?_
    | with_reducible refine zy_b2 (ty_f_Ps_take  ?_) ?_
    | intro _
theorem ty_f_Ps_invocation_62 {k62 : zs_H → Int32 → Int32 → Int32 → Int32 → (Option (Int32 × zs_H))} {h : zs_H} {x1 : Int32} {x2 : Int32} {x3 : Int32} {x4 : Int32} (H_k62 : ∀ a0 a1 a2 a3 a4, zy_P a0 → zy_2 (k62 a0 a1 a2 a3 a4)) (H : zy_P h) : zy_2 (f_Ps_invocation_62 k62 h x1 x2 x3 x4) := by
  unfold f_Ps_invocation_62
  repeat' first
    | assumption
    | (with_reducible refine zy_uF ?_ ?_; · decide)
    | (with_reducible refine zy_uM ?_ ?_; · decide)
    | with_reducible exact zy_2n
    | with_reducible refine zy_2s ?_
    | with_reducible refine zy_2i ?_ ?_
    | with_reducible refine ty_f_Ps_invocation_170  ?_
    | with_reducible refine zy_B2 (ty_f_Ps_invocation_170  ?_) ?_
    | with_reducible refine ty_f_Tr_add  ?_
    | with_reducible refine zy_B2 (ty_f_Tr_add  ?_) ?_
    | with_reducible refine ty_f_Ps_take  ?_
    | with_reducible refine zy_b2 (ty_f_Ps_take  ?_) ?_
    | with_reducible refine ty_f_Ps_wholeExpression  ?_
    | with_reducible refine zy_B2 (ty_f_Ps_wholeExpression  ?_) ?_
    | with_reducible refine ty_f_Tr_hang  ?_
    | with_reducible refine zy_B2 (ty_f_Tr_hang  ?_) ?_
    | with_reducible refine ty_f_Ps_invocation_153 ?_ ?_
    | with_reducible refine zy_B2 (ty_f_Ps_invocation_153 ?_ ?_) ?_
    | with_reducible exact H_k62
    | with_reducible refine H_k62 _ _ _ _ _ ?_
    | with_reducible refine zy_B2 (H_k62 _ _ _ _ _ ?_) ?_
    | intro _
theorem ty_f_Ps_invocation_L62   : ∀ (N : Nat) (h : zs_H) (x1 : Int32) (x2 : Int32) (x3 : Int32) (x4 : Int32), zy_P h → zy_2 (f_Ps_invocation_L62  N h x1 x2 x3 x4) := by
  intro N
  induction N with
  | zero => intro h x1 x2 x3 x4 _; exact zy_2n
  | succ N ih =>
    intro h x1 x2 x3 x4 H
    exact ty_f_Ps_invocation_62  (fun b0 b1 b2 b3 b4 z => ih b0 b1 b2 b3 b4 z) H
theorem ty_f_Ps_invocation_L62'   {N : Nat} {h : zs_H} {x1 : Int32} {x2 : Int32} {x3 : Int32} {x4 : Int32} (H : zy_P h) : zy_2 (f_Ps_invocation_L62  N h x1 x2 x3 x4) := ty_f_Ps_invocation_L62  N h x1 x2 x3 x4 H
theorem ty_f_Ps_invocation_58 {h : zs_H} {x1 : Int32} {x2 : Int32} {y0 : Int32}  (H : zy_P h) : zy_2 (f_Ps_invocation_58 h x1 x2 y0) := by
  unfold f_Ps_invocation_58
  repeat' first
    | assumption
    | (with_reducible refine zy_uF ?_ ?_; · decide)
    | (with_reducible refine zy_uM ?_ ?_; · decide)
    | with_reducible exact zy_2n
    | with_reducible refine zy_2s ?_
    | with_reducible refine zy_2i ?_ ?_
    | with_reducible refine ty_f_Ps_invocation_L62'  ?_
    | with_reducible refine zy_B2 (ty_f_Ps_invocation_L62'  ?_) ?_
    | intro _
theorem ty_f_Ps_invocation {h : zs_H}  (H : zy_P h) : zy_2 (f_Ps_invocation h) := by
  unfold f_Ps_invocation
  repeat' first
    | assumption
    | (with_reducible refine zy_uF ?_ ?_; · decide)
    | (with_reducible refine zy_uM ?_ ?_; · decide)
    | with_reducible exact zy_2n
    | with_reducible refine zy_2s ?_
    | with_reducible refine zy_2i ?_ ?_
    | with_reducible refine ty_f_Tr_add  ?_
    | with_reducible refine zy_B2 (ty_f_Tr_add  ?_) ?_
    | with_reducible refine ty_f_Ps_take  ?_
    | with_reducible refine zy_b2 (ty_f_Ps_take  ?_) ?_
    | with_reducible refine ty_f_Ps_deepen  ?_
    | with_reducible refine zy_b2 (ty_f_Ps_deepen  ?_) ?_
    | with_reducible refine ty_f_Ps_invocation_58  ?_
    | with_reducible refine zy_B2 (ty_f_Ps_invocation_58  ?_) ?_
    | intro _
theorem ty_f_Ps_assignment_92 {h : zs_H} {x1 : Int32}  (H : zy_P h) : zy_2 (f_Ps_assignment_92 h x1) := by
  unfold f_Ps_assignment_92
  repeat' first
    | assumption
    | (with_reducible refine zy_uF ?_ ?_; · decide)
    | (with_reducible refine zy_uM ?_ ?_; · decide)
    | with_reducible exact zy_2n
    | with_reducible refine zy_2s ?_
    | with_reducible refine zy_2i ?_ ?_
    | with_reducible refine ty_f_Tr_add  ?_
    | with_reducible refine zy_B2 (ty_f_Tr_add  ?_) ?_
    | with_reducible refine ty_f_Ps_take  ?_
    | with_reducible refine zy_b2 (ty_f_Ps_take  ?_) ?_
    | with_reducible refine ty_f_Tr_hang  ?_
    | with_reducible refine zy_B2 (ty_f_Tr_hang  ?_) ?_
    | with_reducible refine ty_f_Ps_wholeExpression  ?_
    | with_reducible refine zy_B2 (ty_f_Ps_wholeExpression  ?_) ?_
    | intro _
theorem ty_f_Ps_assignment {h : zs_H}  (H : zy_P h) : zy_2 (f_Ps_assignment h) := by
  unfold f_Ps_assignment
  repeat' first
    | assumption
    | (with_reducible refine zy_uF ?_ ?_; · decide)
    | (with_reducible refine zy_uM ?_ ?_; · decide)
    | with_reducible exact zy_2n
    | with_reducible refine zy_2s ?_
    | with_reducible refine zy_2i ?_ ?_
    | with_reducible refine ty_f_Tr_add  ?_
    | with_reducible refine zy_B2 (ty_f_Tr_add  ?_) ?_
    | with_reducible refine ty_f_Ps_take  ?_
    | with_reducible refine zy_b2 (ty_f_Ps_take  ?_) ?_
    | with_reducible refine ty_f_Ps_deepen  ?_
    | with_reducible refine zy_b2 (ty_f_Ps_deepen  ?_) ?_
    | with_reducible refine ty_f_Ps_wholeExpression  ?_
    | with_reducible refine zy_B2 (ty_f_Ps_wholeExpression  ?_) ?_
    | with_reducible refine ty_f_Tr_hang  ?_
    | with_reducible refine zy_B2 (ty_f_Tr_hang  ?_) ?_
    | with_reducible refine ty_f_Ps_assignment_92  ?_
    | with_reducible refine zy_B2 (ty_f_Ps_assignment_92  ?_) ?_
    | intro _
theorem ty_f_Ps_caseStatement_152 {h : zs_H} {x1 : Int32}  (H : zy_P h) : zy_2 (f_Ps_caseStatement_152 h x1) := by
  unfold f_Ps_caseStatement_152
  repeat' first
    | assumption
    | (with_reducible refine zy_uF ?_ ?_; · decide)
    | (with_reducible refine zy_uM ?_ ?_; · decide)
    | with_reducible exact zy_2n
    | with_reducible refine zy_2s ?_
    | with_reducible refine zy_2i ?_ ?_
    | with_reducible refine ty_f_Ps_take  ?_
    | with_reducible refine zy_b2 (ty_f_Ps_take  ?_) ?_
    | intro _
theorem ty_f_Ps_caseStatement_121 {r_Ps_statements : zs_H → (Option (Int32 × zs_H))} {h : zs_H} {x1 : Int32} {x2 : Int32} (H_r_Ps_statements : ∀ a0, zy_P a0 → zy_2 (r_Ps_statements a0)) (H : zy_P h) : zy_2 (f_Ps_caseStatement_121 r_Ps_statements h x1 x2) := by
  unfold f_Ps_caseStatement_121
  repeat' first
    | assumption
    | (with_reducible refine zy_uF ?_ ?_; · decide)
    | (with_reducible refine zy_uM ?_ ?_; · decide)
    | with_reducible exact zy_2n
    | with_reducible refine zy_2s ?_
    | with_reducible refine zy_2i ?_ ?_
    | with_reducible refine ty_f_Ps_take  ?_
    | with_reducible refine zy_b2 (ty_f_Ps_take  ?_) ?_
    | with_reducible refine ty_f_Tr_hang  ?_
    | with_reducible refine zy_B2 (ty_f_Tr_hang  ?_) ?_
    | with_reducible refine ty_f_Ps_caseStatement_152  ?_
    | with_reducible refine zy_B2 (ty_f_Ps_caseStatement_152  ?_) ?_
    | with_reducible exact H_r_Ps_statements
    | with_reducible refine H_r_Ps_statements _ ?_
    | with_reducible refine zy_B2 (H_r_Ps_statements _ ?_) ?_
    | intro _
theorem ty_f_Ps_caseStatement_49 {r_Ps_statements : zs_H → (Option (Int32 × zs_H))} {k49 : zs_H → Int32 → Int32 → Int32 → (Option (Int32 × zs_H))} {h : zs_H} {x1 : Int32} {x2 : Int32} {x3 : Int32} (H_r_Ps_statements : ∀ a0, zy_P a0 → zy_2 (r_Ps_statements a0)) (H_k49 : ∀ a0 a1 a2 a3, zy_P a0 → zy_2 (k49 a0 a1 a2 a3)) (H : zy_P h) : zy_2 (f_Ps_caseStatement_49 r_Ps_statements k49 h x1 x2 x3) := by
  unfold f_Ps_caseStatement_49
  repeat' first
    | assumption
    | (with_reducible refine zy_uF ?_ ?_; · decide)
    | (with_reducible refine zy_uM ?_ ?_; · decide)
    | with_reducible exact zy_2n
    | with_reducible refine zy_2s ?_
    | with_reducible refine zy_2i ?_ ?_
    | with_reducible refine ty_f_Ps_caseStatement_121 ?_ ?_
    | with_reducible refine zy_B2 (ty_f_Ps_caseStatement_121 ?_ ?_) ?_
    | with_reducible refine ty_f_Tr_add  ?_
    | with_reducible refine zy_B2 (ty_f_Tr_add  ?_) ?_
    | with_reducible refine ty_f_Tr_hang  ?_
    | with_reducible refine zy_B2 (ty_f_Tr_hang  ?_) ?_
    | with_reducible refine ty_f_Ps_ranges  ?_
    | with_reducible refine zy_B2 (ty_f_Ps_ranges  ?_) ?_
    | with_reducible exact H_r_Ps_statements
    | with_reducible refine H_r_Ps_statements _ ?_
    | with_reducible refine zy_B2 (H_r_Ps_statements _ ?_) ?_
    | with_reducible exact H_k49
    | with_reducible refine H_k49 _ _ _ _ ?_
    | with_reducible refine zy_B2 (H_k49 _ _ _ _ ?_) ?_
    | intro _
theorem ty_f_Ps_caseStatement_L49 {r_Ps_statements : zs_H → (Option (Int32 × zs_H))} (H_r_Ps_statements : ∀ a0, zy_P a0 → zy_2 (r_Ps_statements a0)) : ∀ (N : Nat) (h : zs_H) (x1 : Int32) (x2 : Int32) (x3 : Int32), zy_P h → zy_2 (f_Ps_caseStatement_L49 r_Ps_statements N h x1 x2 x3) := by
  intro N
  induction N with
  | zero => intro h x1 x2 x3 _; exact zy_2n
  | succ N ih =>
    intro h x1 x2 x3 H
    exact ty_f_Ps_caseStatement_49 H_r_Ps_statements (fun b0 b1 b2 b3 z => ih b0 b1 b2 b3 z) H
theorem ty_f_Ps_caseStatement_L49' {r_Ps_statements : zs_H → (Option (Int32 × zs_H))} (H_r_Ps_statements : ∀ a0, zy_P a0 → zy_2 (r_Ps_statements a0)) {N : Nat} {h : zs_H} {x1 : Int32} {x2 : Int32} {x3 : Int32} (H : zy_P h) : zy_2 (f_Ps_caseStatement_L49 r_Ps_statements N h x1 x2 x3) := ty_f_Ps_caseStatement_L49 H_r_Ps_statements N h x1 x2 x3 H
theorem ty_g_Ps_caseStatement {r_Ps_statements : zs_H → (Option (Int32 × zs_H))} {h : zs_H} (H_r_Ps_statements : ∀ a0, zy_P a0 → zy_2 (r_Ps_statements a0)) (H : zy_P h) : zy_2 (g_Ps_caseStatement r_Ps_statements h) := by
  unfold g_Ps_caseStatement
  repeat' first
    | assumption
    | (with_reducible refine zy_uF ?_ ?_; · decide)
    | (with_reducible refine zy_uM ?_ ?_; · decide)
    | with_reducible exact zy_2n
    | with_reducible refine zy_2s ?_
    | with_reducible refine zy_2i ?_ ?_
    | with_reducible refine ty_f_Tr_add  ?_
    | with_reducible refine zy_B2 (ty_f_Tr_add  ?_) ?_
    | with_reducible refine ty_f_Ps_deepen  ?_
    | with_reducible refine zy_b2 (ty_f_Ps_deepen  ?_) ?_
    | with_reducible refine ty_f_Ps_take  ?_
    | with_reducible refine zy_b2 (ty_f_Ps_take  ?_) ?_
    | with_reducible refine ty_f_Ps_wholeExpression  ?_
    | with_reducible refine zy_B2 (ty_f_Ps_wholeExpression  ?_) ?_
    | with_reducible refine ty_f_Tr_hang  ?_
    | with_reducible refine zy_B2 (ty_f_Tr_hang  ?_) ?_
    | with_reducible refine ty_f_Ps_caseStatement_L49' ?_ ?_
    | with_reducible refine zy_B2 (ty_f_Ps_caseStatement_L49' ?_ ?_) ?_
    | with_reducible exact H_r_Ps_statements
    | with_reducible refine H_r_Ps_statements _ ?_
    | with_reducible refine zy_B2 (H_r_Ps_statements _ ?_) ?_
    | intro _
theorem ty_f_Ps_forStatement_124 {r_Ps_statements : zs_H → (Option (Int32 × zs_H))} {h : zs_H} {x1 : Int32} {x2 : Int32} (H_r_Ps_statements : ∀ a0, zy_P a0 → zy_2 (r_Ps_statements a0)) (H : zy_P h) : zy_2 (f_Ps_forStatement_124 r_Ps_statements h x1 x2) := by
  unfold f_Ps_forStatement_124
  repeat' first
    | assumption
    | (with_reducible refine zy_uF ?_ ?_; · decide)
    | (with_reducible refine zy_uM ?_ ?_; · decide)
    | with_reducible exact zy_2n
    | with_reducible refine zy_2s ?_
    | with_reducible refine zy_2i ?_ ?_
    | with_reducible refine ty_f_Ps_take  ?_
    | with_reducible refine zy_b2 (ty_f_Ps_take  ?_) ?_
    | with_reducible refine ty_f_Tr_hang  ?_
    | with_reducible refine zy_B2 (ty_f_Tr_hang  ?_) ?_
    | with_reducible exact H_r_Ps_statements
    | with_reducible refine H_r_Ps_statements _ ?_
    | with_reducible refine zy_B2 (H_r_Ps_statements _ ?_) ?_
    | intro _
theorem ty_g_Ps_forStatement {r_Ps_statements : zs_H → (Option (Int32 × zs_H))} {h : zs_H} (H_r_Ps_statements : ∀ a0, zy_P a0 → zy_2 (r_Ps_statements a0)) (H : zy_P h) : zy_2 (g_Ps_forStatement r_Ps_statements h) := by
  unfold g_Ps_forStatement
  repeat' first
    | assumption
    | (with_reducible refine zy_uF ?_ ?_; · decide)
    | (with_reducible refine zy_uM ?_ ?_; · decide)
    | with_reducible exact zy_2n
    | with_reducible refine zy_2s ?_
    | with_reducible refine zy_2i ?_ ?_
    | with_reducible refine ty_f_Tr_add  ?_
    | with_reducible refine zy_B2 (ty_f_Tr_add  ?_) ?_
    | with_reducible refine ty_f_Ps_deepen  ?_
    | with_reducible refine zy_b2 (ty_f_Ps_deepen  ?_) ?_
    | with_reducible refine ty_f_Ps_take  ?_
    | with_reducible refine zy_b2 (ty_f_Ps_take  ?_) ?_
    | with_reducible refine ty_f_Ps_constant  ?_
    | with_reducible refine zy_B2 (ty_f_Ps_constant  ?_) ?_
    | with_reducible refine ty_f_Tr_hang  ?_
    | with_reducible refine zy_B2 (ty_f_Tr_hang  ?_) ?_
    | with_reducible refine ty_f_Ps_forStatement_124 ?_ ?_
    | with_reducible refine zy_B2 (ty_f_Ps_forStatement_124 ?_ ?_) ?_
    | with_reducible exact H_r_Ps_statements
    | with_reducible refine H_r_Ps_statements _ ?_
    | with_reducible refine zy_B2 (H_r_Ps_statements _ ?_) ?_
    | intro _
theorem ty_f_Ps_ifStatement_125 {h : zs_H} {x1 : Int32}  (H : zy_P h) : zy_2 (f_Ps_ifStatement_125 h x1) := by
  unfold f_Ps_ifStatement_125
  repeat' first
    | assumption
    | (with_reducible refine zy_uF ?_ ?_; · decide)
    | (with_reducible refine zy_uM ?_ ?_; · decide)
    | with_reducible exact zy_2n
    | with_reducible refine zy_2s ?_
    | with_reducible refine zy_2i ?_ ?_
    | with_reducible refine ty_f_Ps_take  ?_
    | with_reducible refine zy_b2 (ty_f_Ps_take  ?_) ?_
    | intro _
theorem ty_f_Ps_ifStatement_94 {r_Ps_statements : zs_H → (Option (Int32 × zs_H))} {h : zs_H} {x1 : Int32} {x2 : Int32} (H_r_Ps_statements : ∀ a0, zy_P a0 → zy_2 (r_Ps_statements a0)) (H : zy_P h) : zy_2 (f_Ps_ifStatement_94 r_Ps_statements h x1 x2) := by
  unfold f_Ps_ifStatement_94
  repeat' first
    | assumption
    | (with_reducible refine zy_uF ?_ ?_; · decide)
    | (with_reducible refine zy_uM ?_ ?_; · decide)
    | with_reducible exact zy_2n
    | with_reducible refine zy_2s ?_
    | with_reducible refine zy_2i ?_ ?_
    | with_reducible refine ty_f_Ps_take  ?_
    | with_reducible refine zy_b2 (ty_f_Ps_take  ?_) ?_
    | with_reducible refine ty_f_Tr_hang  ?_
    | with_reducible refine zy_B2 (ty_f_Tr_hang  ?_) ?_
    | with_reducible refine ty_f_Ps_ifStatement_125  ?_
    | with_reducible refine zy_B2 (ty_f_Ps_ifStatement_125  ?_) ?_
    | with_reducible exact H_r_Ps_statements
    | with_reducible refine H_r_Ps_statements _ ?_
    | with_reducible refine zy_B2 (H_r_Ps_statements _ ?_) ?_
    | intro _
theorem ty_f_Ps_ifStatement_28 {r_Ps_statements : zs_H → (Option (Int32 × zs_H))} {k28 : zs_H → Int32 → Int32 → Int32 → Int32 → (Option (Int32 × zs_H))} {h : zs_H} {x1 : Int32} {x2 : Int32} {x3 : Int32} {x4 : Int32} (H_r_Ps_statements : ∀ a0, zy_P a0 → zy_2 (r_Ps_statements a0)) (H_k28 : ∀ a0 a1 a2 a3 a4, zy_P a0 → zy_2 (k28 a0 a1 a2 a3 a4)) (H : zy_P h) : zy_2 (f_Ps_ifStatement_28 r_Ps_statements k28 h x1 x2 x3 x4) := by
  unfold f_Ps_ifStatement_28
  repeat' first
    | assumption
    | (with_reducible refine zy_uF ?_ ?_; · decide)
    | (with_reducible refine zy_uM ?_ ?_; · decide)
    | with_reducible exact zy_2n
    | with_reducible refine zy_2s ?_
    | with_reducible refine zy_2i ?_ ?_
    | with_reducible refine ty_f_Ps_ifStatement_94 ?_ ?_
    | with_reducible refine zy_B2 (ty_f_Ps_ifStatement_94 ?_ ?_) ?_
    | with_reducible refine ty_f_Ps_take  ?_
    | with_reducible refine zy_b2 (ty_f_Ps_take  ?_) ?_
    | with_reducible refine ty_f_Ps_wholeExpression  ?_
    | with_reducible refine zy_B2 (ty_f_Ps_wholeExpression  ?_) ?_
    | with_reducible refine ty_f_Tr_hang  ?_
    | with_reducible refine zy_B2 (ty_f_Tr_hang  ?_) ?_
    | with_reducible exact H_r_Ps_statements
    | with_reducible refine H_r_Ps_statements _ ?_
    | with_reducible refine zy_B2 (H_r_Ps_statements _ ?_) ?_
    | with_reducible exact H_k28
    | with_reducible refine H_k28 _ _ _ _ _ ?_
    | with_reducible refine zy_B2 (H_k28 _ _ _ _ _ ?_) ?_
    | intro _
theorem ty_f_Ps_ifStatement_L28 {r_Ps_statements : zs_H → (Option (Int32 × zs_H))} (H_r_Ps_statements : ∀ a0, zy_P a0 → zy_2 (r_Ps_statements a0)) : ∀ (N : Nat) (h : zs_H) (x1 : Int32) (x2 : Int32) (x3 : Int32) (x4 : Int32), zy_P h → zy_2 (f_Ps_ifStatement_L28 r_Ps_statements N h x1 x2 x3 x4) := by
  intro N
  induction N with
  | zero => intro h x1 x2 x3 x4 _; exact zy_2n
  | succ N ih =>
    intro h x1 x2 x3 x4 H
    exact ty_f_Ps_ifStatement_28 H_r_Ps_statements (fun b0 b1 b2 b3 b4 z => ih b0 b1 b2 b3 b4 z) H
theorem ty_f_Ps_ifStatement_L28' {r_Ps_statements : zs_H → (Option (Int32 × zs_H))} (H_r_Ps_statements : ∀ a0, zy_P a0 → zy_2 (r_Ps_statements a0)) {N : Nat} {h : zs_H} {x1 : Int32} {x2 : Int32} {x3 : Int32} {x4 : Int32} (H : zy_P h) : zy_2 (f_Ps_ifStatement_L28 r_Ps_statements N h x1 x2 x3 x4) := ty_f_Ps_ifStatement_L28 H_r_Ps_statements N h x1 x2 x3 x4 H
theorem ty_g_Ps_ifStatement {r_Ps_statements : zs_H → (Option (Int32 × zs_H))} {h : zs_H} (H_r_Ps_statements : ∀ a0, zy_P a0 → zy_2 (r_Ps_statements a0)) (H : zy_P h) : zy_2 (g_Ps_ifStatement r_Ps_statements h) := by
  unfold g_Ps_ifStatement
  repeat' first
    | assumption
    | (with_reducible refine zy_uF ?_ ?_; · decide)
    | (with_reducible refine zy_uM ?_ ?_; · decide)
    | with_reducible exact zy_2n
    | with_reducible refine zy_2s ?_
    | with_reducible refine zy_2i ?_ ?_
    | with_reducible refine ty_f_Tr_add  ?_
    | with_reducible refine zy_B2 (ty_f_Tr_add  ?_) ?_
    | with_reducible refine ty_f_Ps_deepen  ?_
    | with_reducible refine zy_b2 (ty_f_Ps_deepen  ?_) ?_
    | with_reducible refine ty_f_Ps_ifStatement_L28' ?_ ?_
    | with_reducible refine zy_B2 (ty_f_Ps_ifStatement_L28' ?_ ?_) ?_
    | with_reducible exact H_r_Ps_statements
    | with_reducible refine H_r_Ps_statements _ ?_
    | with_reducible refine zy_B2 (H_r_Ps_statements _ ?_) ?_
    | intro _
theorem ty_f_Ps_statement_141 {h : zs_H} {y0 : Int32}  (H : zy_P h) : zy_2 (f_Ps_statement_141 h y0) := by
  unfold f_Ps_statement_141
  repeat' first
    | assumption
    | (with_reducible refine zy_uF ?_ ?_; · decide)
    | (with_reducible refine zy_uM ?_ ?_; · decide)
    | with_reducible exact zy_2n
    | with_reducible refine zy_2s ?_
    | with_reducible refine zy_2i ?_ ?_
    | with_reducible refine ty_f_Tr_add  ?_
    | with_reducible refine zy_B2 (ty_f_Tr_add  ?_) ?_
    | with_reducible refine ty_f_Ps_take  ?_
    | with_reducible refine zy_b2 (ty_f_Ps_take  ?_) ?_
    | intro _
theorem ty_f_Ps_statement_103 {h : zs_H} {y0 : Int32}  (H : zy_P h) : zy_2 (f_Ps_statement_103 h y0) := by
  unfold f_Ps_statement_103
  repeat' first
    | assumption
    | (with_reducible refine zy_uF ?_ ?_; · decide)
    | (with_reducible refine zy_uM ?_ ?_; · decide)
    | with_reducible exact zy_2n
    | with_reducible refine zy_2s ?_
    | with_reducible refine zy_2i ?_ ?_
    | with_reducible refine ty_f_Ps_assignment  ?_
    | with_reducible refine zy_B2 (ty_f_Ps_assignment  ?_) ?_
    | with_reducible refine ty_f_Ps_invocation  ?_
    | with_reducible refine zy_B2 (ty_f_Ps_invocation  ?_) ?_
    | intro _
theorem ty_f_Ps_statement_102 {h : zs_H}  (H : zy_P h) : zy_2 (f_Ps_statement_102 h) := by
  unfold f_Ps_statement_102
  repeat' first
    | assumption
    | (with_reducible refine zy_uF ?_ ?_; · decide)
    | (with_reducible refine zy_uM ?_ ?_; · decide)
    | with_reducible exact zy_2n
    | with_reducible refine zy_2s ?_
    | with_reducible refine zy_2i ?_ ?_
    | with_reducible refine ty_f_Ps_statement_103  ?_
    | with_reducible refine zy_B2 (ty_f_Ps_statement_103  ?_) ?_
    | intro _
theorem ty_g_Ps_statement {r_Ps_caseStatement : zs_H → (Option (Int32 × zs_H))} {r_Ps_forStatement : zs_H → (Option (Int32 × zs_H))} {r_Ps_ifStatement : zs_H → (Option (Int32 × zs_H))} {h : zs_H} (H_r_Ps_caseStatement : ∀ a0, zy_P a0 → zy_2 (r_Ps_caseStatement a0)) (H_r_Ps_forStatement : ∀ a0, zy_P a0 → zy_2 (r_Ps_forStatement a0)) (H_r_Ps_ifStatement : ∀ a0, zy_P a0 → zy_2 (r_Ps_ifStatement a0)) (H : zy_P h) : zy_2 (g_Ps_statement r_Ps_caseStatement r_Ps_forStatement r_Ps_ifStatement h) := by
  unfold g_Ps_statement
  repeat' first
    | assumption
    | (with_reducible refine zy_uF ?_ ?_; · decide)
    | (with_reducible refine zy_uM ?_ ?_; · decide)
    | with_reducible exact zy_2n
    | with_reducible refine zy_2s ?_
    | with_reducible refine zy_2i ?_ ?_
    | with_reducible refine ty_f_Ps_statement_102  ?_
    | with_reducible refine zy_B2 (ty_f_Ps_statement_102  ?_) ?_
    | with_reducible refine ty_f_Ps_statement_103  ?_
    | with_reducible refine zy_B2 (ty_f_Ps_statement_103  ?_) ?_
    | with_reducible refine ty_f_Ps_statement_141  ?_
    | with_reducible refine zy_B2 (ty_f_Ps_statement_141  ?_) ?_
    | with_reducible exact H_r_Ps_caseStatement
    | with_reducible refine H_r_Ps_caseStatement _ ?_
    | with_reducible refine zy_B2 (H_r_Ps_caseStatement _ ?_) ?_
    | with_reducible exact H_r_Ps_forStatement
    | with_reducible refine H_r_Ps_forStatement _ ?_
    | with_reducible refine zy_B2 (H_r_Ps_forStatement _ ?_) ?_
    | with_reducible exact H_r_Ps_ifStatement
    | with_reducible refine H_r_Ps_ifStatement _ ?_
    | with_reducible refine zy_B2 (H_r_Ps_ifStatement _ ?_) ?_
    | intro _
theorem ty_f_Ps_statements_56 {r_Ps_statement : zs_H → (Option (Int32 × zs_H))} {k19 : zs_H → Int32 → Int32 → Int32 → (Option (Int32 × zs_H))} {h : zs_H} {x1 : Int32} {x2 : Int32} {x3 : Int32} (H_r_Ps_statement : ∀ a0, zy_P a0 → zy_2 (r_Ps_statement a0)) (H_k19 : ∀ a0 a1 a2 a3, zy_P a0 → zy_2 (k19 a0 a1 a2 a3)) (H : zy_P h) : zy_2 (f_Ps_statements_56 r_Ps_statement k19 h x1 x2 x3) := by
  unfold f_Ps_statements_56
  repeat' first
    | assumption
    | (with_reducible refine zy_uF ?_ ?_; · decide)
    | (with_reducible refine zy_uM ?_ ?_; · decide)
    | with_reducible exact zy_2n
    | with_reducible refine zy_2s ?_
    | with_reducible refine zy_2i ?_ ?_
    | with_reducible refine ty_f_Ps_take  ?_
    | with_reducible refine zy_b2 (ty_f_Ps_take  ?_) ?_
    | with_reducible exact H_r_Ps_statement
    | with_reducible refine H_r_Ps_statement _ ?_
    | with_reducible refine zy_B2 (H_r_Ps_statement _ ?_) ?_
    | with_reducible exact H_k19
    | with_reducible refine H_k19 _ _ _ _ ?_
    | with_reducible refine zy_B2 (H_k19 _ _ _ _ ?_) ?_
    | intro _
theorem ty_f_Ps_statements_19 {r_Ps_statement : zs_H → (Option (Int32 × zs_H))} {k19 : zs_H → Int32 → Int32 → Int32 → (Option (Int32 × zs_H))} {h : zs_H} {x1 : Int32} {x2 : Int32} {x3 : Int32} (H_r_Ps_statement : ∀ a0, zy_P a0 → zy_2 (r_Ps_statement a0)) (H_k19 : ∀ a0 a1 a2 a3, zy_P a0 → zy_2 (k19 a0 a1 a2 a3)) (H : zy_P h) : zy_2 (f_Ps_statements_19 r_Ps_statement k19 h x1 x2 x3) := by
  unfold f_Ps_statements_19
  repeat' first
    | assumption
    | (with_reducible refine zy_uF ?_ ?_; · decide)
    | (with_reducible refine zy_uM ?_ ?_; · decide)
    | with_reducible exact zy_2n
    | with_reducible refine zy_2s ?_
    | with_reducible refine zy_2i ?_ ?_
    | with_reducible refine ty_f_Ps_statements_56 ?_ ?_ ?_
    | with_reducible refine zy_B2 (ty_f_Ps_statements_56 ?_ ?_ ?_) ?_
    | with_reducible refine ty_f_Tr_hang  ?_
    | with_reducible refine zy_B2 (ty_f_Tr_hang  ?_) ?_
    | with_reducible exact H_r_Ps_statement
    | with_reducible refine H_r_Ps_statement _ ?_
    | with_reducible refine zy_B2 (H_r_Ps_statement _ ?_) ?_
    | with_reducible exact H_k19
    | with_reducible refine H_k19 _ _ _ _ ?_
    | with_reducible refine zy_B2 (H_k19 _ _ _ _ ?_) ?_
    | intro _
theorem ty_f_Ps_statements_L19 {r_Ps_statement : zs_H → (Option (Int32 × zs_H))} (H_r_Ps_statement : ∀ a0, zy_P a0 → zy_2 (r_Ps_statement a0)) : ∀ (N : Nat) (h : zs_H) (x1 : Int32) (x2 : Int32) (x3 : Int32), zy_P h → zy_2 (f_Ps_statements_L19 r_Ps_statement N h x1 x2 x3) := by
  intro N
  induction N with
  | zero => intro h x1 x2 x3 _; exact zy_2n
  | succ N ih =>
    intro h x1 x2 x3 H
    exact ty_f_Ps_statements_19 H_r_Ps_statement (fun b0 b1 b2 b3 z => ih b0 b1 b2 b3 z) H
theorem ty_f_Ps_statements_L19' {r_Ps_statement : zs_H → (Option (Int32 × zs_H))} (H_r_Ps_statement : ∀ a0, zy_P a0 → zy_2 (r_Ps_statement a0)) {N : Nat} {h : zs_H} {x1 : Int32} {x2 : Int32} {x3 : Int32} (H : zy_P h) : zy_2 (f_Ps_statements_L19 r_Ps_statement N h x1 x2 x3) := ty_f_Ps_statements_L19 H_r_Ps_statement N h x1 x2 x3 H
theorem ty_g_Ps_statements {r_Ps_statement : zs_H → (Option (Int32 × zs_H))} {h : zs_H} (H_r_Ps_statement : ∀ a0, zy_P a0 → zy_2 (r_Ps_statement a0)) (H : zy_P h) : zy_2 (g_Ps_statements r_Ps_statement h) := by
  unfold g_Ps_statements
  repeat' first
    | assumption
    | (with_reducible refine zy_uF ?_ ?_; · decide)
    | (with_reducible refine zy_uM ?_ ?_; · decide)
    | with_reducible exact zy_2n
    | with_reducible refine zy_2s ?_
    | with_reducible refine zy_2i ?_ ?_
    | with_reducible refine ty_f_Tr_add  ?_
    | with_reducible refine zy_B2 (ty_f_Tr_add  ?_) ?_
    | with_reducible refine ty_f_Ps_statements_L19' ?_ ?_
    | with_reducible refine zy_B2 (ty_f_Ps_statements_L19' ?_ ?_) ?_
    | with_reducible exact H_r_Ps_statement
    | with_reducible refine H_r_Ps_statement _ ?_
    | with_reducible refine zy_B2 (H_r_Ps_statement _ ?_) ?_
    | intro _
theorem ty_rec2 : ∀ d, (∀ h, zy_P h → zy_2 (f_Ps_caseStatement d h)) ∧ (∀ h, zy_P h → zy_2 (f_Ps_forStatement d h)) ∧ (∀ h, zy_P h → zy_2 (f_Ps_ifStatement d h)) ∧ (∀ h, zy_P h → zy_2 (f_Ps_statement d h)) ∧ (∀ h, zy_P h → zy_2 (f_Ps_statements d h)) := by
  intro d
  induction d with
  | zero => exact ⟨fun _ _ => zy_2n, fun _ _ => zy_2n, fun _ _ => zy_2n, fun _ _ => zy_2n, fun _ _ => zy_2n⟩
  | succ d ih =>
    obtain ⟨a, b, c, e, f⟩ := ih
    rw [zy_ps, zy_pt, zy_pi, zy_pc, zy_pf]
    exact ⟨fun h H => ty_g_Ps_caseStatement f H, fun h H => ty_g_Ps_forStatement f H, fun h H => ty_g_Ps_ifStatement f H, fun h H => ty_g_Ps_statement a b c H, fun h H => ty_g_Ps_statements e H⟩
theorem ty_f_Ps_statements {d : Nat} {h : zs_H} (H : zy_P h) : zy_2 (f_Ps_statements d h) := (ty_rec2 d).2.2.2.2 h H
theorem ty_f_Ps_block_184 {h : zs_H} {x1 : Int32} {x3 : Int32} {y0 : Int32} {y1 : Int32} {y2 : Int32}  (H : zy_P h) : zy_2 (f_Ps_block_184 h x1 x3 y0 y1 y2) := by
  unfold f_Ps_block_184
  repeat' first
    | assumption
    | (with_reducible refine zy_uF ?_ ?_; · decide)
    | (with_reducible refine zy_uM ?_ ?_; · decide)
    | with_reducible exact zy_2n
    | with_reducible refine zy_2s ?_
    | with_reducible refine zy_2i ?_ ?_
    | with_reducible refine ty_f_Tr_hang  ?_
    | with_reducible refine zy_B2 (ty_f_Tr_hang  ?_) ?_
    | with_reducible refine ty_f_Ps_take  ?_
    | with_reducible refine zy_b2 (ty_f_Ps_take  ?_) ?_
    | intro _
theorem ty_f_Ps_block_156 {h : zs_H} {x1 : Int32} {x3 : Int32} {x4 : Int32}  (H : zy_P h) : zy_2 (f_Ps_block_156 h x1 x3 x4) := by
  unfold f_Ps_block_156
  repeat' first
    | assumption
    | (with_reducible refine zy_uF ?_ ?_; · decide)
    | (with_reducible refine zy_uM ?_ ?_; · decide)
    | with_reducible exact zy_2n
    | with_reducible refine zy_2s ?_
    | with_reducible refine zy_2i ?_ ?_
    | with_reducible refine ty_f_Ps_ladder  ?_
    | with_reducible refine zy_B2 (ty_f_Ps_ladder  ?_) ?_
    | with_reducible refine ty_f_Ps_block_184  ?_
    | with_reducible refine zy_B2 (ty_f_Ps_block_184  ?_) ?_
    | with_reducible refine ty_f_Ps_statements  ?_
    | with_reducible refine zy_B2 (ty_f_Ps_statements  ?_) ?_
    | intro _
theorem ty_f_Ps_block_119 {k119 : zs_H → Int32 → Int32 → Int32 → Int32 → (Option (Int32 × zs_H))} {h : zs_H} {x1 : Int32} {x3 : Int32} {x4 : Int32} {x5 : Int32} (H_k119 : ∀ a0 a1 a2 a3 a4, zy_P a0 → zy_2 (k119 a0 a1 a2 a3 a4)) (H : zy_P h) : zy_2 (f_Ps_block_119 k119 h x1 x3 x4 x5) := by
  unfold f_Ps_block_119
  repeat' first
    | assumption
    | (with_reducible refine zy_uF ?_ ?_; · decide)
    | (with_reducible refine zy_uM ?_ ?_; · decide)
    | with_reducible exact zy_2n
    | with_reducible refine zy_2s ?_
    | with_reducible refine zy_2i ?_ ?_
    | with_reducible refine ty_f_Ps_block_156  ?_
    | with_reducible refine zy_B2 (ty_f_Ps_block_156  ?_) ?_
    | with_reducible refine ty_f_Ps_section  ?_
    | with_reducible refine zy_B2 (ty_f_Ps_section  ?_) ?_
    | with_reducible refine ty_f_Tr_hang  ?_
    | with_reducible refine zy_B2 (ty_f_Tr_hang  ?_) ?_
    | with_reducible exact H_k119
    | with_reducible refine H_k119 _ _ _ _ _ ?_
    | with_reducible refine zy_B2 (H_k119 _ _ _ _ _ ?_) ?_
    | intro _
theorem ty_f_Ps_block_L119   : ∀ (N : Nat) (h : zs_H) (x1 : Int32) (x2 : Int32) (x3 : Int32) (x4 : Int32), zy_P h → zy_2 (f_Ps_block_L119  N h x1 x2 x3 x4) := by
  intro N
  induction N with
  | zero => intro h x1 x2 x3 x4 _; exact zy_2n
  | succ N ih =>
    intro h x1 x2 x3 x4 H
    exact ty_f_Ps_block_119  (fun b0 b1 b2 b3 b4 z => ih b0 b1 b2 b3 b4 z) H
theorem ty_f_Ps_block_L119'   {N : Nat} {h : zs_H} {x1 : Int32} {x2 : Int32} {x3 : Int32} {x4 : Int32} (H : zy_P h) : zy_2 (f_Ps_block_L119  N h x1 x2 x3 x4) := ty_f_Ps_block_L119  N h x1 x2 x3 x4 H
theorem ty_f_Ps_block_116 {h : zs_H} {x1 : Int32} {x3 : Int32} {x4 : Int32}  (H : zy_P h) : zy_2 (f_Ps_block_116 h x1 x3 x4) := by
  unfold f_Ps_block_116
  repeat' first
    | assumption
    | (with_reducible refine zy_uF ?_ ?_; · decide)
    | (with_reducible refine zy_uM ?_ ?_; · decide)
    | with_reducible exact zy_2n
    | with_reducible refine zy_2s ?_
    | with_reducible refine zy_2i ?_ ?_
    | with_reducible refine ty_f_Ps_block_L119'  ?_
    | with_reducible refine zy_B2 (ty_f_Ps_block_L119'  ?_) ?_
    | intro _
theorem ty_f_Ps_block_56 {h : zs_H} {x1 : Int32} {x2 : Int32} {x3 : Int32} {y0 : Int32}  (H : zy_P h) : zy_2 (f_Ps_block_56 h x1 x2 x3 y0) := by
  unfold f_Ps_block_56
  repeat' first
    | assumption
    | (with_reducible refine zy_uF ?_ ?_; · decide)
    | (with_reducible refine zy_uM ?_ ?_; · decide)
    | with_reducible exact zy_2n
    | with_reducible refine zy_2s ?_
    | with_reducible refine zy_2i ?_ ?_
    | with_reducible refine ty_f_Ps_take  ?_
    | with_reducible refine zy_b2 (ty_f_Ps_take  ?_) ?_
    | with_reducible refine ty_f_Ps_simpleType  ?_
    | with_reducible refine zy_B2 (ty_f_Ps_simpleType  ?_) ?_
    | with_reducible refine ty_f_Tr_hang  ?_
    | with_reducible refine zy_B2 (ty_f_Tr_hang  ?_) ?_
    | with_reducible refine ty_f_Ps_block_116  ?_
    | with_reducible refine zy_B2 (ty_f_Ps_block_116  ?_) ?_
    | intro _
theorem ty_f_Ps_block_28 {h : zs_H} {x1 : Int32} {y0 : Int32}  (H : zy_P h) : zy_2 (f_Ps_block_28 h x1 y0) := by
  unfold f_Ps_block_28
  repeat' first
    | assumption
    | (with_reducible refine zy_uF ?_ ?_; · decide)
    | (with_reducible refine zy_uM ?_ ?_; · decide)
    | with_reducible exact zy_2n
    | with_reducible refine zy_2s ?_
    | with_reducible refine zy_2i ?_ ?_
    | with_reducible refine ty_f_Tr_add  ?_
    | with_reducible refine zy_B2 (ty_f_Tr_add  ?_) ?_
    | with_reducible refine ty_f_Ps_block_56  ?_
    | with_reducible refine zy_B2 (ty_f_Ps_block_56  ?_) ?_
    | intro _
theorem ty_f_Ps_block {h : zs_H}  (H : zy_P h) : zy_2 (f_Ps_block h) := by
  unfold f_Ps_block
  repeat' first
    | assumption
    | (with_reducible refine zy_uF ?_ ?_; · decide)
    | (with_reducible refine zy_uM ?_ ?_; · decide)
    | with_reducible exact zy_2n
    | with_reducible refine zy_2s ?_
    | with_reducible refine zy_2i ?_ ?_
    | with_reducible refine ty_f_Ps_block_28  ?_
    | with_reducible refine zy_B2 (ty_f_Ps_block_28  ?_) ?_
    | intro _
theorem ty_f_Ps_parse_107 {h : zs_H}  (H : zy_P h) : zy_2 (f_Ps_parse_107 h) := by
  unfold f_Ps_parse_107
  repeat' first
    | assumption
    | (with_reducible refine zy_uF ?_ ?_; · decide)
    | (with_reducible refine zy_uM ?_ ?_; · decide)
    | with_reducible exact zy_2n
    | with_reducible refine zy_2s ?_
    | with_reducible refine zy_2i ?_ ?_
    | intro _
theorem ty_f_Ps_parse_64 {k64 : zs_H → Int32 → Int32 → Int32 → (Option (Int32 × zs_H))} {h : zs_H} {x1 : Int32} {x2 : Int32} {x3 : Int32} (H_k64 : ∀ a0 a1 a2 a3, zy_P a0 → zy_2 (k64 a0 a1 a2 a3)) (H : zy_P h) : zy_2 (f_Ps_parse_64 k64 h x1 x2 x3) := by
  unfold f_Ps_parse_64
  repeat' first
    | assumption
    | (with_reducible refine zy_uF ?_ ?_; · decide)
    | (with_reducible refine zy_uM ?_ ?_; · decide)
    | with_reducible exact zy_2n
    | with_reducible refine zy_2s ?_
    | with_reducible refine zy_2i ?_ ?_
    | with_reducible refine ty_f_Ps_parse_107  ?_
    | with_reducible refine zy_B2 (ty_f_Ps_parse_107  ?_) ?_
    | with_reducible refine ty_f_Ps_block  ?_
    | with_reducible refine zy_B2 (ty_f_Ps_block  ?_) ?_
    | with_reducible refine ty_f_Tr_hang  ?_
    | with_reducible refine zy_B2 (ty_f_Tr_hang  ?_) ?_
    | with_reducible exact H_k64
    | with_reducible refine H_k64 _ _ _ _ ?_
    | with_reducible refine zy_B2 (H_k64 _ _ _ _ ?_) ?_
    | intro _
theorem ty_f_Ps_parse_L64   : ∀ (N : Nat) (h : zs_H) (x1 : Int32) (x2 : Int32) (x3 : Int32), zy_P h → zy_2 (f_Ps_parse_L64  N h x1 x2 x3) := by
  intro N
  induction N with
  | zero => intro h x1 x2 x3 _; exact zy_2n
  | succ N ih =>
    intro h x1 x2 x3 H
    exact ty_f_Ps_parse_64  (fun b0 b1 b2 b3 z => ih b0 b1 b2 b3 z) H
theorem ty_f_Ps_parse_L64'   {N : Nat} {h : zs_H} {x1 : Int32} {x2 : Int32} {x3 : Int32} (H : zy_P h) : zy_2 (f_Ps_parse_L64  N h x1 x2 x3) := ty_f_Ps_parse_L64  N h x1 x2 x3 H
theorem ty_parse {h : zs_H} : zy_2 (f_Ps_parse h) := by
  unfold f_Ps_parse
  refine zy_B2 (ty_f_Tr_add ⟨0, rfl, by decide, fun i hi => absurd hi (Nat.not_lt_zero i)⟩) ?_
  intro x h' H
  exact ty_f_Ps_parse_L64' H
end
