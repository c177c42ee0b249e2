/-! The model's judge leaves the tree as it is. -/
theorem jn_zy (d : Nat) : zy_Mo_look (d + 1) = (g_Mo_look (zy_Mo_look d).1 (zy_Mo_look d).2, g_Mo_lookAlone (zy_Mo_look d).1) := zd_its _ _ d
theorem jn_lk (d : Nat) : f_Mo_look (d + 1) = g_Mo_look (f_Mo_look d) (f_Mo_lookAlone d) := congrArg Prod.fst (jn_zy d)
theorem jn_la (d : Nat) : f_Mo_lookAlone (d + 1) = g_Mo_lookAlone (f_Mo_look d) := congrArg Prod.snd (jn_zy d)
theorem jn_czy (d : Nat) : czy_Mo_look (d + 1) = (cg_Mo_look (czy_Mo_look d).1 (czy_Mo_look d).2, cg_Mo_lookAlone (czy_Mo_look d).1) := zd_its _ _ d
theorem jn_clk (d : Nat) : c_Mo_look (d + 1) = cg_Mo_look (c_Mo_look d) (c_Mo_lookAlone d) := congrArg Prod.fst (jn_czy d)
theorem jn_cla (d : Nat) : c_Mo_lookAlone (d + 1) = cg_Mo_lookAlone (c_Mo_look d) := congrArg Prod.snd (jn_czy d)
def fx_P (A : Nat → Nat → Int32) (h : zs_H) : Prop := ∀ k, k ∈ [72, 75, 76, 77, 78] → h.2.1 k = A k
def fx_1 (A : Nat → Nat → Int32) (o : Option zs_H) : Prop := ∀ h, o = some h → fx_P A h
def fx_2 (A : Nat → Nat → Int32) (o : Option (Int32 × zs_H)) : Prop := ∀ x h, o = some (x, h) → fx_P A h
def fx_3 (A : Nat → Nat → Int32) (o : Option (Int64 × zs_H)) : Prop := ∀ x h, o = some (x, h) → fx_P A h
section FXS
variable {A : Nat → Nat → Int32} {h : zs_H}
theorem fx_uF {k j : Nat} {v : Int32} (H : fx_P A h) : fx_P A (zs_uF h k j v) := H
theorem fx_uL {k j : Nat} {v : Int64} (H : fx_P A h) : fx_P A (zs_uL h k j v) := H
theorem fx_uM {k j : Nat} {v : Int32} (hk : ¬ k ∈ [72, 75, 76, 77, 78]) (H : fx_P A h) : fx_P A (zs_uM h k j v) := fun m hm => by
  rw [← H m hm]
  funext i
  show (if m = k ∧ i = j then v else h.2.1 m i) = _
  rw [if_neg (fun z => hk (by rw [← z.1]; exact hm))]
theorem fx_1s (H : fx_P A h) : fx_1 A (some h) := fun h' e => by cases e; exact H
theorem fx_1n : fx_1 A none := fun h' e => by cases e
theorem fx_1i {c : Prop} [Decidable c] {a b : Option zs_H} (p : c → fx_1 A a) (q : ¬ c → fx_1 A b) : fx_1 A (if c then a else b) := by
  by_cases z : c
  · rw [if_pos z]; exact p z
  · rw [if_neg z]; exact q z
theorem fx_b1 {o : Option zs_H} {F : zs_H → Option zs_H} (p : fx_1 A o) (q : ∀ h, fx_P A h → fx_1 A (F h)) : fx_1 A (o.bind F) := by
  cases o with
  | none => exact fx_1n
  | some h => exact q h (p h rfl)
theorem fx_O1 {α : Type} {o : Option α} {F : α → Option zs_H} (q : ∀ v, fx_1 A (F v)) : fx_1 A (o.bind F) := by
  cases o with
  | none => exact fx_1n
  | some v => exact q v
theorem fx_2s {x : Int32} (H : fx_P A h) : fx_2 A (some (x, h)) := fun x' h' e => by cases e; exact H
theorem fx_2n : fx_2 A none := fun x h' e => by cases e
theorem fx_2i {c : Prop} [Decidable c] {a b : Option (Int32 × zs_H)} (p : c → fx_2 A a) (q : ¬ c → fx_2 A b) : fx_2 A (if c then a else b) := by
  by_cases z : c
  · rw [if_pos z]; exact p z
  · rw [if_neg z]; exact q z
theorem fx_b2 {o : Option zs_H} {F : zs_H → Option (Int32 × zs_H)} (p : fx_1 A o) (q : ∀ h, fx_P A h → fx_2 A (F h)) : fx_2 A (o.bind F) := by
  cases o with
  | none => exact fx_2n
  | some h => exact q h (p h rfl)
theorem fx_O2 {α : Type} {o : Option α} {F : α → Option (Int32 × zs_H)} (q : ∀ v, fx_2 A (F v)) : fx_2 A (o.bind F) := by
  cases o with
  | none => exact fx_2n
  | some v => exact q v
theorem fx_3s {x : Int64} (H : fx_P A h) : fx_3 A (some (x, h)) := fun x' h' e => by cases e; exact H
theorem fx_3n : fx_3 A none := fun x h' e => by cases e
theorem fx_3i {c : Prop} [Decidable c] {a b : Option (Int64 × zs_H)} (p : c → fx_3 A a) (q : ¬ c → fx_3 A b) : fx_3 A (if c then a else b) := by
  by_cases z : c
  · rw [if_pos z]; exact p z
  · rw [if_neg z]; exact q z
theorem fx_b3 {o : Option zs_H} {F : zs_H → Option (Int64 × zs_H)} (p : fx_1 A o) (q : ∀ h, fx_P A h → fx_3 A (F h)) : fx_3 A (o.bind F) := by
  cases o with
  | none => exact fx_3n
  | some h => exact q h (p h rfl)
theorem fx_O3 {α : Type} {o : Option α} {F : α → Option (Int64 × zs_H)} (q : ∀ v, fx_3 A (F v)) : fx_3 A (o.bind F) := by
  cases o with
  | none => exact fx_3n
  | some v => exact q v
theorem fx_B21 {o : Option (Int32 × zs_H)} {F : Int32 → zs_H → Option (zs_H)} (p : fx_2 A o) (q : ∀ x h, fx_P A h → fx_1 A (F x h)) : fx_1 A (zd_B o F) := by
  cases o with
  | none => exact fx_1n
  | some w => exact q w.1 w.2 (p w.1 w.2 rfl)
theorem fx_B22 {o : Option (Int32 × zs_H)} {F : Int32 → zs_H → Option (Int32 × zs_H)} (p : fx_2 A o) (q : ∀ x h, fx_P A h → fx_2 A (F x h)) : fx_2 A (zd_B o F) := by
  cases o with
  | none => exact fx_2n
  | some w => exact q w.1 w.2 (p w.1 w.2 rfl)
theorem fx_B23 {o : Option (Int32 × zs_H)} {F : Int32 → zs_H → Option (Int64 × zs_H)} (p : fx_2 A o) (q : ∀ x h, fx_P A h → fx_3 A (F x h)) : fx_3 A (zd_B o F) := by
  cases o with
  | none => exact fx_3n
  | some w => exact q w.1 w.2 (p w.1 w.2 rfl)
theorem fx_B31 {o : Option (Int64 × zs_H)} {F : Int64 → zs_H → Option (zs_H)} (p : fx_3 A o) (q : ∀ x h, fx_P A h → fx_1 A (F x h)) : fx_1 A (zd_B o F) := by
  cases o with
  | none => exact fx_1n
  | some w => exact q w.1 w.2 (p w.1 w.2 rfl)
theorem fx_B32 {o : Option (Int64 × zs_H)} {F : Int64 → zs_H → Option (Int32 × zs_H)} (p : fx_3 A o) (q : ∀ x h, fx_P A h → fx_2 A (F x h)) : fx_2 A (zd_B o F) := by
  cases o with
  | none => exact fx_2n
  | some w => exact q w.1 w.2 (p w.1 w.2 rfl)
theorem fx_B33 {o : Option (Int64 × zs_H)} {F : Int64 → zs_H → Option (Int64 × zs_H)} (p : fx_3 A o) (q : ∀ x h, fx_P A h → fx_3 A (F x h)) : fx_3 A (zd_B o F) := by
  cases o with
  | none => exact fx_3n
  | some w => exact q w.1 w.2 (p w.1 w.2 rfl)
end FXS
theorem fx_f_Mo_breaks {A : Nat → Nat → Int32} {h : zs_H} {x1 : Int32} {x2 : Int32}  (H : fx_P A h) : fx_1 A (f_Mo_breaks h x1 x2) := by
  unfold f_Mo_breaks
  exact (fx_1i (fun _ => (fx_1i (fun _ => (fx_1s (fx_uF (fx_uF H)))) (fun _ => fx_1n))) (fun _ => (fx_1s H)))
theorem fx_f_Mo_rule {A : Nat → Nat → Int32} {h : zs_H} {x1 : Int32} {x2 : Int32} {x3 : Int32}  (H : fx_P A h) : fx_1 A (f_Mo_rule h x1 x2 x3) := by
  unfold f_Mo_rule
  exact (fx_1i (fun _ => (fx_1s H)) (fun _ => (fx_b1 (fx_f_Mo_breaks  H) (fun h3 H_h3 => (fx_1s H_h3)))))
theorem fx_f_Mo_addVariable {A : Nat → Nat → Int32} {h : zs_H} {x1 : Int32}  (H : fx_P A h) : fx_2 A (f_Mo_addVariable h x1) := by
  unfold f_Mo_addVariable
  exact (fx_2i (fun _ => (fx_2s (fx_uF (fx_uM (by decide) (fx_uM (by decide) (fx_uM (by decide) (fx_uM (by decide) (fx_uM (by decide) (fx_uM (by decide) (fx_uM (by decide) (fx_uM (by decide) (fx_uM (by decide) H)))))))))))) (fun _ => fx_2n))
theorem fx_f_Mo_layOut {A : Nat → Nat → Int32} {h : zs_H} {x1 : Int32} {x2 : Int32} {x3 : Int32} {x4 : Int32}  (H : fx_P A h) : fx_1 A (f_Mo_layOut h x1 x2 x3 x4) := by
  unfold f_Mo_layOut
  exact (fx_1i (fun _ => (fx_1i (fun _ => (fx_1s (fx_uM (by decide) (fx_uM (by decide) (fx_uM (by decide) (fx_uM (by decide) H)))))) (fun _ => fx_1n))) (fun _ => fx_1n))
theorem fx_f_Mo_beginBlock_183 {A : Nat → Nat → Int32} {h : zs_H} {x1 : Int32} {y0 : Int32} {y1 : Int32}  (H : fx_P A h) : fx_1 A (f_Mo_beginBlock_183 h x1 y0 y1) := by
  unfold f_Mo_beginBlock_183
  exact (fx_1i (fun _ => (fx_1i (fun _ => (fx_1i (fun _ => (fx_1i (fun _ => (fx_1i (fun _ => (fx_B21 (fx_f_Mo_addVariable  (fx_uF (fx_uM (by decide) (fx_uM (by decide) (fx_uM (by decide) H))))) (fun v7 h8 H_h8 => (fx_1i (fun _ => (fx_b1 (fx_f_Mo_layOut  H_h8) (fun h11 H_h11 => (fx_1s H_h11)))) (fun _ => fx_1n))))) (fun _ => (fx_1s (fx_uF (fx_uM (by decide) (fx_uM (by decide) (fx_uM (by decide) H)))))))) (fun _ => fx_1n))) (fun _ => fx_1n))) (fun _ => fx_1n))) (fun _ => fx_1n))
theorem fx_f_Mo_beginBlock_157 {A : Nat → Nat → Int32} {h : zs_H} {x1 : Int32} {y0 : Int32} {y1 : Int32}  (H : fx_P A h) : fx_1 A (f_Mo_beginBlock_157 h x1 y0 y1) := by
  unfold f_Mo_beginBlock_157
  exact (fx_1i (fun _ => (fx_1i (fun _ => (fx_1i (fun _ => (fx_f_Mo_beginBlock_183  (fx_uM (by decide) H))) (fun _ => (fx_f_Mo_beginBlock_183  (fx_uM (by decide) H))))) (fun _ => fx_1n))) (fun _ => fx_1n))
theorem fx_f_Mo_beginBlock_70 {A : Nat → Nat → Int32} {h : zs_H} {x1 : Int32} {y0 : Int32}  (H : fx_P A h) : fx_1 A (f_Mo_beginBlock_70 h x1 y0) := by
  unfold f_Mo_beginBlock_70
  exact (fx_b1 (fx_f_Mo_rule  H) (fun h2 H_h2 => (fx_1i (fun _ => (fx_1i (fun _ => (fx_1i (fun _ => (fx_1i (fun _ => (fx_f_Mo_beginBlock_157  (fx_uM (by decide) (fx_uM (by decide) (fx_uM (by decide) (fx_uF H_h2)))))) (fun _ => fx_1n))) (fun _ => (fx_f_Mo_beginBlock_157  (fx_uM (by decide) (fx_uM (by decide) (fx_uM (by decide) (fx_uF H_h2)))))))) (fun _ => fx_1n))) (fun _ => fx_1n))))
theorem fx_f_Mo_beginBlock_65 {A : Nat → Nat → Int32} {h : zs_H} {x1 : Int32}  (H : fx_P A h) : fx_1 A (f_Mo_beginBlock_65 h x1) := by
  unfold f_Mo_beginBlock_65
  exact (fx_f_Mo_beginBlock_70  H)
theorem fx_f_Mo_beginBlock_28 {A : Nat → Nat → Int32} {h : zs_H} {x1 : Int32} {y0 : Int32}  (H : fx_P A h) : fx_1 A (f_Mo_beginBlock_28 h x1 y0) := by
  unfold f_Mo_beginBlock_28
  exact (fx_b1 (fx_f_Mo_rule  H) (fun h2 H_h2 => (fx_1i (fun _ => (fx_O1 (fun v5 => (fx_1i (fun _ => (fx_O1 (fun v9 => (fx_1i (fun _ => (fx_f_Mo_beginBlock_70  H_h2)) (fun _ => (fx_f_Mo_beginBlock_65  H_h2)))))) (fun _ => (fx_f_Mo_beginBlock_65  H_h2)))))) (fun _ => fx_1n))))
theorem fx_f_Mo_beginBlock_27 {A : Nat → Nat → Int32} {h : zs_H} {x1 : Int32}  (H : fx_P A h) : fx_1 A (f_Mo_beginBlock_27 h x1) := by
  unfold f_Mo_beginBlock_27
  exact (fx_f_Mo_beginBlock_28  H)
theorem fx_f_Mo_beginBlock {A : Nat → Nat → Int32} {h : zs_H} {x1 : Int32}  (H : fx_P A h) : fx_1 A (f_Mo_beginBlock h x1) := by
  unfold f_Mo_beginBlock
  exact (fx_1i (fun _ => (fx_f_Mo_beginBlock_27  H)) (fun _ => (fx_1i (fun _ => (fx_1i (fun _ => (fx_f_Mo_beginBlock_28  H)) (fun _ => (fx_f_Mo_beginBlock_27  H)))) (fun _ => fx_1n))))
theorem fx_f_Mo_lookAtArray_109 {A : Nat → Nat → Int32} {h : zs_H} {x1 : Int32} {y0 : Int32}  (H : fx_P A h) : fx_1 A (f_Mo_lookAtArray_109 h x1 y0) := by
  unfold f_Mo_lookAtArray_109
  exact (fx_b1 (fx_f_Mo_rule  H) (fun h2 H_h2 => (fx_1s H_h2)))
theorem fx_f_Mo_lookAtArray_104 {A : Nat → Nat → Int32} {h : zs_H} {x1 : Int32}  (H : fx_P A h) : fx_1 A (f_Mo_lookAtArray_104 h x1) := by
  unfold f_Mo_lookAtArray_104
  exact (fx_f_Mo_lookAtArray_109  H)
theorem fx_f_Mo_lookAtArray_54 {A : Nat → Nat → Int32} {h : zs_H} {x1 : Int32} {x2 : Int32} {x3 : Int32} {y0 : Int32}  (H : fx_P A h) : fx_1 A (f_Mo_lookAtArray_54 h x1 x2 x3 y0) := by
  unfold f_Mo_lookAtArray_54
  exact (fx_1i (fun _ => (fx_1i (fun _ => (fx_1i (fun _ => (fx_1i (fun _ => (fx_f_Mo_lookAtArray_104  H)) (fun _ => (fx_1i (fun _ => (fx_f_Mo_lookAtArray_109  H)) (fun _ => (fx_f_Mo_lookAtArray_104  H)))))) (fun _ => fx_1n))) (fun _ => fx_1n))) (fun _ => (fx_f_Mo_lookAtArray_104  H)))
theorem fx_f_Mo_lookAtArray_49 {A : Nat → Nat → Int32} {h : zs_H} {x1 : Int32} {x2 : Int32} {x3 : Int32}  (H : fx_P A h) : fx_1 A (f_Mo_lookAtArray_49 h x1 x2 x3) := by
  unfold f_Mo_lookAtArray_49
  exact (fx_f_Mo_lookAtArray_54  H)
theorem fx_f_Mo_lookAtArray {A : Nat → Nat → Int32} {h : zs_H} {x1 : Int32}  (H : fx_P A h) : fx_1 A (f_Mo_lookAtArray h x1) := by
  unfold f_Mo_lookAtArray
  exact (fx_1i (fun _ => (fx_1i (fun _ => (fx_1i (fun _ => (fx_1i (fun _ => (fx_f_Mo_lookAtArray_49  H)) (fun _ => (fx_1i (fun _ => (fx_f_Mo_lookAtArray_49  H)) (fun _ => (fx_1i (fun _ => (fx_1i (fun _ => (fx_f_Mo_lookAtArray_49  H)) (fun _ => (fx_f_Mo_lookAtArray_54  H)))) (fun _ => fx_1n))))))) (fun _ => fx_1n))) (fun _ => fx_1n))) (fun _ => fx_1n))
theorem fx_f_Mo_lookAtName_62 {A : Nat → Nat → Int32} {h : zs_H} {x1 : Int32} {x3 : Int32} {y0 : Int32}  (H : fx_P A h) : fx_1 A (f_Mo_lookAtName_62 h x1 x3 y0) := by
  unfold f_Mo_lookAtName_62
  exact (fx_b1 (fx_f_Mo_rule  H) (fun h2 H_h2 => (fx_B21 (fx_f_Mo_addVariable  H_h2) (fun v4 h5 H_h5 => (fx_1i (fun _ => (fx_1i (fun _ => (fx_1i (fun _ => (fx_1i (fun _ => (fx_1s (fx_uM (by decide) H_h5))) (fun _ => fx_1n))) (fun _ => fx_1n))) (fun _ => fx_1n))) (fun _ => fx_1n))))))
theorem fx_f_Mo_lookAtName_57 {A : Nat → Nat → Int32} {h : zs_H} {x1 : Int32} {x3 : Int32}  (H : fx_P A h) : fx_1 A (f_Mo_lookAtName_57 h x1 x3) := by
  unfold f_Mo_lookAtName_57
  exact (fx_f_Mo_lookAtName_62  H)
theorem fx_f_Mo_lookAtName_157 {A : Nat → Nat → Int32} {h : zs_H} {x1 : Int32} {x3 : Int32} {y0 : Int32}  (H : fx_P A h) : fx_1 A (f_Mo_lookAtName_157 h x1 x3 y0) := by
  unfold f_Mo_lookAtName_157
  exact (fx_b1 (fx_f_Mo_rule  H) (fun h2 H_h2 => (fx_1i (fun _ => (fx_1i (fun _ => (fx_1i (fun _ => (fx_1s (fx_uM (by decide) (fx_uM (by decide) H_h2)))) (fun _ => fx_1n))) (fun _ => fx_1n))) (fun _ => (fx_1s H_h2)))))
theorem fx_f_Mo_lookAtName_156 {A : Nat → Nat → Int32} {h : zs_H} {x1 : Int32} {x3 : Int32}  (H : fx_P A h) : fx_1 A (f_Mo_lookAtName_156 h x1 x3) := by
  unfold f_Mo_lookAtName_156
  exact (fx_f_Mo_lookAtName_157  H)
theorem fx_f_Mo_lookAtName_132 {A : Nat → Nat → Int32} {h : zs_H} {x1 : Int32} {x3 : Int32} {y0 : Int32}  (H : fx_P A h) : fx_1 A (f_Mo_lookAtName_132 h x1 x3 y0) := by
  unfold f_Mo_lookAtName_132
  exact (fx_b1 (fx_f_Mo_rule  H) (fun h2 H_h2 => (fx_1i (fun _ => (fx_f_Mo_lookAtName_156  H_h2)) (fun _ => (fx_1i (fun _ => (fx_1i (fun _ => (fx_f_Mo_lookAtName_156  H_h2)) (fun _ => (fx_f_Mo_lookAtName_157  H_h2)))) (fun _ => fx_1n))))))
theorem fx_f_Mo_lookAtName {A : Nat → Nat → Int32} {h : zs_H} {x1 : Int32}  (H : fx_P A h) : fx_1 A (f_Mo_lookAtName h x1) := by
  unfold f_Mo_lookAtName
  exact (fx_1i (fun _ => (fx_1i (fun _ => (fx_1i (fun _ => (fx_O1 (fun v9 => (fx_1i (fun _ => (fx_f_Mo_lookAtName_57  H)) (fun _ => (fx_O1 (fun v12 => (fx_1i (fun _ => (fx_f_Mo_lookAtName_57  H)) (fun _ => (fx_O1 (fun v15 => (fx_1i (fun _ => (fx_f_Mo_lookAtName_62  H)) (fun _ => (fx_f_Mo_lookAtName_57  H)))))))))))))) (fun _ => (fx_1i (fun _ => (fx_1s H)) (fun _ => (fx_O1 (fun v6 => (fx_1i (fun _ => (fx_f_Mo_lookAtName_132  H)) (fun _ => (fx_f_Mo_lookAtName_132  H)))))))))) (fun _ => fx_1n))) (fun _ => fx_1n))
theorem fx_f_Mo_lookAtDeclaration_119 {A : Nat → Nat → Int32} {k18 : zs_H → Int32 → Int32 → Int32 → Int32 → Int32 → Int32 → (Option zs_H)} {h : zs_H} {x1 : Int32} {x2 : Int32} {x3 : Int32} {x4 : Int32} {x6 : Int32} {y0 : Int32} (H_k18 : ∀ z0 z1 z2 z3 z4 z5 z6, fx_P A z0 → fx_1 A (k18 z0 z1 z2 z3 z4 z5 z6)) (H : fx_P A h) : fx_1 A (f_Mo_lookAtDeclaration_119 k18 h x1 x2 x3 x4 x6 y0) := by
  unfold f_Mo_lookAtDeclaration_119
  exact (fx_1i (fun _ => (H_k18 _ _ _ _ _ _ _ H)) (fun _ => fx_1n))
theorem fx_f_Mo_lookAtDeclaration_98 {A : Nat → Nat → Int32} {k18 : zs_H → Int32 → Int32 → Int32 → Int32 → Int32 → Int32 → (Option zs_H)} {h : zs_H} {x1 : Int32} {x2 : Int32} {x3 : Int32} {x5 : Int32} {x6 : Int32} {y0 : Int32} (H_k18 : ∀ z0 z1 z2 z3 z4 z5 z6, fx_P A z0 → fx_1 A (k18 z0 z1 z2 z3 z4 z5 z6)) (H : fx_P A h) : fx_1 A (f_Mo_lookAtDeclaration_98 k18 h x1 x2 x3 x5 x6 y0) := by
  unfold f_Mo_lookAtDeclaration_98
  exact (fx_1i (fun _ => (fx_1i (fun _ => (fx_f_Mo_lookAtDeclaration_119 H_k18 H)) (fun _ => (fx_f_Mo_lookAtDeclaration_119 H_k18 H)))) (fun _ => fx_1n))
theorem fx_f_Mo_lookAtDeclaration_96 {A : Nat → Nat → Int32} {k18 : zs_H → Int32 → Int32 → Int32 → Int32 → Int32 → Int32 → (Option zs_H)} {h : zs_H} {x1 : Int32} {x2 : Int32} {x3 : Int32} {x4 : Int32} {x5 : Int32} {x6 : Int32} (H_k18 : ∀ z0 z1 z2 z3 z4 z5 z6, fx_P A z0 → fx_1 A (k18 z0 z1 z2 z3 z4 z5 z6)) (H : fx_P A h) : fx_1 A (f_Mo_lookAtDeclaration_96 k18 h x1 x2 x3 x4 x5 x6) := by
  unfold f_Mo_lookAtDeclaration_96
  exact (fx_f_Mo_lookAtDeclaration_98 H_k18 H)
theorem fx_f_Mo_lookAtDeclaration_66 {A : Nat → Nat → Int32} {k18 : zs_H → Int32 → Int32 → Int32 → Int32 → Int32 → Int32 → (Option zs_H)} {h : zs_H} {x1 : Int32} {x2 : Int32} {x4 : Int32} {x5 : Int32} {x6 : Int32} {y0 : Int32} (H_k18 : ∀ z0 z1 z2 z3 z4 z5 z6, fx_P A z0 → fx_1 A (k18 z0 z1 z2 z3 z4 z5 z6)) (H : fx_P A h) : fx_1 A (f_Mo_lookAtDeclaration_66 k18 h x1 x2 x4 x5 x6 y0) := by
  unfold f_Mo_lookAtDeclaration_66
  exact (fx_1i (fun _ => (fx_1i (fun _ => (fx_f_Mo_lookAtDeclaration_96 H_k18 H)) (fun _ => (fx_1i (fun _ => (fx_f_Mo_lookAtDeclaration_96 H_k18 H)) (fun _ => (fx_f_Mo_lookAtDeclaration_98 H_k18 H)))))) (fun _ => fx_1n))
theorem fx_f_Mo_lookAtDeclaration_41 {A : Nat → Nat → Int32} {k18 : zs_H → Int32 → Int32 → Int32 → Int32 → Int32 → Int32 → (Option zs_H)} {h : zs_H} {x1 : Int32} {x3 : Int32} {x4 : Int32} {x5 : Int32} {x6 : Int32} {y0 : Int32} {y1 : Int32} (H_k18 : ∀ z0 z1 z2 z3 z4 z5 z6, fx_P A z0 → fx_1 A (k18 z0 z1 z2 z3 z4 z5 z6)) (H : fx_P A h) : fx_1 A (f_Mo_lookAtDeclaration_41 k18 h x1 x3 x4 x5 x6 y0 y1) := by
  unfold f_Mo_lookAtDeclaration_41
  exact (fx_1i (fun _ => (fx_1i (fun _ => (fx_f_Mo_lookAtDeclaration_66 H_k18 H)) (fun _ => (fx_f_Mo_lookAtDeclaration_66 H_k18 H)))) (fun _ => fx_1n))
theorem fx_f_Mo_lookAtDeclaration_647 {A : Nat → Nat → Int32} {k480 : zs_H → Int32 → Int32 → Int32 → Int32 → Int32 → Int32 → Int32 → Int32 → Int32 → (Option zs_H)} {h : zs_H} {x1 : Int32} {x3 : Int32} {x4 : Int32} {x5 : Int32} {x6 : Int32} {x7 : Int32} {x8 : Int32} {x9 : Int32} {x10 : Int32} {y0 : Int32} {y1 : Int32} (H_k480 : ∀ z0 z1 z2 z3 z4 z5 z6 z7 z8 z9, fx_P A z0 → fx_1 A (k480 z0 z1 z2 z3 z4 z5 z6 z7 z8 z9)) (H : fx_P A h) : fx_1 A (f_Mo_lookAtDeclaration_647 k480 h x1 x3 x4 x5 x6 x7 x8 x9 x10 y0 y1) := by
  unfold f_Mo_lookAtDeclaration_647
  exact (fx_1i (fun _ => (fx_1i (fun _ => (H_k480 _ _ _ _ _ _ _ _ _ _ (fx_uM (by decide) H))) (fun _ => fx_1n))) (fun _ => fx_1n))
theorem fx_f_Mo_lookAtDeclaration_615 {A : Nat → Nat → Int32} {k480 : zs_H → Int32 → Int32 → Int32 → Int32 → Int32 → Int32 → Int32 → Int32 → Int32 → (Option zs_H)} {h : zs_H} {x1 : Int32} {x3 : Int32} {x4 : Int32} {x5 : Int32} {x6 : Int32} {x7 : Int32} {x8 : Int32} {x9 : Int32} {x10 : Int32} {y0 : Int32} {y1 : Int32} (H_k480 : ∀ z0 z1 z2 z3 z4 z5 z6 z7 z8 z9, fx_P A z0 → fx_1 A (k480 z0 z1 z2 z3 z4 z5 z6 z7 z8 z9)) (H : fx_P A h) : fx_1 A (f_Mo_lookAtDeclaration_615 k480 h x1 x3 x4 x5 x6 x7 x8 x9 x10 y0 y1) := by
  unfold f_Mo_lookAtDeclaration_615
  exact (fx_1i (fun _ => (fx_1i (fun _ => (fx_1i (fun _ => (fx_1i (fun _ => (fx_f_Mo_lookAtDeclaration_647 H_k480 (fx_uM (by decide) (fx_uM (by decide) H)))) (fun _ => fx_1n))) (fun _ => (fx_f_Mo_lookAtDeclaration_647 H_k480 (fx_uM (by decide) (fx_uM (by decide) H)))))) (fun _ => fx_1n))) (fun _ => fx_1n))
theorem fx_f_Mo_lookAtDeclaration_573 {A : Nat → Nat → Int32} {k480 : zs_H → Int32 → Int32 → Int32 → Int32 → Int32 → Int32 → Int32 → Int32 → Int32 → (Option zs_H)} {h : zs_H} {x1 : Int32} {x3 : Int32} {x4 : Int32} {x5 : Int32} {x6 : Int32} {x7 : Int32} {x8 : Int32} {x9 : Int32} {x10 : Int32} (H_k480 : ∀ z0 z1 z2 z3 z4 z5 z6 z7 z8 z9, fx_P A z0 → fx_1 A (k480 z0 z1 z2 z3 z4 z5 z6 z7 z8 z9)) (H : fx_P A h) : fx_1 A (f_Mo_lookAtDeclaration_573 k480 h x1 x3 x4 x5 x6 x7 x8 x9 x10) := by
  unfold f_Mo_lookAtDeclaration_573
  exact (fx_1i (fun _ => (fx_1i (fun _ => (fx_1i (fun _ => (fx_1i (fun _ => (fx_1i (fun _ => (fx_f_Mo_lookAtDeclaration_615 H_k480 (fx_uM (by decide) H))) (fun _ => fx_1n))) (fun _ => fx_1n))) (fun _ => (fx_f_Mo_lookAtDeclaration_615 H_k480 (fx_uM (by decide) H))))) (fun _ => fx_1n))) (fun _ => fx_1n))
theorem fx_f_Mo_lookAtDeclaration_564 {A : Nat → Nat → Int32} {k480 : zs_H → Int32 → Int32 → Int32 → Int32 → Int32 → Int32 → Int32 → Int32 → Int32 → (Option zs_H)} {h : zs_H} {x1 : Int32} {x3 : Int32} {x4 : Int32} {x5 : Int32} {x6 : Int32} {x7 : Int32} {x8 : Int32} {x9 : Int32} {x10 : Int32} {y0 : Int32} {y1 : Int32} {y2 : Int32} {y3 : Int32} (H_k480 : ∀ z0 z1 z2 z3 z4 z5 z6 z7 z8 z9, fx_P A z0 → fx_1 A (k480 z0 z1 z2 z3 z4 z5 z6 z7 z8 z9)) (H : fx_P A h) : fx_1 A (f_Mo_lookAtDeclaration_564 k480 h x1 x3 x4 x5 x6 x7 x8 x9 x10 y0 y1 y2 y3) := by
  unfold f_Mo_lookAtDeclaration_564
  exact (fx_1i (fun _ => (fx_f_Mo_lookAtDeclaration_573 H_k480 (fx_uM (by decide) H))) (fun _ => fx_1n))
theorem fx_f_Mo_lookAtDeclaration_544 {A : Nat → Nat → Int32} {k480 : zs_H → Int32 → Int32 → Int32 → Int32 → Int32 → Int32 → Int32 → Int32 → Int32 → (Option zs_H)} {h : zs_H} {x1 : Int32} {x3 : Int32} {x4 : Int32} {x5 : Int32} {x6 : Int32} {x7 : Int32} {x8 : Int32} {x9 : Int32} {x10 : Int32} {y0 : Int32} {y1 : Int32} (H_k480 : ∀ z0 z1 z2 z3 z4 z5 z6 z7 z8 z9, fx_P A z0 → fx_1 A (k480 z0 z1 z2 z3 z4 z5 z6 z7 z8 z9)) (H : fx_P A h) : fx_1 A (f_Mo_lookAtDeclaration_544 k480 h x1 x3 x4 x5 x6 x7 x8 x9 x10 y0 y1) := by
  unfold f_Mo_lookAtDeclaration_544
  exact (fx_1i (fun _ => (fx_f_Mo_lookAtDeclaration_564 H_k480 H)) (fun _ => (fx_f_Mo_lookAtDeclaration_564 H_k480 H)))
theorem fx_f_Mo_lookAtDeclaration_509 {A : Nat → Nat → Int32} {k480 : zs_H → Int32 → Int32 → Int32 → Int32 → Int32 → Int32 → Int32 → Int32 → Int32 → (Option zs_H)} {h : zs_H} {x1 : Int32} {x3 : Int32} {x4 : Int32} {x5 : Int32} {x6 : Int32} {x7 : Int32} {x8 : Int32} {x9 : Int32} {x10 : Int32} {y0 : Int32} {y1 : Int32} {y2 : Int32} {y3 : Int32} (H_k480 : ∀ z0 z1 z2 z3 z4 z5 z6 z7 z8 z9, fx_P A z0 → fx_1 A (k480 z0 z1 z2 z3 z4 z5 z6 z7 z8 z9)) (H : fx_P A h) : fx_1 A (f_Mo_lookAtDeclaration_509 k480 h x1 x3 x4 x5 x6 x7 x8 x9 x10 y0 y1 y2 y3) := by
  unfold f_Mo_lookAtDeclaration_509
  exact (fx_b1 (fx_f_Mo_layOut  H) (fun h2 H_h2 => (fx_1i (fun _ => (fx_f_Mo_lookAtDeclaration_573 H_k480 H_h2)) (fun _ => (fx_1i (fun _ => (fx_1i (fun _ => (fx_f_Mo_lookAtDeclaration_544 H_k480 (fx_uM (by decide) H_h2))) (fun _ => (fx_f_Mo_lookAtDeclaration_544 H_k480 (fx_uM (by decide) H_h2))))) (fun _ => fx_1n))))))
theorem fx_f_Mo_lookAtDeclaration_684 {A : Nat → Nat → Int32} {h : zs_H} {x1 : Int32} {y0 : Int32}  (H : fx_P A h) : fx_1 A (f_Mo_lookAtDeclaration_684 h x1 y0) := by
  unfold f_Mo_lookAtDeclaration_684
  exact (fx_b1 (fx_f_Mo_rule  H) (fun h2 H_h2 => (fx_1s H_h2)))
theorem fx_f_Mo_lookAtDeclaration_480 {A : Nat → Nat → Int32} {k480 : zs_H → Int32 → Int32 → Int32 → Int32 → Int32 → Int32 → Int32 → Int32 → Int32 → (Option zs_H)} {h : zs_H} {x1 : Int32} {x3 : Int32} {x4 : Int32} {x5 : Int32} {x6 : Int32} {x7 : Int32} {x8 : Int32} {x9 : Int32} {x10 : Int32} (H_k480 : ∀ z0 z1 z2 z3 z4 z5 z6 z7 z8 z9, fx_P A z0 → fx_1 A (k480 z0 z1 z2 z3 z4 z5 z6 z7 z8 z9)) (H : fx_P A h) : fx_1 A (f_Mo_lookAtDeclaration_480 k480 h x1 x3 x4 x5 x6 x7 x8 x9 x10) := by
  unfold f_Mo_lookAtDeclaration_480
  exact (fx_1i (fun _ => (fx_1i (fun _ => (fx_1i (fun _ => (fx_f_Mo_lookAtDeclaration_509 H_k480 H)) (fun _ => (fx_f_Mo_lookAtDeclaration_509 H_k480 H)))) (fun _ => (fx_1i (fun _ => (fx_1i (fun _ => (fx_f_Mo_lookAtDeclaration_684  H)) (fun _ => (fx_f_Mo_lookAtDeclaration_684  H)))) (fun _ => fx_1n))))) (fun _ => fx_1n))
theorem fx_f_Mo_lookAtDeclaration_L480 {A : Nat → Nat → Int32}   : ∀ (N : Nat) (h : zs_H) (x1 : Int32) (x2 : Int32) (x3 : Int32) (x4 : Int32) (x5 : Int32) (x6 : Int32) (x7 : Int32) (x8 : Int32) (x9 : Int32), fx_P A h → fx_1 A (f_Mo_lookAtDeclaration_L480  N h x1 x2 x3 x4 x5 x6 x7 x8 x9) := by
  intro N
  induction N with
  | zero => intro h x1 x2 x3 x4 x5 x6 x7 x8 x9 _; exact fx_1n
  | succ N ih =>
    intro h x1 x2 x3 x4 x5 x6 x7 x8 x9 H
    exact fx_f_Mo_lookAtDeclaration_480  (fun b0 b1 b2 b3 b4 b5 b6 b7 b8 b9 z => ih b0 b1 b2 b3 b4 b5 b6 b7 b8 b9 z) H
theorem fx_f_Mo_lookAtDeclaration_L480' {A : Nat → Nat → Int32}   {N : Nat} {h : zs_H} {x1 : Int32} {x2 : Int32} {x3 : Int32} {x4 : Int32} {x5 : Int32} {x6 : Int32} {x7 : Int32} {x8 : Int32} {x9 : Int32} (H : fx_P A h) : fx_1 A (f_Mo_lookAtDeclaration_L480  N h x1 x2 x3 x4 x5 x6 x7 x8 x9) := fx_f_Mo_lookAtDeclaration_L480  N h x1 x2 x3 x4 x5 x6 x7 x8 x9 H
theorem fx_f_Mo_lookAtDeclaration_462 {A : Nat → Nat → Int32} {h : zs_H} {x1 : Int32} {x2 : Int32} {x3 : Int32} {x4 : Int32} {x5 : Int32} {x6 : Int32} {x7 : Int32} {y0 : Int32}  (H : fx_P A h) : fx_1 A (f_Mo_lookAtDeclaration_462 h x1 x2 x3 x4 x5 x6 x7 y0) := by
  unfold f_Mo_lookAtDeclaration_462
  exact (fx_1i (fun _ => (fx_f_Mo_lookAtDeclaration_L480'  H)) (fun _ => fx_1n))
theorem fx_f_Mo_lookAtDeclaration_398 {A : Nat → Nat → Int32} {h : zs_H} {x1 : Int32} {x2 : Int32} {x3 : Int32} {x4 : Int32} {x5 : Int32} {x6 : Int32} {x7 : Int32}  (H : fx_P A h) : fx_1 A (f_Mo_lookAtDeclaration_398 h x1 x2 x3 x4 x5 x6 x7) := by
  unfold f_Mo_lookAtDeclaration_398
  exact (fx_1i (fun _ => (fx_1i (fun _ => (fx_f_Mo_lookAtDeclaration_462  H)) (fun _ => (fx_1i (fun _ => (fx_1i (fun _ => (fx_1i (fun _ => (fx_1i (fun _ => (fx_f_Mo_lookAtDeclaration_462  H)) (fun _ => fx_1n))) (fun _ => fx_1n))) (fun _ => fx_1n))) (fun _ => (fx_O1 (fun v5 => (fx_f_Mo_lookAtDeclaration_462  H)))))))) (fun _ => (fx_1s H)))
theorem fx_f_Mo_lookAtDeclaration_392 {A : Nat → Nat → Int32} {h : zs_H} {x1 : Int32} {x2 : Int32} {x3 : Int32} {x4 : Int32} {x5 : Int32} {x6 : Int32} {x7 : Int32} {y0 : Int32}  (H : fx_P A h) : fx_1 A (f_Mo_lookAtDeclaration_392 h x1 x2 x3 x4 x5 x6 x7 y0) := by
  unfold f_Mo_lookAtDeclaration_392
  exact (fx_b1 (fx_f_Mo_rule  H) (fun h2 H_h2 => (fx_f_Mo_lookAtDeclaration_398  H_h2)))
theorem fx_f_Mo_lookAtDeclaration_387 {A : Nat → Nat → Int32} {h : zs_H} {x1 : Int32} {x2 : Int32} {x3 : Int32} {x4 : Int32} {x5 : Int32} {x6 : Int32} {x7 : Int32}  (H : fx_P A h) : fx_1 A (f_Mo_lookAtDeclaration_387 h x1 x2 x3 x4 x5 x6 x7) := by
  unfold f_Mo_lookAtDeclaration_387
  exact (fx_f_Mo_lookAtDeclaration_392  H)
theorem fx_f_Mo_lookAtDeclaration_391 {A : Nat → Nat → Int32} {h : zs_H} {x1 : Int32} {x2 : Int32} {x3 : Int32} {x4 : Int32} {x5 : Int32} {x6 : Int32} {x7 : Int32}  (H : fx_P A h) : fx_1 A (f_Mo_lookAtDeclaration_391 h x1 x2 x3 x4 x5 x6 x7) := by
  unfold f_Mo_lookAtDeclaration_391
  exact (fx_f_Mo_lookAtDeclaration_392  H)
theorem fx_f_Mo_lookAtDeclaration_347 {A : Nat → Nat → Int32} {h : zs_H} {x1 : Int32} {x2 : Int32} {x3 : Int32} {x4 : Int32} {x5 : Int32} {x6 : Int32} {x7 : Int32} {y0 : Int32}  (H : fx_P A h) : fx_1 A (f_Mo_lookAtDeclaration_347 h x1 x2 x3 x4 x5 x6 x7 y0) := by
  unfold f_Mo_lookAtDeclaration_347
  exact (fx_1i (fun _ => (fx_1i (fun _ => (fx_1i (fun _ => (fx_1i (fun _ => (fx_f_Mo_lookAtDeclaration_387  H)) (fun _ => (fx_1i (fun _ => (fx_f_Mo_lookAtDeclaration_391  H)) (fun _ => (fx_f_Mo_lookAtDeclaration_387  H)))))) (fun _ => fx_1n))) (fun _ => (fx_f_Mo_lookAtDeclaration_391  H)))) (fun _ => (fx_f_Mo_lookAtDeclaration_387  H)))
theorem fx_f_Mo_lookAtDeclaration_342 {A : Nat → Nat → Int32} {h : zs_H} {x1 : Int32} {x2 : Int32} {x3 : Int32} {x4 : Int32} {x5 : Int32} {x6 : Int32} {x7 : Int32}  (H : fx_P A h) : fx_1 A (f_Mo_lookAtDeclaration_342 h x1 x2 x3 x4 x5 x6 x7) := by
  unfold f_Mo_lookAtDeclaration_342
  exact (fx_f_Mo_lookAtDeclaration_347  H)
theorem fx_f_Mo_lookAtDeclaration_339 {A : Nat → Nat → Int32} {h : zs_H} {x1 : Int32} {x2 : Int32} {x3 : Int32} {x4 : Int32} {x5 : Int32} {x6 : Int32} {x7 : Int32} {y0 : Int32} {y1 : Int32}  (H : fx_P A h) : fx_1 A (f_Mo_lookAtDeclaration_339 h x1 x2 x3 x4 x5 x6 x7 y0 y1) := by
  unfold f_Mo_lookAtDeclaration_339
  exact (fx_1i (fun _ => (fx_f_Mo_lookAtDeclaration_347  H)) (fun _ => (fx_f_Mo_lookAtDeclaration_342  H)))
theorem fx_f_Mo_lookAtDeclaration_329 {A : Nat → Nat → Int32} {h : zs_H} {x1 : Int32} {x2 : Int32} {x3 : Int32} {x4 : Int32} {x5 : Int32} {x6 : Int32} {x7 : Int32} {y0 : Int32}  (H : fx_P A h) : fx_1 A (f_Mo_lookAtDeclaration_329 h x1 x2 x3 x4 x5 x6 x7 y0) := by
  unfold f_Mo_lookAtDeclaration_329
  exact (fx_1i (fun _ => (fx_f_Mo_lookAtDeclaration_339  H)) (fun _ => (fx_f_Mo_lookAtDeclaration_339  H)))
theorem fx_f_Mo_lookAtDeclaration_305 {A : Nat → Nat → Int32} {h : zs_H} {x1 : Int32} {x2 : Int32} {x3 : Int32} {x4 : Int32} {x5 : Int32} {x6 : Int32} {x7 : Int32} {y0 : Int32}  (H : fx_P A h) : fx_1 A (f_Mo_lookAtDeclaration_305 h x1 x2 x3 x4 x5 x6 x7 y0) := by
  unfold f_Mo_lookAtDeclaration_305
  exact (fx_1i (fun _ => (fx_1i (fun _ => (fx_1i (fun _ => (fx_f_Mo_lookAtDeclaration_329  H)) (fun _ => (fx_f_Mo_lookAtDeclaration_329  H)))) (fun _ => fx_1n))) (fun _ => (fx_f_Mo_lookAtDeclaration_342  H)))
theorem fx_f_Mo_lookAtDeclaration_300 {A : Nat → Nat → Int32} {h : zs_H} {x1 : Int32} {x2 : Int32} {x3 : Int32} {x4 : Int32} {x5 : Int32} {x6 : Int32} {x7 : Int32}  (H : fx_P A h) : fx_1 A (f_Mo_lookAtDeclaration_300 h x1 x2 x3 x4 x5 x6 x7) := by
  unfold f_Mo_lookAtDeclaration_300
  exact (fx_f_Mo_lookAtDeclaration_305  H)
theorem fx_f_Mo_lookAtDeclaration_304 {A : Nat → Nat → Int32} {h : zs_H} {x1 : Int32} {x2 : Int32} {x3 : Int32} {x4 : Int32} {x5 : Int32} {x6 : Int32} {x7 : Int32}  (H : fx_P A h) : fx_1 A (f_Mo_lookAtDeclaration_304 h x1 x2 x3 x4 x5 x6 x7) := by
  unfold f_Mo_lookAtDeclaration_304
  exact (fx_f_Mo_lookAtDeclaration_305  H)
theorem fx_f_Mo_lookAtDeclaration_266 {A : Nat → Nat → Int32} {h : zs_H} {x1 : Int32} {x2 : Int32} {x3 : Int32} {x4 : Int32} {x5 : Int32} {x6 : Int32} {y0 : Int32}  (H : fx_P A h) : fx_1 A (f_Mo_lookAtDeclaration_266 h x1 x2 x3 x4 x5 x6 y0) := by
  unfold f_Mo_lookAtDeclaration_266
  exact (fx_1i (fun _ => (fx_f_Mo_lookAtDeclaration_398  H)) (fun _ => (fx_1i (fun _ => (fx_f_Mo_lookAtDeclaration_300  H)) (fun _ => (fx_1i (fun _ => (fx_f_Mo_lookAtDeclaration_304  H)) (fun _ => (fx_1i (fun _ => (fx_f_Mo_lookAtDeclaration_300  H)) (fun _ => (fx_1i (fun _ => (fx_f_Mo_lookAtDeclaration_300  H)) (fun _ => (fx_f_Mo_lookAtDeclaration_304  H)))))))))))
theorem fx_f_Mo_lookAtDeclaration_213 {A : Nat → Nat → Int32} {h : zs_H} {x1 : Int32} {x2 : Int32} {x3 : Int32} {x4 : Int32} {x5 : Int32} {x6 : Int32} {y0 : Int32}  (H : fx_P A h) : fx_1 A (f_Mo_lookAtDeclaration_213 h x1 x2 x3 x4 x5 x6 y0) := by
  unfold f_Mo_lookAtDeclaration_213
  exact (fx_b1 (fx_f_Mo_rule  H) (fun h2 H_h2 => (fx_1i (fun _ => (fx_1i (fun _ => (fx_f_Mo_lookAtDeclaration_266  H_h2)) (fun _ => fx_1n))) (fun _ => (fx_1i (fun _ => (fx_1i (fun _ => (fx_1i (fun _ => (fx_f_Mo_lookAtDeclaration_266  H_h2)) (fun _ => fx_1n))) (fun _ => fx_1n))) (fun _ => (fx_1i (fun _ => (fx_O1 (fun v7 => (fx_f_Mo_lookAtDeclaration_266  H_h2)))) (fun _ => fx_1n))))))))
theorem fx_f_Mo_lookAtDeclaration_208 {A : Nat → Nat → Int32} {h : zs_H} {x1 : Int32} {x2 : Int32} {x3 : Int32} {x4 : Int32} {x5 : Int32} {x6 : Int32}  (H : fx_P A h) : fx_1 A (f_Mo_lookAtDeclaration_208 h x1 x2 x3 x4 x5 x6) := by
  unfold f_Mo_lookAtDeclaration_208
  exact (fx_f_Mo_lookAtDeclaration_213  H)
theorem fx_f_Mo_lookAtDeclaration_212 {A : Nat → Nat → Int32} {h : zs_H} {x1 : Int32} {x2 : Int32} {x3 : Int32} {x4 : Int32} {x5 : Int32} {x6 : Int32}  (H : fx_P A h) : fx_1 A (f_Mo_lookAtDeclaration_212 h x1 x2 x3 x4 x5 x6) := by
  unfold f_Mo_lookAtDeclaration_212
  exact (fx_f_Mo_lookAtDeclaration_213  H)
theorem fx_f_Mo_lookAtDeclaration_205 {A : Nat → Nat → Int32} {h : zs_H} {x1 : Int32} {x2 : Int32} {x3 : Int32} {x4 : Int32} {x5 : Int32} {x6 : Int32} {y0 : Int32} {y1 : Int32}  (H : fx_P A h) : fx_1 A (f_Mo_lookAtDeclaration_205 h x1 x2 x3 x4 x5 x6 y0 y1) := by
  unfold f_Mo_lookAtDeclaration_205
  exact (fx_1i (fun _ => (fx_f_Mo_lookAtDeclaration_212  H)) (fun _ => (fx_f_Mo_lookAtDeclaration_208  H)))
theorem fx_f_Mo_lookAtDeclaration_170 {A : Nat → Nat → Int32} {h : zs_H} {x1 : Int32} {x2 : Int32} {x3 : Int32} {x4 : Int32} {x5 : Int32} {x6 : Int32} {y0 : Int32}  (H : fx_P A h) : fx_1 A (f_Mo_lookAtDeclaration_170 h x1 x2 x3 x4 x5 x6 y0) := by
  unfold f_Mo_lookAtDeclaration_170
  exact (fx_b1 (fx_f_Mo_rule  H) (fun h2 H_h2 => (fx_1i (fun _ => (fx_f_Mo_lookAtDeclaration_212  H_h2)) (fun _ => (fx_1i (fun _ => (fx_1i (fun _ => (fx_1i (fun _ => (fx_f_Mo_lookAtDeclaration_205  H_h2)) (fun _ => (fx_f_Mo_lookAtDeclaration_205  H_h2)))) (fun _ => fx_1n))) (fun _ => (fx_f_Mo_lookAtDeclaration_208  H_h2)))))))
theorem fx_f_Mo_lookAtDeclaration_169 {A : Nat → Nat → Int32} {h : zs_H} {x1 : Int32} {x2 : Int32} {x3 : Int32} {x4 : Int32} {x5 : Int32} {x6 : Int32}  (H : fx_P A h) : fx_1 A (f_Mo_lookAtDeclaration_169 h x1 x2 x3 x4 x5 x6) := by
  unfold f_Mo_lookAtDeclaration_169
  exact (fx_f_Mo_lookAtDeclaration_170  H)
theorem fx_f_Mo_lookAtDeclaration_18 {A : Nat → Nat → Int32} {k18 : zs_H → Int32 → Int32 → Int32 → Int32 → Int32 → Int32 → (Option zs_H)} {h : zs_H} {x1 : Int32} {x2 : Int32} {x3 : Int32} {x4 : Int32} {x5 : Int32} {x6 : Int32} (H_k18 : ∀ z0 z1 z2 z3 z4 z5 z6, fx_P A z0 → fx_1 A (k18 z0 z1 z2 z3 z4 z5 z6)) (H : fx_P A h) : fx_1 A (f_Mo_lookAtDeclaration_18 k18 h x1 x2 x3 x4 x5 x6) := by
  unfold f_Mo_lookAtDeclaration_18
  exact (fx_1i (fun _ => (fx_1i (fun _ => (fx_1i (fun _ => (fx_1i (fun _ => (fx_1i (fun _ => (fx_f_Mo_lookAtDeclaration_169  H)) (fun _ => (fx_1i (fun _ => (fx_f_Mo_lookAtDeclaration_169  H)) (fun _ => (fx_f_Mo_lookAtDeclaration_170  H)))))) (fun _ => fx_1n))) (fun _ => fx_1n))) (fun _ => fx_1n))) (fun _ => (fx_1i (fun _ => (fx_1i (fun _ => (fx_f_Mo_lookAtDeclaration_41 H_k18 H)) (fun _ => (fx_f_Mo_lookAtDeclaration_41 H_k18 H)))) (fun _ => fx_1n))))
theorem fx_f_Mo_lookAtDeclaration_L18 {A : Nat → Nat → Int32}   : ∀ (N : Nat) (h : zs_H) (x1 : Int32) (x2 : Int32) (x3 : Int32) (x4 : Int32) (x5 : Int32) (x6 : Int32), fx_P A h → fx_1 A (f_Mo_lookAtDeclaration_L18  N h x1 x2 x3 x4 x5 x6) := by
  intro N
  induction N with
  | zero => intro h x1 x2 x3 x4 x5 x6 _; exact fx_1n
  | succ N ih =>
    intro h x1 x2 x3 x4 x5 x6 H
    exact fx_f_Mo_lookAtDeclaration_18  (fun b0 b1 b2 b3 b4 b5 b6 z => ih b0 b1 b2 b3 b4 b5 b6 z) H
theorem fx_f_Mo_lookAtDeclaration_L18' {A : Nat → Nat → Int32}   {N : Nat} {h : zs_H} {x1 : Int32} {x2 : Int32} {x3 : Int32} {x4 : Int32} {x5 : Int32} {x6 : Int32} (H : fx_P A h) : fx_1 A (f_Mo_lookAtDeclaration_L18  N h x1 x2 x3 x4 x5 x6) := fx_f_Mo_lookAtDeclaration_L18  N h x1 x2 x3 x4 x5 x6 H
theorem fx_f_Mo_lookAtDeclaration {A : Nat → Nat → Int32} {h : zs_H} {x1 : Int32}  (H : fx_P A h) : fx_1 A (f_Mo_lookAtDeclaration h x1) := by
  unfold f_Mo_lookAtDeclaration
  exact (fx_1i (fun _ => (fx_f_Mo_lookAtDeclaration_L18'  H)) (fun _ => fx_1n))
theorem fx_f_Mo_give_157 {A : Nat → Nat → Int32} {r_Mo_give : zs_H → Int32 → Int32 → (Option zs_H)} {k133 : zs_H → Int32 → Int32 → (Option zs_H)} {h : zs_H} {x2 : Int32} {x5 : Int32} (H_r_Mo_give : ∀ z0 z1 z2, fx_P A z0 → fx_1 A (r_Mo_give z0 z1 z2)) (H_k133 : ∀ z0 z1 z2, fx_P A z0 → fx_1 A (k133 z0 z1 z2)) (H : fx_P A h) : fx_1 A (f_Mo_give_157 r_Mo_give k133 h x2 x5) := by
  unfold f_Mo_give_157
  exact (fx_1i (fun _ => (H_k133 _ _ _ H)) (fun _ => fx_1n))
theorem fx_f_Mo_give_133 {A : Nat → Nat → Int32} {r_Mo_give : zs_H → Int32 → Int32 → (Option zs_H)} {k133 : zs_H → Int32 → Int32 → (Option zs_H)} {h : zs_H} {x2 : Int32} {x5 : Int32} (H_r_Mo_give : ∀ z0 z1 z2, fx_P A z0 → fx_1 A (r_Mo_give z0 z1 z2)) (H_k133 : ∀ z0 z1 z2, fx_P A z0 → fx_1 A (k133 z0 z1 z2)) (H : fx_P A h) : fx_1 A (f_Mo_give_133 r_Mo_give k133 h x2 x5) := by
  unfold f_Mo_give_133
  exact (fx_1i (fun _ => (fx_1s H)) (fun _ => (fx_1i (fun _ => (fx_1i (fun _ => (fx_f_Mo_give_157 H_r_Mo_give H_k133 H)) (fun _ => (fx_b1 (H_r_Mo_give _ _ _ H) (fun h5 H_h5 => (fx_f_Mo_give_157 H_r_Mo_give H_k133 H_h5)))))) (fun _ => fx_1n))))
theorem fx_f_Mo_give_L133 {A : Nat → Nat → Int32} {r_Mo_give : zs_H → Int32 → Int32 → (Option zs_H)} (H_r_Mo_give : ∀ z0 z1 z2, fx_P A z0 → fx_1 A (r_Mo_give z0 z1 z2)) : ∀ (N : Nat) (h : zs_H) (x1 : Int32) (x2 : Int32), fx_P A h → fx_1 A (f_Mo_give_L133 r_Mo_give N h x1 x2) := by
  intro N
  induction N with
  | zero => intro h x1 x2 _; exact fx_1n
  | succ N ih =>
    intro h x1 x2 H
    exact fx_f_Mo_give_133 H_r_Mo_give (fun b0 b1 b2 z => ih b0 b1 b2 z) H
theorem fx_f_Mo_give_L133' {A : Nat → Nat → Int32} {r_Mo_give : zs_H → Int32 → Int32 → (Option zs_H)} (H_r_Mo_give : ∀ z0 z1 z2, fx_P A z0 → fx_1 A (r_Mo_give z0 z1 z2)) {N : Nat} {h : zs_H} {x1 : Int32} {x2 : Int32} (H : fx_P A h) : fx_1 A (f_Mo_give_L133 r_Mo_give N h x1 x2) := fx_f_Mo_give_L133 H_r_Mo_give N h x1 x2 H
theorem fx_f_Mo_give_123 {A : Nat → Nat → Int32} {r_Mo_give : zs_H → Int32 → Int32 → (Option zs_H)} {h : zs_H} {x1 : Int32} {x2 : Int32} {y0 : Int32} {y1 : Int32} {y2 : Int32} (H_r_Mo_give : ∀ z0 z1 z2, fx_P A z0 → fx_1 A (r_Mo_give z0 z1 z2)) (H : fx_P A h) : fx_1 A (f_Mo_give_123 r_Mo_give h x1 x2 y0 y1 y2) := by
  unfold f_Mo_give_123
  exact (fx_1i (fun _ => (fx_1i (fun _ => (fx_f_Mo_give_L133' H_r_Mo_give (fx_uM (by decide) H))) (fun _ => fx_1n))) (fun _ => fx_1n))
theorem fx_f_Mo_give_103 {A : Nat → Nat → Int32} {r_Mo_give : zs_H → Int32 → Int32 → (Option zs_H)} {h : zs_H} {x1 : Int32} {x2 : Int32} {x4 : Int32} (H_r_Mo_give : ∀ z0 z1 z2, fx_P A z0 → fx_1 A (r_Mo_give z0 z1 z2)) (H : fx_P A h) : fx_1 A (f_Mo_give_103 r_Mo_give h x1 x2 x4) := by
  unfold f_Mo_give_103
  exact (fx_1i (fun _ => (fx_1i (fun _ => (fx_f_Mo_give_123 H_r_Mo_give H)) (fun _ => (fx_f_Mo_give_123 H_r_Mo_give H)))) (fun _ => fx_1n))
theorem fx_f_Mo_give_83 {A : Nat → Nat → Int32} {r_Mo_give : zs_H → Int32 → Int32 → (Option zs_H)} {h : zs_H} {x1 : Int32} {x2 : Int32} {x4 : Int32} (H_r_Mo_give : ∀ z0 z1 z2, fx_P A z0 → fx_1 A (r_Mo_give z0 z1 z2)) (H : fx_P A h) : fx_1 A (f_Mo_give_83 r_Mo_give h x1 x2 x4) := by
  unfold f_Mo_give_83
  exact (fx_1i (fun _ => (fx_f_Mo_give_103 H_r_Mo_give H)) (fun _ => (fx_1i (fun _ => (fx_1i (fun _ => (fx_f_Mo_give_103 H_r_Mo_give (fx_uM (by decide) H))) (fun _ => fx_1n))) (fun _ => fx_1n))))
theorem fx_f_Mo_give_52 {A : Nat → Nat → Int32} {r_Mo_give : zs_H → Int32 → Int32 → (Option zs_H)} {h : zs_H} {x1 : Int32} {x2 : Int32} {x3 : Int32} {y0 : Int32} (H_r_Mo_give : ∀ z0 z1 z2, fx_P A z0 → fx_1 A (r_Mo_give z0 z1 z2)) (H : fx_P A h) : fx_1 A (f_Mo_give_52 r_Mo_give h x1 x2 x3 y0) := by
  unfold f_Mo_give_52
  exact (fx_1i (fun _ => (fx_f_Mo_give_83 H_r_Mo_give H)) (fun _ => (fx_1i (fun _ => (fx_1i (fun _ => (fx_1i (fun _ => (fx_f_Mo_give_103 H_r_Mo_give (fx_uM (by decide) H))) (fun _ => fx_1n))) (fun _ => fx_1n))) (fun _ => (fx_f_Mo_give_83 H_r_Mo_give H)))))
theorem fx_f_Mo_give_31 {A : Nat → Nat → Int32} {r_Mo_give : zs_H → Int32 → Int32 → (Option zs_H)} {h : zs_H} {x1 : Int32} {x2 : Int32} {x3 : Int32} (H_r_Mo_give : ∀ z0 z1 z2, fx_P A z0 → fx_1 A (r_Mo_give z0 z1 z2)) (H : fx_P A h) : fx_1 A (f_Mo_give_31 r_Mo_give h x1 x2 x3) := by
  unfold f_Mo_give_31
  exact (fx_f_Mo_give_52 H_r_Mo_give H)
theorem fx_f_Mo_give_47 {A : Nat → Nat → Int32} {r_Mo_give : zs_H → Int32 → Int32 → (Option zs_H)} {h : zs_H} {x1 : Int32} {x2 : Int32} {x3 : Int32} (H_r_Mo_give : ∀ z0 z1 z2, fx_P A z0 → fx_1 A (r_Mo_give z0 z1 z2)) (H : fx_P A h) : fx_1 A (f_Mo_give_47 r_Mo_give h x1 x2 x3) := by
  unfold f_Mo_give_47
  exact (fx_f_Mo_give_52 H_r_Mo_give H)
theorem fx_g_Mo_give {A : Nat → Nat → Int32} {r_Mo_give : zs_H → Int32 → Int32 → (Option zs_H)} {h : zs_H} {x1 : Int32} {x2 : Int32} (H_r_Mo_give : ∀ z0 z1 z2, fx_P A z0 → fx_1 A (r_Mo_give z0 z1 z2)) (H : fx_P A h) : fx_1 A (g_Mo_give r_Mo_give h x1 x2) := by
  unfold g_Mo_give
  exact (fx_1i (fun _ => (fx_1i (fun _ => (fx_1i (fun _ => (fx_f_Mo_give_47 H_r_Mo_give H)) (fun _ => (fx_1i (fun _ => (fx_f_Mo_give_47 H_r_Mo_give H)) (fun _ => (fx_f_Mo_give_52 H_r_Mo_give H)))))) (fun _ => (fx_1i (fun _ => (fx_1i (fun _ => (fx_f_Mo_give_31 H_r_Mo_give H)) (fun _ => (fx_f_Mo_give_52 H_r_Mo_give H)))) (fun _ => (fx_f_Mo_give_31 H_r_Mo_give H)))))) (fun _ => fx_1n))
theorem fx_give0 {A : Nat → Nat → Int32} : ∀ (d : Nat) (h : zs_H) (x1 x2 : Int32), fx_P A h → fx_1 A (f_Mo_give d h x1 x2) := by
  intro d
  induction d with
  | zero => intro h x1 x2 _; exact fx_1n
  | succ d ih =>
    intro h x1 x2 H
    have hh : f_Mo_give (d + 1) = g_Mo_give (f_Mo_give d) := zd_its _ _ d
    rw [hh]
    exact fx_g_Mo_give (fun a b c z => ih a b c z) H
theorem fx_f_Mo_give {A : Nat → Nat → Int32} {d : Nat} {h : zs_H} {x1 x2 : Int32} (H : fx_P A h) : fx_1 A (f_Mo_give d h x1 x2) := fx_give0 d h x1 x2 H
theorem fx_f_Mo_endBlock_45 {A : Nat → Nat → Int32} {h : zs_H} {y0 : Int32} {y1 : Int32} {y2 : Int32}  (H : fx_P A h) : fx_1 A (f_Mo_endBlock_45 h y0 y1 y2) := by
  unfold f_Mo_endBlock_45
  exact (fx_1i (fun _ => (fx_1s (fx_uM (by decide) H))) (fun _ => fx_1n))
theorem fx_f_Mo_endBlock {A : Nat → Nat → Int32} {h : zs_H} {x1 : Int32}  (H : fx_P A h) : fx_1 A (f_Mo_endBlock h x1) := by
  unfold f_Mo_endBlock
  exact (fx_b1 (fx_f_Mo_give H) (fun h2 H_h2 => (fx_b1 (fx_f_Mo_give H_h2) (fun h4 H_h4 => (fx_1i (fun _ => (fx_1i (fun _ => (fx_1i (fun _ => (fx_1i (fun _ => (fx_f_Mo_endBlock_45  H_h4)) (fun _ => (fx_f_Mo_endBlock_45  H_h4)))) (fun _ => fx_1n))) (fun _ => fx_1n))) (fun _ => fx_1n))))))
theorem fx_f_Mo_lookAtText_100 {A : Nat → Nat → Int32} {k59 : zs_H → Int32 → Int32 → Int32 → (Option zs_H)} {h : zs_H} {x1 : Int32} {x2 : Int32} {x3 : Int32} (H_k59 : ∀ z0 z1 z2 z3, fx_P A z0 → fx_1 A (k59 z0 z1 z2 z3)) (H : fx_P A h) : fx_1 A (f_Mo_lookAtText_100 k59 h x1 x2 x3) := by
  unfold f_Mo_lookAtText_100
  exact (H_k59 _ _ _ _ H)
theorem fx_f_Mo_lookAtText_144 {A : Nat → Nat → Int32} {h : zs_H} {x2 : Int32}  (H : fx_P A h) : fx_1 A (f_Mo_lookAtText_144 h x2) := by
  unfold f_Mo_lookAtText_144
  exact (fx_1s (fx_uF H))
theorem fx_f_Mo_lookAtText_119 {A : Nat → Nat → Int32} {h : zs_H} {x1 : Int32} {x2 : Int32} {y0 : Int32}  (H : fx_P A h) : fx_1 A (f_Mo_lookAtText_119 h x1 x2 y0) := by
  unfold f_Mo_lookAtText_119
  exact (fx_b1 (fx_f_Mo_rule  H) (fun h2 H_h2 => (fx_1i (fun _ => (fx_f_Mo_lookAtText_144  H_h2)) (fun _ => (fx_1i (fun _ => (fx_f_Mo_lookAtText_144  (fx_uM (by decide) H_h2))) (fun _ => fx_1n))))))
theorem fx_f_Mo_lookAtText_106 {A : Nat → Nat → Int32} {h : zs_H} {x1 : Int32} {x2 : Int32}  (H : fx_P A h) : fx_1 A (f_Mo_lookAtText_106 h x1 x2) := by
  unfold f_Mo_lookAtText_106
  exact (fx_1i (fun _ => (fx_f_Mo_lookAtText_119  H)) (fun _ => (fx_f_Mo_lookAtText_119  H)))
theorem fx_f_Mo_lookAtText_59 {A : Nat → Nat → Int32} {k59 : zs_H → Int32 → Int32 → Int32 → (Option zs_H)} {h : zs_H} {x1 : Int32} {x2 : Int32} {x3 : Int32} (H_k59 : ∀ z0 z1 z2 z3, fx_P A z0 → fx_1 A (k59 z0 z1 z2 z3)) (H : fx_P A h) : fx_1 A (f_Mo_lookAtText_59 k59 h x1 x2 x3) := by
  unfold f_Mo_lookAtText_59
  exact (fx_1i (fun _ => (fx_f_Mo_lookAtText_106  H)) (fun _ => (fx_1i (fun _ => (fx_1i (fun _ => (fx_1i (fun _ => (fx_f_Mo_lookAtText_100 H_k59 (fx_uM (by decide) H))) (fun _ => (fx_f_Mo_lookAtText_100 H_k59 H)))) (fun _ => fx_1n))) (fun _ => (fx_f_Mo_lookAtText_106  H)))))
theorem fx_f_Mo_lookAtText_L59 {A : Nat → Nat → Int32}   : ∀ (N : Nat) (h : zs_H) (x1 : Int32) (x2 : Int32) (x3 : Int32), fx_P A h → fx_1 A (f_Mo_lookAtText_L59  N h x1 x2 x3) := by
  intro N
  induction N with
  | zero => intro h x1 x2 x3 _; exact fx_1n
  | succ N ih =>
    intro h x1 x2 x3 H
    exact fx_f_Mo_lookAtText_59  (fun b0 b1 b2 b3 z => ih b0 b1 b2 b3 z) H
theorem fx_f_Mo_lookAtText_L59' {A : Nat → Nat → Int32}   {N : Nat} {h : zs_H} {x1 : Int32} {x2 : Int32} {x3 : Int32} (H : fx_P A h) : fx_1 A (f_Mo_lookAtText_L59  N h x1 x2 x3) := fx_f_Mo_lookAtText_L59  N h x1 x2 x3 H
theorem fx_f_Mo_lookAtText_56 {A : Nat → Nat → Int32} {h : zs_H} {x1 : Int32} {y0 : Int32}  (H : fx_P A h) : fx_1 A (f_Mo_lookAtText_56 h x1 y0) := by
  unfold f_Mo_lookAtText_56
  exact (fx_f_Mo_lookAtText_L59'  H)
theorem fx_f_Mo_lookAtText_28 {A : Nat → Nat → Int32} {h : zs_H} {x1 : Int32} {y0 : Int32}  (H : fx_P A h) : fx_1 A (f_Mo_lookAtText_28 h x1 y0) := by
  unfold f_Mo_lookAtText_28
  exact (fx_b1 (fx_f_Mo_rule  H) (fun h2 H_h2 => (fx_1i (fun _ => (fx_1i (fun _ => (fx_f_Mo_lookAtText_56  H_h2)) (fun _ => fx_1n))) (fun _ => (fx_f_Mo_lookAtText_56  H_h2)))))
theorem fx_f_Mo_lookAtText_23 {A : Nat → Nat → Int32} {h : zs_H} {x1 : Int32}  (H : fx_P A h) : fx_1 A (f_Mo_lookAtText_23 h x1) := by
  unfold f_Mo_lookAtText_23
  exact (fx_f_Mo_lookAtText_28  H)
theorem fx_f_Mo_lookAtText {A : Nat → Nat → Int32} {h : zs_H} {x1 : Int32}  (H : fx_P A h) : fx_1 A (f_Mo_lookAtText h x1) := by
  unfold f_Mo_lookAtText
  exact (fx_1i (fun _ => (fx_f_Mo_lookAtText_23  H)) (fun _ => (fx_1i (fun _ => (fx_1i (fun _ => (fx_f_Mo_lookAtText_28  H)) (fun _ => (fx_f_Mo_lookAtText_23  H)))) (fun _ => fx_1n))))
theorem fx_f_Mo_lookAtBlocks_335 {A : Nat → Nat → Int32} {h : zs_H} {x1 : Int32} {y0 : Int32}  (H : fx_P A h) : fx_1 A (f_Mo_lookAtBlocks_335 h x1 y0) := by
  unfold f_Mo_lookAtBlocks_335
  exact (fx_b1 (fx_f_Mo_rule  H) (fun h2 H_h2 => (fx_1s H_h2)))
theorem fx_f_Mo_lookAtBlocks_330 {A : Nat → Nat → Int32} {h : zs_H} {x1 : Int32}  (H : fx_P A h) : fx_1 A (f_Mo_lookAtBlocks_330 h x1) := by
  unfold f_Mo_lookAtBlocks_330
  exact (fx_f_Mo_lookAtBlocks_335  H)
theorem fx_f_Mo_lookAtBlocks_334 {A : Nat → Nat → Int32} {h : zs_H} {x1 : Int32}  (H : fx_P A h) : fx_1 A (f_Mo_lookAtBlocks_334 h x1) := by
  unfold f_Mo_lookAtBlocks_334
  exact (fx_f_Mo_lookAtBlocks_335  H)
theorem fx_f_Mo_lookAtBlocks_239 {A : Nat → Nat → Int32} {h : zs_H} {x1 : Int32} {y0 : Int32}  (H : fx_P A h) : fx_1 A (f_Mo_lookAtBlocks_239 h x1 y0) := by
  unfold f_Mo_lookAtBlocks_239
  exact (fx_b1 (fx_f_Mo_rule  H) (fun h2 H_h2 => (fx_1s H_h2)))
theorem fx_f_Mo_lookAtBlocks_234 {A : Nat → Nat → Int32} {h : zs_H} {x1 : Int32}  (H : fx_P A h) : fx_1 A (f_Mo_lookAtBlocks_234 h x1) := by
  unfold f_Mo_lookAtBlocks_234
  exact (fx_f_Mo_lookAtBlocks_239  H)
theorem fx_f_Mo_lookAtBlocks_162 {A : Nat → Nat → Int32} {h : zs_H} {x1 : Int32} {y0 : Int32}  (H : fx_P A h) : fx_1 A (f_Mo_lookAtBlocks_162 h x1 y0) := by
  unfold f_Mo_lookAtBlocks_162
  exact (fx_b1 (fx_f_Mo_rule  H) (fun h2 H_h2 => (fx_1s H_h2)))
theorem fx_f_Mo_lookAtBlocks_157 {A : Nat → Nat → Int32} {h : zs_H} {x1 : Int32}  (H : fx_P A h) : fx_1 A (f_Mo_lookAtBlocks_157 h x1) := by
  unfold f_Mo_lookAtBlocks_157
  exact (fx_f_Mo_lookAtBlocks_162  H)
theorem fx_f_Mo_lookAtBlocks_161 {A : Nat → Nat → Int32} {h : zs_H} {x1 : Int32}  (H : fx_P A h) : fx_1 A (f_Mo_lookAtBlocks_161 h x1) := by
  unfold f_Mo_lookAtBlocks_161
  exact (fx_f_Mo_lookAtBlocks_162  H)
theorem fx_f_Mo_lookAtBlocks_134 {A : Nat → Nat → Int32} {h : zs_H} {x1 : Int32}  (H : fx_P A h) : fx_1 A (f_Mo_lookAtBlocks_134 h x1) := by
  unfold f_Mo_lookAtBlocks_134
  exact (fx_1i (fun _ => (fx_1i (fun _ => (fx_1i (fun _ => (fx_1i (fun _ => (fx_f_Mo_lookAtBlocks_157  H)) (fun _ => (fx_f_Mo_lookAtBlocks_161  H)))) (fun _ => fx_1n))) (fun _ => (fx_f_Mo_lookAtBlocks_161  H)))) (fun _ => fx_1n))
theorem fx_f_Mo_lookAtBlocks_97 {A : Nat → Nat → Int32} {h : zs_H} {x1 : Int32} {y0 : Int32}  (H : fx_P A h) : fx_1 A (f_Mo_lookAtBlocks_97 h x1 y0) := by
  unfold f_Mo_lookAtBlocks_97
  exact (fx_b1 (fx_f_Mo_rule  H) (fun h2 H_h2 => (fx_b1 (fx_f_Mo_endBlock  H_h2) (fun h4 H_h4 => (fx_1s H_h4)))))
theorem fx_f_Mo_lookAtBlocks_96 {A : Nat → Nat → Int32} {h : zs_H} {x1 : Int32}  (H : fx_P A h) : fx_1 A (f_Mo_lookAtBlocks_96 h x1) := by
  unfold f_Mo_lookAtBlocks_96
  exact (fx_f_Mo_lookAtBlocks_97  H)
theorem fx_f_Mo_lookAtBlocks {A : Nat → Nat → Int32} {h : zs_H} {x1 : Int32}  (H : fx_P A h) : fx_1 A (f_Mo_lookAtBlocks h x1) := by
  unfold f_Mo_lookAtBlocks
  exact (fx_1i (fun _ => (fx_1i (fun _ => (fx_b1 (fx_f_Mo_lookAtText  H) (fun h4 H_h4 => (fx_1s H_h4)))) (fun _ => (fx_1i (fun _ => (fx_1i (fun _ => (fx_O1 (fun v8 => (fx_1i (fun _ => (fx_f_Mo_lookAtBlocks_96  H)) (fun _ => (fx_f_Mo_lookAtBlocks_97  H)))))) (fun _ => (fx_f_Mo_lookAtBlocks_96  H)))) (fun _ => (fx_1i (fun _ => (fx_1i (fun _ => (fx_O1 (fun v13 => (fx_1i (fun _ => (fx_f_Mo_lookAtBlocks_96  H)) (fun _ => (fx_f_Mo_lookAtBlocks_97  H)))))) (fun _ => (fx_f_Mo_lookAtBlocks_96  H)))) (fun _ => (fx_1i (fun _ => (fx_1i (fun _ => (fx_O1 (fun v18 => (fx_1i (fun _ => (fx_f_Mo_lookAtBlocks_96  H)) (fun _ => (fx_f_Mo_lookAtBlocks_97  H)))))) (fun _ => (fx_f_Mo_lookAtBlocks_96  H)))) (fun _ => (fx_1i (fun _ => (fx_1i (fun _ => (fx_1i (fun _ => (fx_1i (fun _ => (fx_f_Mo_lookAtBlocks_134  H)) (fun _ => (fx_f_Mo_lookAtBlocks_157  H)))) (fun _ => (fx_f_Mo_lookAtBlocks_134  H)))) (fun _ => fx_1n))) (fun _ => (fx_1i (fun _ => (fx_b1 (fx_f_Mo_lookAtDeclaration  H) (fun h26 H_h26 => (fx_1s H_h26)))) (fun _ => (fx_1i (fun _ => (fx_b1 (fx_f_Mo_lookAtName  H) (fun h29 H_h29 => (fx_1s H_h29)))) (fun _ => (fx_1i (fun _ => (fx_1i (fun _ => (fx_1i (fun _ => (fx_1i (fun _ => (fx_1i (fun _ => (fx_1i (fun _ => (fx_O1 (fun v37 => (fx_1i (fun _ => (fx_f_Mo_lookAtBlocks_239  H)) (fun _ => (fx_f_Mo_lookAtBlocks_234  H)))))) (fun _ => (fx_f_Mo_lookAtBlocks_234  H)))) (fun _ => fx_1n))) (fun _ => fx_1n))) (fun _ => (fx_f_Mo_lookAtBlocks_234  H)))) (fun _ => fx_1n))) (fun _ => (fx_1i (fun _ => (fx_1s (fx_uM (by decide) H))) (fun _ => (fx_1i (fun _ => (fx_b1 (fx_f_Mo_lookAtArray  H) (fun h43 H_h43 => (fx_1s H_h43)))) (fun _ => (fx_O1 (fun v45 => (fx_1i (fun _ => (fx_1i (fun _ => (fx_f_Mo_lookAtBlocks_330  H)) (fun _ => (fx_O1 (fun v49 => (fx_1i (fun _ => (fx_f_Mo_lookAtBlocks_334  H)) (fun _ => (fx_1i (fun _ => (fx_f_Mo_lookAtBlocks_330  H)) (fun _ => (fx_1i (fun _ => (fx_1i (fun _ => (fx_f_Mo_lookAtBlocks_334  H)) (fun _ => (fx_f_Mo_lookAtBlocks_330  H)))) (fun _ => fx_1n))))))))))) (fun _ => fx_1n))))))))))))))))))))))))) (fun _ => fx_1n))
theorem fx_f_Mo_lookAtAssigned_70 {A : Nat → Nat → Int32} {h : zs_H} {x1 : Int32} {x2 : Int32} {y0 : Int32}  (H : fx_P A h) : fx_1 A (f_Mo_lookAtAssigned_70 h x1 x2 y0) := by
  unfold f_Mo_lookAtAssigned_70
  exact (fx_b1 (fx_f_Mo_rule  H) (fun h2 H_h2 => (fx_O1 (fun v4 => (fx_b1 (fx_f_Mo_rule  H_h2) (fun h7 H_h7 => (fx_1s H_h7)))))))
theorem fx_f_Mo_lookAtAssigned_65 {A : Nat → Nat → Int32} {h : zs_H} {x1 : Int32} {x2 : Int32}  (H : fx_P A h) : fx_1 A (f_Mo_lookAtAssigned_65 h x1 x2) := by
  unfold f_Mo_lookAtAssigned_65
  exact (fx_f_Mo_lookAtAssigned_70  H)
theorem fx_f_Mo_lookAtAssigned_69 {A : Nat → Nat → Int32} {h : zs_H} {x1 : Int32} {x2 : Int32}  (H : fx_P A h) : fx_1 A (f_Mo_lookAtAssigned_69 h x1 x2) := by
  unfold f_Mo_lookAtAssigned_69
  exact (fx_f_Mo_lookAtAssigned_70  H)
theorem fx_f_Mo_lookAtAssigned_24 {A : Nat → Nat → Int32} {h : zs_H} {x1 : Int32} {x2 : Int32} {x3 : Int32} {y0 : Int32}  (H : fx_P A h) : fx_1 A (f_Mo_lookAtAssigned_24 h x1 x2 x3 y0) := by
  unfold f_Mo_lookAtAssigned_24
  exact (fx_1i (fun _ => (fx_f_Mo_lookAtAssigned_69  H)) (fun _ => (fx_1i (fun _ => (fx_1i (fun _ => (fx_f_Mo_lookAtAssigned_65  H)) (fun _ => (fx_1i (fun _ => (fx_f_Mo_lookAtAssigned_69  H)) (fun _ => (fx_1i (fun _ => (fx_f_Mo_lookAtAssigned_65  H)) (fun _ => (fx_1i (fun _ => (fx_f_Mo_lookAtAssigned_65  H)) (fun _ => (fx_f_Mo_lookAtAssigned_69  H)))))))))) (fun _ => fx_1n))))
theorem fx_f_Mo_lookAtAssigned {A : Nat → Nat → Int32} {h : zs_H} {x1 : Int32} {x2 : Int32}  (H : fx_P A h) : fx_1 A (f_Mo_lookAtAssigned h x1 x2) := by
  unfold f_Mo_lookAtAssigned
  exact (fx_O1 (fun v2 => (fx_1i (fun _ => (fx_1i (fun _ => (fx_f_Mo_lookAtAssigned_24  H)) (fun _ => fx_1n))) (fun _ => (fx_f_Mo_lookAtAssigned_24  H)))))
theorem fx_f_Mo_lookAtLoop_194 {A : Nat → Nat → Int32} {k125 : zs_H → Int32 → Int32 → Int32 → Int32 → (Option zs_H)} {h : zs_H} {x1 : Int32} {x2 : Int32} {x4 : Int32} {y0 : Int32} (H_k125 : ∀ z0 z1 z2 z3 z4, fx_P A z0 → fx_1 A (k125 z0 z1 z2 z3 z4)) (H : fx_P A h) : fx_1 A (f_Mo_lookAtLoop_194 k125 h x1 x2 x4 y0) := by
  unfold f_Mo_lookAtLoop_194
  exact (fx_1i (fun _ => (H_k125 _ _ _ _ _ H)) (fun _ => fx_1n))
theorem fx_f_Mo_lookAtLoop_189 {A : Nat → Nat → Int32} {k125 : zs_H → Int32 → Int32 → Int32 → Int32 → (Option zs_H)} {h : zs_H} {x1 : Int32} {x2 : Int32} {x4 : Int32} (H_k125 : ∀ z0 z1 z2 z3 z4, fx_P A z0 → fx_1 A (k125 z0 z1 z2 z3 z4)) (H : fx_P A h) : fx_1 A (f_Mo_lookAtLoop_189 k125 h x1 x2 x4) := by
  unfold f_Mo_lookAtLoop_189
  exact (fx_f_Mo_lookAtLoop_194 H_k125 H)
theorem fx_f_Mo_lookAtLoop_193 {A : Nat → Nat → Int32} {k125 : zs_H → Int32 → Int32 → Int32 → Int32 → (Option zs_H)} {h : zs_H} {x1 : Int32} {x2 : Int32} {x4 : Int32} (H_k125 : ∀ z0 z1 z2 z3 z4, fx_P A z0 → fx_1 A (k125 z0 z1 z2 z3 z4)) (H : fx_P A h) : fx_1 A (f_Mo_lookAtLoop_193 k125 h x1 x2 x4) := by
  unfold f_Mo_lookAtLoop_193
  exact (fx_f_Mo_lookAtLoop_194 H_k125 H)
theorem fx_f_Mo_lookAtLoop_366 {A : Nat → Nat → Int32} {h : zs_H} {x1 : Int32} {y0 : Int32}  (H : fx_P A h) : fx_1 A (f_Mo_lookAtLoop_366 h x1 y0) := by
  unfold f_Mo_lookAtLoop_366
  exact (fx_b1 (fx_f_Mo_rule  H) (fun h2 H_h2 => (fx_1s H_h2)))
theorem fx_f_Mo_lookAtLoop_361 {A : Nat → Nat → Int32} {h : zs_H} {x1 : Int32}  (H : fx_P A h) : fx_1 A (f_Mo_lookAtLoop_361 h x1) := by
  unfold f_Mo_lookAtLoop_361
  exact (fx_f_Mo_lookAtLoop_366  H)
theorem fx_f_Mo_lookAtLoop_345 {A : Nat → Nat → Int32} {h : zs_H} {x1 : Int32} {x3 : Int32} {y0 : Int64}  (H : fx_P A h) : fx_1 A (f_Mo_lookAtLoop_345 h x1 x3 y0) := by
  unfold f_Mo_lookAtLoop_345
  exact (fx_1i (fun _ => (fx_1i (fun _ => (fx_f_Mo_lookAtLoop_366  H)) (fun _ => (fx_f_Mo_lookAtLoop_361  H)))) (fun _ => (fx_f_Mo_lookAtLoop_361  H)))
theorem fx_f_Mo_lookAtLoop_334 {A : Nat → Nat → Int32} {h : zs_H} {x1 : Int32} {x3 : Int32}  (H : fx_P A h) : fx_1 A (f_Mo_lookAtLoop_334 h x1 x3) := by
  unfold f_Mo_lookAtLoop_334
  exact (fx_f_Mo_lookAtLoop_345  H)
theorem fx_f_Mo_lookAtLoop_338 {A : Nat → Nat → Int32} {h : zs_H} {x1 : Int32} {x3 : Int32} {x6 : Int64} {x8 : Int64}  (H : fx_P A h) : fx_1 A (f_Mo_lookAtLoop_338 h x1 x3 x6 x8) := by
  unfold f_Mo_lookAtLoop_338
  exact (fx_1i (fun _ => fx_1n) (fun _ => (fx_f_Mo_lookAtLoop_345  H)))
theorem fx_f_Mo_lookAtLoop_331 {A : Nat → Nat → Int32} {h : zs_H} {x1 : Int32} {x3 : Int32} {x6 : Int64} {x8 : Int64} {y0 : Int32} {y1 : Int32}  (H : fx_P A h) : fx_1 A (f_Mo_lookAtLoop_331 h x1 x3 x6 x8 y0 y1) := by
  unfold f_Mo_lookAtLoop_331
  exact (fx_1i (fun _ => (fx_f_Mo_lookAtLoop_338  H)) (fun _ => (fx_f_Mo_lookAtLoop_334  H)))
theorem fx_f_Mo_lookAtLoop_319 {A : Nat → Nat → Int32} {h : zs_H} {x1 : Int32} {x3 : Int32} {x6 : Int64} {x8 : Int64} {y0 : Int32}  (H : fx_P A h) : fx_1 A (f_Mo_lookAtLoop_319 h x1 x3 x6 x8 y0) := by
  unfold f_Mo_lookAtLoop_319
  exact (fx_1i (fun _ => (fx_f_Mo_lookAtLoop_331  H)) (fun _ => (fx_f_Mo_lookAtLoop_331  H)))
theorem fx_f_Mo_lookAtLoop_295 {A : Nat → Nat → Int32} {h : zs_H} {x1 : Int32} {x6 : Int64} {x8 : Int64} {y0 : Int32}  (H : fx_P A h) : fx_1 A (f_Mo_lookAtLoop_295 h x1 x6 x8 y0) := by
  unfold f_Mo_lookAtLoop_295
  exact (fx_1i (fun _ => (fx_1i (fun _ => (fx_f_Mo_lookAtLoop_338  H)) (fun _ => (fx_1i (fun _ => (fx_f_Mo_lookAtLoop_319  H)) (fun _ => (fx_f_Mo_lookAtLoop_319  H)))))) (fun _ => (fx_f_Mo_lookAtLoop_334  H)))
theorem fx_f_Mo_lookAtLoop_290 {A : Nat → Nat → Int32} {h : zs_H} {x1 : Int32} {x6 : Int64} {x8 : Int64}  (H : fx_P A h) : fx_1 A (f_Mo_lookAtLoop_290 h x1 x6 x8) := by
  unfold f_Mo_lookAtLoop_290
  exact (fx_f_Mo_lookAtLoop_295  H)
theorem fx_f_Mo_lookAtLoop_258 {A : Nat → Nat → Int32} {h : zs_H} {x1 : Int32} {x3 : Int32} {x4 : Int32} {x5 : Int32} {y0 : Int64}  (H : fx_P A h) : fx_1 A (f_Mo_lookAtLoop_258 h x1 x3 x4 x5 y0) := by
  unfold f_Mo_lookAtLoop_258
  exact (fx_1i (fun _ => (fx_1i (fun _ => (fx_1i (fun _ => (fx_1i (fun _ => (fx_f_Mo_lookAtLoop_290  H)) (fun _ => (fx_f_Mo_lookAtLoop_295  H)))) (fun _ => (fx_f_Mo_lookAtLoop_290  H)))) (fun _ => fx_1n))) (fun _ => fx_1n))
theorem fx_f_Mo_lookAtLoop_125 {A : Nat → Nat → Int32} {k125 : zs_H → Int32 → Int32 → Int32 → Int32 → (Option zs_H)} {h : zs_H} {x1 : Int32} {x2 : Int32} {x3 : Int32} {x4 : Int32} (H_k125 : ∀ z0 z1 z2 z3 z4, fx_P A z0 → fx_1 A (k125 z0 z1 z2 z3 z4)) (H : fx_P A h) : fx_1 A (f_Mo_lookAtLoop_125 k125 h x1 x2 x3 x4) := by
  unfold f_Mo_lookAtLoop_125
  exact (fx_1i (fun _ => (fx_1i (fun _ => (fx_1i (fun _ => (fx_1i (fun _ => (fx_1i (fun _ => (fx_1i (fun _ => (fx_1i (fun _ => (fx_f_Mo_lookAtLoop_258  H)) (fun _ => (fx_f_Mo_lookAtLoop_258  H)))) (fun _ => fx_1n))) (fun _ => fx_1n))) (fun _ => fx_1n))) (fun _ => fx_1n))) (fun _ => (fx_1i (fun _ => (fx_1i (fun _ => (fx_f_Mo_lookAtLoop_189 H_k125 H)) (fun _ => (fx_1i (fun _ => (fx_1i (fun _ => (fx_1i (fun _ => (fx_f_Mo_lookAtLoop_189 H_k125 H)) (fun _ => (fx_1i (fun _ => (fx_f_Mo_lookAtLoop_193 H_k125 H)) (fun _ => (fx_f_Mo_lookAtLoop_189 H_k125 H)))))) (fun _ => (fx_f_Mo_lookAtLoop_193 H_k125 H)))) (fun _ => fx_1n))))) (fun _ => (fx_f_Mo_lookAtLoop_189 H_k125 H)))))) (fun _ => fx_1n))
theorem fx_f_Mo_lookAtLoop_L125 {A : Nat → Nat → Int32}   : ∀ (N : Nat) (h : zs_H) (x1 : Int32) (x2 : Int32) (x3 : Int32) (x4 : Int32), fx_P A h → fx_1 A (f_Mo_lookAtLoop_L125  N h x1 x2 x3 x4) := by
  intro N
  induction N with
  | zero => intro h x1 x2 x3 x4 _; exact fx_1n
  | succ N ih =>
    intro h x1 x2 x3 x4 H
    exact fx_f_Mo_lookAtLoop_125  (fun b0 b1 b2 b3 b4 z => ih b0 b1 b2 b3 b4 z) H
theorem fx_f_Mo_lookAtLoop_L125' {A : Nat → Nat → Int32}   {N : Nat} {h : zs_H} {x1 : Int32} {x2 : Int32} {x3 : Int32} {x4 : Int32} (H : fx_P A h) : fx_1 A (f_Mo_lookAtLoop_L125  N h x1 x2 x3 x4) := fx_f_Mo_lookAtLoop_L125  N h x1 x2 x3 x4 H
theorem fx_f_Mo_lookAtLoop_78 {A : Nat → Nat → Int32} {h : zs_H} {x1 : Int32} {x2 : Int32} {y0 : Int32}  (H : fx_P A h) : fx_1 A (f_Mo_lookAtLoop_78 h x1 x2 y0) := by
  unfold f_Mo_lookAtLoop_78
  exact (fx_b1 (fx_f_Mo_rule  H) (fun h2 H_h2 => (fx_1i (fun _ => (fx_b1 (fx_f_Mo_lookAtAssigned  H_h2) (fun h5 H_h5 => (fx_1i (fun _ => (fx_1i (fun _ => (fx_1i (fun _ => (fx_f_Mo_lookAtLoop_L125'  (fx_uM (by decide) H_h5))) (fun _ => fx_1n))) (fun _ => fx_1n))) (fun _ => (fx_1s H_h5)))))) (fun _ => fx_1n))))
theorem fx_f_Mo_lookAtLoop_77 {A : Nat → Nat → Int32} {h : zs_H} {x1 : Int32} {x2 : Int32}  (H : fx_P A h) : fx_1 A (f_Mo_lookAtLoop_77 h x1 x2) := by
  unfold f_Mo_lookAtLoop_77
  exact (fx_f_Mo_lookAtLoop_78  H)
theorem fx_f_Mo_lookAtLoop_50 {A : Nat → Nat → Int32} {h : zs_H} {x1 : Int32} {x2 : Int32} {y0 : Int32}  (H : fx_P A h) : fx_1 A (f_Mo_lookAtLoop_50 h x1 x2 y0) := by
  unfold f_Mo_lookAtLoop_50
  exact (fx_b1 (fx_f_Mo_rule  H) (fun h2 H_h2 => (fx_1i (fun _ => (fx_f_Mo_lookAtLoop_77  H_h2)) (fun _ => (fx_1i (fun _ => (fx_1i (fun _ => (fx_f_Mo_lookAtLoop_78  H_h2)) (fun _ => (fx_f_Mo_lookAtLoop_77  H_h2)))) (fun _ => fx_1n))))))
theorem fx_f_Mo_lookAtLoop_49 {A : Nat → Nat → Int32} {h : zs_H} {x1 : Int32} {x2 : Int32}  (H : fx_P A h) : fx_1 A (f_Mo_lookAtLoop_49 h x1 x2) := by
  unfold f_Mo_lookAtLoop_49
  exact (fx_f_Mo_lookAtLoop_50  H)
theorem fx_f_Mo_lookAtLoop_25 {A : Nat → Nat → Int32} {h : zs_H} {x1 : Int32} {x2 : Int32} {y0 : Int32}  (H : fx_P A h) : fx_1 A (f_Mo_lookAtLoop_25 h x1 x2 y0) := by
  unfold f_Mo_lookAtLoop_25
  exact (fx_b1 (fx_f_Mo_rule  H) (fun h2 H_h2 => (fx_1i (fun _ => (fx_f_Mo_lookAtLoop_49  H_h2)) (fun _ => (fx_1i (fun _ => (fx_1i (fun _ => (fx_f_Mo_lookAtLoop_49  H_h2)) (fun _ => (fx_f_Mo_lookAtLoop_50  H_h2)))) (fun _ => fx_1n))))))
theorem fx_f_Mo_lookAtLoop {A : Nat → Nat → Int32} {h : zs_H} {x1 : Int32}  (H : fx_P A h) : fx_1 A (f_Mo_lookAtLoop h x1) := by
  unfold f_Mo_lookAtLoop
  exact (fx_1i (fun _ => (fx_O1 (fun v3 => (fx_1i (fun _ => (fx_f_Mo_lookAtLoop_25  H)) (fun _ => (fx_f_Mo_lookAtLoop_25  H)))))) (fun _ => fx_1n))
theorem fx_f_Mo_lookAtInstance_51 {A : Nat → Nat → Int32} {h : zs_H} {x1 : Int32} {y0 : Int32}  (H : fx_P A h) : fx_1 A (f_Mo_lookAtInstance_51 h x1 y0) := by
  unfold f_Mo_lookAtInstance_51
  exact (fx_b1 (fx_f_Mo_rule  H) (fun h2 H_h2 => (fx_1s H_h2)))
theorem fx_f_Mo_lookAtInstance_50 {A : Nat → Nat → Int32} {h : zs_H} {x1 : Int32}  (H : fx_P A h) : fx_1 A (f_Mo_lookAtInstance_50 h x1) := by
  unfold f_Mo_lookAtInstance_50
  exact (fx_f_Mo_lookAtInstance_51  H)
theorem fx_f_Mo_lookAtInstance_25 {A : Nat → Nat → Int32} {h : zs_H} {x1 : Int32} {x2 : Int32} {y0 : Int32}  (H : fx_P A h) : fx_1 A (f_Mo_lookAtInstance_25 h x1 x2 y0) := by
  unfold f_Mo_lookAtInstance_25
  exact (fx_b1 (fx_f_Mo_rule  H) (fun h2 H_h2 => (fx_1i (fun _ => (fx_f_Mo_lookAtInstance_50  H_h2)) (fun _ => (fx_1i (fun _ => (fx_1i (fun _ => (fx_f_Mo_lookAtInstance_50  H_h2)) (fun _ => (fx_f_Mo_lookAtInstance_51  H_h2)))) (fun _ => fx_1n))))))
theorem fx_f_Mo_lookAtInstance {A : Nat → Nat → Int32} {h : zs_H} {x1 : Int32}  (H : fx_P A h) : fx_1 A (f_Mo_lookAtInstance h x1) := by
  unfold f_Mo_lookAtInstance
  exact (fx_1i (fun _ => (fx_O1 (fun v3 => (fx_1i (fun _ => (fx_f_Mo_lookAtInstance_25  H)) (fun _ => (fx_f_Mo_lookAtInstance_25  H)))))) (fun _ => fx_1n))
theorem fx_f_Mo_lookAtRungs_260 {A : Nat → Nat → Int32} {h : zs_H} {x1 : Int32} {y0 : Int32}  (H : fx_P A h) : fx_1 A (f_Mo_lookAtRungs_260 h x1 y0) := by
  unfold f_Mo_lookAtRungs_260
  exact (fx_b1 (fx_f_Mo_rule  H) (fun h2 H_h2 => (fx_1s H_h2)))
theorem fx_f_Mo_lookAtRungs_215 {A : Nat → Nat → Int32} {h : zs_H} {x1 : Int32} {y0 : Int32}  (H : fx_P A h) : fx_1 A (f_Mo_lookAtRungs_215 h x1 y0) := by
  unfold f_Mo_lookAtRungs_215
  exact (fx_b1 (fx_f_Mo_rule  H) (fun h2 H_h2 => (fx_1i (fun _ => (fx_1i (fun _ => (fx_b1 (fx_f_Mo_lookAtAssigned  H_h2) (fun h6 H_h6 => (fx_1s H_h6)))) (fun _ => fx_1n))) (fun _ => fx_1n))))
theorem fx_f_Mo_lookAtRungs_189 {A : Nat → Nat → Int32} {h : zs_H} {x1 : Int32} {y0 : Int32}  (H : fx_P A h) : fx_1 A (f_Mo_lookAtRungs_189 h x1 y0) := by
  unfold f_Mo_lookAtRungs_189
  exact (fx_b1 (fx_f_Mo_rule  H) (fun h2 H_h2 => (fx_1i (fun _ => (fx_1i (fun _ => (fx_1i (fun _ => (fx_f_Mo_lookAtRungs_215  H_h2)) (fun _ => (fx_f_Mo_lookAtRungs_215  H_h2)))) (fun _ => fx_1n))) (fun _ => fx_1n))))
theorem fx_f_Mo_lookAtRungs_165 {A : Nat → Nat → Int32} {h : zs_H} {x1 : Int32} {y0 : Int32}  (H : fx_P A h) : fx_1 A (f_Mo_lookAtRungs_165 h x1 y0) := by
  unfold f_Mo_lookAtRungs_165
  exact (fx_b1 (fx_f_Mo_rule  H) (fun h2 H_h2 => (fx_1s H_h2)))
theorem fx_f_Mo_lookAtRungs_107 {A : Nat → Nat → Int32} {k60 : zs_H → Int32 → Int32 → Int32 → Int32 → (Option zs_H)} {h : zs_H} {x1 : Int32} {x2 : Int32} {x4 : Int32} {y0 : Int32} (H_k60 : ∀ z0 z1 z2 z3 z4, fx_P A z0 → fx_1 A (k60 z0 z1 z2 z3 z4)) (H : fx_P A h) : fx_1 A (f_Mo_lookAtRungs_107 k60 h x1 x2 x4 y0) := by
  unfold f_Mo_lookAtRungs_107
  exact (fx_1i (fun _ => (H_k60 _ _ _ _ _ H)) (fun _ => fx_1n))
theorem fx_f_Mo_lookAtRungs_102 {A : Nat → Nat → Int32} {k60 : zs_H → Int32 → Int32 → Int32 → Int32 → (Option zs_H)} {h : zs_H} {x1 : Int32} {x2 : Int32} {x4 : Int32} (H_k60 : ∀ z0 z1 z2 z3 z4, fx_P A z0 → fx_1 A (k60 z0 z1 z2 z3 z4)) (H : fx_P A h) : fx_1 A (f_Mo_lookAtRungs_102 k60 h x1 x2 x4) := by
  unfold f_Mo_lookAtRungs_102
  exact (fx_f_Mo_lookAtRungs_107 H_k60 H)
theorem fx_f_Mo_lookAtRungs_136 {A : Nat → Nat → Int32} {h : zs_H} {x1 : Int32} {y0 : Int32}  (H : fx_P A h) : fx_1 A (f_Mo_lookAtRungs_136 h x1 y0) := by
  unfold f_Mo_lookAtRungs_136
  exact (fx_b1 (fx_f_Mo_rule  H) (fun h2 H_h2 => (fx_1s H_h2)))
theorem fx_f_Mo_lookAtRungs_131 {A : Nat → Nat → Int32} {h : zs_H} {x1 : Int32}  (H : fx_P A h) : fx_1 A (f_Mo_lookAtRungs_131 h x1) := by
  unfold f_Mo_lookAtRungs_131
  exact (fx_f_Mo_lookAtRungs_136  H)
theorem fx_f_Mo_lookAtRungs_60 {A : Nat → Nat → Int32} {k60 : zs_H → Int32 → Int32 → Int32 → Int32 → (Option zs_H)} {h : zs_H} {x1 : Int32} {x2 : Int32} {x3 : Int32} {x4 : Int32} (H_k60 : ∀ z0 z1 z2 z3 z4, fx_P A z0 → fx_1 A (k60 z0 z1 z2 z3 z4)) (H : fx_P A h) : fx_1 A (f_Mo_lookAtRungs_60 k60 h x1 x2 x3 x4) := by
  unfold f_Mo_lookAtRungs_60
  exact (fx_1i (fun _ => (fx_1i (fun _ => (fx_1i (fun _ => (fx_f_Mo_lookAtRungs_136  H)) (fun _ => (fx_f_Mo_lookAtRungs_131  H)))) (fun _ => (fx_f_Mo_lookAtRungs_131  H)))) (fun _ => (fx_1i (fun _ => (fx_O1 (fun v6 => (fx_1i (fun _ => (fx_f_Mo_lookAtRungs_102 H_k60 H)) (fun _ => (fx_O1 (fun v9 => (fx_1i (fun _ => (fx_O1 (fun v12 => (fx_1i (fun _ => (fx_f_Mo_lookAtRungs_107 H_k60 H)) (fun _ => (fx_f_Mo_lookAtRungs_102 H_k60 H)))))) (fun _ => fx_1n))))))))) (fun _ => (fx_f_Mo_lookAtRungs_102 H_k60 H)))))
theorem fx_f_Mo_lookAtRungs_L60 {A : Nat → Nat → Int32}   : ∀ (N : Nat) (h : zs_H) (x1 : Int32) (x2 : Int32) (x3 : Int32) (x4 : Int32), fx_P A h → fx_1 A (f_Mo_lookAtRungs_L60  N h x1 x2 x3 x4) := by
  intro N
  induction N with
  | zero => intro h x1 x2 x3 x4 _; exact fx_1n
  | succ N ih =>
    intro h x1 x2 x3 x4 H
    exact fx_f_Mo_lookAtRungs_60  (fun b0 b1 b2 b3 b4 z => ih b0 b1 b2 b3 b4 z) H
theorem fx_f_Mo_lookAtRungs_L60' {A : Nat → Nat → Int32}   {N : Nat} {h : zs_H} {x1 : Int32} {x2 : Int32} {x3 : Int32} {x4 : Int32} (H : fx_P A h) : fx_1 A (f_Mo_lookAtRungs_L60  N h x1 x2 x3 x4) := fx_f_Mo_lookAtRungs_L60  N h x1 x2 x3 x4 H
theorem fx_f_Mo_lookAtRungs {A : Nat → Nat → Int32} {h : zs_H} {x1 : Int32}  (H : fx_P A h) : fx_1 A (f_Mo_lookAtRungs h x1) := by
  unfold f_Mo_lookAtRungs
  exact (fx_1i (fun _ => (fx_1i (fun _ => (fx_f_Mo_lookAtRungs_L60'  H)) (fun _ => (fx_1i (fun _ => (fx_1i (fun _ => (fx_1i (fun _ => (fx_f_Mo_lookAtRungs_165  H)) (fun _ => (fx_f_Mo_lookAtRungs_165  H)))) (fun _ => fx_1n))) (fun _ => (fx_1i (fun _ => (fx_1i (fun _ => (fx_f_Mo_lookAtRungs_189  H)) (fun _ => (fx_f_Mo_lookAtRungs_189  H)))) (fun _ => (fx_1i (fun _ => (fx_1i (fun _ => (fx_1i (fun _ => (fx_f_Mo_lookAtRungs_260  H)) (fun _ => (fx_f_Mo_lookAtRungs_260  H)))) (fun _ => fx_1n))) (fun _ => (fx_1s H)))))))))) (fun _ => fx_1n))
theorem fx_f_Mo_lookAtTwo_132 {A : Nat → Nat → Int32} {h : zs_H} {y0 : Int32} {y1 : Int32}  (H : fx_P A h) : fx_1 A (f_Mo_lookAtTwo_132 h y0 y1) := by
  unfold f_Mo_lookAtTwo_132
  exact (fx_1i (fun _ => (fx_1s (fx_uM (by decide) H))) (fun _ => fx_1n))
theorem fx_f_Mo_lookAtTwo_118 {A : Nat → Nat → Int32} {h : zs_H} {x2 : Int32} {x3 : Int32} {x6 : Int32} {y0 : Int32}  (H : fx_P A h) : fx_1 A (f_Mo_lookAtTwo_118 h x2 x3 x6 y0) := by
  unfold f_Mo_lookAtTwo_118
  exact (fx_1i (fun _ => (fx_f_Mo_lookAtTwo_132  H)) (fun _ => (fx_f_Mo_lookAtTwo_132  H)))
theorem fx_f_Mo_lookAtTwo_90 {A : Nat → Nat → Int32} {h : zs_H} {x1 : Int32} {x2 : Int32} {x3 : Int32} {x4 : Int32} {x6 : Int32} {y0 : Int32}  (H : fx_P A h) : fx_1 A (f_Mo_lookAtTwo_90 h x1 x2 x3 x4 x6 y0) := by
  unfold f_Mo_lookAtTwo_90
  exact (fx_b1 (fx_f_Mo_rule  H) (fun h2 H_h2 => (fx_1i (fun _ => (fx_f_Mo_lookAtTwo_118  H_h2)) (fun _ => (fx_1i (fun _ => (fx_f_Mo_lookAtTwo_118  H_h2)) (fun _ => (fx_f_Mo_lookAtTwo_132  H_h2)))))))
theorem fx_f_Mo_lookAtTwo_85 {A : Nat → Nat → Int32} {h : zs_H} {x1 : Int32} {x2 : Int32} {x3 : Int32} {x4 : Int32} {x6 : Int32}  (H : fx_P A h) : fx_1 A (f_Mo_lookAtTwo_85 h x1 x2 x3 x4 x6) := by
  unfold f_Mo_lookAtTwo_85
  exact (fx_f_Mo_lookAtTwo_90  H)
theorem fx_f_Mo_lookAtTwo_89 {A : Nat → Nat → Int32} {h : zs_H} {x1 : Int32} {x2 : Int32} {x3 : Int32} {x4 : Int32} {x6 : Int32}  (H : fx_P A h) : fx_1 A (f_Mo_lookAtTwo_89 h x1 x2 x3 x4 x6) := by
  unfold f_Mo_lookAtTwo_89
  exact (fx_f_Mo_lookAtTwo_90  H)
theorem fx_f_Mo_lookAtTwo_66 {A : Nat → Nat → Int32} {h : zs_H} {x1 : Int32} {x2 : Int32} {x3 : Int32} {x4 : Int32} {x5 : Int32} {y0 : Int32}  (H : fx_P A h) : fx_1 A (f_Mo_lookAtTwo_66 h x1 x2 x3 x4 x5 y0) := by
  unfold f_Mo_lookAtTwo_66
  exact (fx_1i (fun _ => (fx_1i (fun _ => (fx_f_Mo_lookAtTwo_85  H)) (fun _ => (fx_1i (fun _ => (fx_f_Mo_lookAtTwo_89  H)) (fun _ => (fx_f_Mo_lookAtTwo_85  H)))))) (fun _ => (fx_f_Mo_lookAtTwo_89  H)))
theorem fx_f_Mo_lookAtTwo_65 {A : Nat → Nat → Int32} {h : zs_H} {x1 : Int32} {x2 : Int32} {x3 : Int32} {x4 : Int32} {x5 : Int32}  (H : fx_P A h) : fx_1 A (f_Mo_lookAtTwo_65 h x1 x2 x3 x4 x5) := by
  unfold f_Mo_lookAtTwo_65
  exact (fx_f_Mo_lookAtTwo_66  H)
theorem fx_f_Mo_lookAtTwo_51 {A : Nat → Nat → Int32} {h : zs_H} {x1 : Int32} {x2 : Int32} {x3 : Int32} {x4 : Int32} {y0 : Int32}  (H : fx_P A h) : fx_1 A (f_Mo_lookAtTwo_51 h x1 x2 x3 x4 y0) := by
  unfold f_Mo_lookAtTwo_51
  exact (fx_1i (fun _ => (fx_1i (fun _ => (fx_f_Mo_lookAtTwo_66  H)) (fun _ => (fx_f_Mo_lookAtTwo_65  H)))) (fun _ => (fx_f_Mo_lookAtTwo_65  H)))
theorem fx_f_Mo_lookAtTwo_50 {A : Nat → Nat → Int32} {h : zs_H} {x1 : Int32} {x2 : Int32} {x3 : Int32} {x4 : Int32}  (H : fx_P A h) : fx_1 A (f_Mo_lookAtTwo_50 h x1 x2 x3 x4) := by
  unfold f_Mo_lookAtTwo_50
  exact (fx_f_Mo_lookAtTwo_51  H)
theorem fx_f_Mo_lookAtTwo {A : Nat → Nat → Int32} {h : zs_H} {x1 : Int32}  (H : fx_P A h) : fx_1 A (f_Mo_lookAtTwo h x1) := by
  unfold f_Mo_lookAtTwo
  exact (fx_1i (fun _ => (fx_1i (fun _ => (fx_1i (fun _ => (fx_1i (fun _ => (fx_f_Mo_lookAtTwo_50  H)) (fun _ => (fx_1i (fun _ => (fx_f_Mo_lookAtTwo_50  H)) (fun _ => (fx_f_Mo_lookAtTwo_51  H)))))) (fun _ => fx_1n))) (fun _ => fx_1n))) (fun _ => fx_1n))
theorem fx_f_Mo_callOwn_75 {A : Nat → Nat → Int32} {k32 : zs_H → Int32 → Int32 → Int32 → Int32 → (Option zs_H)} {h : zs_H} {x1 : Int32} {x2 : Int32} {x4 : Int32} {x5 : Int32} {y0 : Int32} (H_k32 : ∀ z0 z1 z2 z3 z4, fx_P A z0 → fx_1 A (k32 z0 z1 z2 z3 z4)) (H : fx_P A h) : fx_1 A (f_Mo_callOwn_75 k32 h x1 x2 x4 x5 y0) := by
  unfold f_Mo_callOwn_75
  exact (fx_b1 (fx_f_Mo_rule  H) (fun h2 H_h2 => (fx_1i (fun _ => (H_k32 _ _ _ _ _ H_h2)) (fun _ => fx_1n))))
theorem fx_f_Mo_callOwn_96 {A : Nat → Nat → Int32} {h : zs_H} {x1 : Int32} {x2 : Int32}  (H : fx_P A h) : fx_1 A (f_Mo_callOwn_96 h x1 x2) := by
  unfold f_Mo_callOwn_96
  exact (fx_1i (fun _ => (fx_1i (fun _ => (fx_1s (fx_uM (by decide) (fx_uM (by decide) H)))) (fun _ => fx_1n))) (fun _ => fx_1n))
theorem fx_f_Mo_callOwn_32 {A : Nat → Nat → Int32} {k32 : zs_H → Int32 → Int32 → Int32 → Int32 → (Option zs_H)} {h : zs_H} {x1 : Int32} {x2 : Int32} {x4 : Int32} {x5 : Int32} (H_k32 : ∀ z0 z1 z2 z3 z4, fx_P A z0 → fx_1 A (k32 z0 z1 z2 z3 z4)) (H : fx_P A h) : fx_1 A (f_Mo_callOwn_32 k32 h x1 x2 x4 x5) := by
  unfold f_Mo_callOwn_32
  exact (fx_1i (fun _ => (fx_f_Mo_callOwn_96  H)) (fun _ => (fx_1i (fun _ => (fx_1i (fun _ => (fx_O1 (fun v5 => (fx_1i (fun _ => (fx_1i (fun _ => (fx_f_Mo_callOwn_75 H_k32 H)) (fun _ => (fx_f_Mo_callOwn_75 H_k32 H)))) (fun _ => fx_1n))))) (fun _ => fx_1n))) (fun _ => (fx_f_Mo_callOwn_96  H)))))
theorem fx_f_Mo_callOwn_L32 {A : Nat → Nat → Int32}   : ∀ (N : Nat) (h : zs_H) (x1 : Int32) (x2 : Int32) (x3 : Int32) (x4 : Int32), fx_P A h → fx_1 A (f_Mo_callOwn_L32  N h x1 x2 x3 x4) := by
  intro N
  induction N with
  | zero => intro h x1 x2 x3 x4 _; exact fx_1n
  | succ N ih =>
    intro h x1 x2 x3 x4 H
    exact fx_f_Mo_callOwn_32  (fun b0 b1 b2 b3 b4 z => ih b0 b1 b2 b3 b4 z) H
theorem fx_f_Mo_callOwn_L32' {A : Nat → Nat → Int32}   {N : Nat} {h : zs_H} {x1 : Int32} {x2 : Int32} {x3 : Int32} {x4 : Int32} (H : fx_P A h) : fx_1 A (f_Mo_callOwn_L32  N h x1 x2 x3 x4) := fx_f_Mo_callOwn_L32  N h x1 x2 x3 x4 H
theorem fx_f_Mo_callOwn_15 {A : Nat → Nat → Int32} {h : zs_H} {x1 : Int32} {x2 : Int32} {y0 : Int32}  (H : fx_P A h) : fx_1 A (f_Mo_callOwn_15 h x1 x2 y0) := by
  unfold f_Mo_callOwn_15
  exact (fx_b1 (fx_f_Mo_rule  H) (fun h2 H_h2 => (fx_1i (fun _ => (fx_f_Mo_callOwn_L32'  H_h2)) (fun _ => fx_1n))))
theorem fx_f_Mo_callOwn {A : Nat → Nat → Int32} {h : zs_H} {x1 : Int32} {x2 : Int32} {x3 : Int32}  (H : fx_P A h) : fx_1 A (f_Mo_callOwn h x1 x2 x3) := by
  unfold f_Mo_callOwn
  exact (fx_O1 (fun v2 => (fx_1i (fun _ => (fx_f_Mo_callOwn_15  H)) (fun _ => (fx_f_Mo_callOwn_15  H)))))
theorem fx_f_Mo_lookAtCall_117 {A : Nat → Nat → Int32} {k86 : zs_H → Int32 → Int32 → Int32 → Int32 → Int32 → Int32 → Int32 → (Option zs_H)} {h : zs_H} {x1 : Int32} {x2 : Int32} {x3 : Int32} {x4 : Int32} {x6 : Int32} {x7 : Int32} {y0 : Int32} (H_k86 : ∀ z0 z1 z2 z3 z4 z5 z6 z7, fx_P A z0 → fx_1 A (k86 z0 z1 z2 z3 z4 z5 z6 z7)) (H : fx_P A h) : fx_1 A (f_Mo_lookAtCall_117 k86 h x1 x2 x3 x4 x6 x7 y0) := by
  unfold f_Mo_lookAtCall_117
  exact (fx_1i (fun _ => (H_k86 _ _ _ _ _ _ _ _ H)) (fun _ => fx_1n))
theorem fx_f_Mo_lookAtCall_116 {A : Nat → Nat → Int32} {k86 : zs_H → Int32 → Int32 → Int32 → Int32 → Int32 → Int32 → Int32 → (Option zs_H)} {h : zs_H} {x1 : Int32} {x2 : Int32} {x3 : Int32} {x4 : Int32} {x6 : Int32} {x7 : Int32} (H_k86 : ∀ z0 z1 z2 z3 z4 z5 z6 z7, fx_P A z0 → fx_1 A (k86 z0 z1 z2 z3 z4 z5 z6 z7)) (H : fx_P A h) : fx_1 A (f_Mo_lookAtCall_116 k86 h x1 x2 x3 x4 x6 x7) := by
  unfold f_Mo_lookAtCall_116
  exact (fx_f_Mo_lookAtCall_117 H_k86 H)
theorem fx_f_Mo_lookAtCall_324 {A : Nat → Nat → Int32} {h : zs_H} {x1 : Int32} {x7 : Int32} {x8 : Int32} {y0 : Int32}  (H : fx_P A h) : fx_1 A (f_Mo_lookAtCall_324 h x1 x7 x8 y0) := by
  unfold f_Mo_lookAtCall_324
  exact (fx_b1 (fx_f_Mo_rule  H) (fun h2 H_h2 => (fx_1i (fun _ => (fx_1s (fx_uM (by decide) H_h2))) (fun _ => fx_1n))))
theorem fx_f_Mo_lookAtCall_319 {A : Nat → Nat → Int32} {h : zs_H} {x1 : Int32} {x7 : Int32} {x8 : Int32}  (H : fx_P A h) : fx_1 A (f_Mo_lookAtCall_319 h x1 x7 x8) := by
  unfold f_Mo_lookAtCall_319
  exact (fx_f_Mo_lookAtCall_324  H)
theorem fx_f_Mo_lookAtCall_297 {A : Nat → Nat → Int32} {h : zs_H} {x1 : Int32} {x7 : Int32} {x8 : Int32} {y0 : Int32}  (H : fx_P A h) : fx_1 A (f_Mo_lookAtCall_297 h x1 x7 x8 y0) := by
  unfold f_Mo_lookAtCall_297
  exact (fx_1i (fun _ => (fx_1i (fun _ => (fx_1i (fun _ => (fx_1i (fun _ => (fx_f_Mo_lookAtCall_319  H)) (fun _ => (fx_f_Mo_lookAtCall_324  H)))) (fun _ => (fx_f_Mo_lookAtCall_319  H)))) (fun _ => fx_1n))) (fun _ => fx_1n))
theorem fx_f_Mo_lookAtCall_292 {A : Nat → Nat → Int32} {h : zs_H} {x1 : Int32} {x7 : Int32} {x8 : Int32}  (H : fx_P A h) : fx_1 A (f_Mo_lookAtCall_292 h x1 x7 x8) := by
  unfold f_Mo_lookAtCall_292
  exact (fx_f_Mo_lookAtCall_297  H)
theorem fx_f_Mo_lookAtCall_296 {A : Nat → Nat → Int32} {h : zs_H} {x1 : Int32} {x7 : Int32} {x8 : Int32}  (H : fx_P A h) : fx_1 A (f_Mo_lookAtCall_296 h x1 x7 x8) := by
  unfold f_Mo_lookAtCall_296
  exact (fx_f_Mo_lookAtCall_297  H)
theorem fx_f_Mo_lookAtCall_276 {A : Nat → Nat → Int32} {h : zs_H} {x1 : Int32} {x7 : Int32} {x8 : Int32}  (H : fx_P A h) : fx_1 A (f_Mo_lookAtCall_276 h x1 x7 x8) := by
  unfold f_Mo_lookAtCall_276
  exact (fx_1i (fun _ => (fx_f_Mo_lookAtCall_296  H)) (fun _ => (fx_1i (fun _ => (fx_f_Mo_lookAtCall_296  H)) (fun _ => (fx_f_Mo_lookAtCall_292  H)))))
theorem fx_f_Mo_lookAtCall_424 {A : Nat → Nat → Int32} {h : zs_H} {y0 : Int32} {y1 : Int32}  (H : fx_P A h) : fx_1 A (f_Mo_lookAtCall_424 h y0 y1) := by
  unfold f_Mo_lookAtCall_424
  exact (fx_1i (fun _ => (fx_1s (fx_uM (by decide) H))) (fun _ => fx_1n))
theorem fx_f_Mo_lookAtCall_369 {A : Nat → Nat → Int32} {h : zs_H} {x1 : Int32} {x2 : Int32} {x6 : Int32} {y0 : Int32}  (H : fx_P A h) : fx_1 A (f_Mo_lookAtCall_369 h x1 x2 x6 y0) := by
  unfold f_Mo_lookAtCall_369
  exact (fx_b1 (fx_f_Mo_rule  H) (fun h2 H_h2 => (fx_1i (fun _ => (fx_1i (fun _ => (fx_1i (fun _ => (fx_f_Mo_lookAtCall_424  H_h2)) (fun _ => (fx_f_Mo_lookAtCall_424  H_h2)))) (fun _ => (fx_1i (fun _ => (fx_1i (fun _ => (fx_f_Mo_lookAtCall_424  H_h2)) (fun _ => fx_1n))) (fun _ => fx_1n))))) (fun _ => (fx_f_Mo_lookAtCall_424  H_h2)))))
theorem fx_f_Mo_lookAtCall_368 {A : Nat → Nat → Int32} {h : zs_H} {x1 : Int32} {x2 : Int32} {x6 : Int32}  (H : fx_P A h) : fx_1 A (f_Mo_lookAtCall_368 h x1 x2 x6) := by
  unfold f_Mo_lookAtCall_368
  exact (fx_f_Mo_lookAtCall_369  H)
theorem fx_f_Mo_lookAtCall_206 {A : Nat → Nat → Int32} {h : zs_H} {x1 : Int32} {x2 : Int32} {x5 : Int32} {x6 : Int32} {y0 : Int32}  (H : fx_P A h) : fx_1 A (f_Mo_lookAtCall_206 h x1 x2 x5 x6 y0) := by
  unfold f_Mo_lookAtCall_206
  exact (fx_b1 (fx_f_Mo_rule  H) (fun h2 H_h2 => (fx_1i (fun _ => (fx_1i (fun _ => (fx_1i (fun _ => (fx_1i (fun _ => (fx_1i (fun _ => (fx_1i (fun _ => (fx_1i (fun _ => (fx_1i (fun _ => (fx_f_Mo_lookAtCall_292  (fx_uM (by decide) H_h2))) (fun _ => (fx_f_Mo_lookAtCall_276  (fx_uM (by decide) H_h2))))) (fun _ => (fx_f_Mo_lookAtCall_276  (fx_uM (by decide) H_h2))))) (fun _ => fx_1n))) (fun _ => fx_1n))) (fun _ => fx_1n))) (fun _ => (fx_1i (fun _ => (fx_f_Mo_lookAtCall_368  (fx_uM (by decide) H_h2))) (fun _ => (fx_1i (fun _ => (fx_f_Mo_lookAtCall_368  (fx_uM (by decide) H_h2))) (fun _ => (fx_1i (fun _ => (fx_f_Mo_lookAtCall_369  (fx_uM (by decide) H_h2))) (fun _ => (fx_f_Mo_lookAtCall_368  (fx_uM (by decide) H_h2))))))))))) (fun _ => fx_1n))) (fun _ => (fx_1s H_h2)))))
theorem fx_f_Mo_lookAtCall_198 {A : Nat → Nat → Int32} {h : zs_H} {x1 : Int32} {x2 : Int32} {x5 : Int32} {x6 : Int32} {y0 : Int32} {y1 : Int32}  (H : fx_P A h) : fx_1 A (f_Mo_lookAtCall_198 h x1 x2 x5 x6 y0 y1) := by
  unfold f_Mo_lookAtCall_198
  exact (fx_1i (fun _ => (fx_f_Mo_lookAtCall_206  H)) (fun _ => (fx_f_Mo_lookAtCall_206  H)))
theorem fx_f_Mo_lookAtCall_179 {A : Nat → Nat → Int32} {h : zs_H} {x1 : Int32} {x2 : Int32} {x5 : Int32} {x6 : Int32} {y0 : Int32}  (H : fx_P A h) : fx_1 A (f_Mo_lookAtCall_179 h x1 x2 x5 x6 y0) := by
  unfold f_Mo_lookAtCall_179
  exact (fx_f_Mo_lookAtCall_198  H)
theorem fx_f_Mo_lookAtCall_193 {A : Nat → Nat → Int32} {h : zs_H} {x1 : Int32} {x2 : Int32} {x5 : Int32} {x6 : Int32} {y0 : Int32}  (H : fx_P A h) : fx_1 A (f_Mo_lookAtCall_193 h x1 x2 x5 x6 y0) := by
  unfold f_Mo_lookAtCall_193
  exact (fx_f_Mo_lookAtCall_198  H)
theorem fx_f_Mo_lookAtCall_86 {A : Nat → Nat → Int32} {k86 : zs_H → Int32 → Int32 → Int32 → Int32 → Int32 → Int32 → Int32 → (Option zs_H)} {h : zs_H} {x1 : Int32} {x2 : Int32} {x3 : Int32} {x4 : Int32} {x5 : Int32} {x6 : Int32} {x7 : Int32} (H_k86 : ∀ z0 z1 z2 z3 z4 z5 z6 z7, fx_P A z0 → fx_1 A (k86 z0 z1 z2 z3 z4 z5 z6 z7)) (H : fx_P A h) : fx_1 A (f_Mo_lookAtCall_86 k86 h x1 x2 x3 x4 x5 x6 x7) := by
  unfold f_Mo_lookAtCall_86
  exact (fx_1i (fun _ => (fx_1i (fun _ => (fx_1i (fun _ => (fx_1i (fun _ => (fx_f_Mo_lookAtCall_179  H)) (fun _ => (fx_1i (fun _ => (fx_1i (fun _ => (fx_f_Mo_lookAtCall_193  H)) (fun _ => (fx_1i (fun _ => (fx_f_Mo_lookAtCall_193  H)) (fun _ => (fx_f_Mo_lookAtCall_198  H)))))) (fun _ => (fx_f_Mo_lookAtCall_179  H)))))) (fun _ => (fx_b1 (fx_f_Mo_callOwn  H) (fun h9 H_h9 => (fx_1s H_h9)))))) (fun _ => (fx_1s H)))) (fun _ => (fx_1i (fun _ => (fx_f_Mo_lookAtCall_116 H_k86 H)) (fun _ => (fx_1i (fun _ => (fx_1i (fun _ => (fx_f_Mo_lookAtCall_116 H_k86 H)) (fun _ => (fx_f_Mo_lookAtCall_117 H_k86 H)))) (fun _ => fx_1n))))))
theorem fx_f_Mo_lookAtCall_L86 {A : Nat → Nat → Int32}   : ∀ (N : Nat) (h : zs_H) (x1 : Int32) (x2 : Int32) (x3 : Int32) (x4 : Int32) (x5 : Int32) (x6 : Int32) (x7 : Int32), fx_P A h → fx_1 A (f_Mo_lookAtCall_L86  N h x1 x2 x3 x4 x5 x6 x7) := by
  intro N
  induction N with
  | zero => intro h x1 x2 x3 x4 x5 x6 x7 _; exact fx_1n
  | succ N ih =>
    intro h x1 x2 x3 x4 x5 x6 x7 H
    exact fx_f_Mo_lookAtCall_86  (fun b0 b1 b2 b3 b4 b5 b6 b7 z => ih b0 b1 b2 b3 b4 b5 b6 b7 z) H
theorem fx_f_Mo_lookAtCall_L86' {A : Nat → Nat → Int32}   {N : Nat} {h : zs_H} {x1 : Int32} {x2 : Int32} {x3 : Int32} {x4 : Int32} {x5 : Int32} {x6 : Int32} {x7 : Int32} (H : fx_P A h) : fx_1 A (f_Mo_lookAtCall_L86  N h x1 x2 x3 x4 x5 x6 x7) := fx_f_Mo_lookAtCall_L86  N h x1 x2 x3 x4 x5 x6 x7 H
theorem fx_f_Mo_lookAtCall_63 {A : Nat → Nat → Int32} {h : zs_H} {x1 : Int32} {x2 : Int32} {x3 : Int32} {y0 : Int32}  (H : fx_P A h) : fx_1 A (f_Mo_lookAtCall_63 h x1 x2 x3 y0) := by
  unfold f_Mo_lookAtCall_63
  exact (fx_b1 (fx_f_Mo_rule  H) (fun h2 H_h2 => (fx_1i (fun _ => (fx_f_Mo_lookAtCall_L86'  H_h2)) (fun _ => fx_1n))))
theorem fx_f_Mo_lookAtCall_62 {A : Nat → Nat → Int32} {h : zs_H} {x1 : Int32} {x2 : Int32} {x3 : Int32}  (H : fx_P A h) : fx_1 A (f_Mo_lookAtCall_62 h x1 x2 x3) := by
  unfold f_Mo_lookAtCall_62
  exact (fx_f_Mo_lookAtCall_63  H)
theorem fx_f_Mo_lookAtCall_48 {A : Nat → Nat → Int32} {h : zs_H} {x1 : Int32} {x2 : Int32} {y0 : Int32}  (H : fx_P A h) : fx_1 A (f_Mo_lookAtCall_48 h x1 x2 y0) := by
  unfold f_Mo_lookAtCall_48
  exact (fx_1i (fun _ => (fx_f_Mo_lookAtCall_62  H)) (fun _ => (fx_1i (fun _ => (fx_f_Mo_lookAtCall_62  H)) (fun _ => (fx_f_Mo_lookAtCall_63  H)))))
theorem fx_f_Mo_lookAtCall_47 {A : Nat → Nat → Int32} {h : zs_H} {x1 : Int32} {x2 : Int32}  (H : fx_P A h) : fx_1 A (f_Mo_lookAtCall_47 h x1 x2) := by
  unfold f_Mo_lookAtCall_47
  exact (fx_f_Mo_lookAtCall_48  H)
theorem fx_f_Mo_lookAtCall {A : Nat → Nat → Int32} {h : zs_H} {x1 : Int32}  (H : fx_P A h) : fx_1 A (f_Mo_lookAtCall h x1) := by
  unfold f_Mo_lookAtCall
  exact (fx_1i (fun _ => (fx_O1 (fun v3 => (fx_O1 (fun v5 => (fx_1i (fun _ => (fx_f_Mo_lookAtCall_47  H)) (fun _ => (fx_1i (fun _ => (fx_1i (fun _ => (fx_f_Mo_lookAtCall_48  H)) (fun _ => (fx_f_Mo_lookAtCall_47  H)))) (fun _ => fx_1n))))))))) (fun _ => fx_1n))
theorem fx_f_Mo_lookAtElement_80 {A : Nat → Nat → Int32} {h : zs_H} {x1 : Int32} {x2 : Int32} {y0 : Int32}  (H : fx_P A h) : fx_1 A (f_Mo_lookAtElement_80 h x1 x2 y0) := by
  unfold f_Mo_lookAtElement_80
  exact (fx_b1 (fx_f_Mo_rule  H) (fun h2 H_h2 => (fx_1i (fun _ => (fx_1i (fun _ => (fx_1i (fun _ => (fx_1s (fx_uM (by decide) (fx_uM (by decide) H_h2)))) (fun _ => fx_1n))) (fun _ => fx_1n))) (fun _ => (fx_1s H_h2)))))
theorem fx_f_Mo_lookAtElement_51 {A : Nat → Nat → Int32} {h : zs_H} {x1 : Int32} {x2 : Int32} {y0 : Int32}  (H : fx_P A h) : fx_1 A (f_Mo_lookAtElement_51 h x1 x2 y0) := by
  unfold f_Mo_lookAtElement_51
  exact (fx_b1 (fx_f_Mo_rule  H) (fun h2 H_h2 => (fx_1i (fun _ => (fx_1i (fun _ => (fx_1i (fun _ => (fx_f_Mo_lookAtElement_80  H_h2)) (fun _ => (fx_f_Mo_lookAtElement_80  H_h2)))) (fun _ => fx_1n))) (fun _ => fx_1n))))
theorem fx_f_Mo_lookAtElement_50 {A : Nat → Nat → Int32} {h : zs_H} {x1 : Int32} {x2 : Int32}  (H : fx_P A h) : fx_1 A (f_Mo_lookAtElement_50 h x1 x2) := by
  unfold f_Mo_lookAtElement_50
  exact (fx_f_Mo_lookAtElement_51  H)
theorem fx_f_Mo_lookAtElement_25 {A : Nat → Nat → Int32} {h : zs_H} {x1 : Int32} {x2 : Int32} {y0 : Int32}  (H : fx_P A h) : fx_1 A (f_Mo_lookAtElement_25 h x1 x2 y0) := by
  unfold f_Mo_lookAtElement_25
  exact (fx_b1 (fx_f_Mo_rule  H) (fun h2 H_h2 => (fx_1i (fun _ => (fx_f_Mo_lookAtElement_50  H_h2)) (fun _ => (fx_1i (fun _ => (fx_1i (fun _ => (fx_f_Mo_lookAtElement_50  H_h2)) (fun _ => (fx_f_Mo_lookAtElement_51  H_h2)))) (fun _ => fx_1n))))))
theorem fx_f_Mo_lookAtElement {A : Nat → Nat → Int32} {h : zs_H} {x1 : Int32}  (H : fx_P A h) : fx_1 A (f_Mo_lookAtElement h x1) := by
  unfold f_Mo_lookAtElement
  exact (fx_1i (fun _ => (fx_O1 (fun v3 => (fx_1i (fun _ => (fx_f_Mo_lookAtElement_25  H)) (fun _ => (fx_f_Mo_lookAtElement_25  H)))))) (fun _ => fx_1n))
theorem fx_f_Mo_lookAtParameter_110 {A : Nat → Nat → Int32} {k82 : zs_H → Int32 → Int32 → Int32 → Int32 → (Option zs_H)} {h : zs_H} {x1 : Int32} {x2 : Int32} {x3 : Int32} {x4 : Int32} {y0 : Int32} (H_k82 : ∀ z0 z1 z2 z3 z4, fx_P A z0 → fx_1 A (k82 z0 z1 z2 z3 z4)) (H : fx_P A h) : fx_1 A (f_Mo_lookAtParameter_110 k82 h x1 x2 x3 x4 y0) := by
  unfold f_Mo_lookAtParameter_110
  exact (fx_b1 (fx_f_Mo_rule  H) (fun h2 H_h2 => (fx_1i (fun _ => (H_k82 _ _ _ _ _ H_h2)) (fun _ => fx_1n))))
theorem fx_f_Mo_lookAtParameter_170 {A : Nat → Nat → Int32} {h : zs_H} {x1 : Int32} {x2 : Int32} {x3 : Int32} {y0 : Int32}  (H : fx_P A h) : fx_1 A (f_Mo_lookAtParameter_170 h x1 x2 x3 y0) := by
  unfold f_Mo_lookAtParameter_170
  exact (fx_b1 (fx_f_Mo_rule  H) (fun h2 H_h2 => (fx_1i (fun _ => (fx_O1 (fun v5 => (fx_1i (fun _ => (fx_1s (fx_uM (by decide) H_h2))) (fun _ => fx_1n))))) (fun _ => fx_1n))))
theorem fx_f_Mo_lookAtParameter_82 {A : Nat → Nat → Int32} {k82 : zs_H → Int32 → Int32 → Int32 → Int32 → (Option zs_H)} {h : zs_H} {x1 : Int32} {x2 : Int32} {x3 : Int32} {x4 : Int32} (H_k82 : ∀ z0 z1 z2 z3 z4, fx_P A z0 → fx_1 A (k82 z0 z1 z2 z3 z4)) (H : fx_P A h) : fx_1 A (f_Mo_lookAtParameter_82 k82 h x1 x2 x3 x4) := by
  unfold f_Mo_lookAtParameter_82
  exact (fx_1i (fun _ => (fx_1i (fun _ => (fx_1i (fun _ => (fx_1i (fun _ => (fx_1i (fun _ => (fx_O1 (fun v7 => (fx_1i (fun _ => (fx_f_Mo_lookAtParameter_170  H)) (fun _ => (fx_f_Mo_lookAtParameter_170  H)))))) (fun _ => fx_1n))) (fun _ => fx_1n))) (fun _ => fx_1n))) (fun _ => (fx_1s H)))) (fun _ => (fx_1i (fun _ => (fx_1i (fun _ => (fx_1i (fun _ => (fx_f_Mo_lookAtParameter_110 H_k82 H)) (fun _ => (fx_f_Mo_lookAtParameter_110 H_k82 H)))) (fun _ => fx_1n))) (fun _ => fx_1n))))
theorem fx_f_Mo_lookAtParameter_L82 {A : Nat → Nat → Int32}   : ∀ (N : Nat) (h : zs_H) (x1 : Int32) (x2 : Int32) (x3 : Int32) (x4 : Int32), fx_P A h → fx_1 A (f_Mo_lookAtParameter_L82  N h x1 x2 x3 x4) := by
  intro N
  induction N with
  | zero => intro h x1 x2 x3 x4 _; exact fx_1n
  | succ N ih =>
    intro h x1 x2 x3 x4 H
    exact fx_f_Mo_lookAtParameter_82  (fun b0 b1 b2 b3 b4 z => ih b0 b1 b2 b3 b4 z) H
theorem fx_f_Mo_lookAtParameter_L82' {A : Nat → Nat → Int32}   {N : Nat} {h : zs_H} {x1 : Int32} {x2 : Int32} {x3 : Int32} {x4 : Int32} (H : fx_P A h) : fx_1 A (f_Mo_lookAtParameter_L82  N h x1 x2 x3 x4) := fx_f_Mo_lookAtParameter_L82  N h x1 x2 x3 x4 H
theorem fx_f_Mo_lookAtParameter_63 {A : Nat → Nat → Int32} {h : zs_H} {x1 : Int32} {x2 : Int32} {x3 : Int32} {y0 : Int32}  (H : fx_P A h) : fx_1 A (f_Mo_lookAtParameter_63 h x1 x2 x3 y0) := by
  unfold f_Mo_lookAtParameter_63
  exact (fx_b1 (fx_f_Mo_rule  H) (fun h2 H_h2 => (fx_1i (fun _ => (fx_1i (fun _ => (fx_f_Mo_lookAtParameter_L82'  H_h2)) (fun _ => fx_1n))) (fun _ => fx_1n))))
theorem fx_f_Mo_lookAtParameter {A : Nat → Nat → Int32} {h : zs_H} {x1 : Int32}  (H : fx_P A h) : fx_1 A (f_Mo_lookAtParameter h x1) := by
  unfold f_Mo_lookAtParameter
  exact (fx_1i (fun _ => (fx_1i (fun _ => (fx_O1 (fun v4 => (fx_1i (fun _ => (fx_1s H)) (fun _ => (fx_1i (fun _ => (fx_1i (fun _ => (fx_O1 (fun v9 => (fx_1i (fun _ => (fx_f_Mo_lookAtParameter_63  H)) (fun _ => (fx_f_Mo_lookAtParameter_63  H)))))) (fun _ => (fx_1s H)))) (fun _ => fx_1n))))))) (fun _ => fx_1n))) (fun _ => fx_1n))
theorem fx_f_Mo_lookAtStatements_413 {A : Nat → Nat → Int32} {k389 : zs_H → Int32 → Int32 → Int32 → (Option zs_H)} {h : zs_H} {x1 : Int32} {x3 : Int32} {y0 : Int32} (H_k389 : ∀ z0 z1 z2 z3, fx_P A z0 → fx_1 A (k389 z0 z1 z2 z3)) (H : fx_P A h) : fx_1 A (f_Mo_lookAtStatements_413 k389 h x1 x3 y0) := by
  unfold f_Mo_lookAtStatements_413
  exact (fx_1i (fun _ => (H_k389 _ _ _ _ H)) (fun _ => fx_1n))
theorem fx_f_Mo_lookAtStatements_408 {A : Nat → Nat → Int32} {k389 : zs_H → Int32 → Int32 → Int32 → (Option zs_H)} {h : zs_H} {x1 : Int32} {x3 : Int32} (H_k389 : ∀ z0 z1 z2 z3, fx_P A z0 → fx_1 A (k389 z0 z1 z2 z3)) (H : fx_P A h) : fx_1 A (f_Mo_lookAtStatements_408 k389 h x1 x3) := by
  unfold f_Mo_lookAtStatements_408
  exact (fx_f_Mo_lookAtStatements_413 H_k389 H)
theorem fx_f_Mo_lookAtStatements_434 {A : Nat → Nat → Int32} {h : zs_H} {x1 : Int32} {y0 : Int32}  (H : fx_P A h) : fx_1 A (f_Mo_lookAtStatements_434 h x1 y0) := by
  unfold f_Mo_lookAtStatements_434
  exact (fx_b1 (fx_f_Mo_rule  H) (fun h2 H_h2 => (fx_1s H_h2)))
theorem fx_f_Mo_lookAtStatements_389 {A : Nat → Nat → Int32} {k389 : zs_H → Int32 → Int32 → Int32 → (Option zs_H)} {h : zs_H} {x1 : Int32} {x2 : Int32} {x3 : Int32} (H_k389 : ∀ z0 z1 z2 z3, fx_P A z0 → fx_1 A (k389 z0 z1 z2 z3)) (H : fx_P A h) : fx_1 A (f_Mo_lookAtStatements_389 k389 h x1 x2 x3) := by
  unfold f_Mo_lookAtStatements_389
  exact (fx_1i (fun _ => (fx_1i (fun _ => (fx_f_Mo_lookAtStatements_434  H)) (fun _ => (fx_f_Mo_lookAtStatements_434  H)))) (fun _ => (fx_1i (fun _ => (fx_1i (fun _ => (fx_1i (fun _ => (fx_f_Mo_lookAtStatements_408 H_k389 H)) (fun _ => (fx_f_Mo_lookAtStatements_413 H_k389 H)))) (fun _ => fx_1n))) (fun _ => (fx_f_Mo_lookAtStatements_408 H_k389 H)))))
theorem fx_f_Mo_lookAtStatements_L389 {A : Nat → Nat → Int32}   : ∀ (N : Nat) (h : zs_H) (x1 : Int32) (x2 : Int32) (x3 : Int32), fx_P A h → fx_1 A (f_Mo_lookAtStatements_L389  N h x1 x2 x3) := by
  intro N
  induction N with
  | zero => intro h x1 x2 x3 _; exact fx_1n
  | succ N ih =>
    intro h x1 x2 x3 H
    exact fx_f_Mo_lookAtStatements_389  (fun b0 b1 b2 b3 z => ih b0 b1 b2 b3 z) H
theorem fx_f_Mo_lookAtStatements_L389' {A : Nat → Nat → Int32}   {N : Nat} {h : zs_H} {x1 : Int32} {x2 : Int32} {x3 : Int32} (H : fx_P A h) : fx_1 A (f_Mo_lookAtStatements_L389  N h x1 x2 x3) := fx_f_Mo_lookAtStatements_L389  N h x1 x2 x3 H
theorem fx_f_Mo_lookAtStatements_363 {A : Nat → Nat → Int32} {h : zs_H} {x1 : Int32} {y0 : Int32}  (H : fx_P A h) : fx_1 A (f_Mo_lookAtStatements_363 h x1 y0) := by
  unfold f_Mo_lookAtStatements_363
  exact (fx_b1 (fx_f_Mo_rule  H) (fun h2 H_h2 => (fx_1s H_h2)))
theorem fx_f_Mo_lookAtStatements_358 {A : Nat → Nat → Int32} {h : zs_H} {x1 : Int32}  (H : fx_P A h) : fx_1 A (f_Mo_lookAtStatements_358 h x1) := by
  unfold f_Mo_lookAtStatements_358
  exact (fx_f_Mo_lookAtStatements_363  H)
theorem fx_f_Mo_lookAtStatements_291 {A : Nat → Nat → Int32} {h : zs_H} {x1 : Int32} {y0 : Int32}  (H : fx_P A h) : fx_1 A (f_Mo_lookAtStatements_291 h x1 y0) := by
  unfold f_Mo_lookAtStatements_291
  exact (fx_b1 (fx_f_Mo_rule  H) (fun h2 H_h2 => (fx_1s H_h2)))
theorem fx_f_Mo_lookAtStatements_249 {A : Nat → Nat → Int32} {k219 : zs_H → Int32 → Int32 → (Option zs_H)} {h : zs_H} {x1 : Int32} {x2 : Int32} {y0 : Int32} (H_k219 : ∀ z0 z1 z2, fx_P A z0 → fx_1 A (k219 z0 z1 z2)) (H : fx_P A h) : fx_1 A (f_Mo_lookAtStatements_249 k219 h x1 x2 y0) := by
  unfold f_Mo_lookAtStatements_249
  exact (fx_b1 (fx_f_Mo_rule  H) (fun h2 H_h2 => (fx_1i (fun _ => (H_k219 _ _ _ H_h2)) (fun _ => fx_1n))))
theorem fx_f_Mo_lookAtStatements_248 {A : Nat → Nat → Int32} {k219 : zs_H → Int32 → Int32 → (Option zs_H)} {h : zs_H} {x1 : Int32} {x2 : Int32} (H_k219 : ∀ z0 z1 z2, fx_P A z0 → fx_1 A (k219 z0 z1 z2)) (H : fx_P A h) : fx_1 A (f_Mo_lookAtStatements_248 k219 h x1 x2) := by
  unfold f_Mo_lookAtStatements_248
  exact (fx_f_Mo_lookAtStatements_249 H_k219 H)
theorem fx_f_Mo_lookAtStatements_219 {A : Nat → Nat → Int32} {k219 : zs_H → Int32 → Int32 → (Option zs_H)} {h : zs_H} {x1 : Int32} {x2 : Int32} (H_k219 : ∀ z0 z1 z2, fx_P A z0 → fx_1 A (k219 z0 z1 z2)) (H : fx_P A h) : fx_1 A (f_Mo_lookAtStatements_219 k219 h x1 x2) := by
  unfold f_Mo_lookAtStatements_219
  exact (fx_1i (fun _ => (fx_1s H)) (fun _ => (fx_1i (fun _ => (fx_1i (fun _ => (fx_f_Mo_lookAtStatements_248 H_k219 H)) (fun _ => (fx_1i (fun _ => (fx_f_Mo_lookAtStatements_248 H_k219 H)) (fun _ => (fx_f_Mo_lookAtStatements_249 H_k219 H)))))) (fun _ => fx_1n))))
theorem fx_f_Mo_lookAtStatements_L219 {A : Nat → Nat → Int32}   : ∀ (N : Nat) (h : zs_H) (x1 : Int32) (x2 : Int32), fx_P A h → fx_1 A (f_Mo_lookAtStatements_L219  N h x1 x2) := by
  intro N
  induction N with
  | zero => intro h x1 x2 _; exact fx_1n
  | succ N ih =>
    intro h x1 x2 H
    exact fx_f_Mo_lookAtStatements_219  (fun b0 b1 b2 z => ih b0 b1 b2 z) H
theorem fx_f_Mo_lookAtStatements_L219' {A : Nat → Nat → Int32}   {N : Nat} {h : zs_H} {x1 : Int32} {x2 : Int32} (H : fx_P A h) : fx_1 A (f_Mo_lookAtStatements_L219  N h x1 x2) := fx_f_Mo_lookAtStatements_L219  N h x1 x2 H
theorem fx_f_Mo_lookAtStatements_200 {A : Nat → Nat → Int32} {h : zs_H} {y0 : Int32} {y1 : Int32}  (H : fx_P A h) : fx_1 A (f_Mo_lookAtStatements_200 h y0 y1) := by
  unfold f_Mo_lookAtStatements_200
  exact (fx_1i (fun _ => (fx_1s (fx_uM (by decide) H))) (fun _ => fx_1n))
theorem fx_f_Mo_lookAtStatements_113 {A : Nat → Nat → Int32} {h : zs_H} {x1 : Int32} {y0 : Int32}  (H : fx_P A h) : fx_1 A (f_Mo_lookAtStatements_113 h x1 y0) := by
  unfold f_Mo_lookAtStatements_113
  exact (fx_b1 (fx_f_Mo_rule  H) (fun h2 H_h2 => (fx_1s H_h2)))
theorem fx_f_Mo_lookAtStatements_112 {A : Nat → Nat → Int32} {h : zs_H} {x1 : Int32}  (H : fx_P A h) : fx_1 A (f_Mo_lookAtStatements_112 h x1) := by
  unfold f_Mo_lookAtStatements_112
  exact (fx_f_Mo_lookAtStatements_113  H)
theorem fx_f_Mo_lookAtStatements {A : Nat → Nat → Int32} {h : zs_H} {x1 : Int32}  (H : fx_P A h) : fx_1 A (f_Mo_lookAtStatements h x1) := by
  unfold f_Mo_lookAtStatements
  exact (fx_1i (fun _ => (fx_1i (fun _ => (fx_1i (fun _ => (fx_b1 (fx_f_Mo_lookAtAssigned  H) (fun h5 H_h5 => (fx_1i (fun _ => (fx_1i (fun _ => (fx_1i (fun _ => (fx_1i (fun _ => (fx_1i (fun _ => (fx_f_Mo_lookAtStatements_113  H_h5)) (fun _ => (fx_f_Mo_lookAtStatements_112  H_h5)))) (fun _ => fx_1n))) (fun _ => fx_1n))) (fun _ => fx_1n))) (fun _ => (fx_f_Mo_lookAtStatements_112  H_h5)))))) (fun _ => fx_1n))) (fun _ => (fx_1i (fun _ => (fx_b1 (fx_f_Mo_lookAtInstance  H) (fun h14 H_h14 => (fx_1i (fun _ => (fx_1i (fun _ => (fx_O1 (fun v18 => (fx_1i (fun _ => (fx_1i (fun _ => (fx_f_Mo_lookAtStatements_200  (fx_uM (by decide) H_h14))) (fun _ => (fx_f_Mo_lookAtStatements_200  (fx_uM (by decide) H_h14))))) (fun _ => fx_1n))))) (fun _ => fx_1n))) (fun _ => (fx_1s H_h14)))))) (fun _ => (fx_1i (fun _ => (fx_b1 (fx_f_Mo_lookAtParameter  H) (fun h23 H_h23 => (fx_1s H_h23)))) (fun _ => (fx_1i (fun _ => (fx_f_Mo_lookAtStatements_L219'  H)) (fun _ => (fx_1i (fun _ => (fx_1i (fun _ => (fx_1i (fun _ => (fx_f_Mo_lookAtStatements_291  H)) (fun _ => (fx_f_Mo_lookAtStatements_291  H)))) (fun _ => fx_1n))) (fun _ => (fx_1i (fun _ => (fx_1i (fun _ => (fx_1i (fun _ => (fx_f_Mo_lookAtStatements_358  H)) (fun _ => (fx_1i (fun _ => (fx_1i (fun _ => (fx_f_Mo_lookAtStatements_358  H)) (fun _ => (fx_1i (fun _ => (fx_f_Mo_lookAtStatements_363  H)) (fun _ => (fx_f_Mo_lookAtStatements_358  H)))))) (fun _ => fx_1n))))) (fun _ => fx_1n))) (fun _ => (fx_1i (fun _ => (fx_b1 (fx_f_Mo_lookAtLoop  H) (fun h37 H_h37 => (fx_1s H_h37)))) (fun _ => (fx_1i (fun _ => (fx_f_Mo_lookAtStatements_L389'  H)) (fun _ => (fx_1s H)))))))))))))))))) (fun _ => fx_1n))
theorem fx_f_Mo_lookAtOutput_60 {A : Nat → Nat → Int32} {h : zs_H} {x1 : Int32} {x2 : Int32} {x3 : Int32} {y0 : Int32}  (H : fx_P A h) : fx_1 A (f_Mo_lookAtOutput_60 h x1 x2 x3 y0) := by
  unfold f_Mo_lookAtOutput_60
  exact (fx_b1 (fx_f_Mo_rule  H) (fun h2 H_h2 => (fx_1i (fun _ => (fx_1i (fun _ => (fx_O1 (fun v6 => (fx_1i (fun _ => (fx_O1 (fun v9 => (fx_1s (fx_uM (by decide) (fx_uM (by decide) H_h2)))))) (fun _ => fx_1n))))) (fun _ => fx_1n))) (fun _ => (fx_1s H_h2)))))
theorem fx_f_Mo_lookAtOutput {A : Nat → Nat → Int32} {h : zs_H} {x1 : Int32}  (H : fx_P A h) : fx_1 A (f_Mo_lookAtOutput h x1) := by
  unfold f_Mo_lookAtOutput
  exact (fx_b1 (fx_f_Mo_lookAtInstance  H) (fun h2 H_h2 => (fx_1i (fun _ => (fx_1i (fun _ => (fx_O1 (fun v6 => (fx_1i (fun _ => (fx_1i (fun _ => (fx_O1 (fun v10 => (fx_1i (fun _ => (fx_f_Mo_lookAtOutput_60  H_h2)) (fun _ => (fx_f_Mo_lookAtOutput_60  H_h2)))))) (fun _ => fx_1n))) (fun _ => fx_1n))))) (fun _ => fx_1n))) (fun _ => (fx_1s H_h2)))))
theorem fx_f_Mo_lookAtExpressions_144 {A : Nat → Nat → Int32} {h : zs_H} {x1 : Int32} {y0 : Int32}  (H : fx_P A h) : fx_1 A (f_Mo_lookAtExpressions_144 h x1 y0) := by
  unfold f_Mo_lookAtExpressions_144
  exact (fx_b1 (fx_f_Mo_rule  H) (fun h2 H_h2 => (fx_1i (fun _ => (fx_1i (fun _ => (fx_1s (fx_uM (by decide) H_h2))) (fun _ => fx_1n))) (fun _ => fx_1n))))
theorem fx_f_Mo_lookAtExpressions_143 {A : Nat → Nat → Int32} {h : zs_H} {x1 : Int32}  (H : fx_P A h) : fx_1 A (f_Mo_lookAtExpressions_143 h x1) := by
  unfold f_Mo_lookAtExpressions_143
  exact (fx_f_Mo_lookAtExpressions_144  H)
theorem fx_f_Mo_lookAtExpressions_66 {A : Nat → Nat → Int32} {h : zs_H} {y0 : Int32} {y1 : Int32}  (H : fx_P A h) : fx_1 A (f_Mo_lookAtExpressions_66 h y0 y1) := by
  unfold f_Mo_lookAtExpressions_66
  exact (fx_1i (fun _ => (fx_1s (fx_uM (by decide) H))) (fun _ => fx_1n))
theorem fx_f_Mo_lookAtExpressions {A : Nat → Nat → Int32} {h : zs_H} {x1 : Int32}  (H : fx_P A h) : fx_1 A (f_Mo_lookAtExpressions h x1) := by
  unfold f_Mo_lookAtExpressions
  exact (fx_1i (fun _ => (fx_1i (fun _ => (fx_1i (fun _ => (fx_f_Mo_lookAtExpressions_66  H)) (fun _ => (fx_f_Mo_lookAtExpressions_66  H)))) (fun _ => (fx_1i (fun _ => (fx_1s (fx_uM (by decide) H))) (fun _ => (fx_1i (fun _ => (fx_b1 (fx_f_Mo_lookAtElement  H) (fun h7 H_h7 => (fx_1s H_h7)))) (fun _ => (fx_1i (fun _ => (fx_b1 (fx_f_Mo_lookAtOutput  H) (fun h10 H_h10 => (fx_1s H_h10)))) (fun _ => (fx_1i (fun _ => (fx_b1 (fx_f_Mo_lookAtCall  H) (fun h13 H_h13 => (fx_1s H_h13)))) (fun _ => (fx_1i (fun _ => (fx_b1 (fx_f_Mo_lookAtTwo  H) (fun h16 H_h16 => (fx_1s H_h16)))) (fun _ => (fx_1i (fun _ => (fx_1i (fun _ => (fx_1i (fun _ => (fx_f_Mo_lookAtExpressions_144  H)) (fun _ => (fx_f_Mo_lookAtExpressions_143  H)))) (fun _ => fx_1n))) (fun _ => (fx_f_Mo_lookAtExpressions_143  H)))))))))))))))) (fun _ => fx_1n))
theorem fx_f_Mo_look_28 {A : Nat → Nat → Int32} {r_Mo_look : zs_H → Int32 → (Option zs_H)} {k28 : zs_H → Int32 → Int32 → (Option zs_H)} {h : zs_H} {x1 : Int32} {x2 : Int32} (H_r_Mo_look : ∀ z0 z1, fx_P A z0 → fx_1 A (r_Mo_look z0 z1)) (H_k28 : ∀ z0 z1 z2, fx_P A z0 → fx_1 A (k28 z0 z1 z2)) (H : fx_P A h) : fx_1 A (f_Mo_look_28 r_Mo_look k28 h x1 x2) := by
  unfold f_Mo_look_28
  exact (fx_1i (fun _ => (fx_1s H)) (fun _ => (fx_1i (fun _ => (fx_1i (fun _ => (fx_1i (fun _ => (fx_b1 (H_r_Mo_look _ _ H) (fun h6 H_h6 => (fx_1i (fun _ => (fx_b1 (fx_f_Mo_lookAtExpressions  H_h6) (fun h9 H_h9 => (H_k28 _ _ _ H_h9)))) (fun _ => (H_k28 _ _ _ H_h6)))))) (fun _ => fx_1n))) (fun _ => fx_1n))) (fun _ => (fx_1s H)))))
theorem fx_f_Mo_look_L28 {A : Nat → Nat → Int32} {r_Mo_look : zs_H → Int32 → (Option zs_H)} (H_r_Mo_look : ∀ z0 z1, fx_P A z0 → fx_1 A (r_Mo_look z0 z1)) : ∀ (N : Nat) (h : zs_H) (x1 : Int32) (x2 : Int32), fx_P A h → fx_1 A (f_Mo_look_L28 r_Mo_look N h x1 x2) := by
  intro N
  induction N with
  | zero => intro h x1 x2 _; exact fx_1n
  | succ N ih =>
    intro h x1 x2 H
    exact fx_f_Mo_look_28 H_r_Mo_look (fun b0 b1 b2 z => ih b0 b1 b2 z) H
theorem fx_f_Mo_look_L28' {A : Nat → Nat → Int32} {r_Mo_look : zs_H → Int32 → (Option zs_H)} (H_r_Mo_look : ∀ z0 z1, fx_P A z0 → fx_1 A (r_Mo_look z0 z1)) {N : Nat} {h : zs_H} {x1 : Int32} {x2 : Int32} (H : fx_P A h) : fx_1 A (f_Mo_look_L28 r_Mo_look N h x1 x2) := fx_f_Mo_look_L28 H_r_Mo_look N h x1 x2 H
theorem fx_f_Mo_look_2 {A : Nat → Nat → Int32} {r_Mo_look : zs_H → Int32 → (Option zs_H)} {r_Mo_lookAlone : zs_H → Int32 → (Option zs_H)} {k2 : zs_H → Int32 → Int32 → (Option zs_H)} {h : zs_H} {x1 : Int32} {x2 : Int32} (H_r_Mo_look : ∀ z0 z1, fx_P A z0 → fx_1 A (r_Mo_look z0 z1)) (H_r_Mo_lookAlone : ∀ z0 z1, fx_P A z0 → fx_1 A (r_Mo_lookAlone z0 z1)) (H_k2 : ∀ z0 z1 z2, fx_P A z0 → fx_1 A (k2 z0 z1 z2)) (H : fx_P A h) : fx_1 A (f_Mo_look_2 r_Mo_look r_Mo_lookAlone k2 h x1 x2) := by
  unfold f_Mo_look_2
  exact (fx_1i (fun _ => (fx_1i (fun _ => (H_k2 _ _ _ H)) (fun _ => (fx_b1 (H_r_Mo_lookAlone _ _ H) (fun h4 H_h4 => (fx_f_Mo_look_L28' H_r_Mo_look H_h4)))))) (fun _ => fx_1n))
theorem fx_f_Mo_look_L2 {A : Nat → Nat → Int32} {r_Mo_look : zs_H → Int32 → (Option zs_H)} {r_Mo_lookAlone : zs_H → Int32 → (Option zs_H)} (H_r_Mo_look : ∀ z0 z1, fx_P A z0 → fx_1 A (r_Mo_look z0 z1)) (H_r_Mo_lookAlone : ∀ z0 z1, fx_P A z0 → fx_1 A (r_Mo_lookAlone z0 z1)) : ∀ (N : Nat) (h : zs_H) (x1 : Int32) (x2 : Int32), fx_P A h → fx_1 A (f_Mo_look_L2 r_Mo_look r_Mo_lookAlone N h x1 x2) := by
  intro N
  induction N with
  | zero => intro h x1 x2 _; exact fx_1n
  | succ N ih =>
    intro h x1 x2 H
    exact fx_f_Mo_look_2 H_r_Mo_look H_r_Mo_lookAlone (fun b0 b1 b2 z => ih b0 b1 b2 z) H
theorem fx_f_Mo_look_L2' {A : Nat → Nat → Int32} {r_Mo_look : zs_H → Int32 → (Option zs_H)} {r_Mo_lookAlone : zs_H → Int32 → (Option zs_H)} (H_r_Mo_look : ∀ z0 z1, fx_P A z0 → fx_1 A (r_Mo_look z0 z1)) (H_r_Mo_lookAlone : ∀ z0 z1, fx_P A z0 → fx_1 A (r_Mo_lookAlone z0 z1)) {N : Nat} {h : zs_H} {x1 : Int32} {x2 : Int32} (H : fx_P A h) : fx_1 A (f_Mo_look_L2 r_Mo_look r_Mo_lookAlone N h x1 x2) := fx_f_Mo_look_L2 H_r_Mo_look H_r_Mo_lookAlone N h x1 x2 H
theorem fx_g_Mo_look {A : Nat → Nat → Int32} {r_Mo_look : zs_H → Int32 → (Option zs_H)} {r_Mo_lookAlone : zs_H → Int32 → (Option zs_H)} {h : zs_H} {x1 : Int32} (H_r_Mo_look : ∀ z0 z1, fx_P A z0 → fx_1 A (r_Mo_look z0 z1)) (H_r_Mo_lookAlone : ∀ z0 z1, fx_P A z0 → fx_1 A (r_Mo_lookAlone z0 z1)) (H : fx_P A h) : fx_1 A (g_Mo_look r_Mo_look r_Mo_lookAlone h x1) := by
  unfold g_Mo_look
  exact (fx_f_Mo_look_L2' H_r_Mo_look H_r_Mo_lookAlone H)
theorem fx_f_Mo_lookAlone_54 {A : Nat → Nat → Int32} {h : zs_H} {x1 : Int32} {x2 : Int32}  (H : fx_P A h) : fx_1 A (f_Mo_lookAlone_54 h x1 x2) := by
  unfold f_Mo_lookAlone_54
  exact (fx_1i (fun _ => (fx_1i (fun _ => (fx_1i (fun _ => (fx_1i (fun _ => (fx_b1 (fx_f_Mo_lookAtExpressions  H) (fun h6 H_h6 => (fx_1s H_h6)))) (fun _ => (fx_b1 (fx_f_Mo_lookAtRungs  H) (fun h8 H_h8 => (fx_1s H_h8)))))) (fun _ => (fx_b1 (fx_f_Mo_lookAtStatements  H) (fun h10 H_h10 => (fx_1s H_h10)))))) (fun _ => (fx_b1 (fx_f_Mo_lookAtBlocks  H) (fun h12 H_h12 => (fx_1s H_h12)))))) (fun _ => (fx_1s H)))
theorem fx_f_Mo_lookAlone_28 {A : Nat → Nat → Int32} {r_Mo_look : zs_H → Int32 → (Option zs_H)} {k28 : zs_H → Int32 → Int32 → Int32 → (Option zs_H)} {h : zs_H} {x1 : Int32} {x2 : Int32} {x3 : Int32} (H_r_Mo_look : ∀ z0 z1, fx_P A z0 → fx_1 A (r_Mo_look z0 z1)) (H_k28 : ∀ z0 z1 z2 z3, fx_P A z0 → fx_1 A (k28 z0 z1 z2 z3)) (H : fx_P A h) : fx_1 A (f_Mo_lookAlone_28 r_Mo_look k28 h x1 x2 x3) := by
  unfold f_Mo_lookAlone_28
  exact (fx_1i (fun _ => (fx_f_Mo_lookAlone_54  H)) (fun _ => (fx_1i (fun _ => (fx_b1 (H_r_Mo_look _ _ H) (fun h4 H_h4 => (fx_1i (fun _ => (H_k28 _ _ _ _ H_h4)) (fun _ => fx_1n))))) (fun _ => (fx_f_Mo_lookAlone_54  H)))))
theorem fx_f_Mo_lookAlone_L28 {A : Nat → Nat → Int32} {r_Mo_look : zs_H → Int32 → (Option zs_H)} (H_r_Mo_look : ∀ z0 z1, fx_P A z0 → fx_1 A (r_Mo_look z0 z1)) : ∀ (N : Nat) (h : zs_H) (x1 : Int32) (x2 : Int32) (x3 : Int32), fx_P A h → fx_1 A (f_Mo_lookAlone_L28 r_Mo_look N h x1 x2 x3) := by
  intro N
  induction N with
  | zero => intro h x1 x2 x3 _; exact fx_1n
  | succ N ih =>
    intro h x1 x2 x3 H
    exact fx_f_Mo_lookAlone_28 H_r_Mo_look (fun b0 b1 b2 b3 z => ih b0 b1 b2 b3 z) H
theorem fx_f_Mo_lookAlone_L28' {A : Nat → Nat → Int32} {r_Mo_look : zs_H → Int32 → (Option zs_H)} (H_r_Mo_look : ∀ z0 z1, fx_P A z0 → fx_1 A (r_Mo_look z0 z1)) {N : Nat} {h : zs_H} {x1 : Int32} {x2 : Int32} {x3 : Int32} (H : fx_P A h) : fx_1 A (f_Mo_lookAlone_L28 r_Mo_look N h x1 x2 x3) := fx_f_Mo_lookAlone_L28 H_r_Mo_look N h x1 x2 x3 H
theorem fx_f_Mo_lookAlone_21 {A : Nat → Nat → Int32} {r_Mo_look : zs_H → Int32 → (Option zs_H)} {h : zs_H} {x1 : Int32} {x2 : Int32} (H_r_Mo_look : ∀ z0 z1, fx_P A z0 → fx_1 A (r_Mo_look z0 z1)) (H : fx_P A h) : fx_1 A (f_Mo_lookAlone_21 r_Mo_look h x1 x2) := by
  unfold f_Mo_lookAlone_21
  exact (fx_1i (fun _ => (fx_f_Mo_lookAlone_L28' H_r_Mo_look H)) (fun _ => fx_1n))
theorem fx_g_Mo_lookAlone {A : Nat → Nat → Int32} {r_Mo_look : zs_H → Int32 → (Option zs_H)} {h : zs_H} {x1 : Int32} (H_r_Mo_look : ∀ z0 z1, fx_P A z0 → fx_1 A (r_Mo_look z0 z1)) (H : fx_P A h) : fx_1 A (g_Mo_lookAlone r_Mo_look h x1) := by
  unfold g_Mo_lookAlone
  exact (fx_1i (fun _ => (fx_1i (fun _ => (fx_f_Mo_lookAlone_21 H_r_Mo_look H)) (fun _ => (fx_1i (fun _ => (fx_f_Mo_lookAlone_21 H_r_Mo_look H)) (fun _ => (fx_b1 (fx_f_Mo_beginBlock  H) (fun h5 H_h5 => (fx_f_Mo_lookAlone_21 H_r_Mo_look H_h5)))))))) (fun _ => fx_1n))
theorem fx_look0 {A : Nat → Nat → Int32} : ∀ d : Nat, (∀ (h : zs_H) (x : Int32), fx_P A h → fx_1 A (f_Mo_look d h x)) ∧ ∀ (h : zs_H) (x : Int32), fx_P A h → fx_1 A (f_Mo_lookAlone d h x) := by
  intro d
  induction d with
  | zero => exact ⟨fun _ _ _ => fx_1n, fun _ _ _ => fx_1n⟩
  | succ d ih =>
    obtain ⟨p, q⟩ := ih
    rw [jn_lk, jn_la]
    exact ⟨fun h x H => fx_g_Mo_look p q H, fun h x H => fx_g_Mo_lookAlone p H⟩
