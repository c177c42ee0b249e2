/-! CX: the class's reader, part 1. -/

theorem cx_f_Ps_simpleType_61 {E : zcx_T} {a : Int} {h : zs_H} {x1 : Int32} {y0 : Int32}  (H : zcx_P E a h) : zcx_2 E a (f_Ps_simpleType_61 h x1 y0) := by
  unfold f_Ps_simpleType_61
  repeat' first
    | with_reducible assumption
    | with_reducible exact zcx_2n
    | with_reducible refine zcx_2s ?_
    | with_reducible refine zcx_2i ?_ ?_
    | with_reducible refine cx_f_Ps_take  ?_
    | with_reducible refine zcx_b2e (cx_f_Ps_take  ?_) ?_
    | intro _
theorem cx_f_Ps_simpleType_47 {E : zcx_T} {a : Int} {h : zs_H} {x1 : Int32} {y0 : Int32}  (H : zcx_P E a h) : zcx_2 E a (f_Ps_simpleType_47 h x1 y0) := by
  unfold f_Ps_simpleType_47
  repeat' first
    | with_reducible assumption
    | with_reducible exact zcx_2n
    | with_reducible refine zcx_2s ?_
    | with_reducible refine zcx_2i ?_ ?_
    | with_reducible refine cx_f_Ps_simpleType_61  ?_
    | with_reducible refine zcx_B2e (cx_f_Ps_simpleType_61  ?_) ?_
    | intro _
theorem cx_f_Ps_simpleType_46 {E : zcx_T} {a : Int} {h : zs_H} {x1 : Int32}  (H : zcx_P E a h) : zcx_2 E a (f_Ps_simpleType_46 h x1) := by
  unfold f_Ps_simpleType_46
  repeat' first
    | with_reducible assumption
    | with_reducible exact zcx_2n
    | with_reducible refine zcx_2s ?_
    | with_reducible refine zcx_2i ?_ ?_
    | with_reducible refine cx_f_Ps_simpleType_47  ?_
    | with_reducible refine zcx_B2e (cx_f_Ps_simpleType_47  ?_) ?_
    | intro _
theorem cx_f_Ps_simpleType {E : zcx_T} {a : Int} {h : zs_H}  (H : zcx_P E a h) : zcx_2 E a (f_Ps_simpleType h) := by
  unfold f_Ps_simpleType
  repeat' first
    | with_reducible assumption
    | with_reducible exact zcx_2n
    | with_reducible refine zcx_2s ?_
    | with_reducible refine zcx_2i ?_ ?_
    | with_reducible refine cx_f_Tr_add ?_ ?_
    | with_reducible refine zcx_B2e (cx_f_Tr_add ?_ ?_) ?_
    | with_reducible refine cx_f_Ps_simpleType_46  ?_
    | with_reducible refine zcx_B2e (cx_f_Ps_simpleType_46  ?_) ?_
    | with_reducible refine cx_f_Ps_simpleType_47  ?_
    | with_reducible refine zcx_B2e (cx_f_Ps_simpleType_47  ?_) ?_
    | intro _
    | decide +kernel
theorem cx_f_Tr_hang {E : zcx_T} {a : Int} {h : zs_H} {x1 : Int32} {x2 : Int32} {x3 : Int32}  (H : zcx_P E a h) : zcx_2 E a (f_Tr_hang h x1 x2 x3) := by
  unfold f_Tr_hang
  repeat' first
    | with_reducible assumption
    | (with_reducible refine zcx_uM ?_ ?_; · decide)
    | with_reducible exact zcx_2n
    | with_reducible refine zcx_2s ?_
    | with_reducible refine zcx_2i ?_ ?_
    | intro _
theorem cx_f_Ps_constant_45 {E : zcx_T} {a : Int} {h : zs_H} {y0 : Int32} {y1 : Int32} {y2 : Int32} (Hk : zcx_k y2)  (H : zcx_P E a h) : zcx_2 E a (f_Ps_constant_45 h y0 y1 y2) := by
  unfold f_Ps_constant_45
  repeat' first
    | with_reducible assumption
    | with_reducible exact zcx_2n
    | with_reducible refine zcx_2s ?_
    | with_reducible refine zcx_2i ?_ ?_
    | with_reducible refine cx_f_Tr_add ?_ ?_
    | with_reducible refine zcx_B2e (cx_f_Tr_add ?_ ?_) ?_
    | with_reducible refine cx_f_Ps_take  ?_
    | with_reducible refine zcx_b2e (cx_f_Ps_take  ?_) ?_
    | intro _
    | with_reducible exact Hk
theorem cx_f_Ps_constant_20 {E : zcx_T} {a : Int} {h : zs_H}  (H : zcx_P E a h) : zcx_2 E a (f_Ps_constant_20 h) := by
  unfold f_Ps_constant_20
  repeat' first
    | with_reducible assumption
    | with_reducible exact zcx_2n
    | with_reducible refine zcx_2s ?_
    | with_reducible refine zcx_2i ?_ ?_
    | with_reducible refine cx_f_Ps_constant_45 ?_ ?_
    | with_reducible refine zcx_B2e (cx_f_Ps_constant_45 ?_ ?_) ?_
    | intro _
    | decide +kernel
theorem cx_f_Ps_constant_139 {E : zcx_T} {a : Int} {h : zs_H} {x1 : Int32} {y0 : Int32} {y1 : Int32}  (H : zcx_P E a h) : zcx_2 E a (f_Ps_constant_139 h x1 y0 y1) := by
  unfold f_Ps_constant_139
  repeat' first
    | with_reducible assumption
    | (with_reducible refine zcx_uM ?_ ?_; · decide)
    | with_reducible exact zcx_2n
    | with_reducible refine zcx_2s ?_
    | with_reducible refine zcx_2i ?_ ?_
    | with_reducible refine cx_f_Ps_take  ?_
    | with_reducible refine zcx_b2e (cx_f_Ps_take  ?_) ?_
    | intro _
theorem cx_f_Ps_constant_99 {E : zcx_T} {a : Int} {h : zs_H} {x1 : Int32} {x2 : Int32}  (H : zcx_P E a h) : zcx_2 E a (f_Ps_constant_99 h x1 x2) := by
  unfold f_Ps_constant_99
  repeat' first
    | with_reducible assumption
    | with_reducible exact zcx_2n
    | with_reducible refine zcx_2s ?_
    | with_reducible refine zcx_2i ?_ ?_
    | with_reducible refine cx_f_Ps_constant_139  ?_
    | with_reducible refine zcx_B2e (cx_f_Ps_constant_139  ?_) ?_
    | intro _
theorem cx_f_Ps_constant_88 {E : zcx_T} {a : Int} {h : zs_H} {x1 : Int32} {y0 : Int32}  (H : zcx_P E a h) : zcx_2 E a (f_Ps_constant_88 h x1 y0) := by
  unfold f_Ps_constant_88
  repeat' first
    | with_reducible assumption
    | with_reducible exact zcx_2n
    | with_reducible refine zcx_2s ?_
    | with_reducible refine zcx_2i ?_ ?_
    | with_reducible refine cx_f_Ps_constant_99  ?_
    | with_reducible refine zcx_B2e (cx_f_Ps_constant_99  ?_) ?_
    | with_reducible refine cx_f_Ps_take  ?_
    | with_reducible refine zcx_b2e (cx_f_Ps_take  ?_) ?_
    | intro _
theorem cx_f_Ps_constant {E : zcx_T} {a : Int} {h : zs_H}  (H : zcx_P E a h) : zcx_2 E a (f_Ps_constant h) := by
  unfold f_Ps_constant
  repeat' first
    | with_reducible assumption
    | with_reducible exact zcx_2n
    | with_reducible refine zcx_2s ?_
    | with_reducible refine zcx_2i ?_ ?_
    | with_reducible refine cx_f_Ps_constant_20  ?_
    | with_reducible refine zcx_B2e (cx_f_Ps_constant_20  ?_) ?_
    | with_reducible refine cx_f_Tr_add ?_ ?_
    | with_reducible refine zcx_B2e (cx_f_Tr_add ?_ ?_) ?_
    | with_reducible refine cx_f_Ps_constant_88  ?_
    | with_reducible refine zcx_B2e (cx_f_Ps_constant_88  ?_) ?_
    | intro _
    | decide +kernel
section ZXC
variable {E : zcx_T} {a : Int} {h : zs_H}
theorem cxp_45 {y0 y1 y2 : Int32} (hk : zcx_k y2) (H : zcx_P E a h) : zcx_2 E (a + 1) (f_Ps_constant_45 h y0 y1 y2) := by
  unfold f_Ps_constant_45
  refine zcx_B2 (cx_f_Tr_add hk H) ?_
  intro x h' H'
  refine zcx_b2 (cx_take1 H') ?_
  intro h2 H2
  exact zcx_2s H2
theorem cxp_139 {x1 y0 y1 : Int32} (H : zcx_P E a h) : zcx_2 E (a + 1) (f_Ps_constant_139 h x1 y0 y1) := by
  unfold f_Ps_constant_139
  refine zcx_2i (fun _ => ?_) (fun _ => zcx_2n)
  refine zcx_b2 (cx_take1 (zcx_uM (by decide) H)) ?_
  intro h2 H2
  exact zcx_2s H2
theorem cxp_99 {x1 x2 : Int32} (H : zcx_P E a h) : zcx_2 E (a + 1) (f_Ps_constant_99 h x1 x2) := by
  unfold f_Ps_constant_99
  exact zcx_2i (fun _ => zcx_2i (fun _ => cxp_139 H) (fun _ => zcx_2n)) (fun _ => zcx_2i (fun _ => cxp_139 H) (fun _ => zcx_2n))
theorem cxp_constant (H : zcx_P E a h) : zcx_2 E (a + 1) (f_Ps_constant h) := by
  have c20 : zcx_2 E (a + 1) (f_Ps_constant_20 h) := by
    unfold f_Ps_constant_20
    exact zcx_2i (fun _ => cxp_45 (by decide +kernel) H) (fun _ => cxp_45 (by decide +kernel) H)
  unfold f_Ps_constant
  refine zcx_2i (fun _ => c20) (fun _ => zcx_2i (fun _ => c20) (fun _ => ?_))
  refine zcx_B2 (cx_f_Tr_add (by decide +kernel) H) ?_
  intro v4 h5 H5
  have c88 : ∀ y0, zcx_2 E (a + 1) (f_Ps_constant_88 h5 v4 y0) := fun y0 => by
    unfold f_Ps_constant_88
    refine zcx_2i (fun _ => cxp_99 H5) (fun _ => ?_)
    refine zcx_b2 (cx_f_Ps_take H5) ?_
    intro h3 H3
    exact cxp_99 H3
  exact zcx_2i (fun _ => c88 _) (fun _ => c88 _)
end ZXC
