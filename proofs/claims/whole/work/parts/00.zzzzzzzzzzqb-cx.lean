/-! CX: the class's reader, part 1. -/

theorem cx_f_Ps_simpleType_61 {E : zcx_T} {a : Int} {h : zs_H} {x1 : Int32} {y0 : Int32}  (H : zcx_P E a h) : zcx_2 E a (f_Ps_simpleType_61 h x1 y0) := by
  unfold f_Ps_simpleType_61
  exact (zcx_b2e (cx_f_Ps_take H) (fun h2 H_h2 => (zcx_2s H_h2)))
theorem cx_f_Ps_simpleType_47 {E : zcx_T} {a : Int} {h : zs_H} {x1 : Int32} {y0 : Int32}  (H : zcx_P E a h) : zcx_2 E a (f_Ps_simpleType_47 h x1 y0) := by
  unfold f_Ps_simpleType_47
  exact (zcx_2i (fun _ => (cx_f_Ps_simpleType_61  H)) (fun _ => (cx_f_Ps_simpleType_61  H)))
theorem cx_f_Ps_simpleType_46 {E : zcx_T} {a : Int} {h : zs_H} {x1 : Int32}  (H : zcx_P E a h) : zcx_2 E a (f_Ps_simpleType_46 h x1) := by
  unfold f_Ps_simpleType_46
  exact (cx_f_Ps_simpleType_47  H)
theorem cx_f_Ps_simpleType {E : zcx_T} {a : Int} {h : zs_H}  (H : zcx_P E a h) : zcx_2 E a (f_Ps_simpleType h) := by
  unfold f_Ps_simpleType
  exact (zcx_B2e (cx_f_Tr_add (zcx_kI (by decide +kernel)) H) (fun v2 h3 H_h3 => (zcx_2i (fun _ => (cx_f_Ps_simpleType_46  H_h3)) (fun _ => (zcx_2i (fun _ => (cx_f_Ps_simpleType_46  H_h3)) (fun _ => (cx_f_Ps_simpleType_47  H_h3)))))))
theorem cx_f_Tr_hang {E : zcx_T} {a : Int} {h : zs_H} {x1 : Int32} {x2 : Int32} {x3 : Int32}  (H : zcx_P E a h) : zcx_2 E a (f_Tr_hang h x1 x2 x3) := by
  unfold f_Tr_hang
  exact (zcx_2i (fun _ => (zcx_2i (fun _ => (zcx_2s (zcx_uM (by decide) H))) (fun _ => zcx_2n))) (fun _ => (zcx_2i (fun _ => (zcx_2s (zcx_uM (by decide) H))) (fun _ => zcx_2n))))
theorem cx_f_Ps_constant_45 {E : zcx_T} {a : Int} {h : zs_H} {y0 : Int32} {y1 : Int32} {y2 : Int32} (Hk : zcx_k y2)  (H : zcx_P E a h) : zcx_2 E a (f_Ps_constant_45 h y0 y1 y2) := by
  unfold f_Ps_constant_45
  exact (zcx_B2e (cx_f_Tr_add Hk H) (fun v2 h3 H_h3 => (zcx_b2e (cx_f_Ps_take H_h3) (fun h5 H_h5 => (zcx_2s H_h5)))))
theorem cx_f_Ps_constant_20 {E : zcx_T} {a : Int} {h : zs_H}  (H : zcx_P E a h) : zcx_2 E a (f_Ps_constant_20 h) := by
  unfold f_Ps_constant_20
  exact (zcx_2i (fun _ => (cx_f_Ps_constant_45 (zcx_kI (by decide +kernel)) H)) (fun _ => (cx_f_Ps_constant_45 (zcx_kI (by decide +kernel)) H)))
theorem cx_f_Ps_constant_139 {E : zcx_T} {a : Int} {h : zs_H} {x1 : Int32} {y0 : Int32} {y1 : Int32}  (H : zcx_P E a h) : zcx_2 E a (f_Ps_constant_139 h x1 y0 y1) := by
  unfold f_Ps_constant_139
  exact (zcx_2i (fun _ => (zcx_b2e (cx_f_Ps_take (zcx_uM (by decide) H)) (fun h3 H_h3 => (zcx_2s H_h3)))) (fun _ => zcx_2n))
theorem cx_f_Ps_constant_99 {E : zcx_T} {a : Int} {h : zs_H} {x1 : Int32} {x2 : Int32}  (H : zcx_P E a h) : zcx_2 E a (f_Ps_constant_99 h x1 x2) := by
  unfold f_Ps_constant_99
  exact (zcx_2i (fun _ => (zcx_2i (fun _ => (cx_f_Ps_constant_139  H)) (fun _ => zcx_2n))) (fun _ => (zcx_2i (fun _ => (cx_f_Ps_constant_139  H)) (fun _ => zcx_2n))))
theorem cx_f_Ps_constant_88 {E : zcx_T} {a : Int} {h : zs_H} {x1 : Int32} {y0 : Int32}  (H : zcx_P E a h) : zcx_2 E a (f_Ps_constant_88 h x1 y0) := by
  unfold f_Ps_constant_88
  exact (zcx_2i (fun _ => (cx_f_Ps_constant_99  H)) (fun _ => (zcx_b2e (cx_f_Ps_take H) (fun h3 H_h3 => (cx_f_Ps_constant_99  H_h3)))))
theorem cx_f_Ps_constant {E : zcx_T} {a : Int} {h : zs_H}  (H : zcx_P E a h) : zcx_2 E a (f_Ps_constant h) := by
  unfold f_Ps_constant
  exact (zcx_2i (fun _ => (cx_f_Ps_constant_20  H)) (fun _ => (zcx_2i (fun _ => (cx_f_Ps_constant_20  H)) (fun _ => (zcx_B2e (cx_f_Tr_add (zcx_kI (by decide +kernel)) H) (fun v4 h5 H_h5 => (zcx_2i (fun _ => (cx_f_Ps_constant_88  H_h5)) (fun _ => (cx_f_Ps_constant_88  H_h5)))))))))
section ZXC
variable {E : zcx_T} {a : Int} {h : zs_H}
theorem cxp_45 {y0 y1 y2 : Int32} (hk : zcx_k y2) (H : zcx_P E a h) : zcx_2 E (a + 1) (f_Ps_constant_45 h y0 y1 y2) := by
  unfold f_Ps_constant_45
  refine zcx_B2 (cx_f_Tr_add hk H) ?_
  intro x h' H'
  refine zcx_b2 (cx_take1 H') ?_
  intro h2 H2
  exact zcx_2s H2
theorem cxp_139 {x1 y0 y1 : Int32} (H : zcx_P E a h) : zcx_2 E (a + 1) (f_Ps_constant_139 h x1 y0 y1) := by
  unfold f_Ps_constant_139
  refine zcx_2i (fun _ => ?_) (fun _ => zcx_2n)
  refine zcx_b2 (cx_take1 (zcx_uM (by decide) H)) ?_
  intro h2 H2
  exact zcx_2s H2
theorem cxp_99 {x1 x2 : Int32} (H : zcx_P E a h) : zcx_2 E (a + 1) (f_Ps_constant_99 h x1 x2) := by
  unfold f_Ps_constant_99
  exact zcx_2i (fun _ => zcx_2i (fun _ => cxp_139 H) (fun _ => zcx_2n)) (fun _ => zcx_2i (fun _ => cxp_139 H) (fun _ => zcx_2n))
theorem cxp_constant (H : zcx_P E a h) : zcx_2 E (a + 1) (f_Ps_constant h) := by
  have c20 : zcx_2 E (a + 1) (f_Ps_constant_20 h) := by
    unfold f_Ps_constant_20
    exact zcx_2i (fun _ => cxp_45 (zcx_kI (by decide +kernel)) H) (fun _ => cxp_45 (zcx_kI (by decide +kernel)) H)
  unfold f_Ps_constant
  refine zcx_2i (fun _ => c20) (fun _ => zcx_2i (fun _ => c20) (fun _ => ?_))
  refine zcx_B2 (cx_f_Tr_add (zcx_kI (by decide +kernel)) H) ?_
  intro v4 h5 H5
  have c88 : ∀ y0, zcx_2 E (a + 1) (f_Ps_constant_88 h5 v4 y0) := fun y0 => by
    unfold f_Ps_constant_88
    refine zcx_2i (fun _ => cxp_99 H5) (fun _ => ?_)
    refine zcx_b2 (cx_f_Ps_take H5) ?_
    intro h3 H3
    exact cxp_99 H3
  exact zcx_2i (fun _ => c88 _) (fun _ => c88 _)
end ZXC
