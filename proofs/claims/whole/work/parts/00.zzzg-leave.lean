/-! The judge: what is done when a node is left. -/
theorem zv_54B {g : zs_H} {k km : Nat} (h : km < 11) (J : (g.1 68 29) = 0) : f_Mo_lookAlone_54 g (nI k) (nI km) = f_Mo_lookAtBlocks g (nI k) := by
  unfold f_Mo_lookAlone_54
  rw [if_pos J, if_neg (mt (zc_le (k := 11) (by decide) (by omega)).mp (by omega)), Option.bind_fun_some]
theorem zv_54S {g : zs_H} {k km : Nat} (h : 11 ≤ km) (h2 : km < 22) (J : (g.1 68 29) = 0) : f_Mo_lookAlone_54 g (nI k) (nI km) = f_Mo_lookAtStatements g (nI k) := by
  unfold f_Mo_lookAlone_54
  rw [if_pos J, if_pos ((zc_le (k := 11) (by decide) (by omega)).mpr h), if_neg (mt (zc_le (k := 22) (by decide) (by omega)).mp (by omega)), Option.bind_fun_some]
theorem zv_54R {g : zs_H} {k km : Nat} (h : 22 ≤ km) (h2 : km < 30) (J : (g.1 68 29) = 0) : f_Mo_lookAlone_54 g (nI k) (nI km) = f_Mo_lookAtRungs g (nI k) := by
  unfold f_Mo_lookAlone_54
  rw [if_pos J, if_pos ((zc_le (k := 11) (by decide) (by omega)).mpr (by omega)), if_pos ((zc_le (k := 22) (by decide) (by omega)).mpr h), if_neg (mt (zc_le (k := 30) (by decide) (by omega)).mp (by omega)), Option.bind_fun_some]
theorem zv_54E {g : zs_H} {k km : Nat} (h : 30 ≤ km) (h2 : km < 100) (J : (g.1 68 29) = 0) : f_Mo_lookAlone_54 g (nI k) (nI km) = f_Mo_lookAtExpressions g (nI k) := by
  unfold f_Mo_lookAlone_54
  rw [if_pos J, if_pos ((zc_le (k := 11) (by decide) (by omega)).mpr (by omega)), if_pos ((zc_le (k := 22) (by decide) (by omega)).mpr (by omega)), if_pos ((zc_le (k := 30) (by decide) (by omega)).mpr h), Option.bind_fun_some]
theorem zv_lv0 {h : zs_H} {i : Nat} (hi : i < 32784) (c : (h.2.1 13) i = 0) : f_Jd_leave h (nI i) = f_Jd_leaveText h (nI i) := by
  unfold f_Jd_leave
  simp (config := { decide := true }) only [if_pos (zi_in (show i < 2147483648 by omega) hi), nI_clamp (show i < 2147483648 by omega), c, if_false, if_true, Option.bind_fun_some]
theorem zv_lv1 {h : zs_H} {i : Nat} (hi : i < 32784) (c : (h.2.1 13) i = 1) : f_Jd_leave h (nI i) = f_Jd_leaveBlock h (nI i) := by
  unfold f_Jd_leave
  simp (config := { decide := true }) only [if_pos (zi_in (show i < 2147483648 by omega) hi), nI_clamp (show i < 2147483648 by omega), c, if_false, if_true, Option.bind_fun_some]
theorem zv_lv2 {h : zs_H} {i : Nat} (hi : i < 32784) (c : (h.2.1 13) i = 2) : f_Jd_leave h (nI i) = f_Jd_leaveBlock h (nI i) := by
  unfold f_Jd_leave
  simp (config := { decide := true }) only [if_pos (zi_in (show i < 2147483648 by omega) hi), nI_clamp (show i < 2147483648 by omega), c, if_false, if_true, Option.bind_fun_some]
theorem zv_lv3 {h : zs_H} {i : Nat} (hi : i < 32784) (c : (h.2.1 13) i = 3) : f_Jd_leave h (nI i) = f_Jd_leaveBlock h (nI i) := by
  unfold f_Jd_leave
  simp (config := { decide := true }) only [if_pos (zi_in (show i < 2147483648 by omega) hi), nI_clamp (show i < 2147483648 by omega), c, if_false, if_true, Option.bind_fun_some]
theorem zv_lv4 {h : zs_H} {i : Nat} (hi : i < 32784) (c : (h.2.1 13) i = 4) : f_Jd_leave h (nI i) = f_Jd_judgeSection h (nI i) := by
  unfold f_Jd_leave
  simp (config := { decide := true }) only [if_pos (zi_in (show i < 2147483648 by omega) hi), nI_clamp (show i < 2147483648 by omega), c, if_false, if_true, Option.bind_fun_some]
theorem zv_lv5 {h : zs_H} {i : Nat} (hi : i < 32784) (c : (h.2.1 13) i = 5) : f_Jd_leave h (nI i) = f_Jd_judgeDeclaration h (nI i) := by
  unfold f_Jd_leave
  simp (config := { decide := true }) only [if_pos (zi_in (show i < 2147483648 by omega) hi), nI_clamp (show i < 2147483648 by omega), c, if_false, if_true, Option.bind_fun_some]
theorem zv_lv6 {h : zs_H} {i : Nat} (hi : i < 32784) (c : (h.2.1 13) i = 6) : f_Jd_leave h (nI i) = f_Jd_judgeVariable h (nI i) := by
  unfold f_Jd_leave
  simp (config := { decide := true }) only [if_pos (zi_in (show i < 2147483648 by omega) hi), nI_clamp (show i < 2147483648 by omega), c, if_false, if_true, Option.bind_fun_some]
theorem zv_lv7 {h : zs_H} {i : Nat} (hi : i < 32784) (c : (h.2.1 13) i = 7) : f_Jd_leave h (nI i) = f_Jd_judgePlace h (nI i) := by
  unfold f_Jd_leave
  simp (config := { decide := true }) only [if_pos (zi_in (show i < 2147483648 by omega) hi), nI_clamp (show i < 2147483648 by omega), c, if_false, if_true, Option.bind_fun_some]
theorem zv_lv9 {h : zs_H} {i : Nat} (hi : i < 32784) (c : (h.2.1 13) i = 9) : f_Jd_leave h (nI i) = f_Jd_judgeArray h (nI i) := by
  unfold f_Jd_leave
  simp (config := { decide := true }) only [if_pos (zi_in (show i < 2147483648 by omega) hi), nI_clamp (show i < 2147483648 by omega), c, if_false, if_true, Option.bind_fun_some]
theorem zv_lv10 {h : zs_H} {i : Nat} (hi : i < 32784) (c : (h.2.1 13) i = 10) : f_Jd_leave h (nI i) = f_Jd_judgeBlockType h (nI i) := by
  unfold f_Jd_leave
  simp (config := { decide := true }) only [if_pos (zi_in (show i < 2147483648 by omega) hi), nI_clamp (show i < 2147483648 by omega), c, if_false, if_true, Option.bind_fun_some]
theorem zv_lv12 {h : zs_H} {i : Nat} (hi : i < 32784) (c : (h.2.1 13) i = 12) : f_Jd_leave h (nI i) = f_Jd_judgeAssignment h (nI i) := by
  unfold f_Jd_leave
  simp (config := { decide := true }) only [if_pos (zi_in (show i < 2147483648 by omega) hi), nI_clamp (show i < 2147483648 by omega), c, if_false, if_true, Option.bind_fun_some]
theorem zv_lv14 {h : zs_H} {i : Nat} (hi : i < 32784) (c : (h.2.1 13) i = 14) : f_Jd_leave h (nI i) = f_Jd_judgeParameter h (nI i) := by
  unfold f_Jd_leave
  simp (config := { decide := true }) only [if_pos (zi_in (show i < 2147483648 by omega) hi), nI_clamp (show i < 2147483648 by omega), c, if_false, if_true, Option.bind_fun_some]
theorem zv_lv15 {h : zs_H} {i : Nat} (hi : i < 32784) (c : (h.2.1 13) i = 15) : f_Jd_leave h (nI i) = f_Jd_judgeIf h (nI i) := by
  unfold f_Jd_leave
  simp (config := { decide := true }) only [if_pos (zi_in (show i < 2147483648 by omega) hi), nI_clamp (show i < 2147483648 by omega), c, if_false, if_true, Option.bind_fun_some]
theorem zv_lv18 {h : zs_H} {i : Nat} (hi : i < 32784) (c : (h.2.1 13) i = 18) : f_Jd_leave h (nI i) = f_Jd_judgeRange h (nI i) := by
  unfold f_Jd_leave
  simp (config := { decide := true }) only [if_pos (zi_in (show i < 2147483648 by omega) hi), nI_clamp (show i < 2147483648 by omega), c, if_false, if_true, Option.bind_fun_some]
theorem zv_lv19 {h : zs_H} {i : Nat} (hi : i < 32784) (c : (h.2.1 13) i = 19) : f_Jd_leave h (nI i) = f_Jd_judgeFor h (nI i) := by
  unfold f_Jd_leave
  simp (config := { decide := true }) only [if_pos (zi_in (show i < 2147483648 by omega) hi), nI_clamp (show i < 2147483648 by omega), c, if_false, if_true, Option.bind_fun_some]
theorem zv_lv23 {h : zs_H} {i : Nat} (hi : i < 32784) (c : (h.2.1 13) i = 23) : f_Jd_leave h (nI i) = f_Jd_judgeRung h (nI i) := by
  unfold f_Jd_leave
  simp (config := { decide := true }) only [if_pos (zi_in (show i < 2147483648 by omega) hi), nI_clamp (show i < 2147483648 by omega), c, if_false, if_true, Option.bind_fun_some]
theorem zv_lv25 {h : zs_H} {i : Nat} (hi : i < 32784) (c : (h.2.1 13) i = 25) : f_Jd_leave h (nI i) = f_Jd_judgeContact h (nI i) := by
  unfold f_Jd_leave
  simp (config := { decide := true }) only [if_pos (zi_in (show i < 2147483648 by omega) hi), nI_clamp (show i < 2147483648 by omega), c, if_false, if_true, Option.bind_fun_some]
theorem zv_lv28 {h : zs_H} {i : Nat} (hi : i < 32784) (c : (h.2.1 13) i = 28) : f_Jd_leave h (nI i) = f_Jd_judgeCoil h (nI i) := by
  unfold f_Jd_leave
  simp (config := { decide := true }) only [if_pos (zi_in (show i < 2147483648 by omega) hi), nI_clamp (show i < 2147483648 by omega), c, if_false, if_true, Option.bind_fun_some]
theorem zv_lv32 {h : zs_H} {i : Nat} (hi : i < 32784) (c : (h.2.1 13) i = 32) : f_Jd_leave h (nI i) = f_Jd_judgeVariable h (nI i) := by
  unfold f_Jd_leave
  simp (config := { decide := true }) only [if_pos (zi_in (show i < 2147483648 by omega) hi), nI_clamp (show i < 2147483648 by omega), c, if_false, if_true, Option.bind_fun_some]
theorem zv_lv33 {h : zs_H} {i : Nat} (hi : i < 32784) (c : (h.2.1 13) i = 33) : f_Jd_leave h (nI i) = f_Jd_judgeVariable h (nI i) := by
  unfold f_Jd_leave
  simp (config := { decide := true }) only [if_pos (zi_in (show i < 2147483648 by omega) hi), nI_clamp (show i < 2147483648 by omega), c, if_false, if_true, Option.bind_fun_some]
theorem zv_lv34 {h : zs_H} {i : Nat} (hi : i < 32784) (c : (h.2.1 13) i = 34) : f_Jd_leave h (nI i) = f_Jd_judgeCall h (nI i) := by
  unfold f_Jd_leave
  simp (config := { decide := true }) only [if_pos (zi_in (show i < 2147483648 by omega) hi), nI_clamp (show i < 2147483648 by omega), c, if_false, if_true, Option.bind_fun_some]
theorem zv_lv35 {h : zs_H} {i : Nat} (hi : i < 32784) (c : (h.2.1 13) i = 35) : f_Jd_leave h (nI i) = f_Jd_judgeTwo h (nI i) := by
  unfold f_Jd_leave
  simp (config := { decide := true }) only [if_pos (zi_in (show i < 2147483648 by omega) hi), nI_clamp (show i < 2147483648 by omega), c, if_false, if_true, Option.bind_fun_some]
theorem zv_lv36 {h : zs_H} {i : Nat} (hi : i < 32784) (c : (h.2.1 13) i = 36) : f_Jd_leave h (nI i) = f_Jd_judgeOne h (nI i) := by
  unfold f_Jd_leave
  simp (config := { decide := true }) only [if_pos (zi_in (show i < 2147483648 by omega) hi), nI_clamp (show i < 2147483648 by omega), c, if_false, if_true, Option.bind_fun_some]
theorem zv_lv37 {h : zs_H} {i : Nat} (hi : i < 32784) (c : (h.2.1 13) i = 37) : f_Jd_leave h (nI i) = f_Jd_declareName h (nI i) := by
  unfold f_Jd_leave
  simp (config := { decide := true }) only [if_pos (zi_in (show i < 2147483648 by omega) hi), nI_clamp (show i < 2147483648 by omega), c, if_false, if_true, Option.bind_fun_some]
theorem zv_lv8 {h : zs_H} {i : Nat} (hi : i < 32784) (c : (h.2.1 13) i = 8) : f_Jd_leave h (nI i) = some h := by
  unfold f_Jd_leave
  simp (config := { decide := true }) only [if_pos (zi_in (show i < 2147483648 by omega) hi), nI_clamp (show i < 2147483648 by omega), c, if_false, if_true, Option.bind_fun_some]
theorem zv_lv11 {h : zs_H} {i : Nat} (hi : i < 32784) (c : (h.2.1 13) i = 11) : f_Jd_leave h (nI i) = some h := by
  unfold f_Jd_leave
  simp (config := { decide := true }) only [if_pos (zi_in (show i < 2147483648 by omega) hi), nI_clamp (show i < 2147483648 by omega), c, if_false, if_true, Option.bind_fun_some]
theorem zv_lv17 {h : zs_H} {i : Nat} (hi : i < 32784) (c : (h.2.1 13) i = 17) : f_Jd_leave h (nI i) = some h := by
  unfold f_Jd_leave
  simp (config := { decide := true }) only [if_pos (zi_in (show i < 2147483648 by omega) hi), nI_clamp (show i < 2147483648 by omega), c, if_false, if_true, Option.bind_fun_some]
theorem zv_lv21 {h : zs_H} {i : Nat} (hi : i < 32784) (c : (h.2.1 13) i = 21) : f_Jd_leave h (nI i) = some h := by
  unfold f_Jd_leave
  simp (config := { decide := true }) only [if_pos (zi_in (show i < 2147483648 by omega) hi), nI_clamp (show i < 2147483648 by omega), c, if_false, if_true, Option.bind_fun_some]
theorem zv_lv22 {h : zs_H} {i : Nat} (hi : i < 32784) (c : (h.2.1 13) i = 22) : f_Jd_leave h (nI i) = some h := by
  unfold f_Jd_leave
  simp (config := { decide := true }) only [if_pos (zi_in (show i < 2147483648 by omega) hi), nI_clamp (show i < 2147483648 by omega), c, if_false, if_true, Option.bind_fun_some]
theorem zv_lv24 {h : zs_H} {i : Nat} (hi : i < 32784) (c : (h.2.1 13) i = 24) : f_Jd_leave h (nI i) = some h := by
  unfold f_Jd_leave
  simp (config := { decide := true }) only [if_pos (zi_in (show i < 2147483648 by omega) hi), nI_clamp (show i < 2147483648 by omega), c, if_false, if_true, Option.bind_fun_some]
theorem zv_lv26 {h : zs_H} {i : Nat} (hi : i < 32784) (c : (h.2.1 13) i = 26) : f_Jd_leave h (nI i) = some h := by
  unfold f_Jd_leave
  simp (config := { decide := true }) only [if_pos (zi_in (show i < 2147483648 by omega) hi), nI_clamp (show i < 2147483648 by omega), c, if_false, if_true, Option.bind_fun_some]
theorem zv_lv27 {h : zs_H} {i : Nat} (hi : i < 32784) (c : (h.2.1 13) i = 27) : f_Jd_leave h (nI i) = some h := by
  unfold f_Jd_leave
  simp (config := { decide := true }) only [if_pos (zi_in (show i < 2147483648 by omega) hi), nI_clamp (show i < 2147483648 by omega), c, if_false, if_true, Option.bind_fun_some]
theorem zv_lv31 {h : zs_H} {i : Nat} (hi : i < 32784) (c : (h.2.1 13) i = 31) : f_Jd_leave h (nI i) = some h := by
  unfold f_Jd_leave
  simp (config := { decide := true }) only [if_pos (zi_in (show i < 2147483648 by omega) hi), nI_clamp (show i < 2147483648 by omega), c, if_false, if_true, Option.bind_fun_some]
theorem zv_lv38 {h : zs_H} {i : Nat} (hi : i < 32784) (c : (h.2.1 13) i = 38) : f_Jd_leave h (nI i) = some h := by
  unfold f_Jd_leave
  simp (config := { decide := true }) only [if_pos (zi_in (show i < 2147483648 by omega) hi), nI_clamp (show i < 2147483648 by omega), c, if_false, if_true, Option.bind_fun_some]
