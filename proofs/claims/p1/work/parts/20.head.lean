theorem kw22 : Jvm.Cond.classLink "PlantKeeperLaw" (7 : Nat) "PlantKeeper" ∈ zk_BW := zk_inT 22 (by decide +kernel) rfl
theorem kw23 : Jvm.Cond.instantiable "PlantKeeper" (16 : Nat) ∈ zk_BW := zk_inT 23 (by decide +kernel) rfl
theorem kw24 : Jvm.Cond.methodLink "PlantKeeperLaw" (9 : Nat) ({ cls := "PlantKeeper", name := "<init>", desc := "()V" } : Jvm.MethodName) ∈ zk_BW := zk_inT 24 (by decide +kernel) rfl
theorem kw1675 : Jvm.Cond.classLink "PlantKeeperLaw" (10 : Nat) "PlantKeeperModel" ∈ zk_BW := zk_inT 1675 (by decide +kernel) rfl
theorem kw1676 : Jvm.Cond.instantiable "PlantKeeperModel" (96 : Nat) ∈ zk_BW := zk_inT 1676 (by decide +kernel) rfl
theorem kw1677 : Jvm.Cond.methodLink "PlantKeeperLaw" (12 : Nat) ({ cls := "PlantKeeperModel", name := "<init>", desc := "()V" } : Jvm.MethodName) ∈ zk_BW := zk_inT 1677 (by decide +kernel) rfl
set_option maxHeartbeats 4000000 in
set_option maxRecDepth 100000 in
theorem zl_head {X : zk_T} {S : zs_T} {P : ze_T} {l : Launch} {D : va_G} {sz0 b L : Nat} {xs : Nat → Int32} (hL : L ≤ 6) (C : zk_C X km_law (zs_G S l D sz0) room_1 (ze_E P)) (hs : zl_scr X b L xs) (hret : ∀ (ws : va_W) (cells slots : Nat) (lv : List (Nat × Value)), cells ≤ 600000 → slots ≤ 7302250 → zk_Ab X ws cells slots 483 lv [.int 1]) : zk_Ab X (zs_W S zs_h0) 121 1494679 18 [(0, .ref b), (1, .ref (S.1 0)), (2, .ref (S.1 68)), (3, .int 0)] [] := by
  by_cases h6 : L = 6
  · subst h6
    have tail : ∀ w : va_W, zk_Ab X w 121 1494679 18 [(0, .ref b), (3, .int 6)] [] := by
      intro w
      refine zk_iload_n C kd_law_18 rfl 1 rfl rfl ?_
      refine zk_aload_n C kd_law_19 rfl 0 rfl rfl ?_
      refine zl_slen C hs kd_law_20 rfl ?_
      refine zk_bipush (v := 6) C kd_law_21 (by decide) rfl ?_
      refine zk_isub C kd_law_23 rfl ?_
      refine zk_icmp_gt (tgt := 482) C kd_law_24 (by decide) rfl (fun h => ?_) (fun h => absurd (by decide) h)
      refine zk_iconst (v := 1) C kd_law_482 (by decide) rfl ?_
      exact hret _ _ _ _ (by decide) (by decide)
    refine zk_iload_n C kd_law_18 rfl 3 rfl rfl ?_
    refine zk_aload_n C kd_law_19 rfl 0 rfl rfl ?_
    refine zl_slen C hs kd_law_20 rfl ?_
    refine zk_bipush (v := 6) C kd_law_21 (by decide) rfl ?_
    refine zk_isub C kd_law_23 rfl ?_
    refine zk_icmp_gt (tgt := 482) C kd_law_24 (by decide) rfl (fun h => absurd h (by decide)) (fun h => ?_)
    refine zk_aload_n C kd_law_27 rfl 0 rfl rfl ?_
    refine zk_iload_n C kd_law_28 rfl 3 rfl rfl ?_
    refine zl_sld C hs (zp_dec rfl) kd_law_29 rfl ?_
    refine zk_bipush (v := 15) C kd_law_30 (by decide) rfl ?_
    refine zk_iand C kd_law_32 rfl ?_
    obtain ⟨j, hj, ej⟩ := pk_andE (xs (0 : Int32).toNatClampNeg) (m := 15) 4 (by decide)
    rw [ej]
    match j, hj with
    | 0, _ => exact zk_tableIn (tgt := 104) C kd_law_33 (by decide) (by decide) rfl (by decide) (zl_c0 C hs tail)
    | 1, _ => exact zk_tableIn (tgt := 167) C kd_law_33 (by decide) (by decide) rfl (by decide) (zl_c1 C hs tail)
    | 2, _ => exact zk_tableIn (tgt := 190) C kd_law_33 (by decide) (by decide) rfl (by decide) (zl_c2 C hs tail)
    | 3, _ => exact zk_tableIn (tgt := 213) C kd_law_33 (by decide) (by decide) rfl (by decide) (zl_c3 C hs tail)
    | 4, _ => exact zk_tableIn (tgt := 226) C kd_law_33 (by decide) (by decide) rfl (by decide) (zl_c4 C hs tail)
    | 5, _ => exact zk_tableIn (tgt := 269) C kd_law_33 (by decide) (by decide) rfl (by decide) (zl_c5 C hs tail)
    | 6, _ => exact zk_tableIn (tgt := 302) C kd_law_33 (by decide) (by decide) rfl (by decide) (zl_c6 C hs tail)
    | 7, _ => exact zk_tableIn (tgt := 345) C kd_law_33 (by decide) (by decide) rfl (by decide) (zl_c7 C hs tail)
    | 8, _ => exact zk_tableIn (tgt := 368) C kd_law_33 (by decide) (by decide) rfl (by decide) (zl_c8 C hs tail)
    | 9, _ => exact zk_tableIn (tgt := 381) C kd_law_33 (by decide) (by decide) rfl (by decide) (zl_c9 C hs tail)
    | 10, _ => exact zk_tableIn (tgt := 394) C kd_law_33 (by decide) (by decide) rfl (by decide) (zl_c10 C hs tail)
    | 11, _ => exact zk_tableIn (tgt := 407) C kd_law_33 (by decide) (by decide) rfl (by decide) (zl_c11 C hs tail)
    | 12, _ => exact zk_tableIn (tgt := 430) C kd_law_33 (by decide) (by decide) rfl (by decide) (zl_c12 C hs tail)
    | 13, _ => exact zk_tableIn (tgt := 453) C kd_law_33 (by decide) (by decide) rfl (by decide) (zl_c13 C hs tail)
    | 14, _ => exact zk_tableOut (tgt := 476) C kd_law_33 (by decide) (by decide) (zl_c14 C hs tail)
    | 15, _ => exact zk_tableOut (tgt := 476) C kd_law_33 (by decide) (by decide) (zl_c14 C hs tail)
    | j + 16, hj => exact absurd hj (by omega)
  · refine zk_iload_n C kd_law_18 rfl 3 rfl rfl ?_
    refine zk_aload_n C kd_law_19 rfl 0 rfl rfl ?_
    refine zl_slen C hs kd_law_20 rfl ?_
    refine zk_bipush (v := 6) C kd_law_21 (by decide) rfl ?_
    refine zk_isub C kd_law_23 rfl ?_
    refine zk_icmp_gt (tgt := 482) C kd_law_24 (by decide) rfl (fun h => ?_) (fun h => absurd (pk_sneg (a := L) (b := 6) (by decide) (by omega)) h)
    refine zk_iconst (v := 1) C kd_law_482 (by decide) rfl ?_
    exact hret _ _ _ _ (by decide) (by decide)
