theorem zq_uF {h hh : zs_H} {k j : Nat} {x : Int32} (a : zp_ag zq_A h hh) (hk : Nat.blt k 68 = true) : zp_ag zq_A h (zs_uF hh k j x) := a.uF (A := zq_A) (Nat.blt_eq.mp hk)
theorem zq_uM {h hh : zs_H} {k j : Nat} {x : Int32} (a : zp_ag zq_A h hh) (hk : Nat.blt k 68 = true) : zp_ag zq_A h (zs_uM hh k j x) := a.uM (A := zq_A) (Nat.blt_eq.mp hk)
set_option maxHeartbeats 4000000 in
set_option maxRecDepth 100000 in
theorem zp_load {l : Launch} {D : va_G} {sz0 : Nat} {S : zs_T} {P : ze_T} (h : zs_H) (e_0_1 : h.1 0 1 = 0) (e_19_0 : h.1 19 0 = 0) (x1 : Int32) (m_5_0 : h.2.1 5 0 = 0) : zk_Sp (zs_G S l D sz0) (ze_E P) km_Pk_load { frames := 6, cells := 0, slots := 0, locals := 133 } [.ref (S.1 0), .int x1] (zs_W S h) (fun v w => (x1 < 100 ∧ ∃ h2 : zs_H, v = some (.int (-1)) ∧ w = zs_W S h2 ∧ zp_ag zq_A h h2) ∨ (¬ x1 < 100 ∧ x1 ≤ 100000 ∧ ∃ h2 : zs_H, v = some (.int 10) ∧ w = zs_W S h2 ∧ zp_ag zq_A h h2) ∨ (¬ x1 < 100 ∧ ¬ x1 ≤ 100000 ∧ ∃ h2 : zs_H, v = some (.int (-1)) ∧ w = zs_W S h2 ∧ zp_ag zq_A h h2)) := by
  refine zk_met ku_Pk_load (Nat.le_of_ble_eq_true rfl) (ze_Em P) ?_
  intro X C hR
  refine zk_lvs (lv' := [(0, .ref (S.1 0)), (1, .int x1)]) [0, 1] rfl ?_
  refine zk_iload_n C kd_Pk_load_0 rfl 1 rfl rfl ?_
  refine zk_bipush (v := 100) C kd_Pk_load_1 (by decide) rfl ?_
  refine zk_icmp_lt (tgt := 12) C kd_Pk_load_3 (by decide) rfl (fun h_1 => ?_) (fun h_1 => ?_)
  · refine zk_iconst (v := (-1)) C kd_Pk_load_12 (by decide) rfl ?_
    exact zk_iret C hR kd_Pk_load_13 rfl rfl (Or.inl ⟨h_1, _, rfl, rfl, zp_ag.rf⟩)
  · refine zk_iload_n C kd_Pk_load_6 rfl 1 rfl rfl ?_
    refine zk_ldc (v := 100000) C kw684 kd_Pk_load_7 rfl ?_
    refine zk_icmp_le (tgt := 14) C kd_Pk_load_9 (by decide) rfl (fun h_2 => ?_) (fun h_2 => ?_)
    · refine zk_aload_n C kd_Pk_load_14 rfl 0 rfl rfl ?_
      refine zs_get (v := .ref (S.1 58)) C 0 14 rfl rfl rfl rfl ki_Pk (by decide) kw633 kd_Pk_load_15 rfl ?_
      refine zs_callV (k := 58) (rn := { frames := 0, cells := 0, slots := 0, locals := 0 }) (As := []) (rest := []) C (zp_c_forget1 h) ku_Mc_forget kw685 kv_Mc_forget rfl ⟨by decide, by decide⟩ ⟨by decide, by decide⟩ rfl rfl rfl (Nat.le_of_ble_eq_true rfl) kd_Pk_load_18 rfl (c1 := 0) (s1 := 0) rfl rfl (fun v w hp => ?_)
      obtain ⟨rfl, rfl⟩ := hp
      refine zk_stk (r' := []) rfl ?_
      refine zk_aload_n C kd_Pk_load_21 rfl 0 rfl rfl ?_
      refine zk_iconst (v := 0) C kd_Pk_load_22 (by decide) rfl ?_
      refine zs_put (ty := .int) C 0 2 0 rfl rfl rfl rfl ki_Pk ky_Pk ko_Pk kn_Pk (by decide) kw621 rfl rfl rfl rfl (by decide) kd_Pk_load_23 rfl ?_
      refine zk_aload_n C kd_Pk_load_26 rfl 0 rfl rfl ?_
      refine zk_bipush (v := (-5)) C kd_Pk_load_27 (by decide) rfl ?_
      refine zs_put (ty := .int) C 0 3 (-5) rfl rfl rfl rfl ki_Pk ky_Pk ko_Pk kn_Pk (by decide) kw622 rfl rfl rfl rfl (by decide) kd_Pk_load_29 rfl ?_
      refine zk_aload_n C kd_Pk_load_32 rfl 0 rfl rfl ?_
      refine zs_get (v := .ref (S.1 2)) C 0 5 rfl rfl rfl rfl ki_Pk (by decide) kw624 kd_Pk_load_33 rfl ?_
      refine zs_callV (k := 2) (rn := { frames := 4, cells := 0, slots := 0, locals := 96 }) (As := []) (rest := []) C (zn_forget (zs_uF (zs_uF (zs_uF (zs_uF (zs_uF (zs_uF (zs_uF (zs_uF (zs_uF h 58 3 0) 58 4 0) 58 5 0) 58 6 0) 58 7 0) 58 8 0) 58 9 0) 0 2 0) 0 3 (-5)) 0 m_5_0 (by decide)) ku_Nm_forget kw689 kv_Nm_forget rfl ⟨by decide, by decide⟩ ⟨by decide, by decide⟩ rfl rfl rfl (Nat.le_of_ble_eq_true rfl) kd_Pk_load_36 rfl (c1 := 0) (s1 := 0) rfl rfl (fun v w hp => ?_)
      obtain ⟨y_3, _, _, rfl, rfl, -, -, ay_3⟩ := hp
      have gy_3 : zp_ag zq_A h y_3 := ((show zp_ag zq_A h (zs_uF (zs_uF (zs_uF (zs_uF (zs_uF (zs_uF (zs_uF (zs_uF (zs_uF h 58 3 0) 58 4 0) 58 5 0) 58 6 0) 58 7 0) 58 8 0) 58 9 0) 0 2 0) 0 3 (-5)) from (zq_uF (zq_uF (zq_uF (zq_uF (zq_uF (zq_uF (zq_uF (zq_uF (zq_uF zp_ag.rf rfl) rfl) rfl) rfl) rfl) rfl) rfl) rfl) rfl))).tr (zp_ag.mono zq_nm ay_3)
      refine zk_stk (r' := []) rfl ?_
      refine zk_aload_n C kd_Pk_load_39 rfl 0 rfl rfl ?_
      refine zs_get (v := .ref (S.1 8)) C 0 6 rfl rfl rfl rfl ki_Pk (by decide) kw625 kd_Pk_load_40 rfl ?_
      refine zk_aload_n C kd_Pk_load_43 rfl 0 rfl rfl ?_
      refine zs_get (v := .ref (S.1 1)) C 0 0 rfl rfl rfl rfl ki_Pk (by decide) kw619 kd_Pk_load_44 rfl ?_
      refine zk_aload_n C kd_Pk_load_47 rfl 0 rfl rfl ?_
      refine zs_get (v := .int 0) C 0 1 rfl rfl (congrArg Value.int (zp_agF ay_3 0 (by unfold zn_A; decide) 1 e_0_1)) rfl ki_Pk (by decide) kw620 kd_Pk_load_48 rfl ?_
      refine zs_callV (k := 8) (rn := { frames := 2, cells := 0, slots := 0, locals := 44 }) (As := [.ref (S.1 1), .int 0]) (rest := []) C (zp_c_read1 y_3) ku_Tk_read kw714 kv_Tk_read rfl ⟨by decide, by decide⟩ ⟨by decide, by decide⟩ rfl rfl rfl (Nat.le_of_ble_eq_true rfl) kd_Pk_load_51 rfl (c1 := 0) (s1 := 0) rfl rfl (fun v w hp => ?_)
      obtain ⟨rfl, rfl⟩ := hp
      refine zk_stk (r' := []) rfl ?_
      refine zk_aload_n C kd_Pk_load_54 rfl 0 rfl rfl ?_
      refine zk_iconst (v := 0) C kd_Pk_load_55 (by decide) rfl ?_
      refine zs_put (ty := .int) C 0 1 0 rfl rfl rfl rfl ki_Pk ky_Pk ko_Pk kn_Pk (by decide) kw620 rfl rfl rfl rfl (by decide) kd_Pk_load_56 rfl ?_
      refine zk_aload_n C kd_Pk_load_59 rfl 0 rfl rfl ?_
      refine zk_aload_n C kd_Pk_load_60 rfl 0 rfl rfl ?_
      refine zs_get (v := .ref (S.1 19)) C 0 7 rfl rfl rfl rfl ki_Pk (by decide) kw626 kd_Pk_load_61 rfl ?_
      refine zs_callV (k := 19) (rn := { frames := 2, cells := 0, slots := 0, locals := 45 }) (As := []) (rest := [.ref (S.1 0)]) C (zp_c_parse1 (zs_uF (zs_uF (zs_uM (zs_uM (zs_uM (zs_uF (zs_uF (zs_uF (zs_uF y_3 8 5 1) 8 6 0) 8 7 0) 8 3 0) 9 ((0 : Int32)).toNatClampNeg (vp_nar .char 6)) 10 ((0 : Int32)).toNatClampNeg (vp_nar .char 0)) 11 ((0 : Int32)).toNatClampNeg 0) 8 3 1) 0 1 0) rfl rfl) ku_Ps_parse kw862 kv_Ps_parse rfl ⟨by decide, by decide⟩ ⟨by decide, by decide⟩ rfl rfl rfl (Nat.le_of_ble_eq_true rfl) kd_Pk_load_64 rfl (c1 := 0) (s1 := 0) rfl rfl (fun v w hp => ?_)
      obtain ⟨rfl, rfl⟩ := hp
      refine zk_stk (r' := [.int 0, .ref (S.1 0)]) rfl ?_
      refine zk_aload_n C kd_Pk_load_67 rfl 0 rfl rfl ?_
      refine zs_get (v := .ref (S.1 19)) C 0 7 rfl rfl rfl rfl ki_Pk (by decide) kw626 kd_Pk_load_68 rfl ?_
      refine zs_get (v := .int 0) C 19 0 rfl rfl (congrArg Value.int (zp_agF ay_3 19 (by unfold zn_A; decide) 0 e_19_0)) rfl ki_Ps (by decide) kw201 kd_Pk_load_71 rfl ?_
      refine zs_callV (k := 0) (rn := { frames := 0, cells := 0, slots := 0, locals := 0 }) (As := [.int 0, .int 0]) (rest := []) C (zp_c_note1 (zs_uF (zs_uM (zs_uM (zs_uM (zs_uM (zs_uM (zs_uM (zs_uF (zs_uF (zs_uF (zs_uF (zs_uF (zs_uF (zs_uF (zs_uF (zs_uM (zs_uM (zs_uM (zs_uF (zs_uF (zs_uF (zs_uF y_3 8 5 1) 8 6 0) 8 7 0) 8 3 0) 9 ((0 : Int32)).toNatClampNeg (vp_nar .char 6)) 10 ((0 : Int32)).toNatClampNeg (vp_nar .char 0)) 11 ((0 : Int32)).toNatClampNeg 0) 8 3 1) 0 1 0) 19 3 0) 19 4 0) 19 5 6) 19 6 0) 19 7 0) 12 6 0) 13 ((0 : Int32)).toNatClampNeg (vp_nar .byte 0)) 14 ((0 : Int32)).toNatClampNeg (vp_nar .byte 0)) 15 ((0 : Int32)).toNatClampNeg (vp_nar .char 0)) 16 ((0 : Int32)).toNatClampNeg 0) 17 ((0 : Int32)).toNatClampNeg (-1)) 18 ((0 : Int32)).toNatClampNeg (-1)) 12 6 1)) ku_Pk_note kw994 kv_Pk_note rfl ⟨by decide, by decide⟩ ⟨by decide, by decide⟩ rfl rfl rfl (Nat.le_of_ble_eq_true rfl) kd_Pk_load_74 rfl (c1 := 0) (s1 := 0) rfl rfl (fun v w hp => ?_)
      obtain ⟨rfl, rfl⟩ := hp
      refine zk_stk (r' := []) rfl ?_
      refine zk_aload_n C kd_Pk_load_77 rfl 0 rfl rfl ?_
      refine zs_get (v := .int 0) C 0 2 rfl rfl (congrArg Value.int (zp_agF ay_3 0 (by unfold zn_A; decide) 2 rfl)) rfl ki_Pk (by decide) kw621 kd_Pk_load_78 rfl ?_
      refine zk_if_ne (tgt := 102) C kd_Pk_load_81 (by decide) rfl (fun h_4 => absurd (by decide) h_4) (fun h_4 => ?_)
      refine zk_aload_n C kd_Pk_load_84 rfl 0 rfl rfl ?_
      refine zk_aload_n C kd_Pk_load_85 rfl 0 rfl rfl ?_
      refine zs_get (v := .ref (S.1 38)) C 0 10 rfl rfl rfl rfl ki_Pk (by decide) kw629 kd_Pk_load_86 rfl ?_
      refine zs_callV (k := 38) (rn := { frames := 5, cells := 0, slots := 0, locals := 112 }) (As := []) (rest := [.ref (S.1 0)]) C (zp_judge (zs_uF (zs_uM (zs_uM (zs_uM (zs_uM (zs_uM (zs_uM (zs_uF (zs_uF (zs_uF (zs_uF (zs_uF (zs_uF (zs_uF (zs_uF (zs_uM (zs_uM (zs_uM (zs_uF (zs_uF (zs_uF (zs_uF y_3 8 5 1) 8 6 0) 8 7 0) 8 3 0) 9 ((0 : Int32)).toNatClampNeg (vp_nar .char 6)) 10 ((0 : Int32)).toNatClampNeg (vp_nar .char 0)) 11 ((0 : Int32)).toNatClampNeg 0) 8 3 1) 0 1 0) 19 3 0) 19 4 0) 19 5 6) 19 6 0) 19 7 0) 12 6 0) 13 ((0 : Int32)).toNatClampNeg (vp_nar .byte 0)) 14 ((0 : Int32)).toNatClampNeg (vp_nar .byte 0)) 15 ((0 : Int32)).toNatClampNeg (vp_nar .char 0)) 16 ((0 : Int32)).toNatClampNeg 0) 17 ((0 : Int32)).toNatClampNeg (-1)) 18 ((0 : Int32)).toNatClampNeg (-1)) 12 6 1) rfl rfl rfl rfl) ku_Jd_judge kw998 kv_Jd_judge rfl ⟨by decide, by decide⟩ ⟨by decide, by decide⟩ rfl rfl rfl (Nat.le_of_ble_eq_true rfl) kd_Pk_load_89 rfl (c1 := 0) (s1 := 0) rfl rfl (fun v w hp => ?_)
      obtain ⟨y_5, rfl, rfl, ay_5⟩ := hp
      have gy_5 : zp_ag zq_A h y_5 := ((show zp_ag zq_A h (zs_uF (zs_uM (zs_uM (zs_uM (zs_uM (zs_uM (zs_uM (zs_uF (zs_uF (zs_uF (zs_uF (zs_uF (zs_uF (zs_uF (zs_uF (zs_uM (zs_uM (zs_uM (zs_uF (zs_uF (zs_uF (zs_uF y_3 8 5 1) 8 6 0) 8 7 0) 8 3 0) 9 ((0 : Int32)).toNatClampNeg (vp_nar .char 6)) 10 ((0 : Int32)).toNatClampNeg (vp_nar .char 0)) 11 ((0 : Int32)).toNatClampNeg 0) 8 3 1) 0 1 0) 19 3 0) 19 4 0) 19 5 6) 19 6 0) 19 7 0) 12 6 0) 13 ((0 : Int32)).toNatClampNeg (vp_nar .byte 0)) 14 ((0 : Int32)).toNatClampNeg (vp_nar .byte 0)) 15 ((0 : Int32)).toNatClampNeg (vp_nar .char 0)) 16 ((0 : Int32)).toNatClampNeg 0) 17 ((0 : Int32)).toNatClampNeg (-1)) 18 ((0 : Int32)).toNatClampNeg (-1)) 12 6 1) from (zq_uF (zq_uM (zq_uM (zq_uM (zq_uM (zq_uM (zq_uM (zq_uF (zq_uF (zq_uF (zq_uF (zq_uF (zq_uF (zq_uF (zq_uF (zq_uM (zq_uM (zq_uM (zq_uF (zq_uF (zq_uF (zq_uF gy_3 rfl) rfl) rfl) rfl) rfl) rfl) rfl) rfl) rfl) rfl) rfl) rfl) rfl) rfl) rfl) rfl) rfl) rfl) rfl) rfl) rfl) rfl))).tr (zp_ag.mono zq_jd ay_5)
      refine zk_stk (r' := [.int 10, .ref (S.1 0)]) rfl ?_
      refine zk_aload_n C kd_Pk_load_92 rfl 0 rfl rfl ?_
      refine zs_get (v := .ref (S.1 38)) C 0 10 rfl rfl rfl rfl ki_Pk (by decide) kw629 kd_Pk_load_93 rfl ?_
      refine zs_get (v := .int (y_5.1 38 0)) C 38 0 rfl rfl rfl rfl ki_Jd (by decide) kw351 kd_Pk_load_96 rfl ?_
      refine zs_callV (k := 0) (rn := { frames := 0, cells := 0, slots := 0, locals := 0 }) (As := [.int 10, .int (y_5.1 38 0)]) (rest := []) C (zp_c_note2 y_5 ((y_5.1 38 0))) ku_Pk_note kw994 kv_Pk_note rfl ⟨by decide, by decide⟩ ⟨by decide, by decide⟩ rfl rfl rfl (Nat.le_of_ble_eq_true rfl) kd_Pk_load_99 rfl (c1 := 0) (s1 := 0) rfl rfl (fun v w hp => ?_)
      obtain ⟨rfl, rfl⟩ := hp
      refine zk_stk (r' := []) rfl ?_
      refine zk_aload_n C kd_Pk_load_102 rfl 0 rfl rfl ?_
      refine zs_get (v := .int 10) C 0 2 rfl rfl rfl rfl ki_Pk (by decide) kw621 kd_Pk_load_103 rfl ?_
      refine zk_if_ne (tgt := 121) C kd_Pk_load_106 (by decide) rfl (fun h_6 => ?_) (fun h_6 => absurd h_6 (by decide))
      refine zk_aload_n C kd_Pk_load_121 rfl 0 rfl rfl ?_
      refine zs_get (v := .int 10) C 0 2 rfl rfl rfl rfl ki_Pk (by decide) kw621 kd_Pk_load_122 rfl ?_
      refine zk_if_ne (tgt := 133) C kd_Pk_load_125 (by decide) rfl (fun h_7 => ?_) (fun h_7 => absurd h_7 (by decide))
      refine zk_aload_n C kd_Pk_load_133 rfl 0 rfl rfl ?_
      refine zs_get (v := .int 10) C 0 2 rfl rfl rfl rfl ki_Pk (by decide) kw621 kd_Pk_load_134 rfl ?_
      refine zk_if_ne (tgt := 165) C kd_Pk_load_137 (by decide) rfl (fun h_8 => ?_) (fun h_8 => absurd h_8 (by decide))
      refine zk_aload_n C kd_Pk_load_165 rfl 0 rfl rfl ?_
      refine zs_get (v := .int 10) C 0 2 rfl rfl rfl rfl ki_Pk (by decide) kw621 kd_Pk_load_166 rfl ?_
      exact zk_iret C hR kd_Pk_load_169 rfl rfl (Or.inr (Or.inl ⟨h_1, h_2, _, rfl, rfl, (show zp_ag zq_A h (zs_uF (zs_uF y_5 0 2 10) 0 3 (y_5.1 38 0)) from (zq_uF (zq_uF gy_5 rfl) rfl))⟩))
    · refine zk_iconst (v := (-1)) C kd_Pk_load_12 (by decide) rfl ?_
      exact zk_iret C hR kd_Pk_load_13 rfl rfl (Or.inr (Or.inr ⟨h_1, h_2, _, rfl, rfl, zp_ag.rf⟩))
