theorem kw680 : Jvm.Cond.methodLink "PlantKeeperLaw" (23 : Nat) ({ cls := "PlantKeeper", name := "load", desc := "(I)I" } : Jvm.MethodName) ∈ zk_BW := zk_inT 680 (by decide +kernel) rfl
theorem kw1984 : Jvm.Cond.methodLink "PlantKeeperLaw" (26 : Nat) ({ cls := "PlantKeeperModel", name := "load", desc := "(I)I" } : Jvm.MethodName) ∈ zk_BW := zk_inT 1984 (by decide +kernel) rfl
set_option maxHeartbeats 4000000 in
set_option maxRecDepth 100000 in
theorem zl_c2 {X : zk_T} {S : zs_T} {P : ze_T} {l : Launch} {D : va_G} {sz0 b : Nat} {xs : Nat → Int32} (C : zk_C X km_law (zs_G S l D sz0) room_1 (ze_E P)) (hs : zl_scr X b 6 xs) (tail : ∀ w : va_W, zk_Ab X w 121 1494679 18 [(0, .ref b), (3, .int 6)] []) : zk_Ab X (zs_W S zs_h0) 121 1494679 190 [(0, .ref b), (1, .ref (S.1 0)), (2, .ref (S.1 68)), (3, .int 0)] [] := by
  refine zk_aload_n C kd_law_190 rfl 1 rfl rfl ?_
  refine zk_aload_n C kd_law_191 rfl 0 rfl rfl ?_
  refine zk_iload_n C kd_law_192 rfl 3 rfl rfl ?_
  refine zk_iconst (v := 1) C kd_law_193 (by decide) rfl ?_
  refine zk_iadd C kd_law_194 rfl ?_
  refine zk_stk (r' := [.int 1, .ref b, .ref (S.1 0)]) (by rw [show (0 : Int32) + 1 = 1 by decide]) ?_
  refine zl_sld C hs (zp_dec rfl) kd_law_195 rfl ?_
  refine zk_stk (r' := [.int (xs 1), .ref (S.1 0)]) rfl ?_
  refine zs_callV (k := 0) (rn := { frames := 6, cells := 0, slots := 0, locals := 133 }) (As := [.int (xs 1)]) (rest := []) C (zp_load zs_h0 rfl rfl (xs 1) rfl) ku_Pk_load kw680 kv_Pk_load rfl ⟨by decide, by decide⟩ ⟨by decide, by decide⟩ rfl rfl rfl (Nat.le_of_ble_eq_true rfl) kd_law_196 rfl (c1 := 121) (s1 := 1494679) rfl rfl (fun v w hp => ?_)
  rcases hp with ⟨p1, h2, rfl, rfl, ag⟩ | ⟨p1, p2, h2, rfl, rfl, ag⟩ | ⟨p1, p2, h2, rfl, rfl, ag⟩
  · refine zk_stk (r' := [.int (-1)]) rfl ?_
    refine zk_aload_n C kd_law_199 rfl 2 rfl rfl ?_
    refine zk_aload_n C kd_law_200 rfl 0 rfl rfl ?_
    refine zk_iload_n C kd_law_201 rfl 3 rfl rfl ?_
    refine zk_iconst (v := 1) C kd_law_202 (by decide) rfl ?_
    refine zk_iadd C kd_law_203 rfl ?_
    refine zk_stk (r' := [.int 1, .ref b, .ref (S.1 68), .int (-1)]) (by rw [show (0 : Int32) + 1 = 1 by decide]) ?_
    refine zl_sld C hs (zp_dec rfl) kd_law_204 rfl ?_
    refine zk_stk (r' := [.int (xs 1), .ref (S.1 68), .int (-1)]) rfl ?_
    refine zs_callV (k := 68) (rn := { frames := 7, cells := 0, slots := 0, locals := 156 }) (As := [.int (xs 1)]) (rest := [.int (-1)]) C (zq_c_load1 h2 (zp_agF ag 68 (by unfold zq_A; decide) 78 rfl) (xs 1)) ku_Mo_load kw1984 kv_Mo_load rfl ⟨by decide, by decide⟩ ⟨by decide, by decide⟩ rfl rfl rfl (Nat.le_of_ble_eq_true rfl) kd_law_205 rfl (c1 := 121) (s1 := 1494679) rfl rfl (fun v w hp => ?_)
    rcases hp with ⟨q1, rfl, rfl⟩ | ⟨q1, q2, rfl, rfl⟩ | ⟨q1, q2, rfl, rfl⟩
    · refine zk_stk (r' := [.int (-1), .int (-1)]) rfl ?_
      refine zk_icmp_eq (tgt := 476) C kd_law_208 (by decide) rfl (fun h_1 => ?_) (fun h_1 => absurd (by decide) h_1)
      refine zk_iinc (v := 6) (lv' := [(3, _), (0, _), (1, _), (2, _)]) C kd_law_476 3 rfl (by decide) (by decide) rfl rfl ?_
      refine zk_goto (tgt := 18) C kd_law_479 (by decide) ?_
      exact zk_lvs (lv' := [(0, .ref b), (3, .int 6)]) [1, 0] rfl (tail _)
    · exact absurd p1 q1
    · exact absurd p1 q1
  · refine zk_stk (r' := [.int 10]) rfl ?_
    refine zk_aload_n C kd_law_199 rfl 2 rfl rfl ?_
    refine zk_aload_n C kd_law_200 rfl 0 rfl rfl ?_
    refine zk_iload_n C kd_law_201 rfl 3 rfl rfl ?_
    refine zk_iconst (v := 1) C kd_law_202 (by decide) rfl ?_
    refine zk_iadd C kd_law_203 rfl ?_
    refine zk_stk (r' := [.int 1, .ref b, .ref (S.1 68), .int 10]) (by rw [show (0 : Int32) + 1 = 1 by decide]) ?_
    refine zl_sld C hs (zp_dec rfl) kd_law_204 rfl ?_
    refine zk_stk (r' := [.int (xs 1), .ref (S.1 68), .int 10]) rfl ?_
    refine zs_callV (k := 68) (rn := { frames := 7, cells := 0, slots := 0, locals := 156 }) (As := [.int (xs 1)]) (rest := [.int 10]) C (zq_c_load1 h2 (zp_agF ag 68 (by unfold zq_A; decide) 78 rfl) (xs 1)) ku_Mo_load kw1984 kv_Mo_load rfl ⟨by decide, by decide⟩ ⟨by decide, by decide⟩ rfl rfl rfl (Nat.le_of_ble_eq_true rfl) kd_law_205 rfl (c1 := 121) (s1 := 1494679) rfl rfl (fun v w hp => ?_)
    rcases hp with ⟨q1, rfl, rfl⟩ | ⟨q1, q2, rfl, rfl⟩ | ⟨q1, q2, rfl, rfl⟩
    · exact absurd q1 p1
    · refine zk_stk (r' := [.int 10, .int 10]) rfl ?_
      refine zk_icmp_eq (tgt := 476) C kd_law_208 (by decide) rfl (fun h_2 => ?_) (fun h_2 => absurd (by decide) h_2)
      refine zk_iinc (v := 6) (lv' := [(3, _), (0, _), (1, _), (2, _)]) C kd_law_476 3 rfl (by decide) (by decide) rfl rfl ?_
      refine zk_goto (tgt := 18) C kd_law_479 (by decide) ?_
      exact zk_lvs (lv' := [(0, .ref b), (3, .int 6)]) [1, 0] rfl (tail _)
    · exact absurd p2 q2
  · refine zk_stk (r' := [.int (-1)]) rfl ?_
    refine zk_aload_n C kd_law_199 rfl 2 rfl rfl ?_
    refine zk_aload_n C kd_law_200 rfl 0 rfl rfl ?_
    refine zk_iload_n C kd_law_201 rfl 3 rfl rfl ?_
    refine zk_iconst (v := 1) C kd_law_202 (by decide) rfl ?_
    refine zk_iadd C kd_law_203 rfl ?_
    refine zk_stk (r' := [.int 1, .ref b, .ref (S.1 68), .int (-1)]) (by rw [show (0 : Int32) + 1 = 1 by decide]) ?_
    refine zl_sld C hs (zp_dec rfl) kd_law_204 rfl ?_
    refine zk_stk (r' := [.int (xs 1), .ref (S.1 68), .int (-1)]) rfl ?_
    refine zs_callV (k := 68) (rn := { frames := 7, cells := 0, slots := 0, locals := 156 }) (As := [.int (xs 1)]) (rest := [.int (-1)]) C (zq_c_load1 h2 (zp_agF ag 68 (by unfold zq_A; decide) 78 rfl) (xs 1)) ku_Mo_load kw1984 kv_Mo_load rfl ⟨by decide, by decide⟩ ⟨by decide, by decide⟩ rfl rfl rfl (Nat.le_of_ble_eq_true rfl) kd_law_205 rfl (c1 := 121) (s1 := 1494679) rfl rfl (fun v w hp => ?_)
    rcases hp with ⟨q1, rfl, rfl⟩ | ⟨q1, q2, rfl, rfl⟩ | ⟨q1, q2, rfl, rfl⟩
    · exact absurd q1 p1
    · exact absurd q2 p2
    · refine zk_stk (r' := [.int (-1), .int (-1)]) rfl ?_
      refine zk_icmp_eq (tgt := 476) C kd_law_208 (by decide) rfl (fun h_3 => ?_) (fun h_3 => absurd (by decide) h_3)
      refine zk_iinc (v := 6) (lv' := [(3, _), (0, _), (1, _), (2, _)]) C kd_law_476 3 rfl (by decide) (by decide) rfl rfl ?_
      refine zk_goto (tgt := 18) C kd_law_479 (by decide) ?_
      exact zk_lvs (lv' := [(0, .ref b), (3, .int 6)]) [1, 0] rfl (tail _)
