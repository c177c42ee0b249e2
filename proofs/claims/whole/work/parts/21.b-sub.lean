/-! The JDK's methods that make a String of a part of a String constant. -/
set_option maxHeartbeats 4000000 in
set_option maxRecDepth 100000 in
theorem js_can {S : zs_T} {l : Launch} {D : va_G} {sz0 : Nat} {P : ze_T} (ws : va_W) : zk_Sp (zs_G S l D sz0) (ze_E P) km_Sl_canEncode { frames := 0, cells := 0, slots := 0, locals := 0 } [.int 32] ws (fun v0 w => v0 = some (.int 1) ∧ w = ws) := by
  refine zk_met ku_Sl_canEncode (Nat.le_of_ble_eq_true rfl) (ze_Em P) ?_
  intro X C hR
  refine zk_lvs (lv' := [(0, .int 32)]) [0] rfl ?_
  refine zk_iload_n C kd_Sl_canEncode_0 rfl 0 rfl rfl ?_
  refine zk_if_lt (tgt := 15) C kd_Sl_canEncode_1 (by decide) rfl (fun h => absurd h (by decide)) (fun h => ?_)
  refine zk_iload_n C kd_Sl_canEncode_4 rfl 0 rfl rfl ?_
  refine zk_sipush (v := 255) C kd_Sl_canEncode_5 (by decide) rfl ?_
  refine zk_icmp_gt (tgt := 15) C kd_Sl_canEncode_8 (by decide) rfl (fun h => absurd h (by decide)) (fun h => ?_)
  refine zk_iconst (v := 1) C kd_Sl_canEncode_11 (by decide) rfl ?_
  refine zk_goto (tgt := 16) C kd_Sl_canEncode_12 (by decide) ?_
  exact zk_zret C hR rfl kd_Sl_canEncode_16 rfl rfl ⟨rfl, rfl⟩
/-- the first space from place b on, within m places -/
def js_ix (i : Nat) : Nat → Nat → Int32
  | 0, _ => -1
  | m + 1, b => if ze_f i b = 32 then nI b else js_ix i m (b + 1)
set_option maxHeartbeats 4000000 in
set_option maxRecDepth 100000 in
theorem js_ixcL {X : zkj_T} {S : zs_T} {l : Launch} {D : va_G} {sz0 : Nat} {P : ze_T} (ws : va_W) (i : Nat) (hi : i < 22) (Q : Int32) (C : zk_C X km_Sl_indexOfChar (zs_G S l D sz0) { frames := 0, cells := 0, slots := 0, locals := 0 } (ze_E P)) (hR : zkj_R X (fun v0 w => v0 = some (.int Q) ∧ w = ws) (some .int)) : ∀ (m b : Nat), b + m = ze_n i → js_ix i m b = Q → zk_Ab X ws 0 0 7 [(5, .int (nI b)), (4, .int 32), (0, .ref (P.2.1 i)), (3, .int (nI (ze_n i)))] [] := by
  have hN := js_len i hi
  intro m
  induction m with
  | zero =>
    intro b hb hq
    refine zk_iload C kd_Sl_indexOfChar_7 0 rfl rfl ?_
    refine zk_iload_n C kd_Sl_indexOfChar_9 rfl 3 rfl rfl ?_
    refine zk_icmp_ge (tgt := 31) C kd_Sl_indexOfChar_10 (by decide) rfl (fun h => ?_) (fun h => absurd (nI_le (by omega) (by omega)) h)
    refine zk_iconst (v := (-1)) C kd_Sl_indexOfChar_31 (by decide) rfl ?_
    have hq2 : (-1 : Int32) = Q := hq
    subst hq2
    exact zk_iret C hR kd_Sl_indexOfChar_32 rfl rfl ⟨rfl, rfl⟩
  | succ m ih =>
    intro b hb hq
    refine zk_iload C kd_Sl_indexOfChar_7 0 rfl rfl ?_
    refine zk_iload_n C kd_Sl_indexOfChar_9 rfl 3 rfl rfl ?_
    refine zk_icmp_ge (tgt := 31) C kd_Sl_indexOfChar_10 (by decide) rfl (fun h => absurd h (nI_ge (by omega) (by omega))) (fun h => ?_)
    refine zk_aload_n C kd_Sl_indexOfChar_13 rfl 2 rfl rfl ?_
    refine zk_iload C kd_Sl_indexOfChar_14 0 rfl rfl ?_
    refine ze_vld C hi (vp_in_nI (by omega) hN) kd_Sl_indexOfChar_16 rfl ?_
    rw [nI_clamp (by omega)]
    refine zk_iload C kd_Sl_indexOfChar_17 1 rfl rfl ?_
    refine zk_icmp_ne (tgt := 25) C kd_Sl_indexOfChar_19 (by decide) rfl (fun h => ?_) (fun h => ?_)
    · refine zk_iinc (v := nI (b + 1)) (lv' := [(5, .int (nI (b + 1))), (4, .int 32), (0, .ref (P.2.1 i)), (3, .int (nI (ze_n i)))]) C kd_Sl_indexOfChar_25 0 rfl (nI_succ b).symm (by decide) rfl rfl ?_
      refine zk_goto (tgt := 7) C kd_Sl_indexOfChar_28 (by decide) ?_
      exact ih (b + 1) (by omega) (by rw [← hq]; show _ = if ze_f i b = 32 then nI b else js_ix i m (b + 1); rw [if_neg h])
    · refine zk_iload C kd_Sl_indexOfChar_22 0 rfl rfl ?_
      have hq2 : nI b = Q := by rw [← hq]; show _ = if ze_f i b = 32 then nI b else js_ix i m (b + 1); rw [if_pos h]
      subst hq2
      exact zk_iret C hR kd_Sl_indexOfChar_24 rfl rfl ⟨rfl, rfl⟩
set_option maxHeartbeats 4000000 in
set_option maxRecDepth 100000 in
theorem js_ixc {S : zs_T} {l : Launch} {D : va_G} {sz0 : Nat} {P : ze_T} (ws : va_W) (i : Nat) (hi : i < 22) (b : Nat) (hb : b ≤ ze_n i) : zk_Sp (zs_G S l D sz0) (ze_E P) km_Sl_indexOfChar { frames := 0, cells := 0, slots := 0, locals := 0 } [.ref (P.2.1 i), .int 32, .int (nI b), .int (nI (ze_n i))] ws (fun v0 w => v0 = some (.int (js_ix i (ze_n i - b) b)) ∧ w = ws) := by
  refine zk_met ku_Sl_indexOfChar (Nat.le_of_ble_eq_true rfl) (ze_Em P) ?_
  intro X C hR
  refine zk_lvs (lv' := [(0, .ref (P.2.1 i)), (1, .int 32), (2, .int (nI b)), (3, .int (nI (ze_n i)))]) [0, 1, 2, 3] rfl ?_
  refine zk_iload_n C kd_Sl_indexOfChar_0 rfl 1 rfl rfl ?_
  refine zk_i2b C kd_Sl_indexOfChar_1 rfl ?_
  refine zk_stk (r' := [.int 32]) rfl ?_
  refine zk_istore (lv' := [(4, .int 32), (0, .ref (P.2.1 i)), (1, .int 32), (2, .int (nI b)), (3, .int (nI (ze_n i)))]) C kd_Sl_indexOfChar_2 (by decide) rfl rfl ?_
  refine zk_iload_n C kd_Sl_indexOfChar_4 rfl 3 rfl rfl ?_
  refine zk_istore (lv' := [(5, .int (nI b)), (4, .int 32), (0, .ref (P.2.1 i)), (1, .int 32), (2, .int (nI b)), (3, .int (nI (ze_n i)))]) C kd_Sl_indexOfChar_5 (by decide) rfl rfl ?_
  refine zk_lvs (lv' := [(5, .int (nI b)), (4, .int 32), (0, .ref (P.2.1 i)), (3, .int (nI (ze_n i)))]) [0, 1, 2, 5] rfl ?_
  exact js_ixcL ws i hi _ C hR (ze_n i - b) b (by omega) rfl
theorem js_max {b : Nat} (h : b < 2 ^ 31) : zd_max (nI b) 0 = nI b := by
  unfold zd_max
  split
  · rename_i q; exact absurd q (nI_pos h)
  · rfl
theorem js_min {x : Int32} : zd_min x x = x := by
  unfold zd_min
  split <;> rfl
set_option maxHeartbeats 4000000 in
set_option maxRecDepth 100000 in
theorem js_ixL {S : zs_T} {l : Launch} {D : va_G} {sz0 : Nat} {P : ze_T} (ws : va_W) (i : Nat) (hi : i < 22) (b : Nat) (hb : b < ze_n i) : zk_Sp (zs_G S l D sz0) (ze_E P) km_Sl_indexOf { frames := 1, cells := 0, slots := 0, locals := 25 } [.ref (P.2.1 i), .int 32, .int (nI b), .int (nI (ze_n i))] ws (fun v0 w => v0 = some (.int (js_ix i (ze_n i - b) b)) ∧ w = ws) := by
  refine zk_met ku_Sl_indexOf (Nat.le_of_ble_eq_true rfl) (ze_Em P) ?_
  intro X C hR
  refine zk_lvs (lv' := [(0, .ref (P.2.1 i)), (1, .int 32), (2, .int (nI b)), (3, .int (nI (ze_n i)))]) [0, 1, 2, 3] rfl ?_
  have hN := js_len i hi
  refine zk_iload_n C kd_Sl_indexOf_0 rfl 1 rfl rfl ?_
  refine zk_callS (As := [.int 32]) (rest := []) C (js_can ws) ku_Sl_canEncode kx811 ks_Sl_canEncode rfl ⟨by decide, by decide⟩ ⟨by decide, by decide⟩ rfl (by decide) kd_Sl_indexOf_1 rfl (c1 := 0) (s1 := 0) rfl rfl (fun v w hp => ?_)
  obtain ⟨rfl, ew⟩ := hp
  rw [ew]
  refine zk_stk (r' := [.int 1]) rfl ?_
  refine zk_if_ne (tgt := 9) C kd_Sl_indexOf_4 (by decide) rfl (fun h => ?_) (fun h => absurd h (by decide))
  refine zk_iload_n C kd_Sl_indexOf_9 rfl 2 rfl rfl ?_
  refine zk_iconst (v := 0) C kd_Sl_indexOf_10 (by decide) rfl ?_
  refine zk_mmax C kx814 kx797 kx19 (by decide) (by decide) (Nat.le_refl _) (Nat.le_refl _) kd_Sl_indexOf_11 rfl ?_
  rw [show zd_max (nI b) 0 = nI b from js_max (by omega)]
  refine zk_istore_n (lv' := [(2, .int (nI b)), (0, .ref (P.2.1 i)), (1, .int 32), (3, .int (nI (ze_n i)))]) C kd_Sl_indexOf_14 rfl (by decide) rfl rfl ?_
  refine zk_iload_n C kd_Sl_indexOf_15 rfl 3 rfl rfl ?_
  refine zk_aload_n C kd_Sl_indexOf_16 rfl 1 rfl rfl ?_
  refine ze_vlen C hi kd_Sl_indexOf_17 rfl ?_
  refine zk_mmin C kx815 kx816 kx19 (by decide) (by decide) (Nat.le_refl _) (Nat.le_refl _) kd_Sl_indexOf_18 rfl ?_
  rw [show zd_min (nI (ze_n i)) (nI (ze_n i)) = nI (ze_n i) from js_min]
  refine zk_istore_n (lv' := [(3, .int (nI (ze_n i))), (2, .int (nI b)), (0, .ref (P.2.1 i)), (1, .int 32)]) C kd_Sl_indexOf_21 rfl (by decide) rfl rfl ?_
  refine zk_iload_n C kd_Sl_indexOf_22 rfl 1 rfl rfl ?_
  refine zk_iload_n C kd_Sl_indexOf_23 rfl 0 rfl rfl ?_
  refine zk_icmp_lt (tgt := 29) C kd_Sl_indexOf_24 (by decide) rfl (fun h => ?_) (fun h => absurd (nI_lt hb hN) h)
  refine zk_aload_n C kd_Sl_indexOf_29 rfl 2 rfl rfl ?_
  refine zk_iload_n C kd_Sl_indexOf_30 rfl 3 rfl rfl ?_
  refine zk_iload_n C kd_Sl_indexOf_31 rfl 1 rfl rfl ?_
  refine zk_iload_n C kd_Sl_indexOf_32 rfl 0 rfl rfl ?_
  refine zk_callS (As := [.ref (P.2.1 i), .int 32, .int (nI b), .int (nI (ze_n i))]) (rest := []) C (js_ixc ws i hi b (Nat.le_of_lt hb)) ku_Sl_indexOfChar kx818 ks_Sl_indexOfChar rfl ⟨by decide, by decide⟩ ⟨by decide, by decide⟩ rfl (by decide) kd_Sl_indexOf_33 rfl (c1 := 0) (s1 := 0) rfl rfl (fun v w hp => ?_)
  obtain ⟨rfl, ew⟩ := hp
  rw [ew]
  refine zk_stk (r' := [.int (js_ix i (ze_n i - b) b)]) rfl ?_
  exact zk_iret C hR kd_Sl_indexOf_36 rfl rfl ⟨rfl, rfl⟩
set_option maxHeartbeats 4000000 in
set_option maxRecDepth 100000 in
theorem js_indexOf {S : zs_T} {l : Launch} {D : va_G} {sz0 : Nat} {P : ze_T} (ws : va_W) (i : Nat) (hi : i < 22) (b : Nat) (hb : b < ze_n i) : zk_Sp (zs_G S l D sz0) (ze_E P) km_St_indexOf2 { frames := 2, cells := 0, slots := 0, locals := 48 } [.ref (P.1 i), .int 32, .int (nI b)] ws (fun v0 w => v0 = some (.int (js_ix i (ze_n i - b) b)) ∧ w = ws) := by
  refine zk_met ku_St_indexOf2 (Nat.le_of_ble_eq_true rfl) (ze_Em P) ?_
  intro X C hR
  refine zk_lvs (lv' := [(0, .ref (P.1 i)), (1, .int 32), (2, .int (nI b))]) [0, 1, 2] rfl ?_
  refine zk_aload_n C kd_St_indexOf2_0 rfl 0 rfl rfl ?_
  refine ze_callStr (i := i) (As := []) (rest := []) C (cs_isLatin1 ws i hi) ku_St_isLatin1 kx57 kv_St_isLatin1 hi rfl rfl ⟨by decide, by decide⟩ ⟨by decide, by decide⟩ rfl (Nat.le_of_ble_eq_true rfl) kd_St_indexOf2_1 rfl (c1 := 0) (s1 := 0) rfl rfl (fun v w hp => ?_)
  obtain ⟨rfl, ew⟩ := hp
  rw [ew]
  refine zk_stk (r' := [.int 1]) rfl ?_
  refine zk_if_eq (tgt := 23) C kd_St_indexOf2_4 (by decide) rfl (fun h => absurd h (by decide)) (fun h => ?_)
  refine zk_aload_n C kd_St_indexOf2_7 rfl 0 rfl rfl ?_
  refine ze_value C hi kx2416 kd_St_indexOf2_8 rfl ?_
  refine zk_iload_n C kd_St_indexOf2_11 rfl 1 rfl rfl ?_
  refine zk_iload_n C kd_St_indexOf2_12 rfl 2 rfl rfl ?_
  refine zk_aload_n C kd_St_indexOf2_13 rfl 0 rfl rfl ?_
  refine ze_callStr (i := i) (As := []) (rest := [.int (nI b), .int 32, .ref (P.2.1 i)]) C (cs_length ws i hi) ku_St_length kx807 kv_St_length hi rfl rfl ⟨by decide, by decide⟩ ⟨by decide, by decide⟩ rfl (Nat.le_of_ble_eq_true rfl) kd_St_indexOf2_14 rfl (c1 := 0) (s1 := 0) rfl rfl (fun v w hp => ?_)
  obtain ⟨rfl, ew⟩ := hp
  rw [ew]
  refine zk_stk (r' := [.int (nI (ze_n i)), .int (nI b), .int 32, .ref (P.2.1 i)]) rfl ?_
  refine zk_callS (As := [.ref (P.2.1 i), .int 32, .int (nI b), .int (nI (ze_n i))]) (rest := []) C (js_ixL ws i hi b hb) ku_Sl_indexOf kx808 ks_Sl_indexOf rfl ⟨by decide, by decide⟩ ⟨by decide, by decide⟩ rfl (by decide) kd_St_indexOf2_17 rfl (c1 := 0) (s1 := 0) rfl rfl (fun v w hp => ?_)
  obtain ⟨rfl, ew⟩ := hp
  rw [ew]
  refine zk_stk (r' := [.int (js_ix i (ze_n i - b) b)]) rfl ?_
  refine zk_goto (tgt := 36) C kd_St_indexOf2_20 (by decide) ?_
  exact zk_iret C hR kd_St_indexOf2_36 rfl rfl ⟨rfl, rfl⟩
set_option maxHeartbeats 4000000 in
set_option maxRecDepth 100000 in
theorem js_ft {S : zs_T} {l : Launch} {D : va_G} {sz0 : Nat} {P : ze_T} (ws : va_W) (v0 : Value) (hv0 : v0 = .null ∨ ∃ t, v0 = .ref t) (b c m : Nat) (hbc : b ≤ c) (hcm : c ≤ m) (hm : m < 2 ^ 31) : zk_Sp (zs_G S l D sz0) (ze_E P) km_Pr_checkFromToIndex { frames := 0, cells := 0, slots := 0, locals := 0 } [.int (nI b), .int (nI c), .int (nI m), v0] ws (fun v w => v = some (.int (nI b)) ∧ w = ws) := by
  refine zk_met ku_Pr_checkFromToIndex (by rcases hv0 with rfl | ⟨t, rfl⟩ <;> exact Nat.le_of_ble_eq_true rfl) (ze_Em P) ?_
  intro X C hR
  refine zk_lvs (lv' := [(0, .int (nI b)), (1, .int (nI c)), (2, .int (nI m))]) [0, 1, 2] (by rcases hv0 with rfl | ⟨t, rfl⟩ <;> rfl) ?_
  refine zk_iload_n C kd_Pr_checkFromToIndex_0 rfl 0 rfl rfl ?_
  refine zk_if_lt (tgt := 14) C kd_Pr_checkFromToIndex_1 (by decide) rfl (fun h => absurd h (nI_pos (by omega))) (fun h => ?_)
  refine zk_iload_n C kd_Pr_checkFromToIndex_4 rfl 0 rfl rfl ?_
  refine zk_iload_n C kd_Pr_checkFromToIndex_5 rfl 1 rfl rfl ?_
  refine zk_icmp_gt (tgt := 14) C kd_Pr_checkFromToIndex_6 (by decide) rfl (fun h => absurd h (nI_nlt hbc (by omega))) (fun h => ?_)
  refine zk_iload_n C kd_Pr_checkFromToIndex_9 rfl 1 rfl rfl ?_
  refine zk_iload_n C kd_Pr_checkFromToIndex_10 rfl 2 rfl rfl ?_
  refine zk_icmp_le (tgt := 22) C kd_Pr_checkFromToIndex_11 (by decide) rfl (fun h => ?_) (fun h => absurd (nI_le hcm hm) h)
  refine zk_iload_n C kd_Pr_checkFromToIndex_22 rfl 0 rfl rfl ?_
  exact zk_iret C hR kd_Pr_checkFromToIndex_23 rfl rfl ⟨rfl, rfl⟩
set_option maxHeartbeats 4000000 in
set_option maxRecDepth 100000 in
theorem js_bnd {S : zs_T} {l : Launch} {D : va_G} {sz0 : Nat} {P : ze_T} (ws : va_W) (b c m : Nat) (hbc : b ≤ c) (hcm : c ≤ m) (hm : m < 2 ^ 31) : zk_Sp (zs_G S l D sz0) (ze_E P) km_St_checkBoundsBeginEnd { frames := 1, cells := 0, slots := 0, locals := 23 } [.int (nI b), .int (nI c), .int (nI m)] ws (fun v w => v = none ∧ w = ws) := by
  refine zk_met ku_St_checkBoundsBeginEnd (Nat.le_of_ble_eq_true rfl) (ze_Em P) ?_
  intro X C hR
  refine zk_lvs (lv' := [(0, .int (nI b)), (1, .int (nI c)), (2, .int (nI m))]) [0, 1, 2] rfl ?_
  refine zk_iload_n C kd_St_checkBoundsBeginEnd_0 rfl 0 rfl rfl ?_
  refine zk_iload_n C kd_St_checkBoundsBeginEnd_1 rfl 1 rfl rfl ?_
  refine zk_iload_n C kd_St_checkBoundsBeginEnd_2 rfl 2 rfl rfl ?_
  have go : ∀ v0 : Value, (v0 = .null ∨ ∃ t, v0 = .ref t) → zk_Ab X ws 0 0 6 [(0, .int (nI b)), (1, .int (nI c)), (2, .int (nI m))] [v0, .int (nI m), .int (nI c), .int (nI b)] := by
    intro v0 hv0
    refine zk_callS (As := [.int (nI b), .int (nI c), .int (nI m), v0]) (rest := []) C (js_ft ws v0 hv0 b c m hbc hcm hm) ku_Pr_checkFromToIndex kx836 ks_Pr_checkFromToIndex rfl ⟨by decide, by decide⟩ ⟨by decide, by decide⟩ rfl (by decide) kd_St_checkBoundsBeginEnd_6 rfl (c1 := 0) (s1 := 0) rfl rfl (fun v w hp => ?_)
    obtain ⟨rfl, ew⟩ := hp
    rw [ew]
    refine zk_stk (r' := [.int (nI b)]) rfl ?_
    refine zk_pop C kd_St_checkBoundsBeginEnd_9 rfl rfl ?_
    exact zk_vret C hR kd_St_checkBoundsBeginEnd_10 rfl rfl ⟨rfl, rfl⟩
  exact ze_getsQ C kx67 kd_St_checkBoundsBeginEnd_3 rfl (go _ (Or.inl rfl)) (fun t => go _ (Or.inr ⟨t, rfl⟩))
set_option maxHeartbeats 4000000 in
set_option maxRecDepth 100000 in
theorem js_cl {S : zs_T} {l : Launch} {D : va_G} {sz0 : Nat} {P : ze_T} (ws : va_W) (b c : Nat) (hbc : b ≤ c) (hc : c < 2 ^ 31) : zk_Sp (zs_G S l D sz0) (ze_E P) km_Ar_checkLength { frames := 0, cells := 0, slots := 0, locals := 0 } [.int (nI b), .int (nI c)] ws (fun v w => v = none ∧ w = ws) := by
  refine zk_met ku_Ar_checkLength (Nat.le_of_ble_eq_true rfl) (ze_Em P) ?_
  intro X C hR
  refine zk_lvs (lv' := [(0, .int (nI b)), (1, .int (nI c))]) [0, 1] rfl ?_
  refine zk_iload_n C kd_Ar_checkLength_0 rfl 1 rfl rfl ?_
  refine zk_iload_n C kd_Ar_checkLength_1 rfl 0 rfl rfl ?_
  refine zk_icmp_ge (tgt := 37) C kd_Ar_checkLength_2 (by decide) rfl (fun h => ?_) (fun h => absurd (nI_le hbc hc) h)
  exact zk_vret C hR kd_Ar_checkLength_37 rfl rfl ⟨rfl, rfl⟩
/-- n bytes of a String constant from place b on -/
def js_wd (i b n : Nat) : List Int32 := (List.range n).map (fun j => ze_f i (b + j))
theorem js_wdl (i b n : Nat) : (js_wd i b n).length = n := by simp [js_wd]
theorem js_wdf (i b n : Nat) : va_cpy (ze_f i) (fun _ => (0 : Int32)) b 0 n = fun j => (js_wd i b n).getD j 0 := by
  funext j
  unfold va_cpy js_wd
  by_cases h : j < n
  · rw [if_pos ⟨Nat.zero_le _, by omega⟩]
    simp [List.getD, h]
  · rw [if_neg (fun q => h (by omega))]
    simp [List.getD, h]
theorem js_subI {a b : Nat} (h : b ≤ a) : nI a - nI b = nI (a - b) := by
  obtain ⟨d, rfl⟩ := Nat.exists_eq_add_of_le h
  rw [Nat.add_sub_cancel_left, ← nI_add]
  rw [Int32.add_comm, Int32.add_sub_cancel]
theorem js_minI {a b : Nat} (h : b ≤ a) (ha : a < 2 ^ 31) : zd_min (nI a) (nI b) = nI b := by
  unfold zd_min
  split
  · rfl
  · rename_i q
    have h2 : ¬ b < a := fun z => q (nI_lt z ha)
    rw [show a = b by omega]
set_option maxHeartbeats 4000000 in
set_option maxRecDepth 100000 in
theorem js_crb {S : zs_T} {l : Launch} {D : va_G} {sz0 : Nat} {P : ze_T} (ws : va_W) (i : Nat) (hi : i < 22) (b n : Nat) (hbn : b + n ≤ ze_n i) (hn : n < 1000) : zk_Sp (zs_G S l D sz0) (ze_E P) km_Ar_copyOfRangeByte { frames := 1, cells := 1, slots := n, locals := 60 } [.ref (P.2.1 i), .int (nI b), .int (nI (b + n))] ws (fun v0 w => ∃ q : Nat, v0 = some (.ref q) ∧ w = ws ++ [(q, .inl (S.2 1, (js_wd i b n).length, .inl (fun j => (js_wd i b n).getD j 0)))]) := by
  refine zk_met ku_Ar_copyOfRangeByte (Nat.le_of_ble_eq_true rfl) (ze_Em P) ?_
  intro X C hR
  refine zk_lvs (lv' := [(0, .ref (P.2.1 i)), (1, .int (nI b)), (2, .int (nI (b + n)))]) [0, 1, 2] rfl ?_
  have hN := js_len i hi
  refine zk_iload_n C kd_Ar_copyOfRangeByte_0 rfl 1 rfl rfl ?_
  refine zk_iload_n C kd_Ar_copyOfRangeByte_1 rfl 2 rfl rfl ?_
  refine zk_callS (As := [.int (nI b), .int (nI (b + n))]) (rest := []) C (js_cl ws b (b + n) (by omega) (by omega)) ku_Ar_checkLength kx2400 ks_Ar_checkLength rfl ⟨Nat.le_of_ble_eq_true rfl, Nat.le_of_ble_eq_true rfl⟩ ⟨by show 0 ≤ 1; decide, by show 0 ≤ n; omega⟩ rfl (by decide) kd_Ar_copyOfRangeByte_2 rfl (c1 := 0) (s1 := 0) rfl rfl (fun v w hp => ?_)
  obtain ⟨rfl, ew⟩ := hp
  rw [ew]
  refine zk_stk (r' := []) rfl ?_
  refine zk_iload_n C kd_Ar_copyOfRangeByte_5 rfl 2 rfl rfl ?_
  refine zk_iload_n C kd_Ar_copyOfRangeByte_6 rfl 1 rfl rfl ?_
  refine zk_isub C kd_Ar_copyOfRangeByte_7 rfl ?_
  rw [js_subI (by omega), Nat.add_sub_cancel_left]
  refine zk_istore_n (lv' := [(3, .int (nI n)), (0, .ref (P.2.1 i)), (1, .int (nI b)), (2, .int (nI (b + n)))]) C kd_Ar_copyOfRangeByte_8 rfl (by decide) rfl rfl ?_
  refine zk_iload_n C kd_Ar_copyOfRangeByte_9 rfl 0 rfl rfl ?_
  refine zk_newa (a0 := (n, .inl (fun _ => (0 : Int32)))) (N := n) C kx110 rfl 1 rfl (fun cA => zk_zi n cA) (nI_pos (by omega)) (nI_clamp (by omega)) (by show n * 1 ≤ 536870912; omega) (by show 0 + 1 ≤ 1; decide) (by show 0 + n ≤ n; omega) kd_Ar_copyOfRangeByte_10 rfl (c1 := 1) (s1 := n) rfl (Nat.zero_add n) (fun q => ?_)
  refine zk_astore (lv' := [(4, .ref q), (3, .int (nI n)), (0, .ref (P.2.1 i)), (1, .int (nI b)), (2, .int (nI (b + n)))]) C kd_Ar_copyOfRangeByte_12 (by decide) rfl rfl ?_
  refine zk_aload_n C kd_Ar_copyOfRangeByte_14 rfl 2 rfl rfl ?_
  refine zk_iload_n C kd_Ar_copyOfRangeByte_15 rfl 3 rfl rfl ?_
  refine zk_aload C kd_Ar_copyOfRangeByte_16 0 rfl rfl ?_
  refine zk_iconst (v := 0) C kd_Ar_copyOfRangeByte_18 (by decide) rfl ?_
  refine zk_aload_n C kd_Ar_copyOfRangeByte_19 rfl 2 rfl rfl ?_
  refine ze_vlen C hi kd_Ar_copyOfRangeByte_20 rfl ?_
  refine zk_iload_n C kd_Ar_copyOfRangeByte_21 rfl 3 rfl rfl ?_
  refine zk_isub C kd_Ar_copyOfRangeByte_22 rfl ?_
  rw [js_subI (by omega)]
  refine zk_iload_n C kd_Ar_copyOfRangeByte_23 rfl 1 rfl rfl ?_
  refine zk_mmin C kx2403 kx816 kx19 (Nat.le_of_ble_eq_true rfl) (Nat.le_of_ble_eq_true rfl) (by show 1 ≤ 1; decide) (by show n ≤ n; omega) kd_Ar_copyOfRangeByte_24 rfl ?_
  rw [show zd_min (nI (ze_n i - b)) (nI n) = nI n from js_minI (by omega) (by omega)]
  refine js_copyT (ws' := ws ++ [(q, .inl (S.2 1, (js_wd i b n).length, .inl (fun j => (js_wd i b n).getD j 0)))]) C hi (ws.length + 0) 1 (zk_ap 0 rfl) rfl (nI_pos (by omega)) (by decide) (nI_pos (by omega)) (by rw [nI_clamp (by omega), nI_clamp (by omega)]; omega) (by rw [nI_clamp (by omega)]; show 0 + n ≤ n; omega) (fun j hj => by rw [nI_clamp (by omega)] at hj ⊢; exact js_fit i hi _ (by omega)) kx2404 kx1459 kx1458 kx21 (Nat.le_of_ble_eq_true rfl) (Nat.le_of_ble_eq_true rfl) kd_Ar_copyOfRangeByte_27 (zk_apS 0 (by rw [nI_clamp (by omega), nI_clamp (by omega), js_wdl, ← js_wdf]; rfl)) rfl ?_
  refine zk_aload C kd_Ar_copyOfRangeByte_30 0 rfl rfl ?_
  exact js_aret C hR (Or.inr ⟨_, rfl⟩) (Or.inr ⟨_, rfl⟩) kd_Ar_copyOfRangeByte_32 rfl rfl ⟨q, rfl, rfl⟩
set_option maxHeartbeats 4000000 in
set_option maxRecDepth 100000 in
theorem js_cr {S : zs_T} {l : Launch} {D : va_G} {sz0 : Nat} {P : ze_T} (ws : va_W) (i : Nat) (hi : i < 22) (b n : Nat) (hbn : b + n < ze_n i) (hn : n < 1000) : zk_Sp (zs_G S l D sz0) (ze_E P) km_Ar_copyOfRange { frames := 2, cells := 1, slots := n, locals := 84 } [.ref (P.2.1 i), .int (nI b), .int (nI (b + n))] ws (fun v0 w => ∃ q : Nat, v0 = some (.ref q) ∧ w = ws ++ [(q, .inl (S.2 1, (js_wd i b n).length, .inl (fun j => (js_wd i b n).getD j 0)))]) := by
  refine zk_met ku_Ar_copyOfRange (Nat.le_of_ble_eq_true rfl) (ze_Em P) ?_
  intro X C hR
  refine zk_lvs (lv' := [(0, .ref (P.2.1 i)), (1, .int (nI b)), (2, .int (nI (b + n)))]) [0, 1, 2] rfl ?_
  have hN := js_len i hi
  have go : zk_Ab X ws 0 0 10 [(0, .ref (P.2.1 i)), (1, .int (nI b)), (2, .int (nI (b + n)))] [] := by
    refine zk_aload_n C kd_Ar_copyOfRange_10 rfl 0 rfl rfl ?_
    refine zk_iload_n C kd_Ar_copyOfRange_11 rfl 1 rfl rfl ?_
    refine zk_iload_n C kd_Ar_copyOfRange_12 rfl 2 rfl rfl ?_
    refine zk_callS (As := [.ref (P.2.1 i), .int (nI b), .int (nI (b + n))]) (rest := []) C (js_crb ws i hi b n (by omega) hn) ku_Ar_copyOfRangeByte kx2397 ks_Ar_copyOfRangeByte rfl ⟨by show 1 + 1 ≤ 2; decide, by show 8 + (5 + 11) + 60 ≤ 84; decide⟩ ⟨by show 0 + 1 ≤ 1; decide, by show 0 + n ≤ n; omega⟩ rfl (by decide) kd_Ar_copyOfRange_13 rfl (c1 := 1) (s1 := n) rfl (Nat.zero_add n) (fun v w hp => ?_)
    obtain ⟨q, rfl, ew⟩ := hp
    rw [ew]
    refine zk_stk (r' := [.ref q]) rfl ?_
    exact js_aret C hR (Or.inr ⟨_, rfl⟩) (Or.inr ⟨_, rfl⟩) kd_Ar_copyOfRange_16 rfl rfl ⟨q, rfl, rfl⟩
  refine zk_iload_n C kd_Ar_copyOfRange_0 rfl 1 rfl rfl ?_
  refine zk_if_ne (tgt := 10) C kd_Ar_copyOfRange_1 (by decide) rfl (fun h => go) (fun h => ?_)
  refine zk_iload_n C kd_Ar_copyOfRange_4 rfl 2 rfl rfl ?_
  refine zk_aload_n C kd_Ar_copyOfRange_5 rfl 0 rfl rfl ?_
  refine ze_vlen C hi kd_Ar_copyOfRange_6 rfl ?_
  refine zk_icmp_eq (tgt := 17) C kd_Ar_copyOfRange_7 (by decide) rfl (fun h => absurd ((nI_eq (by omega) (by omega)).mp h) (by omega)) (fun h => go)
set_option maxHeartbeats 4000000 in
set_option maxRecDepth 100000 in
theorem js_init {S : zs_T} {l : Launch} {D : va_G} {sz0 : Nat} {P : ze_T} (ws : va_W) (a v : Nat) (s : List Int32) : zk_Sp (zs_G S l D sz0) (ze_E P) km_St_init { frames := 1, cells := 0, slots := 0, locals := 12 } [.ref a, .ref v, .int 0] (ws ++ [(a, .inr (13, [.null, .int 0, .int 0, .int 0])), (v, .inl (S.2 1, s.length, .inl (fun j => s.getD j 0)))]) (fun v0 w => v0 = none ∧ w = ws ++ js_str S a v s) := by
  refine zk_met ku_St_init (Nat.le_of_ble_eq_true rfl) (ze_Em P) ?_
  intro X C hR
  refine zk_lvs (lv' := [(0, .ref a), (1, .ref v), (2, .int 0)]) [0, 1, 2] rfl ?_
  refine zk_aload_n C kd_St_init_0 rfl 0 rfl rfl ?_
  refine zk_objInit C kx2415 kx28 kx29 kd_St_init_1 rfl (by decide) (by decide) rfl ?_
  refine zk_aload_n C kd_St_init_4 rfl 0 rfl rfl ?_
  refine zk_aload_n C kd_St_init_5 rfl 1 rfl rfl ?_
  refine zk_putF (ws' := ws ++ [(a, .inr (13, [.ref v, .int 0, .int 0, .int 0])), (v, .inl (S.2 1, s.length, .inl (fun j => s.getD j 0)))]) C (ws.length + 0) (zk_ap 0 rfl) rfl ki_St ky_St ko_St kn_St 0 (by decide) kx2416 rfl rfl rfl rfl rfl rfl (Nat.le_of_ble_eq_true rfl) kd_St_init_6 (zk_apS 0 rfl) rfl ?_
  refine zk_aload_n C kd_St_init_9 rfl 0 rfl rfl ?_
  refine zk_iload_n C kd_St_init_10 rfl 2 rfl rfl ?_
  refine zk_putF (ws' := ws ++ [(a, .inr (13, [.ref v, .int 0, .int 0, .int 0])), (v, .inl (S.2 1, s.length, .inl (fun j => s.getD j 0)))]) C (ws.length + 0) (zk_ap 0 rfl) rfl ki_St ky_St ko_St kn_St 1 (by decide) kx2417 rfl rfl rfl rfl rfl rfl (Nat.le_of_ble_eq_true rfl) kd_St_init_11 (zk_apS 0 rfl) rfl ?_
  exact zk_vret C hR kd_St_init_14 rfl rfl ⟨rfl, rfl⟩
set_option maxHeartbeats 4000000 in
set_option maxRecDepth 100000 in
theorem js_new {S : zs_T} {l : Launch} {D : va_G} {sz0 : Nat} {P : ze_T} (ws : va_W) (i : Nat) (hi : i < 22) (b n : Nat) (hbn : b + n < ze_n i) (h0 : 0 < n) (hn : n < 1000) : zk_Sp (zs_G S l D sz0) (ze_E P) km_Sl_newString { frames := 3, cells := 2, slots := 4 + n, locals := 106 } [.ref (P.2.1 i), .int (nI b), .int (nI n)] ws (fun v0 w => ∃ a v : Nat, v0 = some (.ref a) ∧ w = ws ++ js_str S a v (js_wd i b n)) := by
  refine zk_met ku_Sl_newString (Nat.le_of_ble_eq_true rfl) (ze_Em P) ?_
  intro X C hR
  refine zk_lvs (lv' := [(0, .ref (P.2.1 i)), (1, .int (nI b)), (2, .int (nI n))]) [0, 1, 2] rfl ?_
  have hN := js_len i hi
  refine zk_iload_n C kd_Sl_newString_0 rfl 2 rfl rfl ?_
  refine zk_if_ne (tgt := 7) C kd_Sl_newString_1 (by decide) rfl (fun h => ?_) (fun h => absurd h (nI_ne0 h0 (by omega)))
  refine zk_new (ci := 13) (fs := [.null, .int 0, .int 0, .int 0]) C ki_St ky_St ko_St kx2392 kx2393 kx3 rfl (by decide) (by show 0 + 1 ≤ 2; decide) (by show 0 + 4 ≤ 4 + n; omega) kd_Sl_newString_7 rfl (c1 := 1) (s1 := 4) rfl rfl (fun a => ?_)
  refine zk_dup C kd_Sl_newString_10 rfl rfl ?_
  refine zk_aload_n C kd_Sl_newString_11 rfl 0 rfl rfl ?_
  refine zk_iload_n C kd_Sl_newString_12 rfl 1 rfl rfl ?_
  refine zk_iload_n C kd_Sl_newString_13 rfl 1 rfl rfl ?_
  refine zk_iload_n C kd_Sl_newString_14 rfl 2 rfl rfl ?_
  refine zk_iadd C kd_Sl_newString_15 rfl ?_
  rw [nI_add]
  refine zk_callS (As := [.ref (P.2.1 i), .int (nI b), .int (nI (b + n))]) (rest := [.ref a, .ref a]) C (js_cr (ws ++ [(a, .inr (13, [.null, .int 0, .int 0, .int 0]))]) i hi b n hbn hn) ku_Ar_copyOfRange kx2394 ks_Ar_copyOfRange rfl ⟨by show 2 + 1 ≤ 3; decide, by show 8 + (3 + 11) + 84 ≤ 106; decide⟩ ⟨by show 1 + 1 ≤ 2; decide, by show 4 + n ≤ 4 + n; omega⟩ rfl (Nat.le_of_ble_eq_true rfl) kd_Sl_newString_16 rfl (c1 := 2) (s1 := 4 + n) rfl rfl (fun v w hp => ?_)
  obtain ⟨q, rfl, ew⟩ := hp
  rw [ew, List.append_assoc]
  refine zk_stk (r' := [.ref q, .ref a, .ref a]) rfl ?_
  refine zk_iconst (v := 0) C kd_Sl_newString_19 (by decide) rfl ?_
  refine zk_callI (b := a) (As := [.ref q, .int 0]) (rest := [.ref a]) C (js_init ws a q (js_wd i b n)) ku_St_init kx2412 rfl kj_St_init rfl rfl ⟨by show 1 + 1 ≤ 3; decide, by show 8 + (3 + 11) + 12 ≤ 106; decide⟩ ⟨by show 2 + 0 ≤ 2; decide, by show 4 + n + 0 ≤ 4 + n; omega⟩ rfl (Nat.le_of_ble_eq_true rfl) kd_Sl_newString_20 rfl (c1 := 2) (s1 := 4 + n) rfl rfl (fun v w hp => ?_)
  obtain ⟨rfl, ew⟩ := hp
  rw [ew]
  refine zk_stk (r' := [.ref a]) rfl ?_
  exact js_aret C hR (Or.inl ⟨_, rfl⟩) (Or.inr ⟨_, rfl⟩) kd_Sl_newString_23 rfl rfl ⟨a, q, rfl, rfl⟩
set_option maxHeartbeats 4000000 in
set_option maxRecDepth 100000 in
theorem js_sub {S : zs_T} {l : Launch} {D : va_G} {sz0 : Nat} {P : ze_T} (ws : va_W) (i : Nat) (hi : i < 22) (b n : Nat) (hbn : b + n < ze_n i) (h0 : 0 < n) (hn : n < 1000) : zk_Sp (zs_G S l D sz0) (ze_E P) km_St_substring { frames := 4, cells := 2, slots := 4 + n, locals := 128 } [.ref (P.1 i), .int (nI b), .int (nI (b + n))] ws (fun v0 w => ∃ a v : Nat, v0 = some (.ref a) ∧ w = ws ++ js_str S a v (js_wd i b n)) := by
  refine zk_met ku_St_substring (Nat.le_of_ble_eq_true rfl) (ze_Em P) ?_
  intro X C hR
  refine zk_lvs (lv' := [(0, .ref (P.1 i)), (1, .int (nI b)), (2, .int (nI (b + n)))]) [0, 1, 2] rfl ?_
  have hN := js_len i hi
  refine zk_aload_n C kd_St_substring_0 rfl 0 rfl rfl ?_
  refine ze_callStr (i := i) (As := []) (rest := []) C (cs_length ws i hi) ku_St_length kx807 kv_St_length hi rfl rfl ⟨by show 1 + 1 ≤ 4; decide, by show 8 + (1 + 11) + 20 ≤ 128; decide⟩ ⟨by show 0 ≤ 2; decide, by show 0 ≤ 4 + n; omega⟩ rfl (Nat.le_of_ble_eq_true rfl) kd_St_substring_1 rfl (c1 := 0) (s1 := 0) rfl rfl (fun v w hp => ?_)
  obtain ⟨rfl, ew⟩ := hp
  rw [ew]
  refine zk_stk (r' := [.int (nI (ze_n i))]) rfl ?_
  refine zk_istore_n (lv' := [(3, .int (nI (ze_n i))), (0, .ref (P.1 i)), (1, .int (nI b)), (2, .int (nI (b + n)))]) C kd_St_substring_4 rfl (by decide) rfl rfl ?_
  refine zk_iload_n C kd_St_substring_5 rfl 2 rfl rfl ?_
  refine zk_iload_n C kd_St_substring_6 rfl 3 rfl rfl ?_
  refine zk_iload_n C kd_St_substring_7 rfl 0 rfl rfl ?_
  refine zk_callS (As := [.int (nI b), .int (nI (b + n)), .int (nI (ze_n i))]) (rest := []) C (js_bnd ws b (b + n) (ze_n i) (by omega) (by omega) hN) ku_St_checkBoundsBeginEnd kx2387 ks_St_checkBoundsBeginEnd rfl ⟨by show 1 + 1 ≤ 4; decide, by show 8 + (3 + 11) + 23 ≤ 128; decide⟩ ⟨by show 0 ≤ 2; decide, by show 0 ≤ 4 + n; omega⟩ rfl (by decide) kd_St_substring_8 rfl (c1 := 0) (s1 := 0) rfl rfl (fun v w hp => ?_)
  obtain ⟨rfl, ew⟩ := hp
  rw [ew]
  refine zk_stk (r' := []) rfl ?_
  have go : zk_Ab X ws 0 0 22 [(3, .int (nI (ze_n i))), (0, .ref (P.1 i)), (1, .int (nI b)), (2, .int (nI (b + n)))] [] := by
    refine zk_iload_n C kd_St_substring_22 rfl 3 rfl rfl ?_
    refine zk_iload_n C kd_St_substring_23 rfl 2 rfl rfl ?_
    refine zk_isub C kd_St_substring_24 rfl ?_
    rw [js_subI (by omega), Nat.add_sub_cancel_left]
    refine zk_istore (lv' := [(4, .int (nI n)), (3, .int (nI (ze_n i))), (0, .ref (P.1 i)), (1, .int (nI b)), (2, .int (nI (b + n)))]) C kd_St_substring_25 (by decide) rfl rfl ?_
    refine zk_aload_n C kd_St_substring_27 rfl 2 rfl rfl ?_
    refine ze_callStr (i := i) (As := []) (rest := []) C (cs_isLatin1 ws i hi) ku_St_isLatin1 kx57 kv_St_isLatin1 hi rfl rfl ⟨by show 0 + 1 ≤ 4; decide, by show 8 + (1 + 11) + 0 ≤ 128; decide⟩ ⟨by show 0 ≤ 2; decide, by show 0 ≤ 4 + n; omega⟩ rfl (Nat.le_of_ble_eq_true rfl) kd_St_substring_28 rfl (c1 := 0) (s1 := 0) rfl rfl (fun v w hp => ?_)
    obtain ⟨rfl, ew⟩ := hp
    rw [ew]
    refine zk_stk (r' := [.int 1]) rfl ?_
    refine zk_if_eq (tgt := 47) C kd_St_substring_31 (by decide) rfl (fun h => absurd h (by decide)) (fun h => ?_)
    refine zk_aload_n C kd_St_substring_34 rfl 2 rfl rfl ?_
    refine ze_value C hi kx2416 kd_St_substring_35 rfl ?_
    refine zk_iload_n C kd_St_substring_38 rfl 3 rfl rfl ?_
    refine zk_iload C kd_St_substring_39 0 rfl rfl ?_
    refine zk_callS (As := [.ref (P.2.1 i), .int (nI b), .int (nI n)]) (rest := []) C (js_new ws i hi b n hbn h0 hn) ku_Sl_newString kx2388 ks_Sl_newString rfl ⟨by show 3 + 1 ≤ 4; decide, by show 8 + (3 + 11) + 106 ≤ 128; decide⟩ ⟨by show 0 + 2 ≤ 2; decide, by show 0 + (4 + n) ≤ 4 + n; omega⟩ rfl (by decide) kd_St_substring_41 rfl (c1 := 2) (s1 := 4 + n) rfl (Nat.zero_add _) (fun v w hp => ?_)
    obtain ⟨a, q, rfl, ew⟩ := hp
    rw [ew]
    refine zk_stk (r' := [.ref a]) rfl ?_
    refine zk_goto (tgt := 57) C kd_St_substring_44 (by decide) ?_
    exact js_aret C hR (Or.inl ⟨_, rfl⟩) (Or.inr ⟨_, rfl⟩) kd_St_substring_57 rfl rfl ⟨a, q, rfl, rfl⟩
  refine zk_iload_n C kd_St_substring_11 rfl 2 rfl rfl ?_
  refine zk_if_ne (tgt := 22) C kd_St_substring_12 (by decide) rfl (fun h => go) (fun h => ?_)
  refine zk_iload_n C kd_St_substring_15 rfl 3 rfl rfl ?_
  refine zk_iload_n C kd_St_substring_16 rfl 0 rfl rfl ?_
  refine zk_icmp_ne (tgt := 22) C kd_St_substring_17 (by decide) rfl (fun h => go) (fun h => absurd ((nI_eq (by omega) (by omega)).mp h) (by omega))
