/-! standardName. -/
/-- where standardName's loop ends -/
def js_at (i k : Nat) : Nat → Nat → Nat → Nat
  | 0, _, b => b
  | m + 1, n, b => if n < k ∧ b < ze_n i then js_at i k m (n + if ze_f i b &&& 255 = 32 then 1 else 0) (b + 1) else b
set_option maxHeartbeats 4000000 in
set_option maxRecDepth 100000 in
theorem js_stdL {X : zkj_T} {S : zs_T} {l : Launch} {D : va_G} {sz0 : Nat} {P : ze_T} {Post : Option Value → va_W → Prop} (ws : va_W) (i : Nat) (hi : i < 22) (k : Nat) (hk : k < 100) (C : zk_C X km_Mo_standardName (zs_G S l D sz0) { frames := 5, cells := 2, slots := 7, locals := 152 } (ze_E P)) (b1 : Nat) (hend : zk_Ab X ws 0 0 166 [(4, .int (nI b1)), (3, .ref (P.1 i))] []) : ∀ (m n b : Nat), ze_n i ≤ b + m → b ≤ ze_n i → n ≤ b → js_at i k m n b = b1 → zk_Ab X ws 0 0 124 [(4, .int (nI b)), (5, .int (nI n)), (2, .int (nI k)), (3, .ref (P.1 i))] [] := by
  have hN := js_len i hi
  have hN1 : ze_n i < 1000 := js_len2 i hi
  intro m
  induction m with
  | zero =>
    intro n b hm hb hnb hq
    have hq2 : b = b1 := hq
    subst hq2
    refine zk_iload C kd_Mo_standardName_124 1 rfl rfl ?_
    refine zk_iload_n C kd_Mo_standardName_126 rfl 2 rfl rfl ?_
    refine zk_icmp_ge (tgt := 166) C kd_Mo_standardName_127 (by decide) rfl (fun h => ?_) (fun h => ?_)
    · refine zk_lvs (lv' := [(4, .int (nI b)), (3, .ref (P.1 i))]) [0, 3] rfl ?_
      exact hend
    · refine zk_iload C kd_Mo_standardName_130 0 rfl rfl ?_
      refine zk_aload_n C kd_Mo_standardName_132 rfl 3 rfl rfl ?_
      refine ze_callStr (i := i) (As := []) (rest := [.int (nI b)]) C (cs_length ws i hi) ku_St_length kx2060 kv_St_length hi rfl rfl ⟨by show 1 + 1 ≤ 5; decide, by show 8 + (1 + 11) + 20 ≤ 152; decide⟩ ⟨by show 0 ≤ 2; decide, by show 0 ≤ 7; decide⟩ rfl (Nat.le_of_ble_eq_true rfl) kd_Mo_standardName_133 rfl (c1 := 0) (s1 := 0) rfl rfl (fun v w hp => ?_)
      obtain ⟨rfl, ew⟩ := hp
      rw [ew]
      refine zk_stk (r' := [.int (nI (ze_n i)), .int (nI b)]) rfl ?_
      refine zk_icmp_ge (tgt := 166) C kd_Mo_standardName_136 (by decide) rfl (fun h => ?_) (fun h => absurd (nI_le (by omega) (by omega)) h)
      refine zk_lvs (lv' := [(4, .int (nI b)), (3, .ref (P.1 i))]) [0, 3] rfl ?_
      exact hend
  | succ m ih =>
    intro n b hm hb hnb hq
    have hq2 : (if n < k ∧ b < ze_n i then js_at i k m (n + if ze_f i b &&& 255 = 32 then 1 else 0) (b + 1) else b) = b1 := hq
    refine zk_iload C kd_Mo_standardName_124 1 rfl rfl ?_
    refine zk_iload_n C kd_Mo_standardName_126 rfl 2 rfl rfl ?_
    refine zk_icmp_ge (tgt := 166) C kd_Mo_standardName_127 (by decide) rfl (fun h => ?_) (fun h => ?_)
    · rw [if_neg (fun z => absurd ((nI_leI (by omega) (by omega)).mp h) (by omega))] at hq2
      subst hq2
      refine zk_lvs (lv' := [(4, .int (nI b)), (3, .ref (P.1 i))]) [0, 3] rfl ?_
      exact hend
    · refine zk_iload C kd_Mo_standardName_130 0 rfl rfl ?_
      refine zk_aload_n C kd_Mo_standardName_132 rfl 3 rfl rfl ?_
      refine ze_callStr (i := i) (As := []) (rest := [.int (nI b)]) C (cs_length ws i hi) ku_St_length kx2060 kv_St_length hi rfl rfl ⟨by show 1 + 1 ≤ 5; decide, by show 8 + (1 + 11) + 20 ≤ 152; decide⟩ ⟨by show 0 ≤ 2; decide, by show 0 ≤ 7; decide⟩ rfl (Nat.le_of_ble_eq_true rfl) kd_Mo_standardName_133 rfl (c1 := 0) (s1 := 0) rfl rfl (fun v w hp => ?_)
      obtain ⟨rfl, ew⟩ := hp
      rw [ew]
      refine zk_stk (r' := [.int (nI (ze_n i)), .int (nI b)]) rfl ?_
      refine zk_icmp_ge (tgt := 166) C kd_Mo_standardName_136 (by decide) rfl (fun h2 => ?_) (fun h2 => ?_)
      · rw [if_neg (fun z => absurd ((nI_leI (by omega) (by omega)).mp h2) (by omega))] at hq2
        subst hq2
        refine zk_lvs (lv' := [(4, .int (nI b)), (3, .ref (P.1 i))]) [0, 3] rfl ?_
        exact hend
      · have hnk : n < k := Nat.lt_of_not_le (fun z => h ((nI_leI (by omega) (by omega)).mpr z))
        have hbl : b < ze_n i := Nat.lt_of_not_le (fun z => h2 ((nI_leI (by omega) (by omega)).mpr z))
        rw [if_pos ⟨hnk, hbl⟩] at hq2
        refine zk_iload C kd_Mo_standardName_139 1 rfl rfl ?_
        refine zk_aload_n C kd_Mo_standardName_141 rfl 3 rfl rfl ?_
        refine zk_iload C kd_Mo_standardName_142 0 rfl rfl ?_
        refine ze_callStr (i := i) (As := [.int (nI b)]) (rest := [.int (nI n)]) C (cs_charAt ws i hi b hbl hN) ku_St_charAt kx2061 kv_St_charAt hi rfl rfl ⟨by show 3 + 1 ≤ 5; decide, by show 8 + (2 + 11) + 64 ≤ 152; decide⟩ ⟨by show 0 ≤ 2; decide, by show 0 ≤ 7; decide⟩ rfl (Nat.le_of_ble_eq_true rfl) kd_Mo_standardName_144 rfl (c1 := 0) (s1 := 0) rfl rfl (fun v w hp => ?_)
        obtain ⟨rfl, ew⟩ := hp
        rw [ew]
        refine zk_stk (r' := [.int (ze_f i b &&& 255), .int (nI n)]) rfl ?_
        refine zk_bipush (v := 32) C kd_Mo_standardName_147 (by decide) rfl ?_
        refine zk_icmp_ne (tgt := 156) C kd_Mo_standardName_149 (by decide) rfl (fun h3 => ?_) (fun h3 => ?_)
        · rw [if_neg h3] at hq2
          refine zk_iconst (v := 0) C kd_Mo_standardName_156 (by decide) rfl ?_
          refine zk_iadd C kd_Mo_standardName_157 rfl ?_
          rw [show nI n + 0 = nI (n + 0) from nI_add n 0]
          refine zk_istore (lv' := [(5, .int (nI (n + 0))), (4, .int (nI b)), (2, .int (nI k)), (3, .ref (P.1 i))]) C kd_Mo_standardName_158 (by decide) rfl rfl ?_
          refine zk_iinc (v := nI (b + 1)) (lv' := [(4, .int (nI (b + 1))), (5, .int (nI (n + 0))), (2, .int (nI k)), (3, .ref (P.1 i))]) C kd_Mo_standardName_160 1 rfl (nI_succ b).symm (by decide) rfl rfl ?_
          refine zk_goto (tgt := 124) C kd_Mo_standardName_163 (by decide) ?_
          refine zk_lvs (lv' := [(4, .int (nI (b + 1))), (5, .int (nI (n + 0))), (2, .int (nI k)), (3, .ref (P.1 i))]) [0, 1, 2, 3] rfl ?_
          exact ih (n + 0) (b + 1) (by omega) (by omega) (by omega) hq2
        · rw [if_pos h3] at hq2
          refine zk_iconst (v := 1) C kd_Mo_standardName_152 (by decide) rfl ?_
          refine zk_goto (tgt := 157) C kd_Mo_standardName_153 (by decide) ?_
          refine zk_iadd C kd_Mo_standardName_157 rfl ?_
          rw [show nI n + 1 = nI (n + 1) from nI_add n 1]
          refine zk_istore (lv' := [(5, .int (nI (n + 1))), (4, .int (nI b)), (2, .int (nI k)), (3, .ref (P.1 i))]) C kd_Mo_standardName_158 (by decide) rfl rfl ?_
          refine zk_iinc (v := nI (b + 1)) (lv' := [(4, .int (nI (b + 1))), (5, .int (nI (n + 1))), (2, .int (nI k)), (3, .ref (P.1 i))]) C kd_Mo_standardName_160 1 rfl (nI_succ b).symm (by decide) rfl rfl ?_
          refine zk_goto (tgt := 124) C kd_Mo_standardName_163 (by decide) ?_
          refine zk_lvs (lv' := [(4, .int (nI (b + 1))), (5, .int (nI (n + 1))), (2, .int (nI k)), (3, .ref (P.1 i))]) [0, 1, 2, 3] rfl ?_
          exact ih (n + 1) (b + 1) (by omega) (by omega) (by omega) hq2
/-- the words of a row -/
def js_ws (i : Nat) : List (List Int32) := if i = 12 then [[73, 78], [80, 84]] else if i = 13 then [[67, 85], [82], [80, 86]] else if i = 14 then [[67, 68], [76, 68], [80, 86]] else if i = 15 then [[67, 76, 75]] else if i = 16 then [[83, 49], [82]] else if i = 17 then [[83], [82, 49]] else if i = 18 then [[81], [69, 84]] else if i = 19 then [[81], [67, 86]] else if i = 20 then [[81]] else [[81, 49]]
def js_Ps (S : zs_T) (ws : va_W) (o : Option (List Int32)) : Option Value → va_W → Prop := fun v0 w => match o with
  | none => v0 = some .null ∧ w = ws
  | some s => ∃ a v : Nat, v0 = some (.ref a) ∧ w = ws ++ js_str S a v s
/-- what is known of word k of row i: it begins at b, and has n letters -/
def js_ok (i k b n : Nat) : Prop := i < 22 ∧ js_at i k 12 0 0 = b ∧ (if b < ze_n i then js_ix i (ze_n i - b) b = nI (b + n) ∧ 0 < n ∧ n ≤ 3 ∧ b + n < ze_n i ∧ (js_ws i)[k]? = some (js_wd i b n) else (js_ws i)[k]? = none)
set_option maxHeartbeats 4000000 in
set_option maxRecDepth 100000 in
theorem js_stdE {X : zkj_T} {S : zs_T} {l : Launch} {D : va_G} {sz0 : Nat} {P : ze_T} (ws : va_W) (i k b n : Nat) (hok : js_ok i k b n) (C : zk_C X km_Mo_standardName (zs_G S l D sz0) { frames := 5, cells := 2, slots := 7, locals := 152 } (ze_E P)) (hR : zkj_R X (js_Ps S ws (js_ws i)[k]?) (some (.object "java/lang/String"))) (hb : b ≤ ze_n i) : zk_Ab X ws 0 0 166 [(4, .int (nI b)), (3, .ref (P.1 i))] [] := by
  obtain ⟨hi, hat, hok⟩ := hok
  have hN := js_len i hi
  have hN1 : ze_n i < 1000 := js_len2 i hi
  refine zk_iload C kd_Mo_standardName_166 0 rfl rfl ?_
  refine zk_aload_n C kd_Mo_standardName_168 rfl 1 rfl rfl ?_
  refine ze_callStr (i := i) (As := []) (rest := [.int (nI b)]) C (cs_length ws i hi) ku_St_length kx2060 kv_St_length hi rfl rfl ⟨by show 1 + 1 ≤ 5; decide, by show 8 + (1 + 11) + 20 ≤ 152; decide⟩ ⟨by show 0 ≤ 2; decide, by show 0 ≤ 7; decide⟩ rfl (Nat.le_of_ble_eq_true rfl) kd_Mo_standardName_169 rfl (c1 := 0) (s1 := 0) rfl rfl (fun v w hp => ?_)
  obtain ⟨rfl, ew⟩ := hp
  rw [ew]
  refine zk_stk (r' := [.int (nI (ze_n i)), .int (nI b)]) rfl ?_
  refine zk_icmp_ge (tgt := 192) C kd_Mo_standardName_172 (by decide) rfl (fun h => ?_) (fun h => ?_)
  · rw [if_neg (fun z => absurd ((nI_leI (by omega) (by omega)).mp h) (by omega))] at hok
    refine zk_null C kd_Mo_standardName_192 rfl ?_
    refine zk_widen (c1 := 2) (s1 := 7) (by decide) (by decide) ?_
    exact js_aret C hR (Or.inl ⟨_, rfl⟩) (Or.inl rfl) kd_Mo_standardName_193 rfl rfl (by rw [hok]; exact ⟨rfl, rfl⟩)
  · have hbl : b < ze_n i := Nat.lt_of_not_le (fun z => h ((nI_leI (by omega) (by omega)).mpr z))
    rw [if_pos hbl] at hok
    obtain ⟨hix, h0, hn3, hbn, hw⟩ := hok
    refine zk_aload_n C kd_Mo_standardName_175 rfl 1 rfl rfl ?_
    refine zk_iload C kd_Mo_standardName_176 0 rfl rfl ?_
    refine zk_aload_n C kd_Mo_standardName_178 rfl 1 rfl rfl ?_
    refine zk_bipush (v := 32) C kd_Mo_standardName_179 (by decide) rfl ?_
    refine zk_iload C kd_Mo_standardName_181 0 rfl rfl ?_
    refine ze_callStr (i := i) (As := [.int 32, .int (nI b)]) (rest := [.int (nI b), .ref (P.1 i)]) C (js_indexOf ws i hi b hbl) ku_St_indexOf2 kx2382 kv_St_indexOf2 hi rfl rfl ⟨by show 2 + 1 ≤ 5; decide, by show 8 + (3 + 11) + 48 ≤ 152; decide⟩ ⟨by show 0 ≤ 2; decide, by show 0 ≤ 7; decide⟩ rfl (Nat.le_of_ble_eq_true rfl) kd_Mo_standardName_183 rfl (c1 := 0) (s1 := 0) rfl rfl (fun v w hp => ?_)
    obtain ⟨rfl, ew⟩ := hp
    rw [ew, hix]
    refine zk_stk (r' := [.int (nI (b + n)), .int (nI b), .ref (P.1 i)]) rfl ?_
    refine ze_callStr (i := i) (As := [.int (nI b), .int (nI (b + n))]) (rest := []) C (js_sub ws i hi b n hbn h0 (by omega)) ku_St_substring kx2383 kv_St_substring hi rfl rfl ⟨by show 4 + 1 ≤ 5; decide, by show 8 + (5 + 11) + 128 ≤ 152; decide⟩ ⟨by show 0 + 2 ≤ 2; decide, by show 0 + (4 + n) ≤ 7; omega⟩ rfl (Nat.le_of_ble_eq_true rfl) kd_Mo_standardName_186 rfl (c1 := 2) (s1 := 4 + n) rfl (Nat.zero_add _) (fun v w hp => ?_)
    obtain ⟨a, q, rfl, ew⟩ := hp
    rw [ew]
    refine zk_stk (r' := [.ref a]) rfl ?_
    refine zk_goto (tgt := 193) C kd_Mo_standardName_189 (by decide) ?_
    refine zk_widen (c1 := 2) (s1 := 7) (Nat.le_refl _) (by omega) ?_
    exact js_aret C hR (Or.inl ⟨_, rfl⟩) (Or.inr ⟨_, rfl⟩) kd_Mo_standardName_193 rfl rfl (by rw [hw]; exact ⟨a, q, rfl, rfl⟩)
def js_tb : List (List (Nat × Nat)) := [[(0, 2), (3, 2), (6, 0), (6, 0)], [(0, 2), (3, 1), (5, 2), (8, 0)], [(0, 2), (3, 2), (6, 2), (9, 0)], [(0, 3), (4, 0), (4, 0), (4, 0)], [(0, 2), (3, 1), (5, 0), (5, 0)], [(0, 1), (2, 2), (5, 0), (5, 0)], [(0, 1), (2, 2), (5, 0), (5, 0)], [(0, 1), (2, 2), (5, 0), (5, 0)], [(0, 1), (2, 0), (2, 0), (2, 0)], [(0, 2), (3, 0), (3, 0), (3, 0)]]
theorem js_okA : ∀ i, i < 10 → ∀ k, k < 4 → js_at (12 + i) k 12 0 0 = ((js_tb.getD i []).getD k (0, 0)).1 ∧ ((js_tb.getD i []).getD k (0, 0)).1 ≤ ze_n (12 + i) ∧ (if ((js_tb.getD i []).getD k (0, 0)).1 < ze_n (12 + i) then js_ix (12 + i) (ze_n (12 + i) - ((js_tb.getD i []).getD k (0, 0)).1) ((js_tb.getD i []).getD k (0, 0)).1 = nI (((js_tb.getD i []).getD k (0, 0)).1 + ((js_tb.getD i []).getD k (0, 0)).2) ∧ 0 < ((js_tb.getD i []).getD k (0, 0)).2 ∧ ((js_tb.getD i []).getD k (0, 0)).2 ≤ 3 ∧ ((js_tb.getD i []).getD k (0, 0)).1 + ((js_tb.getD i []).getD k (0, 0)).2 < ze_n (12 + i) ∧ (js_ws (12 + i))[k]? = some (js_wd (12 + i) ((js_tb.getD i []).getD k (0, 0)).1 ((js_tb.getD i []).getD k (0, 0)).2) else (js_ws (12 + i))[k]? = none) := by decide +kernel
theorem js_ok1 (i : Nat) (h1 : 12 ≤ i) (h2 : i < 22) (k : Nat) (hk : k < 4) : ∃ b n, js_ok i k b n ∧ b ≤ ze_n i := by
  obtain ⟨j, rfl⟩ := Nat.exists_eq_add_of_le h1
  obtain ⟨a1, a2, a3⟩ := js_okA j (by omega) k hk
  exact ⟨_, _, ⟨h2, a1, a3⟩, a2⟩
theorem js_len3 : ∀ i, i < 10 → ze_n (12 + i) ≤ 12 := by decide +kernel
set_option maxHeartbeats 4000000 in
set_option maxRecDepth 100000 in
theorem js_stdR {X : zkj_T} {S : zs_T} {l : Launch} {D : va_G} {sz0 : Nat} {P : ze_T} (ws : va_W) (i k : Nat) (h1 : 12 ≤ i) (h2 : i < 22) (hk : k < 4) (C : zk_C X km_Mo_standardName (zs_G S l D sz0) { frames := 5, cells := 2, slots := 7, locals := 152 } (ze_E P)) (hR : zkj_R X (js_Ps S ws (js_ws i)[k]?) (some (.object "java/lang/String"))) : zk_Ab X ws 0 0 117 [(2, .int (nI k))] [.ref (P.1 i)] := by
  obtain ⟨b, n, hok, hb⟩ := js_ok1 i h1 h2 k hk
  have h3 : ze_n i ≤ 12 := by
    obtain ⟨j, rfl⟩ := Nat.exists_eq_add_of_le h1
    exact js_len3 j (by omega)
  refine zk_astore_n (lv' := [(3, .ref (P.1 i)), (2, .int (nI k))]) C kd_Mo_standardName_117 rfl (by decide) rfl rfl ?_
  refine zk_iconst (v := 0) C kd_Mo_standardName_118 (by decide) rfl ?_
  refine zk_istore (lv' := [(4, .int 0), (3, .ref (P.1 i)), (2, .int (nI k))]) C kd_Mo_standardName_119 (by decide) rfl rfl ?_
  refine zk_iconst (v := 0) C kd_Mo_standardName_121 (by decide) rfl ?_
  refine zk_istore (lv' := [(5, .int 0), (4, .int 0), (3, .ref (P.1 i)), (2, .int (nI k))]) C kd_Mo_standardName_122 (by decide) rfl rfl ?_
  refine zk_lvs (lv' := [(4, .int (nI 0)), (5, .int (nI 0)), (2, .int (nI k)), (3, .ref (P.1 i))]) [1, 0, 3, 2] rfl ?_
  exact js_stdL (Post := js_Ps S ws (js_ws i)[k]?) ws i h2 k (by omega) C b (js_stdE ws i k b n hok C hR hb) 12 0 0 (by omega) (by omega) (by omega) hok.2.1
set_option maxHeartbeats 4000000 in
set_option maxRecDepth 100000 in
theorem js_std {S : zs_T} {l : Launch} {D : va_G} {sz0 : Nat} {P : ze_T} (ws : va_W) (x0 x1 : Int32) (k : Nat) (hk : k < 4) : zk_Sp (zs_G S l D sz0) (ze_E P) km_Mo_standardName { frames := 5, cells := 2, slots := 7, locals := 152 } [.int x0, .int x1, .int (nI k)] ws (js_Ps S ws (zp_row x0 x1)[k]?) := by
  refine zk_met ku_Mo_standardName (Nat.le_of_ble_eq_true rfl) (ze_Em P) ?_
  intro X C hR
  unfold zp_row at hR
  refine zk_lvs (lv' := [(0, .int x0), (1, .int x1), (2, .int (nI k))]) [0, 1, 2] rfl ?_
  refine zk_iload_n C kd_Mo_standardName_0 rfl 1 rfl rfl ?_
  refine zk_if_eq (tgt := 75) C kd_Mo_standardName_1 (by decide) rfl (fun b1 => ?_) (fun b1 => ?_)
  · rw [if_pos b1] at hR
    refine zk_iload_n C kd_Mo_standardName_75 rfl 0 rfl rfl ?_
    refine zk_ldcw (v := 100003) C kx2369 kd_Mo_standardName_76 rfl ?_
    refine zk_icmp_ge (tgt := 88) C kd_Mo_standardName_79 (by decide) rfl (fun b2 => ?_) (fun b2 => ?_)
    · rw [if_neg (Int32.not_lt.mpr b2)] at hR
      refine zk_iload_n C kd_Mo_standardName_88 rfl 0 rfl rfl ?_
      refine zk_ldcw (v := 100005) C kx2322 kd_Mo_standardName_89 rfl ?_
      refine zk_icmp_ge (tgt := 101) C kd_Mo_standardName_92 (by decide) rfl (fun b3 => ?_) (fun b3 => ?_)
      · rw [if_neg (Int32.not_lt.mpr b3)] at hR
        refine zk_iload_n C kd_Mo_standardName_101 rfl 0 rfl rfl ?_
        refine zk_ldcw (v := 100007) C kx2374 kd_Mo_standardName_102 rfl ?_
        refine zk_icmp_ge (tgt := 114) C kd_Mo_standardName_105 (by decide) rfl (fun b4 => ?_) (fun b4 => ?_)
        · rw [if_neg (Int32.not_lt.mpr b4)] at hR
          refine ze_ldcSw (i := 21) C (zd_str 21 rfl) kd_Mo_standardName_114 rfl ?_
          refine zk_lvs (lv' := [(2, .int (nI k))]) [2] rfl ?_
          exact js_stdR ws 21 k (by decide) (by decide) hk C hR
        · rw [if_pos (Int32.not_le.mp b4)] at hR
          refine ze_ldcSw (i := 20) C (zd_str 20 rfl) kd_Mo_standardName_108 rfl ?_
          refine zk_goto (tgt := 117) C kd_Mo_standardName_111 (by decide) ?_
          refine zk_lvs (lv' := [(2, .int (nI k))]) [2] rfl ?_
          exact js_stdR ws 20 k (by decide) (by decide) hk C hR
      · rw [if_pos (Int32.not_le.mp b3)] at hR
        refine ze_ldcSw (i := 19) C (zd_str 19 rfl) kd_Mo_standardName_95 rfl ?_
        refine zk_goto (tgt := 117) C kd_Mo_standardName_98 (by decide) ?_
        refine zk_lvs (lv' := [(2, .int (nI k))]) [2] rfl ?_
        exact js_stdR ws 19 k (by decide) (by decide) hk C hR
    · rw [if_pos (Int32.not_le.mp b2)] at hR
      refine ze_ldcSw (i := 18) C (zd_str 18 rfl) kd_Mo_standardName_82 rfl ?_
      refine zk_goto (tgt := 117) C kd_Mo_standardName_85 (by decide) ?_
      refine zk_lvs (lv' := [(2, .int (nI k))]) [2] rfl ?_
      exact js_stdR ws 18 k (by decide) (by decide) hk C hR
  · rw [if_neg b1] at hR
    refine zk_iload_n C kd_Mo_standardName_4 rfl 0 rfl rfl ?_
    refine zk_ldcw (v := 100003) C kx2369 kd_Mo_standardName_5 rfl ?_
    refine zk_icmp_ge (tgt := 17) C kd_Mo_standardName_8 (by decide) rfl (fun b2 => ?_) (fun b2 => ?_)
    · rw [if_neg (Int32.not_lt.mpr b2)] at hR
      refine zk_iload_n C kd_Mo_standardName_17 rfl 0 rfl rfl ?_
      refine zk_ldcw (v := 100003) C kx2369 kd_Mo_standardName_18 rfl ?_
      refine zk_icmp_ne (tgt := 30) C kd_Mo_standardName_21 (by decide) rfl (fun b3 => ?_) (fun b3 => ?_)
      · rw [if_neg b3] at hR
        refine zk_iload_n C kd_Mo_standardName_30 rfl 0 rfl rfl ?_
        refine zk_ldcw (v := 100004) C kx2372 kd_Mo_standardName_31 rfl ?_
        refine zk_icmp_ne (tgt := 43) C kd_Mo_standardName_34 (by decide) rfl (fun b4 => ?_) (fun b4 => ?_)
        · rw [if_neg b4] at hR
          refine zk_iload_n C kd_Mo_standardName_43 rfl 0 rfl rfl ?_
          refine zk_ldcw (v := 100007) C kx2374 kd_Mo_standardName_44 rfl ?_
          refine zk_icmp_ge (tgt := 56) C kd_Mo_standardName_47 (by decide) rfl (fun b5 => ?_) (fun b5 => ?_)
          · rw [if_neg (Int32.not_lt.mpr b5)] at hR
            refine zk_iload_n C kd_Mo_standardName_56 rfl 0 rfl rfl ?_
            refine zk_ldcw (v := 100007) C kx2374 kd_Mo_standardName_57 rfl ?_
            refine zk_icmp_ne (tgt := 69) C kd_Mo_standardName_60 (by decide) rfl (fun b6 => ?_) (fun b6 => ?_)
            · rw [if_neg b6] at hR
              refine ze_ldcSw (i := 17) C (zd_str 17 rfl) kd_Mo_standardName_69 rfl ?_
              refine zk_goto (tgt := 117) C kd_Mo_standardName_72 (by decide) ?_
              refine zk_lvs (lv' := [(2, .int (nI k))]) [2] rfl ?_
              exact js_stdR ws 17 k (by decide) (by decide) hk C hR
            · rw [if_pos b6] at hR
              refine ze_ldcSw (i := 16) C (zd_str 16 rfl) kd_Mo_standardName_63 rfl ?_
              refine zk_goto (tgt := 117) C kd_Mo_standardName_66 (by decide) ?_
              refine zk_lvs (lv' := [(2, .int (nI k))]) [2] rfl ?_
              exact js_stdR ws 16 k (by decide) (by decide) hk C hR
          · rw [if_pos (Int32.not_le.mp b5)] at hR
            refine ze_ldcSw (i := 15) C (zd_str 15 rfl) kd_Mo_standardName_50 rfl ?_
            refine zk_goto (tgt := 117) C kd_Mo_standardName_53 (by decide) ?_
            refine zk_lvs (lv' := [(2, .int (nI k))]) [2] rfl ?_
            exact js_stdR ws 15 k (by decide) (by decide) hk C hR
        · rw [if_pos b4] at hR
          refine ze_ldcSw (i := 14) C (zd_str 14 rfl) kd_Mo_standardName_37 rfl ?_
          refine zk_goto (tgt := 117) C kd_Mo_standardName_40 (by decide) ?_
          refine zk_lvs (lv' := [(2, .int (nI k))]) [2] rfl ?_
          exact js_stdR ws 14 k (by decide) (by decide) hk C hR
      · rw [if_pos b3] at hR
        refine ze_ldcSw (i := 13) C (zd_str 13 rfl) kd_Mo_standardName_24 rfl ?_
        refine zk_goto (tgt := 117) C kd_Mo_standardName_27 (by decide) ?_
        refine zk_lvs (lv' := [(2, .int (nI k))]) [2] rfl ?_
        exact js_stdR ws 13 k (by decide) (by decide) hk C hR
    · rw [if_pos (Int32.not_le.mp b2)] at hR
      refine ze_ldcSw (i := 12) C (zd_str 12 rfl) kd_Mo_standardName_11 rfl ?_
      refine zk_goto (tgt := 117) C kd_Mo_standardName_14 (by decide) ?_
      refine zk_lvs (lv' := [(2, .int (nI k))]) [2] rfl ?_
      exact js_stdR ws 12 k (by decide) (by decide) hk C hR
