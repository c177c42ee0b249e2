/-! isNamed and pin. -/
section JS3
variable {X : zkj_T} {M : zk_MT} {rm : Room} {E : Nat → State → Prop} {S : zs_T} {l : Launch} {D : va_G} {sz0 : Nat} {h : zs_H} {ex : va_W} {cells slots pc n : Nat} {lv lv' : List (Nat × Value)} {r r' : List Value}
theorem js_get {C0 : String} {T : u_T} {N ci index : Nat} {tm : List (Nat × Nat)} {t : Nat × Nat} {v : Value} (C : zk_C X M (zs_G S l D sz0) rm E) (k j : Nat) (hk : zs_sh[k]? = some (.inr (ci, tm))) (hj : tm[j]? = some t) (hv : zs_v S (h.1 k j) t = v) (hc : zk_cls[ci]? = some (C0, T, N)) (hin : ∀ w ∈ u_ws C0 T N, w ∈ zk_BW) (hjN : j < N) (hlink : Cond.fieldLink M.1.cls index (T j).1 (T j).2.1 (T j).2.2.1 ∈ zk_BW) (d : decode M.2.1 pc = .ok (.getfield index, 3)) (hpc : pc + 3 = n) (kk : zk_Ab X (zs_W S h ++ ex) cells slots n lv (v :: r)) : zk_Ab X (zs_W S h ++ ex) cells slots pc lv (.ref (S.1 k) :: r) := by
  refine zk_get C k (js_l (zs_at hk)) hc hin j hjN hlink ?_ d hpc kk
  have := zs_fs_at (S := S) (f := h.1 k) (b := 0) hj
  rw [show 0 + j = j by omega, hv] at this
  exact this
theorem js_iald {N : Nat} {i : Int32} (C : zk_C X M (zs_G S l D sz0) rm E) (k : Nat) (hk : zs_sh[k]? = some (.inl (0, N))) (hin : vp_in i N) (d : decode M.2.1 pc = .ok (.iaload, 1)) (hpc : pc + 1 = n) (kk : zk_Ab X (zs_W S h ++ ex) cells slots n lv (.int (h.2.1 k i.toNatClampNeg) :: r)) : zk_Ab X (zs_W S h ++ ex) cells slots pc lv (.int i :: .ref (S.1 k) :: r) := zk_iald C k 0 (js_l (zs_at hk)) rfl hin d hpc kk
theorem js_bald {N : Nat} {i : Int32} (C : zk_C X M (zs_G S l D sz0) rm E) (k : Nat) (hk : zs_sh[k]? = some (.inl (1, N))) (hin : vp_in i N) (d : decode M.2.1 pc = .ok (.baload, 1)) (hpc : pc + 1 = n) (kk : zk_Ab X (zs_W S h ++ ex) cells slots n lv (.int (h.2.1 k i.toNatClampNeg) :: r)) : zk_Ab X (zs_W S h ++ ex) cells slots pc lv (.int i :: .ref (S.1 k) :: r) := zk_bald C k 1 (js_l (zs_at hk)) rfl hin d hpc kk
end JS3
theorem kx1687 : Jvm.Cond.fieldLink "PlantKeeperModel" (14 : Nat) "PlantKeeperModel" "nameBytes" "[B" ∈ zk_BW := zk_inT 1687 (by decide +kernel) rfl
theorem kx1688 : Jvm.Cond.fieldLink "PlantKeeperModel" (17 : Nat) "PlantKeeperModel" "nameSizes" "[I" ∈ zk_BW := zk_inT 1688 (by decide +kernel) rfl
theorem kx1729 : Jvm.Cond.fieldLink "PlantKeeperModel" (91 : Nat) "PlantKeeperModel" "varSections" "[I" ∈ zk_BW := zk_inT 1729 (by decide +kernel) rfl
theorem kx1988 : Jvm.Cond.constant "PlantKeeperModel" (498 : Nat) (100000 : Int32) ∈ zk_BW := zk_inT 1988 (by decide +kernel) rfl
theorem kx2327 : Jvm.Cond.methodLink "PlantKeeperModel" (507 : Nat) ({ cls := "PlantKeeperModel", name := "variable", desc := "(II)I" } : Jvm.MethodName) ∈ zk_BW := zk_inT 2327 (by decide +kernel) rfl
theorem kx2364 : Jvm.Cond.instanceMethod ({ cls := "PlantKeeperModel", name := "pin", desc := "(IZI)I" } : Jvm.MethodName) ∈ zk_BW := zk_inT 2364 (by decide +kernel) rfl
theorem kx2365 : Jvm.Cond.code ({ cls := "PlantKeeperModel", name := "pin", desc := "(IZI)I" } : Jvm.MethodName) prog_14_method_74_code (6 : Nat) (Option.some FieldType.int) ∈ zk_BW := zk_inT 2365 (by decide +kernel) rfl
theorem kx2366 : Jvm.Cond.methodLink "PlantKeeperModel" (499 : Nat) ({ cls := "PlantKeeperModel", name := "standardName", desc := "(IZI)Ljava/lang/String;" } : Jvm.MethodName) ∈ zk_BW := zk_inT 2366 (by decide +kernel) rfl
theorem kx2457 : Jvm.Cond.methodLink "PlantKeeperModel" (503 : Nat) ({ cls := "PlantKeeperModel", name := "isNamed", desc := "(ILjava/lang/String;)Z" } : Jvm.MethodName) ∈ zk_BW := zk_inT 2457 (by decide +kernel) rfl
theorem kx2459 : Jvm.Cond.instanceMethod ({ cls := "PlantKeeperModel", name := "isNamed", desc := "(ILjava/lang/String;)Z" } : Jvm.MethodName) ∈ zk_BW := zk_inT 2459 (by decide +kernel) rfl
theorem kx2460 : Jvm.Cond.code ({ cls := "PlantKeeperModel", name := "isNamed", desc := "(ILjava/lang/String;)Z" } : Jvm.MethodName) prog_14_method_73_code (5 : Nat) (Option.some FieldType.boolean) ∈ zk_BW := zk_inT 2460 (by decide +kernel) rfl
abbrev kc_Mo_isNamed : ByteArray := prog_14_method_73_code
def km_Mo_isNamed : zk_MT := (⟨"PlantKeeperModel", "isNamed", "(ILjava/lang/String;)Z"⟩, kc_Mo_isNamed, 5, some .boolean, 2)
theorem ku_Mo_isNamed : zk_My km_Mo_isNamed := ⟨kx2460, kx17, by decide, by decide, by decide, by decide +kernel⟩
theorem kv_Mo_isNamed : zk_Mv km_Mo_isNamed := ⟨kx2459, zk_inS 233 (q := (⟨"PlantKeeperModel", "isNamed", "(ILjava/lang/String;)Z"⟩, 96)) (by decide +kernel)⟩
abbrev kc_Mo_pin : ByteArray := prog_14_method_74_code
def km_Mo_pin : zk_MT := (⟨"PlantKeeperModel", "pin", "(IZI)I"⟩, kc_Mo_pin, 6, some .int, 3)
theorem ku_Mo_pin : zk_My km_Mo_pin := ⟨kx2365, kx17, by decide, by decide, by decide, by decide +kernel⟩
theorem kv_Mo_pin : zk_Mv km_Mo_pin := ⟨kx2364, zk_inS 232 (q := (⟨"PlantKeeperModel", "pin", "(IZI)I"⟩, 96)) (by decide +kernel)⟩
theorem kd_Mo_isNamed_0 : decode kc_Mo_isNamed 0 = .ok (.aload_n 0, 1) := by decide +kernel
theorem kd_Mo_isNamed_1 : decode kc_Mo_isNamed 1 = .ok (.getfield 17, 3) := by decide +kernel
theorem kd_Mo_isNamed_4 : decode kc_Mo_isNamed 4 = .ok (.iload_n 1, 1) := by decide +kernel
theorem kd_Mo_isNamed_5 : decode kc_Mo_isNamed 5 = .ok (.iaload, 1) := by decide +kernel
theorem kd_Mo_isNamed_6 : decode kc_Mo_isNamed 6 = .ok (.aload_n 2, 1) := by decide +kernel
theorem kd_Mo_isNamed_7 : decode kc_Mo_isNamed 7 = .ok (.invokevirtual 250, 3) := by decide +kernel
theorem kd_Mo_isNamed_10 : decode kc_Mo_isNamed 10 = .ok (.if_icmp .ne 7, 3) := by decide +kernel
theorem kd_Mo_isNamed_13 : decode kc_Mo_isNamed 13 = .ok (.iconst 1, 1) := by decide +kernel
theorem kd_Mo_isNamed_14 : decode kc_Mo_isNamed 14 = .ok (.goto 4, 3) := by decide +kernel
theorem kd_Mo_isNamed_17 : decode kc_Mo_isNamed 17 = .ok (.iconst 0, 1) := by decide +kernel
theorem kd_Mo_isNamed_18 : decode kc_Mo_isNamed 18 = .ok (.istore_n 3, 1) := by decide +kernel
theorem kd_Mo_isNamed_19 : decode kc_Mo_isNamed 19 = .ok (.iconst 0, 1) := by decide +kernel
theorem kd_Mo_isNamed_20 : decode kc_Mo_isNamed 20 = .ok (.istore 4, 2) := by decide +kernel
theorem kd_Mo_isNamed_22 : decode kc_Mo_isNamed 22 = .ok (.iload 4, 2) := by decide +kernel
theorem kd_Mo_isNamed_24 : decode kc_Mo_isNamed 24 = .ok (.aload_n 2, 1) := by decide +kernel
theorem kd_Mo_isNamed_25 : decode kc_Mo_isNamed 25 = .ok (.invokevirtual 250, 3) := by decide +kernel
theorem kd_Mo_isNamed_28 : decode kc_Mo_isNamed 28 = .ok (.if_icmp .ge 40, 3) := by decide +kernel
theorem kd_Mo_isNamed_31 : decode kc_Mo_isNamed 31 = .ok (.iload_n 3, 1) := by decide +kernel
theorem kd_Mo_isNamed_32 : decode kc_Mo_isNamed 32 = .ok (.ifCond .eq 36, 3) := by decide +kernel
theorem kd_Mo_isNamed_35 : decode kc_Mo_isNamed 35 = .ok (.aload_n 0, 1) := by decide +kernel
theorem kd_Mo_isNamed_36 : decode kc_Mo_isNamed 36 = .ok (.getfield 14, 3) := by decide +kernel
theorem kd_Mo_isNamed_39 : decode kc_Mo_isNamed 39 = .ok (.bipush 32, 2) := by decide +kernel
theorem kd_Mo_isNamed_41 : decode kc_Mo_isNamed 41 = .ok (.iload_n 1, 1) := by decide +kernel
theorem kd_Mo_isNamed_42 : decode kc_Mo_isNamed 42 = .ok (.imul, 1) := by decide +kernel
theorem kd_Mo_isNamed_43 : decode kc_Mo_isNamed 43 = .ok (.iload 4, 2) := by decide +kernel
theorem kd_Mo_isNamed_45 : decode kc_Mo_isNamed 45 = .ok (.iadd, 1) := by decide +kernel
theorem kd_Mo_isNamed_46 : decode kc_Mo_isNamed 46 = .ok (.baload, 1) := by decide +kernel
theorem kd_Mo_isNamed_47 : decode kc_Mo_isNamed 47 = .ok (.aload_n 2, 1) := by decide +kernel
theorem kd_Mo_isNamed_48 : decode kc_Mo_isNamed 48 = .ok (.iload 4, 2) := by decide +kernel
theorem kd_Mo_isNamed_50 : decode kc_Mo_isNamed 50 = .ok (.invokevirtual 255, 3) := by decide +kernel
theorem kd_Mo_isNamed_53 : decode kc_Mo_isNamed 53 = .ok (.if_icmp .ne 7, 3) := by decide +kernel
theorem kd_Mo_isNamed_56 : decode kc_Mo_isNamed 56 = .ok (.iconst 1, 1) := by decide +kernel
theorem kd_Mo_isNamed_57 : decode kc_Mo_isNamed 57 = .ok (.goto 4, 3) := by decide +kernel
theorem kd_Mo_isNamed_60 : decode kc_Mo_isNamed 60 = .ok (.iconst 0, 1) := by decide +kernel
theorem kd_Mo_isNamed_61 : decode kc_Mo_isNamed 61 = .ok (.istore_n 3, 1) := by decide +kernel
theorem kd_Mo_isNamed_62 : decode kc_Mo_isNamed 62 = .ok (.iinc 4 1, 3) := by decide +kernel
theorem kd_Mo_isNamed_65 : decode kc_Mo_isNamed 65 = .ok (.goto (-43), 3) := by decide +kernel
theorem kd_Mo_isNamed_68 : decode kc_Mo_isNamed 68 = .ok (.iload_n 3, 1) := by decide +kernel
theorem kd_Mo_isNamed_69 : decode kc_Mo_isNamed 69 = .ok (.ireturn, 1) := by decide +kernel
theorem kd_Mo_pin_0 : decode kc_Mo_pin 0 = .ok (.iconst 0, 1) := by decide +kernel
theorem kd_Mo_pin_1 : decode kc_Mo_pin 1 = .ok (.istore 4, 2) := by decide +kernel
theorem kd_Mo_pin_3 : decode kc_Mo_pin 3 = .ok (.iload_n 1, 1) := by decide +kernel
theorem kd_Mo_pin_4 : decode kc_Mo_pin 4 = .ok (.ldc_w 498, 3) := by decide +kernel
theorem kd_Mo_pin_7 : decode kc_Mo_pin 7 = .ok (.if_icmp .lt 46, 3) := by decide +kernel
theorem kd_Mo_pin_10 : decode kc_Mo_pin 10 = .ok (.iload_n 1, 1) := by decide +kernel
theorem kd_Mo_pin_11 : decode kc_Mo_pin 11 = .ok (.iload_n 2, 1) := by decide +kernel
theorem kd_Mo_pin_12 : decode kc_Mo_pin 12 = .ok (.iconst 0, 1) := by decide +kernel
theorem kd_Mo_pin_13 : decode kc_Mo_pin 13 = .ok (.invokestatic 499, 3) := by decide +kernel
theorem kd_Mo_pin_16 : decode kc_Mo_pin 16 = .ok (.astore 5, 2) := by decide +kernel
theorem kd_Mo_pin_18 : decode kc_Mo_pin 18 = .ok (.aload 5, 2) := by decide +kernel
theorem kd_Mo_pin_20 : decode kc_Mo_pin 20 = .ok (.ifnull 31, 3) := by decide +kernel
theorem kd_Mo_pin_23 : decode kc_Mo_pin 23 = .ok (.aload_n 0, 1) := by decide +kernel
theorem kd_Mo_pin_24 : decode kc_Mo_pin 24 = .ok (.iload_n 3, 1) := by decide +kernel
theorem kd_Mo_pin_25 : decode kc_Mo_pin 25 = .ok (.aload 5, 2) := by decide +kernel
theorem kd_Mo_pin_27 : decode kc_Mo_pin 27 = .ok (.invokevirtual 503, 3) := by decide +kernel
theorem kd_Mo_pin_30 : decode kc_Mo_pin 30 = .ok (.ifCond .eq 6, 3) := by decide +kernel
theorem kd_Mo_pin_33 : decode kc_Mo_pin 33 = .ok (.iload 4, 2) := by decide +kernel
theorem kd_Mo_pin_35 : decode kc_Mo_pin 35 = .ok (.ireturn, 1) := by decide +kernel
theorem kd_Mo_pin_36 : decode kc_Mo_pin 36 = .ok (.iinc 4 1, 3) := by decide +kernel
theorem kd_Mo_pin_39 : decode kc_Mo_pin 39 = .ok (.iload_n 1, 1) := by decide +kernel
theorem kd_Mo_pin_40 : decode kc_Mo_pin 40 = .ok (.iload_n 2, 1) := by decide +kernel
theorem kd_Mo_pin_41 : decode kc_Mo_pin 41 = .ok (.iload 4, 2) := by decide +kernel
theorem kd_Mo_pin_43 : decode kc_Mo_pin 43 = .ok (.invokestatic 499, 3) := by decide +kernel
theorem kd_Mo_pin_46 : decode kc_Mo_pin 46 = .ok (.astore 5, 2) := by decide +kernel
theorem kd_Mo_pin_48 : decode kc_Mo_pin 48 = .ok (.goto (-30), 3) := by decide +kernel
theorem kd_Mo_pin_51 : decode kc_Mo_pin 51 = .ok (.iconst (-1), 1) := by decide +kernel
theorem kd_Mo_pin_52 : decode kc_Mo_pin 52 = .ok (.ireturn, 1) := by decide +kernel
theorem kd_Mo_pin_53 : decode kc_Mo_pin 53 = .ok (.aload_n 0, 1) := by decide +kernel
theorem kd_Mo_pin_54 : decode kc_Mo_pin 54 = .ok (.iload_n 1, 1) := by decide +kernel
theorem kd_Mo_pin_55 : decode kc_Mo_pin 55 = .ok (.iload_n 3, 1) := by decide +kernel
theorem kd_Mo_pin_56 : decode kc_Mo_pin 56 = .ok (.invokevirtual 507, 3) := by decide +kernel
theorem kd_Mo_pin_59 : decode kc_Mo_pin 59 = .ok (.istore 5, 2) := by decide +kernel
theorem kd_Mo_pin_61 : decode kc_Mo_pin 61 = .ok (.iload 5, 2) := by decide +kernel
theorem kd_Mo_pin_63 : decode kc_Mo_pin 63 = .ok (.ifCond .lt 27, 3) := by decide +kernel
theorem kd_Mo_pin_66 : decode kc_Mo_pin 66 = .ok (.aload_n 0, 1) := by decide +kernel
theorem kd_Mo_pin_67 : decode kc_Mo_pin 67 = .ok (.getfield 91, 3) := by decide +kernel
theorem kd_Mo_pin_70 : decode kc_Mo_pin 70 = .ok (.iload 5, 2) := by decide +kernel
theorem kd_Mo_pin_72 : decode kc_Mo_pin 72 = .ok (.iaload, 1) := by decide +kernel
theorem kd_Mo_pin_73 : decode kc_Mo_pin 73 = .ok (.iload_n 2, 1) := by decide +kernel
theorem kd_Mo_pin_74 : decode kc_Mo_pin 74 = .ok (.ifCond .eq 7, 3) := by decide +kernel
theorem kd_Mo_pin_77 : decode kc_Mo_pin 77 = .ok (.iconst 1, 1) := by decide +kernel
theorem kd_Mo_pin_78 : decode kc_Mo_pin 78 = .ok (.goto 4, 3) := by decide +kernel
theorem kd_Mo_pin_81 : decode kc_Mo_pin 81 = .ok (.iconst 2, 1) := by decide +kernel
theorem kd_Mo_pin_82 : decode kc_Mo_pin 82 = .ok (.if_icmp .ne 8, 3) := by decide +kernel
theorem kd_Mo_pin_85 : decode kc_Mo_pin 85 = .ok (.iload 5, 2) := by decide +kernel
theorem kd_Mo_pin_87 : decode kc_Mo_pin 87 = .ok (.goto 4, 3) := by decide +kernel
theorem kd_Mo_pin_90 : decode kc_Mo_pin 90 = .ok (.iconst (-1), 1) := by decide +kernel
theorem kd_Mo_pin_91 : decode kc_Mo_pin 91 = .ok (.ireturn, 1) := by decide +kernel
/-- p holds of m places from k on -/
def js_al (p : Nat → Bool) : Nat → Nat → Bool
  | 0, _ => true
  | m + 1, k => p k && js_al p m (k + 1)
theorem js_alr (p : Nat → Bool) : ∀ m k, js_al p m k = (List.range' k m).all p
  | 0, _ => rfl
  | m + 1, k => by
    show (p k && js_al p m (k + 1)) = _
    rw [js_alr p m (k + 1)]
    rfl
theorem js_is (h : zs_H) (x : Nat) (s : List Int32) : zp_is h x s = (decide (h.2.1 71 x = nI s.length) && js_al (fun j => decide (h.2.1 70 (32 * x + j) = s.getD j 0)) s.length 0) := by
  unfold zp_is
  rw [js_alr, List.range_eq_range']
set_option maxHeartbeats 4000000 in
set_option maxRecDepth 100000 in
theorem js_namL {X : zkj_T} {S : zs_T} {l : Launch} {D : va_G} {sz0 : Nat} {P : ze_T} {h : zs_H} (a v : Nat) (s : List Int32) (x : Nat) (hX : x < 8192) (hs : ∀ j, s.getD j 0 &&& 255 = s.getD j 0) (hl : s.length < 32) (Q : Int32) (C : zk_C X km_Mo_isNamed (zs_G S l D sz0) { frames := 4, cells := 0, slots := 0, locals := 85 } (ze_E P)) (hR : zkj_R X (fun v0 w => v0 = some (.int Q) ∧ w = zs_W S h ++ js_str S a v s) (some .boolean)) : ∀ (m k : Nat) (sm : Int32), k + m = s.length → (sm = 0 ∨ sm = 1) → (if sm = 0 then 0 else if js_al (fun j => decide (h.2.1 70 (32 * x + j) = s.getD j 0)) m k = true then 1 else 0) = Q → zk_Ab X (zs_W S h ++ js_str S a v s) 0 0 22 [(4, .int (nI k)), (3, .int sm), (0, .ref (S.1 68)), (1, .int (nI x)), (2, .ref a)] [] := by
  intro m
  induction m with
  | zero =>
    intro k sm hk hsm hq
    refine zk_iload C kd_Mo_isNamed_22 0 rfl rfl ?_
    refine zk_aload_n C kd_Mo_isNamed_24 rfl 4 rfl rfl ?_
    refine zk_callV (b := a) (As := []) (rest := [.int (nI k)]) C (js_length (zs_W S h) a v s) ku_St_length kx2060 kv_St_length rfl ⟨by decide, by decide⟩ ⟨by decide, by decide⟩ ((zs_W S h).length + 0) (zk_ap 0 rfl) rfl rfl (Nat.le_of_ble_eq_true rfl) kd_Mo_isNamed_25 rfl (c1 := 0) (s1 := 0) rfl rfl (fun v0 w hp => ?_)
    obtain ⟨rfl, ew⟩ := hp
    rw [ew]
    refine zk_stk (r' := [.int (nI s.length), .int (nI k)]) rfl ?_
    refine zk_icmp_ge (tgt := 68) C kd_Mo_isNamed_28 (by decide) rfl (fun q => ?_) (fun q => absurd (nI_le (by omega) (by omega)) q)
    refine zk_iload_n C kd_Mo_isNamed_68 rfl 1 rfl rfl ?_
    exact zk_zret C hR (zd_nb hsm) kd_Mo_isNamed_69 rfl rfl ⟨by rw [← hq]; rcases hsm with rfl | rfl <;> rfl, rfl⟩
  | succ m ih =>
    intro k sm hk hsm hq
    refine zk_iload C kd_Mo_isNamed_22 0 rfl rfl ?_
    refine zk_aload_n C kd_Mo_isNamed_24 rfl 4 rfl rfl ?_
    refine zk_callV (b := a) (As := []) (rest := [.int (nI k)]) C (js_length (zs_W S h) a v s) ku_St_length kx2060 kv_St_length rfl ⟨by decide, by decide⟩ ⟨by decide, by decide⟩ ((zs_W S h).length + 0) (zk_ap 0 rfl) rfl rfl (Nat.le_of_ble_eq_true rfl) kd_Mo_isNamed_25 rfl (c1 := 0) (s1 := 0) rfl rfl (fun v0 w hp => ?_)
    obtain ⟨rfl, ew⟩ := hp
    rw [ew]
    refine zk_stk (r' := [.int (nI s.length), .int (nI k)]) rfl ?_
    refine zk_icmp_ge (tgt := 68) C kd_Mo_isNamed_28 (by decide) rfl (fun q => absurd q (nI_ge (by omega) (by omega))) (fun q => ?_)
    refine zk_iload_n C kd_Mo_isNamed_31 rfl 1 rfl rfl ?_
    refine zk_if_eq (tgt := 68) C kd_Mo_isNamed_32 (by decide) rfl (fun b => ?_) (fun b => ?_)
    · subst b
      refine zk_iload_n C kd_Mo_isNamed_68 rfl 1 rfl rfl ?_
      exact zk_zret C hR (zd_nb (Or.inl rfl)) kd_Mo_isNamed_69 rfl rfl ⟨by rw [← hq]; rfl, rfl⟩
    · rw [if_neg b] at hq
      refine zk_aload_n C kd_Mo_isNamed_35 rfl 2 rfl rfl ?_
      refine js_get (v := .ref (S.1 70)) C 68 4 rfl rfl rfl rfl ki_Mo (by decide) kx1687 kd_Mo_isNamed_36 rfl ?_
      refine zk_bipush (v := 32) C kd_Mo_isNamed_39 (by decide) rfl ?_
      refine zk_iload_n C kd_Mo_isNamed_41 rfl 3 rfl rfl ?_
      refine zk_imul C kd_Mo_isNamed_42 rfl ?_
      rw [show (32 : Int32) * nI x = nI (32 * x) from (Int32.ofNat_mul 32 x).symm]
      refine zk_iload C kd_Mo_isNamed_43 0 rfl rfl ?_
      refine zk_iadd C kd_Mo_isNamed_45 rfl ?_
      rw [nI_add]
      refine js_bald C 70 rfl (vp_in_nI (by omega) (by decide)) kd_Mo_isNamed_46 rfl ?_
      rw [nI_clamp (by omega)]
      refine zk_aload_n C kd_Mo_isNamed_47 rfl 4 rfl rfl ?_
      refine zk_iload C kd_Mo_isNamed_48 0 rfl rfl ?_
      refine zk_callV (b := a) (As := [.int (nI k)]) (rest := [.int (h.2.1 70 (32 * x + k))]) C (js_charAt (zs_W S h) a v s k (by omega) (by omega)) ku_St_charAt kx2061 kv_St_charAt rfl ⟨by decide, by decide⟩ ⟨by decide, by decide⟩ ((zs_W S h).length + 0) (zk_ap 0 rfl) rfl rfl (Nat.le_of_ble_eq_true rfl) kd_Mo_isNamed_50 rfl (c1 := 0) (s1 := 0) rfl rfl (fun v0 w hp => ?_)
      obtain ⟨rfl, ew⟩ := hp
      rw [ew, hs]
      refine zk_stk (r' := [.int (s.getD k 0), .int (h.2.1 70 (32 * x + k))]) rfl ?_
      refine zk_icmp_ne (tgt := 60) C kd_Mo_isNamed_53 (by decide) rfl (fun b2 => ?_) (fun b2 => ?_)
      · refine zk_iconst (v := 0) C kd_Mo_isNamed_60 (by decide) rfl ?_
        refine zk_istore_n (lv' := [(3, .int 0), (4, .int (nI k)), (0, .ref (S.1 68)), (1, .int (nI x)), (2, .ref a)]) C kd_Mo_isNamed_61 rfl (by decide) rfl rfl ?_
        refine zk_iinc (v := nI (k + 1)) (lv' := [(4, .int (nI (k + 1))), (3, .int 0), (0, .ref (S.1 68)), (1, .int (nI x)), (2, .ref a)]) C kd_Mo_isNamed_62 1 rfl (nI_succ k).symm (by decide) rfl rfl ?_
        refine zk_goto (tgt := 22) C kd_Mo_isNamed_65 (by decide) ?_
        refine zk_lvs (lv' := [(4, .int (nI (k + 1))), (3, .int 0), (0, .ref (S.1 68)), (1, .int (nI x)), (2, .ref a)]) [0, 1, 2, 3, 4] rfl ?_
        exact ih (k + 1) 0 (by omega) (Or.inl rfl) (by rw [← hq]; show (0 : Int32) = if (decide _ && _) = true then 1 else 0; rw [decide_eq_false b2]; rfl)
      · refine zk_iconst (v := 1) C kd_Mo_isNamed_56 (by decide) rfl ?_
        refine zk_goto (tgt := 61) C kd_Mo_isNamed_57 (by decide) ?_
        refine zk_istore_n (lv' := [(3, .int 1), (4, .int (nI k)), (0, .ref (S.1 68)), (1, .int (nI x)), (2, .ref a)]) C kd_Mo_isNamed_61 rfl (by decide) rfl rfl ?_
        refine zk_iinc (v := nI (k + 1)) (lv' := [(4, .int (nI (k + 1))), (3, .int 1), (0, .ref (S.1 68)), (1, .int (nI x)), (2, .ref a)]) C kd_Mo_isNamed_62 1 rfl (nI_succ k).symm (by decide) rfl rfl ?_
        refine zk_goto (tgt := 22) C kd_Mo_isNamed_65 (by decide) ?_
        refine zk_lvs (lv' := [(4, .int (nI (k + 1))), (3, .int 1), (0, .ref (S.1 68)), (1, .int (nI x)), (2, .ref a)]) [0, 1, 2, 3, 4] rfl ?_
        exact ih (k + 1) 1 (by omega) (Or.inr rfl) (by rw [← hq]; show (if (1 : Int32) = 0 then 0 else _) = if (decide _ && _) = true then 1 else 0; rw [decide_eq_true b2, Bool.true_and, if_neg (by decide)])
set_option maxHeartbeats 4000000 in
set_option maxRecDepth 100000 in
theorem js_nam {S : zs_T} {l : Launch} {D : va_G} {sz0 : Nat} {P : ze_T} (h : zs_H) (a v : Nat) (s : List Int32) (x : Nat) (hX : x < 8192) (hs : ∀ j, s.getD j 0 &&& 255 = s.getD j 0) (hl : s.length < 32) : zk_Sp (zs_G S l D sz0) (ze_E P) km_Mo_isNamed { frames := 4, cells := 0, slots := 0, locals := 85 } [.ref (S.1 68), .int (nI x), .ref a] (zs_W S h ++ js_str S a v s) (fun v0 w => v0 = some (.int (if zp_is h x s = true then 1 else 0)) ∧ w = zs_W S h ++ js_str S a v s) := by
  refine zk_met ku_Mo_isNamed (Nat.le_of_ble_eq_true rfl) (ze_Em P) ?_
  intro X C hR
  refine zk_lvs (lv' := [(0, .ref (S.1 68)), (1, .int (nI x)), (2, .ref a)]) [0, 1, 2] rfl ?_
  refine zk_aload_n C kd_Mo_isNamed_0 rfl 0 rfl rfl ?_
  refine js_get (v := .ref (S.1 71)) C 68 5 rfl rfl rfl rfl ki_Mo (by decide) kx1688 kd_Mo_isNamed_1 rfl ?_
  refine zk_iload_n C kd_Mo_isNamed_4 rfl 1 rfl rfl ?_
  refine js_iald C 71 rfl (vp_in_nI hX (by decide)) kd_Mo_isNamed_5 rfl ?_
  rw [nI_clamp (by omega)]
  refine zk_aload_n C kd_Mo_isNamed_6 rfl 2 rfl rfl ?_
  refine zk_callV (b := a) (As := []) (rest := [.int (h.2.1 71 x)]) C (js_length (zs_W S h) a v s) ku_St_length kx2060 kv_St_length rfl ⟨by decide, by decide⟩ ⟨by decide, by decide⟩ ((zs_W S h).length + 0) (zk_ap 0 rfl) rfl rfl (Nat.le_of_ble_eq_true rfl) kd_Mo_isNamed_7 rfl (c1 := 0) (s1 := 0) rfl rfl (fun v0 w hp => ?_)
  obtain ⟨rfl, ew⟩ := hp
  rw [ew]
  refine zk_stk (r' := [.int (nI s.length), .int (h.2.1 71 x)]) rfl ?_
  refine zk_icmp_ne (tgt := 17) C kd_Mo_isNamed_10 (by decide) rfl (fun b => ?_) (fun b => ?_)
  · refine zk_iconst (v := 0) C kd_Mo_isNamed_17 (by decide) rfl ?_
    refine zk_istore_n (lv' := [(3, .int 0), (0, .ref (S.1 68)), (1, .int (nI x)), (2, .ref a)]) C kd_Mo_isNamed_18 rfl (by decide) rfl rfl ?_
    refine zk_iconst (v := 0) C kd_Mo_isNamed_19 (by decide) rfl ?_
    refine zk_istore (lv' := [(4, .int 0), (3, .int 0), (0, .ref (S.1 68)), (1, .int (nI x)), (2, .ref a)]) C kd_Mo_isNamed_20 (by decide) rfl rfl ?_
    refine zk_lvs (lv' := [(4, .int (nI 0)), (3, .int 0), (0, .ref (S.1 68)), (1, .int (nI x)), (2, .ref a)]) [0, 1, 2, 3, 4] rfl ?_
    exact js_namL a v s x hX hs hl _ C hR s.length 0 0 (by omega) (Or.inl rfl) (by rw [js_is, decide_eq_false b]; rfl)
  · refine zk_iconst (v := 1) C kd_Mo_isNamed_13 (by decide) rfl ?_
    refine zk_goto (tgt := 18) C kd_Mo_isNamed_14 (by decide) ?_
    refine zk_istore_n (lv' := [(3, .int 1), (0, .ref (S.1 68)), (1, .int (nI x)), (2, .ref a)]) C kd_Mo_isNamed_18 rfl (by decide) rfl rfl ?_
    refine zk_iconst (v := 0) C kd_Mo_isNamed_19 (by decide) rfl ?_
    refine zk_istore (lv' := [(4, .int 0), (3, .int 1), (0, .ref (S.1 68)), (1, .int (nI x)), (2, .ref a)]) C kd_Mo_isNamed_20 (by decide) rfl rfl ?_
    refine zk_lvs (lv' := [(4, .int (nI 0)), (3, .int 1), (0, .ref (S.1 68)), (1, .int (nI x)), (2, .ref a)]) [0, 1, 2, 3, 4] rfl ?_
    exact js_namL a v s x hX hs hl _ C hR s.length 0 1 (by omega) (Or.inr rfl) (by rw [js_is, decide_eq_true b, Bool.true_and, if_neg (by decide)])
theorem js_row3 (x1 x2 : Int32) : (zp_row x1 x2).length ≤ 3 ∧ ∀ s ∈ zp_row x1 x2, s.length < 32 ∧ ∀ c ∈ s, c &&& 255 = c := by
  unfold zp_row
  repeat' split
  all_goals (refine ⟨by decide, ?_⟩; decide +kernel)
theorem js_gd {s : List Int32} (h : ∀ c ∈ s, c &&& 255 = c) (j : Nat) : s.getD j 0 &&& 255 = s.getD j 0 := by
  by_cases hj : j < s.length
  · have : s.getD j 0 ∈ s := by rw [List.getD_eq_getElem?_getD, List.getElem?_eq_getElem hj]; exact List.getElem_mem hj
    exact h _ this
  · rw [List.getD_eq_getElem?_getD, List.getElem?_eq_none (by omega)]; rfl
theorem js_dc {α : Type} {l : List α} {k : Nat} {s : α} (h : l[k]? = some s) : l.drop k = s :: l.drop (k + 1) := by
  obtain ⟨hk, e⟩ := List.getElem?_eq_some_iff.mp h
  rw [List.drop_eq_getElem_cons hk, e]
set_option maxHeartbeats 4000000 in
set_option maxRecDepth 100000 in
theorem js_pinL {X : zkj_T} {S : zs_T} {l : Launch} {D : va_G} {sz0 : Nat} {P : ze_T} {h : zs_H} (x1 x2 : Int32) (x : Nat) (hX : x < 8192) (rv : Int32) (C : zk_C X km_Mo_pin (zs_G S l D sz0) { frames := 6, cells := 8, slots := 28, locals := 177 } (ze_E P)) (hR : zkj_R X (zd_PI S rv h) (some .int)) : ∀ (m k : Nat), k + m = (zp_row x1 x2).length → zp_first h x ((zp_row x1 x2).drop k) (nI k) = rv → ((zp_row x1 x2)[k]? = none → zk_Ab X (zs_W S h) (2 * (k + 1)) (7 * (k + 1)) 18 [(5, .null), (0, .ref (S.1 68)), (1, .int x1), (2, .int x2), (3, .int (nI x)), (4, .int (nI k))] []) ∧ (∀ (s : List Int32) (a v : Nat), (zp_row x1 x2)[k]? = some s → zk_Ab X (zs_W S h ++ js_str S a v s) (2 * (k + 1)) (7 * (k + 1)) 18 [(5, .ref a), (0, .ref (S.1 68)), (1, .int x1), (2, .int x2), (3, .int (nI x)), (4, .int (nI k))] []) := by
  obtain ⟨hr3, hrs⟩ := js_row3 x1 x2
  intro m
  induction m with
  | zero =>
    intro k hk hq
    refine ⟨fun hn => ?_, fun s a v hn => ?_⟩
    · refine js_aloadN C kd_Mo_pin_18 0 rfl rfl ?_
      refine js_ifnullN (tgt := 51) C kd_Mo_pin_20 (by decide) ?_
      refine zk_iconst (v := (-1)) C kd_Mo_pin_51 (by decide) rfl ?_
      rw [List.drop_eq_nil_of_le (by omega)] at hq
      have hq2 : (-1 : Int32) = rv := hq
      subst hq2
      refine zk_widen (c1 := 8) (s1 := 28) (by omega) (by omega) ?_
      exact zk_iret C hR kd_Mo_pin_52 rfl rfl ⟨rfl, rfl⟩
    · rw [List.getElem?_eq_none (by omega)] at hn
      cases hn
  | succ m ih =>
    intro k hk hq
    refine ⟨fun hn => absurd (List.getElem?_eq_none_iff.mp hn) (by omega), fun s a v hn => ?_⟩
    rw [js_dc hn] at hq
    have hmem : s ∈ zp_row x1 x2 := List.mem_of_getElem? hn
    have hq2 : (if zp_is h x s = true then nI k else zp_first h x ((zp_row x1 x2).drop (k + 1)) (nI k + 1)) = rv := hq
    refine zk_aload C kd_Mo_pin_18 0 rfl rfl ?_
    refine js_ifnull C kd_Mo_pin_20 rfl ?_
    refine zk_aload_n C kd_Mo_pin_23 rfl 1 rfl rfl ?_
    refine zk_iload_n C kd_Mo_pin_24 rfl 4 rfl rfl ?_
    refine zk_aload C kd_Mo_pin_25 0 rfl rfl ?_
    refine zk_callV (b := S.1 68) (As := [.int (nI x), .ref a]) (rest := []) C (js_nam h a v s x hX (js_gd (hrs s hmem).2) (hrs s hmem).1) ku_Mo_isNamed kx2457 kv_Mo_isNamed rfl ⟨by decide, by decide⟩ ⟨by show 2 * (k + 1) + 0 ≤ 8; omega, by show 7 * (k + 1) + 0 ≤ 28; omega⟩ 68 (js_l (zs_at (q := .inr (12, _)) rfl)) rfl rfl (Nat.le_of_ble_eq_true rfl) kd_Mo_pin_27 rfl (c1 := 2 * (k + 1)) (s1 := 7 * (k + 1)) rfl rfl (fun v0 w hp => ?_)
    obtain ⟨rfl, ew⟩ := hp
    rw [ew]
    refine zk_stk (r' := [.int (if zp_is h x s = true then 1 else 0)]) rfl ?_
    by_cases hz : zp_is h x s = true
    · rw [if_pos hz] at hq2 ⊢
      refine zk_if_eq (tgt := 36) C kd_Mo_pin_30 (by decide) rfl (fun q => absurd q (by decide)) (fun q => ?_)
      refine zk_iload C kd_Mo_pin_33 5 rfl rfl ?_
      subst hq2
      refine js_drop ?_
      refine zk_widen (c1 := 8) (s1 := 28) (by omega) (by omega) ?_
      exact zk_iret C hR kd_Mo_pin_35 rfl rfl ⟨rfl, rfl⟩
    · rw [if_neg hz] at hq2 ⊢
      refine zk_if_eq (tgt := 36) C kd_Mo_pin_30 (by decide) rfl (fun q => ?_) (fun q => absurd rfl q)
      refine zk_iinc (v := nI (k + 1)) (lv' := [(4, .int (nI (k + 1))), (5, .ref a), (0, .ref (S.1 68)), (1, .int x1), (2, .int x2), (3, .int (nI x))]) C kd_Mo_pin_36 5 rfl (nI_succ k).symm (by decide) rfl rfl ?_
      refine zk_iload_n C kd_Mo_pin_39 rfl 3 rfl rfl ?_
      refine zk_iload_n C kd_Mo_pin_40 rfl 4 rfl rfl ?_
      refine zk_iload C kd_Mo_pin_41 0 rfl rfl ?_
      refine js_drop ?_
      rw [← nI_succ] at hq2
      refine zk_callS (As := [.int x1, .int x2, .int (nI (k + 1))]) (rest := []) C (js_std (zs_W S h) x1 x2 (k + 1) (by omega)) ku_Mo_standardName kx2366 ks_Mo_standardName rfl ⟨by decide, by decide⟩ ⟨by show 2 * (k + 1) + 2 ≤ 8; omega, by show 7 * (k + 1) + 7 ≤ 28; omega⟩ rfl (by decide) kd_Mo_pin_43 rfl (c1 := 2 * (k + 1 + 1)) (s1 := 7 * (k + 1 + 1)) rfl rfl (fun v0 w hp => ?_)
      obtain ⟨i1, i2⟩ := ih (k + 1) (by omega) hq2
      cases ho : (zp_row x1 x2)[k + 1]? with
      | none =>
          rw [ho] at hp
          obtain ⟨rfl, rfl⟩ := hp
          refine zk_stk (r' := [.null]) rfl ?_
          refine js_astoreN (lv' := [(5, .null), (4, .int (nI (k + 1))), (0, .ref (S.1 68)), (1, .int x1), (2, .int x2), (3, .int (nI x))]) C kd_Mo_pin_46 (by decide) rfl rfl ?_
          refine zk_goto (tgt := 18) C kd_Mo_pin_48 (by decide) ?_
          refine zk_lvs (lv' := [(5, .null), (0, .ref (S.1 68)), (1, .int x1), (2, .int x2), (3, .int (nI x)), (4, .int (nI (k + 1)))]) [0, 2, 3, 4, 5, 1] rfl ?_
          exact i1 ho
      | some s2 =>
          rw [ho] at hp
          obtain ⟨a2, v2, rfl, rfl⟩ := hp
          refine zk_stk (r' := [.ref a2]) rfl ?_
          refine zk_astore (lv' := [(5, .ref a2), (4, .int (nI (k + 1))), (0, .ref (S.1 68)), (1, .int x1), (2, .int x2), (3, .int (nI x))]) C kd_Mo_pin_46 (by decide) rfl rfl ?_
          refine zk_goto (tgt := 18) C kd_Mo_pin_48 (by decide) ?_
          refine zk_lvs (lv' := [(5, .ref a2), (0, .ref (S.1 68)), (1, .int x1), (2, .int x2), (3, .int (nI x)), (4, .int (nI (k + 1)))]) [0, 2, 3, 4, 5, 1] rfl ?_
          exact i2 s2 a2 v2 ho
set_option maxHeartbeats 4000000 in
set_option maxRecDepth 100000 in
theorem zc_Mo_pin {S : zs_T} {l : Launch} {D : va_G} {sz0 : Nat} {P : ze_T} (h : zs_H) (x1 x2 x3 : Int32) {rv : Int32} (e : f_Mo_pin h x1 x2 x3 = some rv) : zk_Sp (zs_G S l D sz0) (ze_E P) km_Mo_pin { frames := 6, cells := 8, slots := 28, locals := 177 } [.ref (S.1 68), .int x1, .int x2, .int x3] (zs_W S h) (zd_PI S rv h) := by
  refine zk_met ku_Mo_pin (Nat.le_of_ble_eq_true rfl) (ze_Em P) ?_
  intro X C hR
  unfold f_Mo_pin at e
  refine zk_lvs (lv' := [(0, .ref (S.1 68)), (1, .int x1), (2, .int x2), (3, .int x3)]) [0, 1, 2, 3] rfl ?_
  refine zk_iconst (v := 0) C kd_Mo_pin_0 (by decide) rfl ?_
  refine zk_istore (lv' := [(4, .int 0), (0, .ref (S.1 68)), (1, .int x1), (2, .int x2), (3, .int x3)]) C kd_Mo_pin_1 (by decide) rfl rfl ?_
  refine zk_iload_n C kd_Mo_pin_3 rfl 2 rfl rfl ?_
  refine zk_ldcw (v := 100000) C kx1988 kd_Mo_pin_4 rfl ?_
  refine zk_icmp_lt (tgt := 53) C kd_Mo_pin_7 (by decide) rfl (fun b => ?_) (fun b => ?_)
  · rw [if_neg (Int32.not_le.mpr b)] at e
    obtain ⟨v, c1, e⟩ := zd_b e
    refine zk_aload_n C kd_Mo_pin_53 rfl 1 rfl rfl ?_
    refine zk_iload_n C kd_Mo_pin_54 rfl 2 rfl rfl ?_
    refine zk_iload_n C kd_Mo_pin_55 rfl 4 rfl rfl ?_
    refine zs_callV (k := 68) (rn := { frames := 0, cells := 0, slots := 0, locals := 0 }) (As := [.int x1, .int x3]) (rest := []) C (zc_Mo_variable h x1 x3 c1) ku_Mo_variable kx2327 kv_Mo_variable rfl ⟨by decide, by decide⟩ ⟨by decide, by decide⟩ rfl rfl rfl (Nat.le_of_ble_eq_true rfl) kd_Mo_pin_56 rfl (c1 := 0) (s1 := 0) rfl rfl (fun v0 w hp => ?_)
    obtain ⟨rfl, rfl⟩ := hp
    refine zk_stk (r' := [.int v]) rfl ?_
    refine zk_istore (lv' := [(5, .int v), (4, .int 0), (0, .ref (S.1 68)), (1, .int x1), (2, .int x2), (3, .int x3)]) C kd_Mo_pin_59 (by decide) rfl rfl ?_
    refine zk_iload C kd_Mo_pin_61 0 rfl rfl ?_
    refine zk_if_lt (tgt := 90) C kd_Mo_pin_63 (by decide) rfl (fun b2 => ?_) (fun b2 => ?_)
    · rw [if_pos b2] at e
      refine zk_iconst (v := (-1)) C kd_Mo_pin_90 (by decide) rfl ?_
      refine zk_widen (c1 := 8) (s1 := 28) (by decide) (by decide) ?_
      exact zk_iret C hR kd_Mo_pin_91 rfl rfl (zd_rIO e)
    · rw [if_neg b2] at e
      obtain ⟨q1, e⟩ := zd_g e
      refine zk_aload_n C kd_Mo_pin_66 rfl 2 rfl rfl ?_
      refine zs_get (v := .ref (S.1 95)) C 68 46 rfl rfl rfl rfl ki_Mo (by decide) kx1729 kd_Mo_pin_67 rfl ?_
      refine zk_iload C kd_Mo_pin_70 0 rfl rfl ?_
      refine zs_iald C 95 rfl (zd_vp q1) kd_Mo_pin_72 rfl ?_
      refine zk_iload_n C kd_Mo_pin_73 rfl 4 rfl rfl ?_
      refine zk_if_eq (tgt := 81) C kd_Mo_pin_74 (by decide) rfl (fun b3 => ?_) (fun b3 => ?_)
      · rw [if_pos b3] at e
        refine zk_iconst (v := 2) C kd_Mo_pin_81 (by decide) rfl ?_
        refine zk_icmp_ne (tgt := 90) C kd_Mo_pin_82 (by decide) rfl (fun b4 => ?_) (fun b4 => ?_)
        · rw [if_neg b4] at e
          refine zk_iconst (v := (-1)) C kd_Mo_pin_90 (by decide) rfl ?_
          refine zk_widen (c1 := 8) (s1 := 28) (by decide) (by decide) ?_
          exact zk_iret C hR kd_Mo_pin_91 rfl rfl (zd_rIO e)
        · rw [if_pos b4] at e
          refine zk_iload C kd_Mo_pin_85 0 rfl rfl ?_
          refine zk_goto (tgt := 91) C kd_Mo_pin_87 (by decide) ?_
          refine zk_widen (c1 := 8) (s1 := 28) (by decide) (by decide) ?_
          exact zk_iret C hR kd_Mo_pin_91 rfl rfl (zd_rIO e)
      · rw [if_neg b3] at e
        refine zk_iconst (v := 1) C kd_Mo_pin_77 (by decide) rfl ?_
        refine zk_goto (tgt := 82) C kd_Mo_pin_78 (by decide) ?_
        refine zk_icmp_ne (tgt := 90) C kd_Mo_pin_82 (by decide) rfl (fun b4 => ?_) (fun b4 => ?_)
        · rw [if_neg b4] at e
          refine zk_iconst (v := (-1)) C kd_Mo_pin_90 (by decide) rfl ?_
          refine zk_widen (c1 := 8) (s1 := 28) (by decide) (by decide) ?_
          exact zk_iret C hR kd_Mo_pin_91 rfl rfl (zd_rIO e)
        · rw [if_pos b4] at e
          refine zk_iload C kd_Mo_pin_85 0 rfl rfl ?_
          refine zk_goto (tgt := 91) C kd_Mo_pin_87 (by decide) ?_
          refine zk_widen (c1 := 8) (s1 := 28) (by decide) (by decide) ?_
          exact zk_iret C hR kd_Mo_pin_91 rfl rfl (zd_rIO e)
  · rw [if_pos (Int32.not_lt.mp b)] at e
    obtain ⟨q1, e2⟩ := zd_g e
    clear e
    have hX : x3.toNatClampNeg < 8192 := q1.2
    have hn3 : x3 = nI x3.toNatClampNeg := (zd_nI q1).symm
    generalize x3.toNatClampNeg = x at e2 hX hn3
    subst hn3
    refine zk_iload_n C kd_Mo_pin_10 rfl 2 rfl rfl ?_
    refine zk_iload_n C kd_Mo_pin_11 rfl 3 rfl rfl ?_
    refine zk_iconst (v := 0) C kd_Mo_pin_12 (by decide) rfl ?_
    refine zk_callS (As := [.int x1, .int x2, .int (nI 0)]) (rest := []) C (js_std (zs_W S h) x1 x2 0 (by decide)) ku_Mo_standardName kx2366 ks_Mo_standardName rfl ⟨by decide, by decide⟩ ⟨by decide, by decide⟩ rfl (by decide) kd_Mo_pin_13 rfl (c1 := 2 * (0 + 1)) (s1 := 7 * (0 + 1)) rfl rfl (fun v0 w hp => ?_)
    have hq : zp_first h x ((zp_row x1 x2).drop 0) (nI 0) = rv := Option.some.inj e2
    obtain ⟨i1, i2⟩ := js_pinL x1 x2 x hX rv C hR (zp_row x1 x2).length 0 (Nat.zero_add _) hq
    cases ho : (zp_row x1 x2)[0]? with
    | none =>
        rw [ho] at hp
        obtain ⟨rfl, rfl⟩ := hp
        refine zk_stk (r' := [.null]) rfl ?_
        refine js_astoreN (lv' := [(5, .null), (4, .int 0), (0, .ref (S.1 68)), (1, .int x1), (2, .int x2), (3, .int (nI x))]) C kd_Mo_pin_16 (by decide) rfl rfl ?_
        refine zk_lvs (lv' := [(5, .null), (0, .ref (S.1 68)), (1, .int x1), (2, .int x2), (3, .int (nI x)), (4, .int (nI 0))]) [0, 2, 3, 4, 5, 1] rfl ?_
        exact i1 ho
    | some s2 =>
        rw [ho] at hp
        obtain ⟨a2, v2, rfl, rfl⟩ := hp
        refine zk_stk (r' := [.ref a2]) rfl ?_
        refine zk_astore (lv' := [(5, .ref a2), (4, .int 0), (0, .ref (S.1 68)), (1, .int x1), (2, .int x2), (3, .int (nI x))]) C kd_Mo_pin_16 (by decide) rfl rfl ?_
        refine zk_lvs (lv' := [(5, .ref a2), (0, .ref (S.1 68)), (1, .int x1), (2, .int x2), (3, .int (nI x)), (4, .int (nI 0))]) [0, 2, 3, 4, 5, 1] rfl ?_
        exact i2 s2 a2 v2 ho
