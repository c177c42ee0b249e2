/-! isPathWord and watchPin. -/
theorem kx1776 : Jvm.Cond.fieldLink "PlantKeeperModel" (907 : Nat) "PlantKeeperModel" "pathAt" "I" ∈ zk_BW := zk_inT 1776 (by decide +kernel) rfl
theorem kx1777 : Jvm.Cond.fieldLink "PlantKeeperModel" (904 : Nat) "PlantKeeperModel" "pathEnd" "I" ∈ zk_BW := zk_inT 1777 (by decide +kernel) rfl
theorem kx1778 : Jvm.Cond.fieldLink "PlantKeeperModel" (910 : Nat) "PlantKeeperModel" "nameFrom" "I" ∈ zk_BW := zk_inT 1778 (by decide +kernel) rfl
theorem kx2461 : Jvm.Cond.methodLink "PlantKeeperModel" (619 : Nat) ({ cls := "PlantKeeperModel", name := "pinType", desc := "(IZI)I" } : Jvm.MethodName) ∈ zk_BW := zk_inT 2461 (by decide +kernel) rfl
theorem kx2465 : Jvm.Cond.methodLink "PlantKeeperModel" (622 : Nat) ({ cls := "PlantKeeperModel", name := "pinCell", desc := "(IZI)I" } : Jvm.MethodName) ∈ zk_BW := zk_inT 2465 (by decide +kernel) rfl
theorem kx2776 : Jvm.Cond.methodLink "PlantKeeperModel" (916 : Nat) ({ cls := "PlantKeeperModel", name := "readPathName", desc := "()Z" } : Jvm.MethodName) ∈ zk_BW := zk_inT 2776 (by decide +kernel) rfl
theorem kx2780 : Jvm.Cond.methodLink "PlantKeeperModel" (913 : Nat) ({ cls := "PlantKeeperModel", name := "tapeGreat", desc := "(I)I" } : Jvm.MethodName) ∈ zk_BW := zk_inT 2780 (by decide +kernel) rfl
theorem kx2792 : Jvm.Cond.methodLink "PlantKeeperModel" (922 : Nat) ({ cls := "PlantKeeperModel", name := "passes", desc := "(I)Z" } : Jvm.MethodName) ∈ zk_BW := zk_inT 2792 (by decide +kernel) rfl
theorem kx2798 : Jvm.Cond.instanceMethod ({ cls := "PlantKeeperModel", name := "watchPin", desc := "(II)I" } : Jvm.MethodName) ∈ zk_BW := zk_inT 2798 (by decide +kernel) rfl
theorem kx2799 : Jvm.Cond.code ({ cls := "PlantKeeperModel", name := "watchPin", desc := "(II)I" } : Jvm.MethodName) prog_14_method_186_code (6 : Nat) (Option.some FieldType.int) ∈ zk_BW := zk_inT 2799 (by decide +kernel) rfl
theorem kx2800 : Jvm.Cond.methodLink "PlantKeeperModel" (948 : Nat) ({ cls := "PlantKeeperModel", name := "isPathWord", desc := "(Ljava/lang/String;)Z" } : Jvm.MethodName) ∈ zk_BW := zk_inT 2800 (by decide +kernel) rfl
theorem kx2802 : Jvm.Cond.instanceMethod ({ cls := "PlantKeeperModel", name := "isPathWord", desc := "(Ljava/lang/String;)Z" } : Jvm.MethodName) ∈ zk_BW := zk_inT 2802 (by decide +kernel) rfl
theorem kx2803 : Jvm.Cond.code ({ cls := "PlantKeeperModel", name := "isPathWord", desc := "(Ljava/lang/String;)Z" } : Jvm.MethodName) prog_14_method_180_code (4 : Nat) (Option.some FieldType.boolean) ∈ zk_BW := zk_inT 2803 (by decide +kernel) rfl
theorem kx2804 : Jvm.Cond.methodLink "PlantKeeperModel" (931 : Nat) ({ cls := "PlantKeeperModel", name := "see", desc := "(II)I" } : Jvm.MethodName) ∈ zk_BW := zk_inT 2804 (by decide +kernel) rfl
abbrev kc_Mo_isPathWord : ByteArray := prog_14_method_180_code
def km_Mo_isPathWord : zk_MT := (⟨"PlantKeeperModel", "isPathWord", "(Ljava/lang/String;)Z"⟩, kc_Mo_isPathWord, 4, some .boolean, 1)
theorem ku_Mo_isPathWord : zk_My km_Mo_isPathWord := ⟨kx2803, kx17, by decide, by decide, by decide, by decide +kernel⟩
theorem kv_Mo_isPathWord : zk_Mv km_Mo_isPathWord := ⟨kx2802, zk_inS 303 (q := (⟨"PlantKeeperModel", "isPathWord", "(Ljava/lang/String;)Z"⟩, 96)) (by decide +kernel)⟩
abbrev kc_Mo_watchPin : ByteArray := prog_14_method_186_code
def km_Mo_watchPin : zk_MT := (⟨"PlantKeeperModel", "watchPin", "(II)I"⟩, kc_Mo_watchPin, 6, some .int, 2)
theorem ku_Mo_watchPin : zk_My km_Mo_watchPin := ⟨kx2799, kx17, by decide, by decide, by decide, by decide +kernel⟩
theorem kv_Mo_watchPin : zk_Mv km_Mo_watchPin := ⟨kx2798, zk_inS 302 (q := (⟨"PlantKeeperModel", "watchPin", "(II)I"⟩, 96)) (by decide +kernel)⟩
theorem kd_Mo_isPathWord_0 : decode kc_Mo_isPathWord 0 = .ok (.aload_n 1, 1) := by decide +kernel
theorem kd_Mo_isPathWord_1 : decode kc_Mo_isPathWord 1 = .ok (.invokevirtual 250, 3) := by decide +kernel
theorem kd_Mo_isPathWord_4 : decode kc_Mo_isPathWord 4 = .ok (.aload_n 0, 1) := by decide +kernel
theorem kd_Mo_isPathWord_5 : decode kc_Mo_isPathWord 5 = .ok (.getfield 907, 3) := by decide +kernel
theorem kd_Mo_isPathWord_8 : decode kc_Mo_isPathWord 8 = .ok (.aload_n 0, 1) := by decide +kernel
theorem kd_Mo_isPathWord_9 : decode kc_Mo_isPathWord 9 = .ok (.getfield 910, 3) := by decide +kernel
theorem kd_Mo_isPathWord_12 : decode kc_Mo_isPathWord 12 = .ok (.isub, 1) := by decide +kernel
theorem kd_Mo_isPathWord_13 : decode kc_Mo_isPathWord 13 = .ok (.if_icmp .ne 7, 3) := by decide +kernel
theorem kd_Mo_isPathWord_16 : decode kc_Mo_isPathWord 16 = .ok (.iconst 1, 1) := by decide +kernel
theorem kd_Mo_isPathWord_17 : decode kc_Mo_isPathWord 17 = .ok (.goto 4, 3) := by decide +kernel
theorem kd_Mo_isPathWord_20 : decode kc_Mo_isPathWord 20 = .ok (.iconst 0, 1) := by decide +kernel
theorem kd_Mo_isPathWord_21 : decode kc_Mo_isPathWord 21 = .ok (.istore_n 2, 1) := by decide +kernel
theorem kd_Mo_isPathWord_22 : decode kc_Mo_isPathWord 22 = .ok (.iconst 0, 1) := by decide +kernel
theorem kd_Mo_isPathWord_23 : decode kc_Mo_isPathWord 23 = .ok (.istore_n 3, 1) := by decide +kernel
theorem kd_Mo_isPathWord_24 : decode kc_Mo_isPathWord 24 = .ok (.iload_n 3, 1) := by decide +kernel
theorem kd_Mo_isPathWord_25 : decode kc_Mo_isPathWord 25 = .ok (.aload_n 1, 1) := by decide +kernel
theorem kd_Mo_isPathWord_26 : decode kc_Mo_isPathWord 26 = .ok (.invokevirtual 250, 3) := by decide +kernel
theorem kd_Mo_isPathWord_29 : decode kc_Mo_isPathWord 29 = .ok (.if_icmp .ge 37, 3) := by decide +kernel
theorem kd_Mo_isPathWord_32 : decode kc_Mo_isPathWord 32 = .ok (.iload_n 2, 1) := by decide +kernel
theorem kd_Mo_isPathWord_33 : decode kc_Mo_isPathWord 33 = .ok (.ifCond .eq 33, 3) := by decide +kernel
theorem kd_Mo_isPathWord_36 : decode kc_Mo_isPathWord 36 = .ok (.aload_n 1, 1) := by decide +kernel
theorem kd_Mo_isPathWord_37 : decode kc_Mo_isPathWord 37 = .ok (.iload_n 3, 1) := by decide +kernel
theorem kd_Mo_isPathWord_38 : decode kc_Mo_isPathWord 38 = .ok (.invokevirtual 255, 3) := by decide +kernel
theorem kd_Mo_isPathWord_41 : decode kc_Mo_isPathWord 41 = .ok (.aload_n 0, 1) := by decide +kernel
theorem kd_Mo_isPathWord_42 : decode kc_Mo_isPathWord 42 = .ok (.aload_n 0, 1) := by decide +kernel
theorem kd_Mo_isPathWord_43 : decode kc_Mo_isPathWord 43 = .ok (.getfield 910, 3) := by decide +kernel
theorem kd_Mo_isPathWord_46 : decode kc_Mo_isPathWord 46 = .ok (.iload_n 3, 1) := by decide +kernel
theorem kd_Mo_isPathWord_47 : decode kc_Mo_isPathWord 47 = .ok (.iadd, 1) := by decide +kernel
theorem kd_Mo_isPathWord_48 : decode kc_Mo_isPathWord 48 = .ok (.invokevirtual 913, 3) := by decide +kernel
theorem kd_Mo_isPathWord_51 : decode kc_Mo_isPathWord 51 = .ok (.if_icmp .ne 7, 3) := by decide +kernel
theorem kd_Mo_isPathWord_54 : decode kc_Mo_isPathWord 54 = .ok (.iconst 1, 1) := by decide +kernel
theorem kd_Mo_isPathWord_55 : decode kc_Mo_isPathWord 55 = .ok (.goto 4, 3) := by decide +kernel
theorem kd_Mo_isPathWord_58 : decode kc_Mo_isPathWord 58 = .ok (.iconst 0, 1) := by decide +kernel
theorem kd_Mo_isPathWord_59 : decode kc_Mo_isPathWord 59 = .ok (.istore_n 2, 1) := by decide +kernel
theorem kd_Mo_isPathWord_60 : decode kc_Mo_isPathWord 60 = .ok (.iinc 3 1, 3) := by decide +kernel
theorem kd_Mo_isPathWord_63 : decode kc_Mo_isPathWord 63 = .ok (.goto (-39), 3) := by decide +kernel
theorem kd_Mo_isPathWord_66 : decode kc_Mo_isPathWord 66 = .ok (.iload_n 2, 1) := by decide +kernel
theorem kd_Mo_isPathWord_67 : decode kc_Mo_isPathWord 67 = .ok (.ireturn, 1) := by decide +kernel
theorem kd_Mo_watchPin_0 : decode kc_Mo_watchPin 0 = .ok (.aload_n 0, 1) := by decide +kernel
theorem kd_Mo_watchPin_1 : decode kc_Mo_watchPin 1 = .ok (.bipush 46, 2) := by decide +kernel
theorem kd_Mo_watchPin_3 : decode kc_Mo_watchPin 3 = .ok (.invokevirtual 922, 3) := by decide +kernel
theorem kd_Mo_watchPin_6 : decode kc_Mo_watchPin 6 = .ok (.ifCond .eq 21, 3) := by decide +kernel
theorem kd_Mo_watchPin_9 : decode kc_Mo_watchPin 9 = .ok (.aload_n 0, 1) := by decide +kernel
theorem kd_Mo_watchPin_10 : decode kc_Mo_watchPin 10 = .ok (.invokevirtual 916, 3) := by decide +kernel
theorem kd_Mo_watchPin_13 : decode kc_Mo_watchPin 13 = .ok (.ifCond .eq 14, 3) := by decide +kernel
theorem kd_Mo_watchPin_16 : decode kc_Mo_watchPin 16 = .ok (.aload_n 0, 1) := by decide +kernel
theorem kd_Mo_watchPin_17 : decode kc_Mo_watchPin 17 = .ok (.getfield 907, 3) := by decide +kernel
theorem kd_Mo_watchPin_20 : decode kc_Mo_watchPin 20 = .ok (.aload_n 0, 1) := by decide +kernel
theorem kd_Mo_watchPin_21 : decode kc_Mo_watchPin 21 = .ok (.getfield 904, 3) := by decide +kernel
theorem kd_Mo_watchPin_24 : decode kc_Mo_watchPin 24 = .ok (.if_icmp .ge 5, 3) := by decide +kernel
theorem kd_Mo_watchPin_27 : decode kc_Mo_watchPin 27 = .ok (.iconst (-1), 1) := by decide +kernel
theorem kd_Mo_watchPin_28 : decode kc_Mo_watchPin 28 = .ok (.ireturn, 1) := by decide +kernel
theorem kd_Mo_watchPin_29 : decode kc_Mo_watchPin 29 = .ok (.iconst 0, 1) := by decide +kernel
theorem kd_Mo_watchPin_30 : decode kc_Mo_watchPin 30 = .ok (.istore_n 3, 1) := by decide +kernel
theorem kd_Mo_watchPin_31 : decode kc_Mo_watchPin 31 = .ok (.iload_n 3, 1) := by decide +kernel
theorem kd_Mo_watchPin_32 : decode kc_Mo_watchPin 32 = .ok (.iconst 2, 1) := by decide +kernel
theorem kd_Mo_watchPin_33 : decode kc_Mo_watchPin 33 = .ok (.if_icmp .ge 104, 3) := by decide +kernel
theorem kd_Mo_watchPin_36 : decode kc_Mo_watchPin 36 = .ok (.iconst 0, 1) := by decide +kernel
theorem kd_Mo_watchPin_37 : decode kc_Mo_watchPin 37 = .ok (.istore 4, 2) := by decide +kernel
theorem kd_Mo_watchPin_39 : decode kc_Mo_watchPin 39 = .ok (.iload_n 1, 1) := by decide +kernel
theorem kd_Mo_watchPin_40 : decode kc_Mo_watchPin 40 = .ok (.iload_n 3, 1) := by decide +kernel
theorem kd_Mo_watchPin_41 : decode kc_Mo_watchPin 41 = .ok (.ifCond .ne 7, 3) := by decide +kernel
theorem kd_Mo_watchPin_44 : decode kc_Mo_watchPin 44 = .ok (.iconst 1, 1) := by decide +kernel
theorem kd_Mo_watchPin_45 : decode kc_Mo_watchPin 45 = .ok (.goto 4, 3) := by decide +kernel
theorem kd_Mo_watchPin_48 : decode kc_Mo_watchPin 48 = .ok (.iconst 0, 1) := by decide +kernel
theorem kd_Mo_watchPin_49 : decode kc_Mo_watchPin 49 = .ok (.iconst 0, 1) := by decide +kernel
theorem kd_Mo_watchPin_50 : decode kc_Mo_watchPin 50 = .ok (.invokestatic 499, 3) := by decide +kernel
theorem kd_Mo_watchPin_53 : decode kc_Mo_watchPin 53 = .ok (.astore 5, 2) := by decide +kernel
theorem kd_Mo_watchPin_55 : decode kc_Mo_watchPin 55 = .ok (.aload 5, 2) := by decide +kernel
theorem kd_Mo_watchPin_57 : decode kc_Mo_watchPin 57 = .ok (.ifnull 74, 3) := by decide +kernel
theorem kd_Mo_watchPin_60 : decode kc_Mo_watchPin 60 = .ok (.aload_n 0, 1) := by decide +kernel
theorem kd_Mo_watchPin_61 : decode kc_Mo_watchPin 61 = .ok (.aload 5, 2) := by decide +kernel
theorem kd_Mo_watchPin_63 : decode kc_Mo_watchPin 63 = .ok (.invokevirtual 948, 3) := by decide +kernel
theorem kd_Mo_watchPin_66 : decode kc_Mo_watchPin 66 = .ok (.ifCond .eq 42, 3) := by decide +kernel
theorem kd_Mo_watchPin_69 : decode kc_Mo_watchPin 69 = .ok (.aload_n 0, 1) := by decide +kernel
theorem kd_Mo_watchPin_70 : decode kc_Mo_watchPin 70 = .ok (.aload_n 0, 1) := by decide +kernel
theorem kd_Mo_watchPin_71 : decode kc_Mo_watchPin 71 = .ok (.iload_n 1, 1) := by decide +kernel
theorem kd_Mo_watchPin_72 : decode kc_Mo_watchPin 72 = .ok (.iload_n 3, 1) := by decide +kernel
theorem kd_Mo_watchPin_73 : decode kc_Mo_watchPin 73 = .ok (.ifCond .ne 7, 3) := by decide +kernel
theorem kd_Mo_watchPin_76 : decode kc_Mo_watchPin 76 = .ok (.iconst 1, 1) := by decide +kernel
theorem kd_Mo_watchPin_77 : decode kc_Mo_watchPin 77 = .ok (.goto 4, 3) := by decide +kernel
theorem kd_Mo_watchPin_80 : decode kc_Mo_watchPin 80 = .ok (.iconst 0, 1) := by decide +kernel
theorem kd_Mo_watchPin_81 : decode kc_Mo_watchPin 81 = .ok (.iload 4, 2) := by decide +kernel
theorem kd_Mo_watchPin_83 : decode kc_Mo_watchPin 83 = .ok (.invokevirtual 619, 3) := by decide +kernel
theorem kd_Mo_watchPin_86 : decode kc_Mo_watchPin 86 = .ok (.iload_n 2, 1) := by decide +kernel
theorem kd_Mo_watchPin_87 : decode kc_Mo_watchPin 87 = .ok (.aload_n 0, 1) := by decide +kernel
theorem kd_Mo_watchPin_88 : decode kc_Mo_watchPin 88 = .ok (.iload_n 1, 1) := by decide +kernel
theorem kd_Mo_watchPin_89 : decode kc_Mo_watchPin 89 = .ok (.iload_n 3, 1) := by decide +kernel
theorem kd_Mo_watchPin_90 : decode kc_Mo_watchPin 90 = .ok (.ifCond .ne 7, 3) := by decide +kernel
theorem kd_Mo_watchPin_93 : decode kc_Mo_watchPin 93 = .ok (.iconst 1, 1) := by decide +kernel
theorem kd_Mo_watchPin_94 : decode kc_Mo_watchPin 94 = .ok (.goto 4, 3) := by decide +kernel
theorem kd_Mo_watchPin_97 : decode kc_Mo_watchPin 97 = .ok (.iconst 0, 1) := by decide +kernel
theorem kd_Mo_watchPin_98 : decode kc_Mo_watchPin 98 = .ok (.iload 4, 2) := by decide +kernel
theorem kd_Mo_watchPin_100 : decode kc_Mo_watchPin 100 = .ok (.invokevirtual 622, 3) := by decide +kernel
theorem kd_Mo_watchPin_103 : decode kc_Mo_watchPin 103 = .ok (.iadd, 1) := by decide +kernel
theorem kd_Mo_watchPin_104 : decode kc_Mo_watchPin 104 = .ok (.invokevirtual 931, 3) := by decide +kernel
theorem kd_Mo_watchPin_107 : decode kc_Mo_watchPin 107 = .ok (.ireturn, 1) := by decide +kernel
theorem kd_Mo_watchPin_108 : decode kc_Mo_watchPin 108 = .ok (.iinc 4 1, 3) := by decide +kernel
theorem kd_Mo_watchPin_111 : decode kc_Mo_watchPin 111 = .ok (.iload_n 1, 1) := by decide +kernel
theorem kd_Mo_watchPin_112 : decode kc_Mo_watchPin 112 = .ok (.iload_n 3, 1) := by decide +kernel
theorem kd_Mo_watchPin_113 : decode kc_Mo_watchPin 113 = .ok (.ifCond .ne 7, 3) := by decide +kernel
theorem kd_Mo_watchPin_116 : decode kc_Mo_watchPin 116 = .ok (.iconst 1, 1) := by decide +kernel
theorem kd_Mo_watchPin_117 : decode kc_Mo_watchPin 117 = .ok (.goto 4, 3) := by decide +kernel
theorem kd_Mo_watchPin_120 : decode kc_Mo_watchPin 120 = .ok (.iconst 0, 1) := by decide +kernel
theorem kd_Mo_watchPin_121 : decode kc_Mo_watchPin 121 = .ok (.iload 4, 2) := by decide +kernel
theorem kd_Mo_watchPin_123 : decode kc_Mo_watchPin 123 = .ok (.invokestatic 499, 3) := by decide +kernel
theorem kd_Mo_watchPin_126 : decode kc_Mo_watchPin 126 = .ok (.astore 5, 2) := by decide +kernel
theorem kd_Mo_watchPin_128 : decode kc_Mo_watchPin 128 = .ok (.goto (-73), 3) := by decide +kernel
theorem kd_Mo_watchPin_131 : decode kc_Mo_watchPin 131 = .ok (.iinc 3 1, 3) := by decide +kernel
theorem kd_Mo_watchPin_134 : decode kc_Mo_watchPin 134 = .ok (.goto (-103), 3) := by decide +kernel
theorem kd_Mo_watchPin_137 : decode kc_Mo_watchPin 137 = .ok (.iconst (-1), 1) := by decide +kernel
theorem kd_Mo_watchPin_138 : decode kc_Mo_watchPin 138 = .ok (.ireturn, 1) := by decide +kernel
set_option maxHeartbeats 4000000 in
set_option maxRecDepth 100000 in
theorem jb_tg22 {X : zkj_T} {S : zs_T} {P : ze_T} {l : Launch} {D : va_G} {sz0 : Nat} {ex : va_W} {rv : Int32} {h : zs_H} (C : zk_C X km_Mo_tapeGreat (zs_G S l D sz0) { frames := 0, cells := 0, slots := 0, locals := 0 } (ze_E P)) (hR : zkj_R X (fun v0 w => v0 = some (.int rv) ∧ w = zs_W S h ++ ex) (some .int)) (y0 : Int32) (e : f_Mo_tapeGreat_22 h y0 = some rv) : zk_Ab X (zs_W S h ++ ex) 0 0 22 [] [.int y0] := by
  unfold f_Mo_tapeGreat_22 at e
  refine zk_istore_n (lv' := [(2, _)]) C kd_Mo_tapeGreat_22 rfl (by decide) rfl rfl ?_
  refine zk_iload_n C kd_Mo_tapeGreat_23 rfl 0 rfl rfl ?_
  refine zk_bipush (v := 97) C kd_Mo_tapeGreat_24 (by decide) rfl ?_
  refine zk_icmp_lt (tgt := 42) C kd_Mo_tapeGreat_26 (by decide) rfl (fun b1 => ?_) (fun b1 => ?_)
  · replace e := zd_pos b1 e
    refine zk_iload_n C kd_Mo_tapeGreat_42 rfl 0 rfl rfl ?_
    exact zk_iret C hR kd_Mo_tapeGreat_43 rfl rfl ⟨by cases e; rfl, rfl⟩
  · replace e := zd_neg b1 e
    refine zk_iload_n C kd_Mo_tapeGreat_29 rfl 0 rfl rfl ?_
    refine zk_bipush (v := 122) C kd_Mo_tapeGreat_30 (by decide) rfl ?_
    refine zk_icmp_gt (tgt := 42) C kd_Mo_tapeGreat_32 (by decide) rfl (fun b2 => ?_) (fun b2 => ?_)
    · replace e := zd_pos b2 e
      refine zk_iload_n C kd_Mo_tapeGreat_42 rfl 0 rfl rfl ?_
      exact zk_iret C hR kd_Mo_tapeGreat_43 rfl rfl ⟨by cases e; rfl, rfl⟩
    · replace e := zd_neg b2 e
      refine zk_iload_n C kd_Mo_tapeGreat_35 rfl 0 rfl rfl ?_
      refine zk_bipush (v := 32) C kd_Mo_tapeGreat_36 (by decide) rfl ?_
      refine zk_isub C kd_Mo_tapeGreat_38 rfl ?_
      refine zk_goto (tgt := 43) C kd_Mo_tapeGreat_39 (by decide) ?_
      exact zk_iret C hR kd_Mo_tapeGreat_43 rfl rfl ⟨by cases e; rfl, rfl⟩
set_option maxHeartbeats 4000000 in
set_option maxRecDepth 100000 in
theorem jc_tg {l : Launch} {D : va_G} {sz0 : Nat} {ex : va_W} {S : zs_T} {P : ze_T} (h : zs_H) (x1 : Int32) {rv : Int32} (e : f_Mo_tapeGreat h x1 = some rv) : zk_Sp (zs_G S l D sz0) (ze_E P) km_Mo_tapeGreat { frames := 0, cells := 0, slots := 0, locals := 0 } [.ref (S.1 68), .int x1] (zs_W S h ++ ex) (fun v0 w => v0 = some (.int rv) ∧ w = zs_W S h ++ ex) := by
  refine zk_met ku_Mo_tapeGreat (Nat.le_of_ble_eq_true rfl) (ze_Em P) ?_
  intro X C hR
  refine zk_lvs (lv' := [(0, .ref (S.1 68)), (1, .int x1)]) [0, 1] rfl ?_
  unfold f_Mo_tapeGreat at e
  refine zk_iload_n C kd_Mo_tapeGreat_0 rfl 1 rfl rfl ?_
  refine zk_aload_n C kd_Mo_tapeGreat_1 rfl 0 rfl rfl ?_
  refine js_get (v := .int (h.1 68 94)) C 68 94 rfl rfl rfl rfl ki_Mo (by decide) kw1777 kd_Mo_tapeGreat_2 rfl ?_
  refine zk_icmp_ge (tgt := 21) C kd_Mo_tapeGreat_5 (by decide) rfl (fun b1 => ?_) (fun b1 => ?_)
  · replace e := zd_pos b1 e
    refine zk_iconst (v := 0) C kd_Mo_tapeGreat_21 (by decide) rfl ?_
    refine zk_lvs (lv' := []) [] rfl ?_
    exact jb_tg22 C hR 0 e
  · replace e := zd_neg b1 e
    refine zk_aload_n C kd_Mo_tapeGreat_8 rfl 0 rfl rfl ?_
    refine js_get (v := .ref (S.1 116)) C 68 79 rfl rfl rfl rfl ki_Mo (by decide) kw1762 kd_Mo_tapeGreat_9 rfl ?_
    refine zk_iload_n C kd_Mo_tapeGreat_12 rfl 1 rfl rfl ?_
    obtain ⟨q2, e⟩ := zd_g e
    refine js_bald C 116 rfl (zd_vp q2) kd_Mo_tapeGreat_13 rfl ?_
    refine zk_sipush (v := 255) C kd_Mo_tapeGreat_14 (by decide) rfl ?_
    refine zk_iand C kd_Mo_tapeGreat_17 rfl ?_
    refine zk_goto (tgt := 22) C kd_Mo_tapeGreat_18 (by decide) ?_
    refine zk_lvs (lv' := []) [] rfl ?_
    exact jb_tg22 C hR ((h.2.1 116 x1.toNatClampNeg) &&& 255) e
set_option maxHeartbeats 4000000 in
set_option maxRecDepth 100000 in
theorem js_pw0 {X : zkj_T} {S : zs_T} {l : Launch} {D : va_G} {sz0 : Nat} {P : ze_T} {h : zs_H} (a v : Nat) (s : List Int32) (hl : s.length < 32) (k : Nat) (hk : k ≤ s.length) (C : zk_C X km_Mo_isPathWord (zs_G S l D sz0) { frames := 4, cells := 0, slots := 0, locals := 85 } (ze_E P)) (hR : zkj_R X (fun v0 w => v0 = some (.int 0) ∧ w = zs_W S h ++ js_str S a v s) (some .boolean)) : zk_Ab X (zs_W S h ++ js_str S a v s) 0 0 24 [(3, .int (nI k)), (2, .int 0), (0, .ref (S.1 68)), (1, .ref a)] [] := by
  refine zk_iload_n C kd_Mo_isPathWord_24 rfl 0 rfl rfl ?_
  refine zk_aload_n C kd_Mo_isPathWord_25 rfl 3 rfl rfl ?_
  refine zk_callV (b := a) (As := []) (rest := [.int (nI k)]) C (js_length (zs_W S h) a v s) ku_St_length kx2060 kv_St_length rfl ⟨by decide, by decide⟩ ⟨by decide, by decide⟩ ((zs_W S h).length + 0) (zk_ap 0 rfl) rfl rfl (Nat.le_of_ble_eq_true rfl) kd_Mo_isPathWord_26 rfl (c1 := 0) (s1 := 0) rfl rfl (fun v0 w hp => ?_)
  obtain ⟨rfl, ew⟩ := hp
  rw [ew]
  refine zk_stk (r' := [.int (nI s.length), .int (nI k)]) rfl ?_
  refine zk_icmp_ge (tgt := 66) C kd_Mo_isPathWord_29 (by decide) rfl (fun q => ?_) (fun q => ?_)
  · refine zk_iload_n C kd_Mo_isPathWord_66 rfl 1 rfl rfl ?_
    exact zk_zret C hR (zd_nb (Or.inl rfl)) kd_Mo_isPathWord_67 rfl rfl ⟨rfl, rfl⟩
  · refine zk_iload_n C kd_Mo_isPathWord_32 rfl 1 rfl rfl ?_
    refine zk_if_eq (tgt := 66) C kd_Mo_isPathWord_33 (by decide) rfl (fun b => ?_) (fun b => absurd rfl b)
    refine zk_iload_n C kd_Mo_isPathWord_66 rfl 1 rfl rfl ?_
    exact zk_zret C hR (zd_nb (Or.inl rfl)) kd_Mo_isPathWord_67 rfl rfl ⟨rfl, rfl⟩
set_option maxHeartbeats 4000000 in
set_option maxRecDepth 100000 in
theorem js_pwL {X : zkj_T} {S : zs_T} {l : Launch} {D : va_G} {sz0 : Nat} {P : ze_T} {h : zs_H} (a v : Nat) (s : List Int32) (hs : ∀ j, s.getD j 0 &&& 255 = s.getD j 0) (hl : s.length < 32) (Q : Int32) (C : zk_C X km_Mo_isPathWord (zs_G S l D sz0) { frames := 4, cells := 0, slots := 0, locals := 85 } (ze_E P)) (hR : zkj_R X (fun v0 w => v0 = some (.int Q) ∧ w = zs_W S h ++ js_str S a v s) (some .boolean)) : ∀ (m k : Nat), k + m = s.length → zwt_w h (s.drop k) k = some Q → zk_Ab X (zs_W S h ++ js_str S a v s) 0 0 24 [(3, .int (nI k)), (2, .int 1), (0, .ref (S.1 68)), (1, .ref a)] [] := by
  intro m
  induction m with
  | zero =>
    intro k hk hq
    rw [List.drop_eq_nil_of_le (by omega)] at hq
    have hq2 : (1 : Int32) = Q := Option.some.inj hq
    subst hq2
    refine zk_iload_n C kd_Mo_isPathWord_24 rfl 0 rfl rfl ?_
    refine zk_aload_n C kd_Mo_isPathWord_25 rfl 3 rfl rfl ?_
    refine zk_callV (b := a) (As := []) (rest := [.int (nI k)]) C (js_length (zs_W S h) a v s) ku_St_length kx2060 kv_St_length rfl ⟨by decide, by decide⟩ ⟨by decide, by decide⟩ ((zs_W S h).length + 0) (zk_ap 0 rfl) rfl rfl (Nat.le_of_ble_eq_true rfl) kd_Mo_isPathWord_26 rfl (c1 := 0) (s1 := 0) rfl rfl (fun v0 w hp => ?_)
    obtain ⟨rfl, ew⟩ := hp
    rw [ew]
    refine zk_stk (r' := [.int (nI s.length), .int (nI k)]) rfl ?_
    refine zk_icmp_ge (tgt := 66) C kd_Mo_isPathWord_29 (by decide) rfl (fun q => ?_) (fun q => absurd (nI_le (by omega) (by omega)) q)
    refine zk_iload_n C kd_Mo_isPathWord_66 rfl 1 rfl rfl ?_
    exact zk_zret C hR (zd_nb (Or.inr rfl)) kd_Mo_isPathWord_67 rfl rfl ⟨rfl, rfl⟩
  | succ m ih =>
    intro k hk hq
    obtain ⟨c, hc⟩ : ∃ c, s[k]? = some c := ⟨s[k]'(by omega), List.getElem?_eq_getElem (by omega)⟩
    have hg : s.getD k 0 = c := by rw [List.getD_eq_getElem?_getD, hc]; rfl
    rw [js_dc hc] at hq
    have hq2 : ((f_Mo_tapeGreat h ((h.1 68 95) + nI k)).bind fun v => if c = v then zwt_w h (s.drop (k + 1)) (k + 1) else some 0) = some Q := hq
    obtain ⟨g, c1, hq2⟩ := zd_b hq2
    refine zk_iload_n C kd_Mo_isPathWord_24 rfl 0 rfl rfl ?_
    refine zk_aload_n C kd_Mo_isPathWord_25 rfl 3 rfl rfl ?_
    refine zk_callV (b := a) (As := []) (rest := [.int (nI k)]) C (js_length (zs_W S h) a v s) ku_St_length kx2060 kv_St_length rfl ⟨by decide, by decide⟩ ⟨by decide, by decide⟩ ((zs_W S h).length + 0) (zk_ap 0 rfl) rfl rfl (Nat.le_of_ble_eq_true rfl) kd_Mo_isPathWord_26 rfl (c1 := 0) (s1 := 0) rfl rfl (fun v0 w hp => ?_)
    obtain ⟨rfl, ew⟩ := hp
    rw [ew]
    refine zk_stk (r' := [.int (nI s.length), .int (nI k)]) rfl ?_
    refine zk_icmp_ge (tgt := 66) C kd_Mo_isPathWord_29 (by decide) rfl (fun q => absurd q (nI_ge (by omega) (by omega))) (fun q => ?_)
    refine zk_iload_n C kd_Mo_isPathWord_32 rfl 1 rfl rfl ?_
    refine zk_if_eq (tgt := 66) C kd_Mo_isPathWord_33 (by decide) rfl (fun b => absurd b (by decide)) (fun b => ?_)
    refine zk_aload_n C kd_Mo_isPathWord_36 rfl 3 rfl rfl ?_
    refine zk_iload_n C kd_Mo_isPathWord_37 rfl 0 rfl rfl ?_
    refine zk_callV (b := a) (As := [.int (nI k)]) (rest := []) C (js_charAt (zs_W S h) a v s k (by omega) (by omega)) ku_St_charAt kx2061 kv_St_charAt rfl ⟨by decide, by decide⟩ ⟨by decide, by decide⟩ ((zs_W S h).length + 0) (zk_ap 0 rfl) rfl rfl (Nat.le_of_ble_eq_true rfl) kd_Mo_isPathWord_38 rfl (c1 := 0) (s1 := 0) rfl rfl (fun v0 w hp => ?_)
    obtain ⟨rfl, ew⟩ := hp
    rw [ew, hs, hg]
    refine zk_stk (r' := [.int c]) rfl ?_
    refine zk_aload_n C kd_Mo_isPathWord_41 rfl 2 rfl rfl ?_
    refine zk_aload_n C kd_Mo_isPathWord_42 rfl 2 rfl rfl ?_
    refine js_get (v := .int (h.1 68 95)) C 68 95 rfl rfl rfl rfl ki_Mo (by decide) kx1778 kd_Mo_isPathWord_43 rfl ?_
    refine zk_iload_n C kd_Mo_isPathWord_46 rfl 0 rfl rfl ?_
    refine zk_iadd C kd_Mo_isPathWord_47 rfl ?_
    refine zk_callV (b := S.1 68) (As := [.int ((h.1 68 95) + nI k)]) (rest := [.int c]) C (jc_tg h ((h.1 68 95) + nI k) c1) ku_Mo_tapeGreat kx2780 kv_Mo_tapeGreat rfl ⟨by decide, by decide⟩ ⟨by decide, by decide⟩ 68 (js_l (zs_at (q := .inr (12, _)) rfl)) rfl rfl (Nat.le_of_ble_eq_true rfl) kd_Mo_isPathWord_48 rfl (c1 := 0) (s1 := 0) rfl rfl (fun v0 w hp => ?_)
    obtain ⟨rfl, ew⟩ := hp
    rw [ew]
    refine zk_stk (r' := [.int g, .int c]) rfl ?_
    refine zk_icmp_ne (tgt := 58) C kd_Mo_isPathWord_51 (by decide) rfl (fun b2 => ?_) (fun b2 => ?_)
    · rw [if_neg b2] at hq2
      refine zk_iconst (v := 0) C kd_Mo_isPathWord_58 (by decide) rfl ?_
      refine zk_istore_n (lv' := [(2, .int 0), (3, .int (nI k)), (0, .ref (S.1 68)), (1, .ref a)]) C kd_Mo_isPathWord_59 rfl (by decide) rfl rfl ?_
      refine zk_iinc (v := nI (k + 1)) (lv' := [(3, .int (nI (k + 1))), (2, .int 0), (0, .ref (S.1 68)), (1, .ref a)]) C kd_Mo_isPathWord_60 1 rfl (nI_succ k).symm (by decide) rfl rfl ?_
      refine zk_goto (tgt := 24) C kd_Mo_isPathWord_63 (by decide) ?_
      refine zk_lvs (lv' := [(3, .int (nI (k + 1))), (2, .int 0), (0, .ref (S.1 68)), (1, .ref a)]) [0, 1, 2, 3] rfl ?_
      have hq3 : (0 : Int32) = Q := Option.some.inj hq2
      subst hq3
      exact js_pw0 a v s hl (k + 1) (by omega) C hR
    · rw [if_pos b2] at hq2
      refine zk_iconst (v := 1) C kd_Mo_isPathWord_54 (by decide) rfl ?_
      refine zk_goto (tgt := 59) C kd_Mo_isPathWord_55 (by decide) ?_
      refine zk_istore_n (lv' := [(2, .int 1), (3, .int (nI k)), (0, .ref (S.1 68)), (1, .ref a)]) C kd_Mo_isPathWord_59 rfl (by decide) rfl rfl ?_
      refine zk_iinc (v := nI (k + 1)) (lv' := [(3, .int (nI (k + 1))), (2, .int 1), (0, .ref (S.1 68)), (1, .ref a)]) C kd_Mo_isPathWord_60 1 rfl (nI_succ k).symm (by decide) rfl rfl ?_
      refine zk_goto (tgt := 24) C kd_Mo_isPathWord_63 (by decide) ?_
      refine zk_lvs (lv' := [(3, .int (nI (k + 1))), (2, .int 1), (0, .ref (S.1 68)), (1, .ref a)]) [0, 1, 2, 3] rfl ?_
      exact ih (k + 1) (by omega) hq2
set_option maxHeartbeats 4000000 in
set_option maxRecDepth 100000 in
theorem js_pw {S : zs_T} {l : Launch} {D : va_G} {sz0 : Nat} {P : ze_T} (h : zs_H) (a v : Nat) (s : List Int32) (hs : ∀ j, s.getD j 0 &&& 255 = s.getD j 0) (hl : s.length < 32) {rv : Int32} (e : f_Mo_isPathWord h s = some rv) : zk_Sp (zs_G S l D sz0) (ze_E P) km_Mo_isPathWord { frames := 4, cells := 0, slots := 0, locals := 85 } [.ref (S.1 68), .ref a] (zs_W S h ++ js_str S a v s) (fun v0 w => v0 = some (.int rv) ∧ w = zs_W S h ++ js_str S a v s) := by
  refine zk_met ku_Mo_isPathWord (Nat.le_of_ble_eq_true rfl) (ze_Em P) ?_
  intro X C hR
  refine zk_lvs (lv' := [(0, .ref (S.1 68)), (1, .ref a)]) [0, 1] rfl ?_
  unfold f_Mo_isPathWord at e
  refine zk_aload_n C kd_Mo_isPathWord_0 rfl 1 rfl rfl ?_
  refine zk_callV (b := a) (As := []) (rest := []) C (js_length (zs_W S h) a v s) ku_St_length kx2060 kv_St_length rfl ⟨by decide, by decide⟩ ⟨by decide, by decide⟩ ((zs_W S h).length + 0) (zk_ap 0 rfl) rfl rfl (Nat.le_of_ble_eq_true rfl) kd_Mo_isPathWord_1 rfl (c1 := 0) (s1 := 0) rfl rfl (fun v0 w hp => ?_)
  obtain ⟨rfl, ew⟩ := hp
  rw [ew]
  refine zk_stk (r' := [.int (nI s.length)]) rfl ?_
  refine zk_aload_n C kd_Mo_isPathWord_4 rfl 0 rfl rfl ?_
  refine js_get (v := .int (h.1 68 93)) C 68 93 rfl rfl rfl rfl ki_Mo (by decide) kx1776 kd_Mo_isPathWord_5 rfl ?_
  refine zk_aload_n C kd_Mo_isPathWord_8 rfl 0 rfl rfl ?_
  refine js_get (v := .int (h.1 68 95)) C 68 95 rfl rfl rfl rfl ki_Mo (by decide) kx1778 kd_Mo_isPathWord_9 rfl ?_
  refine zk_isub C kd_Mo_isPathWord_12 rfl ?_
  refine zk_icmp_ne (tgt := 20) C kd_Mo_isPathWord_13 (by decide) rfl (fun b => ?_) (fun b => ?_)
  · rw [if_neg b] at e
    refine zk_iconst (v := 0) C kd_Mo_isPathWord_20 (by decide) rfl ?_
    refine zk_istore_n (lv' := [(2, .int 0), (0, .ref (S.1 68)), (1, .ref a)]) C kd_Mo_isPathWord_21 rfl (by decide) rfl rfl ?_
    refine zk_iconst (v := 0) C kd_Mo_isPathWord_22 (by decide) rfl ?_
    refine zk_istore_n (lv' := [(3, .int 0), (2, .int 0), (0, .ref (S.1 68)), (1, .ref a)]) C kd_Mo_isPathWord_23 rfl (by decide) rfl rfl ?_
    refine zk_lvs (lv' := [(3, .int (nI 0)), (2, .int 0), (0, .ref (S.1 68)), (1, .ref a)]) [0, 1, 2, 3] rfl ?_
    have hq3 : (0 : Int32) = rv := Option.some.inj e
    subst hq3
    exact js_pw0 a v s hl 0 (by omega) C hR
  · rw [if_pos b] at e
    refine zk_iconst (v := 1) C kd_Mo_isPathWord_16 (by decide) rfl ?_
    refine zk_goto (tgt := 21) C kd_Mo_isPathWord_17 (by decide) ?_
    refine zk_istore_n (lv' := [(2, .int 1), (0, .ref (S.1 68)), (1, .ref a)]) C kd_Mo_isPathWord_21 rfl (by decide) rfl rfl ?_
    refine zk_iconst (v := 0) C kd_Mo_isPathWord_22 (by decide) rfl ?_
    refine zk_istore_n (lv' := [(3, .int 0), (2, .int 1), (0, .ref (S.1 68)), (1, .ref a)]) C kd_Mo_isPathWord_23 rfl (by decide) rfl rfl ?_
    refine zk_lvs (lv' := [(3, .int (nI 0)), (2, .int 1), (0, .ref (S.1 68)), (1, .ref a)]) [0, 1, 2, 3] rfl ?_
    exact js_pwL a v s hs hl _ C hR s.length 0 (by omega) e
set_option maxHeartbeats 4000000 in
set_option maxRecDepth 100000 in
theorem js_wpL {X : zkj_T} {S : zs_T} {l : Launch} {D : va_G} {sz0 : Nat} {P : ze_T} {h : zs_H} {Post : Option Value → va_W → Prop} (x1 x2 io y kk : Int32) (B : Nat) (hB : B ≤ 4) (hy : y = if io = 0 then 1 else 0) (C : zk_C X km_Mo_watchPin (zs_G S l D sz0) { frames := 6, cells := 16, slots := 56, locals := 177 } (ze_E P)) (hF : 0 ≤ kk → zk_Ab X (zs_W S h) 16 56 69 [(0, .ref (S.1 68)), (1, .int x1), (2, .int x2), (3, .int io), (4, .int kk)] []) (hE : kk = -1 → zk_Ab X (zs_W S h) (2 * (B + (zp_row x1 y).length + 1)) (7 * (B + (zp_row x1 y).length + 1)) 131 [(0, .ref (S.1 68)), (1, .int x1), (2, .int x2), (3, .int io)] []) : ∀ (m k : Nat), k + m = (zp_row x1 y).length → zwt_f h ((zp_row x1 y).drop k) (nI k) = some kk → ((zp_row x1 y)[k]? = none → zk_Ab X (zs_W S h) (2 * (B + k + 1)) (7 * (B + k + 1)) 55 [(5, .null), (0, .ref (S.1 68)), (1, .int x1), (2, .int x2), (3, .int io), (4, .int (nI k))] []) ∧ (∀ (s : List Int32) (a v : Nat), (zp_row x1 y)[k]? = some s → zk_Ab X (zs_W S h ++ js_str S a v s) (2 * (B + k + 1)) (7 * (B + k + 1)) 55 [(5, .ref a), (0, .ref (S.1 68)), (1, .int x1), (2, .int x2), (3, .int io), (4, .int (nI k))] []) := by
  obtain ⟨hr3, hrs⟩ := js_row3 x1 y
  intro m
  induction m with
  | zero =>
    intro k hk hq
    have hkl : (zp_row x1 y).length = k := by omega
    refine ⟨fun hn => ?_, fun s a v hn => ?_⟩
    · refine js_aloadN C kd_Mo_watchPin_55 0 rfl rfl ?_
      refine js_ifnullN (tgt := 131) C kd_Mo_watchPin_57 (by decide) ?_
      rw [List.drop_eq_nil_of_le (by omega)] at hq
      have hq2 : (-1 : Int32) = kk := Option.some.inj hq
      refine zk_lvs (lv' := [(0, .ref (S.1 68)), (1, .int x1), (2, .int x2), (3, .int io)]) [1, 2, 3, 4] rfl ?_
      rw [hkl] at hE
      exact hE hq2.symm
    · rw [List.getElem?_eq_none (by omega)] at hn
      cases hn
  | succ m ih =>
    intro k hk hq
    refine ⟨fun hn => absurd (List.getElem?_eq_none_iff.mp hn) (by omega), fun s a v hn => ?_⟩
    rw [js_dc hn] at hq
    have hmem : s ∈ (zp_row x1 y) := List.mem_of_getElem? hn
    have hq2 : ((f_Mo_isPathWord h s).bind fun v => if v = 0 then zwt_f h ((zp_row x1 y).drop (k + 1)) (nI k + 1) else some (nI k)) = some kk := hq
    obtain ⟨g, c1, hq2⟩ := zd_b hq2
    refine zk_aload C kd_Mo_watchPin_55 0 rfl rfl ?_
    refine js_ifnull C kd_Mo_watchPin_57 rfl ?_
    refine zk_aload_n C kd_Mo_watchPin_60 rfl 1 rfl rfl ?_
    refine zk_aload C kd_Mo_watchPin_61 0 rfl rfl ?_
    refine zk_callV (b := S.1 68) (As := [.ref a]) (rest := []) C (js_pw h a v s (js_gd (hrs s hmem).2) (hrs s hmem).1 c1) ku_Mo_isPathWord kx2800 kv_Mo_isPathWord rfl ⟨by decide, by decide⟩ ⟨by show 2 * (B + k + 1) + 0 ≤ 16; omega, by show 7 * (B + k + 1) + 0 ≤ 56; omega⟩ 68 (js_l (zs_at (q := .inr (12, _)) rfl)) rfl rfl (Nat.le_of_ble_eq_true rfl) kd_Mo_watchPin_63 rfl (c1 := 2 * (B + k + 1)) (s1 := 7 * (B + k + 1)) rfl rfl (fun v0 w hp => ?_)
    obtain ⟨rfl, ew⟩ := hp
    rw [ew]
    refine zk_stk (r' := [.int g]) rfl ?_
    refine js_drop ?_
    refine zk_if_eq (tgt := 108) C kd_Mo_watchPin_66 (by decide) rfl (fun b => ?_) (fun b => ?_)
    · rw [if_pos b, ← nI_succ] at hq2
      refine zk_iinc (v := nI (k + 1)) (lv' := [(4, .int (nI (k + 1))), (5, .ref a), (0, .ref (S.1 68)), (1, .int x1), (2, .int x2), (3, .int io)]) C kd_Mo_watchPin_108 5 rfl (nI_succ k).symm (by decide) rfl rfl ?_
      refine zk_iload_n C kd_Mo_watchPin_111 rfl 3 rfl rfl ?_
      refine zk_iload_n C kd_Mo_watchPin_112 rfl 5 rfl rfl ?_
      have hx : zk_Ab X (zs_W S h) (2 * (B + k + 1)) (7 * (B + k + 1)) 121 [(4, .int (nI (k + 1))), (5, .ref a), (0, .ref (S.1 68)), (1, .int x1), (2, .int x2), (3, .int io)] [.int y, .int x1] := by
        refine zk_iload C kd_Mo_watchPin_121 0 rfl rfl ?_
        refine zk_callS (As := [.int x1, .int y, .int (nI (k + 1))]) (rest := []) C (js_std (zs_W S h) x1 y (k + 1) (by omega)) ku_Mo_standardName kx2366 ks_Mo_standardName rfl ⟨by decide, by decide⟩ ⟨by show 2 * (B + k + 1) + 2 ≤ 16; omega, by show 7 * (B + k + 1) + 7 ≤ 56; omega⟩ rfl (by decide) kd_Mo_watchPin_123 rfl (c1 := 2 * (B + (k + 1) + 1)) (s1 := 7 * (B + (k + 1) + 1)) rfl rfl (fun v0 w hp => ?_)
        obtain ⟨i1, i2⟩ := ih (k + 1) (by omega) hq2
        cases ho : (zp_row x1 y)[k + 1]? with
        | none =>
            rw [ho] at hp
            obtain ⟨rfl, rfl⟩ := hp
            refine zk_stk (r' := [.null]) rfl ?_
            refine js_astoreN (lv' := [(5, .null), (4, .int (nI (k + 1))), (0, .ref (S.1 68)), (1, .int x1), (2, .int x2), (3, .int io)]) C kd_Mo_watchPin_126 (by decide) rfl rfl ?_
            refine zk_goto (tgt := 55) C kd_Mo_watchPin_128 (by decide) ?_
            refine zk_lvs (lv' := [(5, .null), (0, .ref (S.1 68)), (1, .int x1), (2, .int x2), (3, .int io), (4, .int (nI (k + 1)))]) [0, 2, 3, 4, 5, 1] rfl ?_
            exact i1 ho
        | some s2 =>
            rw [ho] at hp
            obtain ⟨a2, v2, rfl, rfl⟩ := hp
            refine zk_stk (r' := [.ref a2]) rfl ?_
            refine zk_astore (lv' := [(5, .ref a2), (4, .int (nI (k + 1))), (0, .ref (S.1 68)), (1, .int x1), (2, .int x2), (3, .int io)]) C kd_Mo_watchPin_126 (by decide) rfl rfl ?_
            refine zk_goto (tgt := 55) C kd_Mo_watchPin_128 (by decide) ?_
            refine zk_lvs (lv' := [(5, .ref a2), (0, .ref (S.1 68)), (1, .int x1), (2, .int x2), (3, .int io), (4, .int (nI (k + 1)))]) [0, 2, 3, 4, 5, 1] rfl ?_
            exact i2 s2 a2 v2 ho
      refine zk_if_ne (tgt := 120) C kd_Mo_watchPin_113 (by decide) rfl (fun b3 => ?_) (fun b3 => ?_)
      · rw [if_neg b3] at hy
        refine zk_iconst (v := 0) C kd_Mo_watchPin_120 (by decide) rfl ?_
        subst hy
        exact hx
      · rw [if_pos b3] at hy
        refine zk_iconst (v := 1) C kd_Mo_watchPin_116 (by decide) rfl ?_
        refine zk_goto (tgt := 121) C kd_Mo_watchPin_117 (by decide) ?_
        subst hy
        exact hx
    · rw [if_neg b] at hq2
      have hq3 : nI k = kk := Option.some.inj hq2
      subst hq3
      refine zk_widen (c1 := 16) (s1 := 56) (by omega) (by omega) ?_
      refine zk_lvs (lv' := [(0, .ref (S.1 68)), (1, .int x1), (2, .int x2), (3, .int io), (4, .int (nI k))]) [1, 2, 3, 4, 5] rfl ?_
      exact hF (nI_pos' (by omega))
set_option maxHeartbeats 4000000 in
set_option maxRecDepth 100000 in
theorem js_wpF {X : zkj_T} {S : zs_T} {l : Launch} {D : va_G} {sz0 : Nat} {P : ze_T} {h rh : zs_H} {rv : Int32} (x1 x2 io y kk : Int32) (hy : y = if io = 0 then 1 else 0) (C : zk_C X km_Mo_watchPin (zs_G S l D sz0) { frames := 6, cells := 16, slots := 56, locals := 177 } (ze_E P)) (hR : zkj_R X (zd_PI S rv rh) (some .int)) (e : f_Mo_watchPin_2 h x1 x2 y kk = some (rv, rh)) : zk_Ab X (zs_W S h) 16 56 69 [(0, .ref (S.1 68)), (1, .int x1), (2, .int x2), (3, .int io), (4, .int kk)] [] := by
  unfold f_Mo_watchPin_2 at e
  obtain ⟨ty, c1, e⟩ := zd_b e
  obtain ⟨cl, c2, e⟩ := zd_b e
  have hx2 : zk_Ab X (zs_W S h) 16 56 98 [(0, .ref (S.1 68)), (1, .int x1), (2, .int x2), (3, .int io), (4, .int kk)] [.int y, .int x1, .ref (S.1 68), .int x2, .int ty, .ref (S.1 68)] := by
    refine zk_iload C kd_Mo_watchPin_98 4 rfl rfl ?_
    refine zs_callV (k := 68) (rn := { frames := 0, cells := 0, slots := 0, locals := 0 }) (As := [.int x1, .int y, .int kk]) (rest := [.int x2, .int ty, .ref (S.1 68)]) C (zc_Mo_pinCell h x1 y kk c2) ku_Mo_pinCell kx2465 kv_Mo_pinCell rfl ⟨by decide, by decide⟩ ⟨by decide, by decide⟩ rfl rfl rfl (Nat.le_of_ble_eq_true rfl) kd_Mo_watchPin_100 rfl (c1 := 16) (s1 := 56) rfl rfl (fun v w hp => ?_)
    obtain ⟨rfl, rfl⟩ := hp
    refine zk_stk (r' := [.int cl, .int x2, .int ty, .ref (S.1 68)]) rfl ?_
    refine zk_iadd C kd_Mo_watchPin_103 rfl ?_
    refine zs_callV (k := 68) (rn := { frames := 0, cells := 0, slots := 0, locals := 0 }) (As := [.int ty, .int (x2 + cl)]) (rest := []) C (zc_Mo_see h ty (x2 + cl) e) ku_Mo_see kx2804 kv_Mo_see rfl ⟨by decide, by decide⟩ ⟨by decide, by decide⟩ rfl rfl rfl (Nat.le_of_ble_eq_true rfl) kd_Mo_watchPin_104 rfl (c1 := 16) (s1 := 56) rfl rfl (fun v w hp => ?_)
    obtain ⟨rfl, rfl⟩ := hp
    refine zk_stk (r' := [.int rv]) rfl ?_
    exact zk_iret C hR kd_Mo_watchPin_107 rfl rfl ⟨rfl, rfl⟩
  have hx1 : zk_Ab X (zs_W S h) 16 56 81 [(0, .ref (S.1 68)), (1, .int x1), (2, .int x2), (3, .int io), (4, .int kk)] [.int y, .int x1, .ref (S.1 68), .ref (S.1 68)] := by
    refine zk_iload C kd_Mo_watchPin_81 4 rfl rfl ?_
    refine zs_callV (k := 68) (rn := { frames := 0, cells := 0, slots := 0, locals := 0 }) (As := [.int x1, .int y, .int kk]) (rest := [.ref (S.1 68)]) C (zc_Mo_pinType h x1 y kk c1) ku_Mo_pinType kx2461 kv_Mo_pinType rfl ⟨by decide, by decide⟩ ⟨by decide, by decide⟩ rfl rfl rfl (Nat.le_of_ble_eq_true rfl) kd_Mo_watchPin_83 rfl (c1 := 16) (s1 := 56) rfl rfl (fun v w hp => ?_)
    obtain ⟨rfl, rfl⟩ := hp
    refine zk_stk (r' := [.int ty, .ref (S.1 68)]) rfl ?_
    refine zk_iload_n C kd_Mo_watchPin_86 rfl 2 rfl rfl ?_
    refine zk_aload_n C kd_Mo_watchPin_87 rfl 0 rfl rfl ?_
    refine zk_iload_n C kd_Mo_watchPin_88 rfl 1 rfl rfl ?_
    refine zk_iload_n C kd_Mo_watchPin_89 rfl 3 rfl rfl ?_
    refine zk_if_ne (tgt := 97) C kd_Mo_watchPin_90 (by decide) rfl (fun b3 => ?_) (fun b3 => ?_)
    · rw [if_neg b3] at hy
      refine zk_iconst (v := 0) C kd_Mo_watchPin_97 (by decide) rfl ?_
      subst hy
      exact hx2
    · rw [if_pos b3] at hy
      refine zk_iconst (v := 1) C kd_Mo_watchPin_93 (by decide) rfl ?_
      refine zk_goto (tgt := 98) C kd_Mo_watchPin_94 (by decide) ?_
      subst hy
      exact hx2
  refine zk_aload_n C kd_Mo_watchPin_69 rfl 0 rfl rfl ?_
  refine zk_aload_n C kd_Mo_watchPin_70 rfl 0 rfl rfl ?_
  refine zk_iload_n C kd_Mo_watchPin_71 rfl 1 rfl rfl ?_
  refine zk_iload_n C kd_Mo_watchPin_72 rfl 3 rfl rfl ?_
  refine zk_if_ne (tgt := 80) C kd_Mo_watchPin_73 (by decide) rfl (fun b3 => ?_) (fun b3 => ?_)
  · rw [if_neg b3] at hy
    refine zk_iconst (v := 0) C kd_Mo_watchPin_80 (by decide) rfl ?_
    subst hy
    exact hx1
  · rw [if_pos b3] at hy
    refine zk_iconst (v := 1) C kd_Mo_watchPin_76 (by decide) rfl ?_
    refine zk_goto (tgt := 81) C kd_Mo_watchPin_77 (by decide) ?_
    subst hy
    exact hx1
set_option maxHeartbeats 4000000 in
set_option maxRecDepth 100000 in
theorem js_wpR {X : zkj_T} {S : zs_T} {l : Launch} {D : va_G} {sz0 : Nat} {P : ze_T} {h rh : zs_H} {rv : Int32} (x1 x2 io y kk : Int32) (B : Nat) (hB : B ≤ 4) (hy : y = if io = 0 then 1 else 0) (C : zk_C X km_Mo_watchPin (zs_G S l D sz0) { frames := 6, cells := 16, slots := 56, locals := 177 } (ze_E P)) (hR : zkj_R X (zd_PI S rv rh) (some .int)) (hq : zwt_f h (zp_row x1 y) 0 = some kk) (hF : 0 ≤ kk → f_Mo_watchPin_2 h x1 x2 y kk = some (rv, rh)) (hE : kk = -1 → zk_Ab X (zs_W S h) (2 * (B + (zp_row x1 y).length + 1)) (7 * (B + (zp_row x1 y).length + 1)) 131 [(0, .ref (S.1 68)), (1, .int x1), (2, .int x2), (3, .int io)] []) : zk_Ab X (zs_W S h) (2 * B) (7 * B) 36 [(3, .int io), (0, .ref (S.1 68)), (1, .int x1), (2, .int x2)] [] := by
  refine zk_iconst (v := 0) C kd_Mo_watchPin_36 (by decide) rfl ?_
  refine zk_istore (lv' := [(4, .int 0), (3, .int io), (0, .ref (S.1 68)), (1, .int x1), (2, .int x2)]) C kd_Mo_watchPin_37 (by decide) rfl rfl ?_
  refine zk_iload_n C kd_Mo_watchPin_39 rfl 3 rfl rfl ?_
  refine zk_iload_n C kd_Mo_watchPin_40 rfl 1 rfl rfl ?_
  have hx : zk_Ab X (zs_W S h) (2 * B) (7 * B) 49 [(4, .int 0), (3, .int io), (0, .ref (S.1 68)), (1, .int x1), (2, .int x2)] [.int y, .int x1] := by
    refine zk_iconst (v := 0) C kd_Mo_watchPin_49 (by decide) rfl ?_
    refine zk_callS (As := [.int x1, .int y, .int (nI 0)]) (rest := []) C (js_std (zs_W S h) x1 y 0 (by decide)) ku_Mo_standardName kx2366 ks_Mo_standardName rfl ⟨by decide, by decide⟩ ⟨by show 2 * B + 2 ≤ 16; omega, by show 7 * B + 7 ≤ 56; omega⟩ rfl (by decide) kd_Mo_watchPin_50 rfl (c1 := 2 * (B + 0 + 1)) (s1 := 7 * (B + 0 + 1)) rfl rfl (fun v0 w hp => ?_)
    obtain ⟨i1, i2⟩ := js_wpL (Post := zd_PI S rv rh) x1 x2 io y kk B hB hy C (fun q => js_wpF x1 x2 io y kk hy C hR (hF q)) hE (zp_row x1 y).length 0 (Nat.zero_add _) hq
    cases ho : (zp_row x1 y)[0]? with
    | none =>
        rw [ho] at hp
        obtain ⟨rfl, rfl⟩ := hp
        refine zk_stk (r' := [.null]) rfl ?_
        refine js_astoreN (lv' := [(5, .null), (4, .int 0), (3, .int io), (0, .ref (S.1 68)), (1, .int x1), (2, .int x2)]) C kd_Mo_watchPin_53 (by decide) rfl rfl ?_
        refine zk_lvs (lv' := [(5, .null), (0, .ref (S.1 68)), (1, .int x1), (2, .int x2), (3, .int io), (4, .int (nI 0))]) [0, 3, 4, 5, 2, 1] rfl ?_
        exact i1 ho
    | some s2 =>
        rw [ho] at hp
        obtain ⟨a2, v2, rfl, rfl⟩ := hp
        refine zk_stk (r' := [.ref a2]) rfl ?_
        refine zk_astore (lv' := [(5, .ref a2), (4, .int 0), (3, .int io), (0, .ref (S.1 68)), (1, .int x1), (2, .int x2)]) C kd_Mo_watchPin_53 (by decide) rfl rfl ?_
        refine zk_lvs (lv' := [(5, .ref a2), (0, .ref (S.1 68)), (1, .int x1), (2, .int x2), (3, .int io), (4, .int (nI 0))]) [0, 3, 4, 5, 2, 1] rfl ?_
        exact i2 s2 a2 v2 ho
  refine zk_if_ne (tgt := 48) C kd_Mo_watchPin_41 (by decide) rfl (fun b3 => ?_) (fun b3 => ?_)
  · rw [if_neg b3] at hy
    refine zk_iconst (v := 0) C kd_Mo_watchPin_48 (by decide) rfl ?_
    subst hy
    exact hx
  · rw [if_pos b3] at hy
    refine zk_iconst (v := 1) C kd_Mo_watchPin_44 (by decide) rfl ?_
    refine zk_goto (tgt := 49) C kd_Mo_watchPin_45 (by decide) ?_
    subst hy
    exact hx
theorem js_kk {h : zs_H} : ∀ (l : List (List Int32)) (k : Nat) (kk : Int32), l.length + k < 100 → zwt_f h l (nI k) = some kk → 0 ≤ kk ∨ kk = -1
  | [], k, kk, _, e => Or.inr (Option.some.inj e).symm
  | s :: l, k, kk, hk, e => by
    have e2 : ((f_Mo_isPathWord h s).bind fun v => if v = 0 then zwt_f h l (nI k + 1) else some (nI k)) = some kk := e
    obtain ⟨g, -, e3⟩ := zd_b e2
    by_cases hg : g = 0
    · rw [if_pos hg, ← nI_succ] at e3
      exact js_kk l (k + 1) kk (by simp at hk; omega) e3
    · rw [if_neg hg] at e3
      have := Option.some.inj e3
      subst this
      exact Or.inl (nI_pos' (by simp at hk; omega))
set_option maxHeartbeats 4000000 in
set_option maxRecDepth 100000 in
theorem zc_Mo_watchPin {S : zs_T} {l : Launch} {D : va_G} {sz0 : Nat} {P : ze_T} (h : zs_H) (x1 x2 : Int32) {rv : Int32} {rh : zs_H} (e : f_Mo_watchPin h x1 x2 = some (rv, rh)) : zk_Sp (zs_G S l D sz0) (ze_E P) km_Mo_watchPin { frames := 6, cells := 16, slots := 56, locals := 177 } [.ref (S.1 68), .int x1, .int x2] (zs_W S h) (zd_PI S rv rh) := by
  refine zk_met ku_Mo_watchPin (Nat.le_of_ble_eq_true rfl) (ze_Em P) ?_
  intro X C hR
  unfold f_Mo_watchPin at e
  obtain ⟨v2, h3, c1, e⟩ := zd_Be e
  refine zk_lvs (lv' := [(0, .ref (S.1 68)), (1, .int x1), (2, .int x2)]) [0, 1, 2] rfl ?_
  refine zk_aload_n C kd_Mo_watchPin_0 rfl 0 rfl rfl ?_
  refine zk_bipush (v := 46) C kd_Mo_watchPin_1 (by decide) rfl ?_
  refine zs_callV (k := 68) (rn := { frames := 0, cells := 0, slots := 0, locals := 0 }) (As := [.int 46]) (rest := []) C (zc_Mo_passes h 46 c1) ku_Mo_passes kx2792 kv_Mo_passes rfl ⟨by decide, by decide⟩ ⟨by decide, by decide⟩ rfl rfl rfl (Nat.le_of_ble_eq_true rfl) kd_Mo_watchPin_3 rfl (c1 := 0) (s1 := 0) rfl rfl (fun v w hp => ?_)
  obtain ⟨rfl, rfl, -⟩ := hp
  refine zk_stk (r' := [.int v2]) rfl ?_
  refine zk_if_eq (tgt := 27) C kd_Mo_watchPin_6 (by decide) rfl (fun b => ?_) (fun b => ?_)
  · rw [if_pos b] at e
    refine zk_iconst (v := (-1)) C kd_Mo_watchPin_27 (by decide) rfl ?_
    refine zk_widen (c1 := 16) (s1 := 56) (by decide) (by decide) ?_
    exact zk_iret C hR kd_Mo_watchPin_28 rfl rfl (zd_rIS e)
  · rw [if_neg b] at e
    obtain ⟨v5, h6, c2, e⟩ := zd_Be e
    refine zk_aload_n C kd_Mo_watchPin_9 rfl 0 rfl rfl ?_
    refine zs_callV (k := 68) (rn := { frames := 1, cells := 0, slots := 0, locals := 22 }) (As := []) (rest := []) C (zc_Mo_readPathName h3 c2) ku_Mo_readPathName kx2776 kv_Mo_readPathName rfl ⟨by decide, by decide⟩ ⟨by decide, by decide⟩ rfl rfl rfl (Nat.le_of_ble_eq_true rfl) kd_Mo_watchPin_10 rfl (c1 := 0) (s1 := 0) rfl rfl (fun v w hp => ?_)
    obtain ⟨rfl, rfl, -⟩ := hp
    refine zk_stk (r' := [.int v5]) rfl ?_
    refine zk_if_eq (tgt := 27) C kd_Mo_watchPin_13 (by decide) rfl (fun b2 => ?_) (fun b2 => ?_)
    · rw [if_pos b2] at e
      refine zk_iconst (v := (-1)) C kd_Mo_watchPin_27 (by decide) rfl ?_
      refine zk_widen (c1 := 16) (s1 := 56) (by decide) (by decide) ?_
      exact zk_iret C hR kd_Mo_watchPin_28 rfl rfl (zd_rIS e)
    · rw [if_neg b2] at e
      refine zk_aload_n C kd_Mo_watchPin_16 rfl 0 rfl rfl ?_
      refine zs_get (v := .int (h6.1 68 93)) C 68 93 rfl rfl rfl rfl ki_Mo (by decide) kx1776 kd_Mo_watchPin_17 rfl ?_
      refine zk_aload_n C kd_Mo_watchPin_20 rfl 0 rfl rfl ?_
      refine zs_get (v := .int (h6.1 68 94)) C 68 94 rfl rfl rfl rfl ki_Mo (by decide) kx1777 kd_Mo_watchPin_21 rfl ?_
      refine zk_icmp_ge (tgt := 29) C kd_Mo_watchPin_24 (by decide) rfl (fun b3 => ?_) (fun b3 => ?_)
      · rw [if_neg (Int32.not_lt.mpr b3)] at e
        obtain ⟨k1, d1, e⟩ := zd_b e
        have hk1 := js_kk (zp_row x1 1) 0 k1 (by have := (js_row3 x1 1).1; omega) d1
        refine zk_iconst (v := 0) C kd_Mo_watchPin_29 (by decide) rfl ?_
        refine zk_istore_n (lv' := [(3, .int 0), (0, .ref (S.1 68)), (1, .int x1), (2, .int x2)]) C kd_Mo_watchPin_30 rfl (by decide) rfl rfl ?_
        refine zk_iload_n C kd_Mo_watchPin_31 rfl 0 rfl rfl ?_
        refine zk_iconst (v := 2) C kd_Mo_watchPin_32 (by decide) rfl ?_
        refine zk_icmp_ge (tgt := 137) C kd_Mo_watchPin_33 (by decide) rfl (fun q => absurd q (by decide)) (fun q => ?_)
        refine zk_lvs (lv' := [(3, .int 0), (0, .ref (S.1 68)), (1, .int x1), (2, .int x2)]) [0, 1, 2, 3] rfl ?_
        refine js_wpR (rv := rv) (rh := rh) x1 x2 0 1 k1 0 (by decide) rfl C hR d1 (fun q => by rw [if_pos q] at e; exact e) (fun q => ?_)
        rw [if_neg (by rw [q]; decide)] at e
        obtain ⟨k2, d2, e⟩ := zd_b e
        have hk2 := js_kk (zp_row x1 0) 0 k2 (by have := (js_row3 x1 0).1; omega) d2
        have hr1 := (js_row3 x1 1).1
        have hr0 := (js_row3 x1 0).1
        refine zk_iinc (v := 1) (lv' := [(3, .int 1), (0, .ref (S.1 68)), (1, .int x1), (2, .int x2)]) C kd_Mo_watchPin_131 3 rfl (by decide) (by decide) rfl rfl ?_
        refine zk_goto (tgt := 31) C kd_Mo_watchPin_134 (by decide) ?_
        refine zk_iload_n C kd_Mo_watchPin_31 rfl 0 rfl rfl ?_
        refine zk_iconst (v := 2) C kd_Mo_watchPin_32 (by decide) rfl ?_
        refine zk_icmp_ge (tgt := 137) C kd_Mo_watchPin_33 (by decide) rfl (fun q => absurd q (by decide)) (fun q => ?_)
        refine zk_lvs (lv' := [(3, .int 1), (0, .ref (S.1 68)), (1, .int x1), (2, .int x2)]) [0, 1, 2, 3] rfl ?_
        rw [show 2 * (0 + (zp_row x1 1).length + 1) = 2 * ((zp_row x1 1).length + 1) by omega, show 7 * (0 + (zp_row x1 1).length + 1) = 7 * ((zp_row x1 1).length + 1) by omega]
        refine js_wpR (rv := rv) (rh := rh) x1 x2 1 0 k2 ((zp_row x1 1).length + 1) (by omega) rfl C hR d2 (fun q => by rw [if_pos q] at e; exact e) (fun q2 => ?_)
        rw [if_neg (by rw [q2]; decide)] at e
        refine zk_iinc (v := 2) (lv' := [(3, .int 2), (0, .ref (S.1 68)), (1, .int x1), (2, .int x2)]) C kd_Mo_watchPin_131 3 rfl (by decide) (by decide) rfl rfl ?_
        refine zk_goto (tgt := 31) C kd_Mo_watchPin_134 (by decide) ?_
        refine zk_iload_n C kd_Mo_watchPin_31 rfl 0 rfl rfl ?_
        refine zk_iconst (v := 2) C kd_Mo_watchPin_32 (by decide) rfl ?_
        refine zk_icmp_ge (tgt := 137) C kd_Mo_watchPin_33 (by decide) rfl (fun q => ?_) (fun q => absurd (by decide) q)
        refine zk_iconst (v := (-1)) C kd_Mo_watchPin_137 (by decide) rfl ?_
        refine zk_widen (c1 := 16) (s1 := 56) (by omega) (by omega) ?_
        exact zk_iret C hR kd_Mo_watchPin_138 rfl rfl (zd_rIS e)
      · rw [if_pos (Int32.not_le.mp b3)] at e
        refine zk_iconst (v := (-1)) C kd_Mo_watchPin_27 (by decide) rfl ?_
        refine zk_widen (c1 := 16) (s1 := 56) (by decide) (by decide) ?_
        exact zk_iret C hR kd_Mo_watchPin_28 rfl rfl (zd_rIS e)
