theorem zp_agF {A : Nat → Prop} {h hh : zs_H} (a : zp_ag A h hh) (k : Nat) (hk : ¬ A k) (j : Nat) {v : Int32} (e : h.1 k j = v) : hh.1 k j = v := (congrFun (a k hk).1 j).trans e
theorem zp_agM {A : Nat → Prop} {h hh : zs_H} (a : zp_ag A h hh) (k : Nat) (hk : ¬ A k) (j : Nat) {v : Int32} (e : h.2.1 k j = v) : hh.2.1 k j = v := (congrFun (a k hk).2.1 j).trans e
theorem zp_ag.mono {A B : Nat → Prop} {h hh : zs_H} (i : ∀ k, A k → B k) (a : zp_ag A h hh) : zp_ag B h hh := fun k hk => a k (fun q => hk (i k q))
/-- the cells of the class -/
def zq_A (k : Nat) : Prop := k < 68
theorem zq_nm : ∀ k, zn_A k → zq_A k := fun k h => by unfold zn_A at h; show k < 68; omega
theorem zq_pl : ∀ k, zl_A k → zq_A k := fun k h => Nat.lt_of_le_of_lt h.2 (by decide)
/-- the cells that the judge writes -/
def zj_A (k : Nat) : Prop := 20 ≤ k ∧ k ≤ 40
theorem zj_pl : ∀ k, zl_A k → zj_A k := fun k h => ⟨h.1, Nat.le_trans h.2 (by decide)⟩
theorem zj_40 : ∀ k, k = 40 → zj_A k := fun k h => by subst h; exact ⟨by decide, by decide⟩
theorem zq_jd : ∀ k, zj_A k → zq_A k := fun k h => Nat.lt_of_le_of_lt h.2 (by decide)
theorem kw119 : Jvm.Cond.fieldLink "PlantKeeper$Parser" (26 : Nat) "PlantKeeper$Tokens" "kind" "[C" ∈ zk_BW := zk_inT 119 (by decide +kernel) rfl
theorem kw121 : Jvm.Cond.fieldLink "PlantKeeper$Parser" (35 : Nat) "PlantKeeper$Tokens" "place" "[C" ∈ zk_BW := zk_inT 121 (by decide +kernel) rfl
theorem kw124 : Jvm.Cond.fieldLink "PlantKeeper$Tokens" (37 : Nat) "PlantKeeper$Tokens" "size" "I" ∈ zk_BW := zk_inT 124 (by decide +kernel) rfl
theorem kw127 : Jvm.Cond.fieldLink "PlantKeeper$Tokens" (26 : Nat) "PlantKeeper$Tokens" "text" "[B" ∈ zk_BW := zk_inT 127 (by decide +kernel) rfl
theorem kw128 : Jvm.Cond.fieldLink "PlantKeeper$Tokens" (30 : Nat) "PlantKeeper$Tokens" "length" "I" ∈ zk_BW := zk_inT 128 (by decide +kernel) rfl
theorem kw129 : Jvm.Cond.fieldLink "PlantKeeper$Tokens" (34 : Nat) "PlantKeeper$Tokens" "at" "I" ∈ zk_BW := zk_inT 129 (by decide +kernel) rfl
theorem kw157 : Jvm.Cond.fieldLink "PlantKeeper$Judge" (71 : Nat) "PlantKeeper$Tree" "kind" "[B" ∈ zk_BW := zk_inT 157 (by decide +kernel) rfl
theorem kw163 : Jvm.Cond.fieldLink "PlantKeeper$Judge" (61 : Nat) "PlantKeeper$Tree" "place" "[C" ∈ zk_BW := zk_inT 163 (by decide +kernel) rfl
theorem kw170 : Jvm.Cond.fieldLink "PlantKeeper$Judge" (49 : Nat) "PlantKeeper$Tree" "child" "[I" ∈ zk_BW := zk_inT 170 (by decide +kernel) rfl
theorem kw175 : Jvm.Cond.fieldLink "PlantKeeper$Tree" (33 : Nat) "PlantKeeper$Tree" "size" "I" ∈ zk_BW := zk_inT 175 (by decide +kernel) rfl
theorem kw176 : Jvm.Cond.fieldLink "PlantKeeper$Parser" (44 : Nat) "PlantKeeper$Tree" "size" "I" ∈ zk_BW := zk_inT 176 (by decide +kernel) rfl
theorem kw177 : Jvm.Cond.fieldLink "PlantKeeper$Judge" (52 : Nat) "PlantKeeper$Tree" "size" "I" ∈ zk_BW := zk_inT 177 (by decide +kernel) rfl
theorem kw201 : Jvm.Cond.fieldLink "PlantKeeper" (131 : Nat) "PlantKeeper$Parser" "faultPlace" "I" ∈ zk_BW := zk_inT 201 (by decide +kernel) rfl
theorem kw204 : Jvm.Cond.fieldLink "PlantKeeper$Parser" (19 : Nat) "PlantKeeper$Parser" "fault" "I" ∈ zk_BW := zk_inT 204 (by decide +kernel) rfl
theorem kw205 : Jvm.Cond.fieldLink "PlantKeeper$Parser" (23 : Nat) "PlantKeeper$Parser" "at" "I" ∈ zk_BW := zk_inT 205 (by decide +kernel) rfl
theorem kw206 : Jvm.Cond.fieldLink "PlantKeeper$Parser" (32 : Nat) "PlantKeeper$Parser" "token" "I" ∈ zk_BW := zk_inT 206 (by decide +kernel) rfl
theorem kw207 : Jvm.Cond.fieldLink "PlantKeeper$Parser" (38 : Nat) "PlantKeeper$Parser" "here" "I" ∈ zk_BW := zk_inT 207 (by decide +kernel) rfl
theorem kw208 : Jvm.Cond.fieldLink "PlantKeeper$Parser" (41 : Nat) "PlantKeeper$Parser" "open" "I" ∈ zk_BW := zk_inT 208 (by decide +kernel) rfl
theorem kw296 : Jvm.Cond.fieldLink "PlantKeeper$Judge" (109 : Nat) "PlantKeeper$Plan" "program" "I" ∈ zk_BW := zk_inT 296 (by decide +kernel) rfl
theorem kw299 : Jvm.Cond.fieldLink "PlantKeeper$Judge" (210 : Nat) "PlantKeeper$Plan" "allCells" "I" ∈ zk_BW := zk_inT 299 (by decide +kernel) rfl
theorem kw350 : Jvm.Cond.fieldLink "PlantKeeper$Judge" (65 : Nat) "PlantKeeper$Judge" "faultPlace" "I" ∈ zk_BW := zk_inT 350 (by decide +kernel) rfl
theorem kw351 : Jvm.Cond.fieldLink "PlantKeeper" (138 : Nat) "PlantKeeper$Judge" "faultPlace" "I" ∈ zk_BW := zk_inT 351 (by decide +kernel) rfl
theorem kw354 : Jvm.Cond.fieldLink "PlantKeeper$Judge" (29 : Nat) "PlantKeeper$Judge" "fault" "I" ∈ zk_BW := zk_inT 354 (by decide +kernel) rfl
theorem kw363 : Jvm.Cond.fieldLink "PlantKeeper$Judge" (33 : Nat) "PlantKeeper$Judge" "loops" "I" ∈ zk_BW := zk_inT 363 (by decide +kernel) rfl
theorem kw525 : Jvm.Cond.fieldLink "PlantKeeper$Machine" (45 : Nat) "PlantKeeper$Machine" "stopped" "Z" ∈ zk_BW := zk_inT 525 (by decide +kernel) rfl
theorem kw527 : Jvm.Cond.fieldLink "PlantKeeper$Machine" (48 : Nat) "PlantKeeper$Machine" "bound" "I" ∈ zk_BW := zk_inT 527 (by decide +kernel) rfl
theorem kw529 : Jvm.Cond.fieldLink "PlantKeeper$Machine" (52 : Nat) "PlantKeeper$Machine" "steps" "I" ∈ zk_BW := zk_inT 529 (by decide +kernel) rfl
theorem kw531 : Jvm.Cond.fieldLink "PlantKeeper$Machine" (55 : Nat) "PlantKeeper$Machine" "scans" "I" ∈ zk_BW := zk_inT 531 (by decide +kernel) rfl
theorem kw533 : Jvm.Cond.fieldLink "PlantKeeper$Machine" (58 : Nat) "PlantKeeper$Machine" "scansAbove" "I" ∈ zk_BW := zk_inT 533 (by decide +kernel) rfl
theorem kw535 : Jvm.Cond.fieldLink "PlantKeeper$Machine" (61 : Nat) "PlantKeeper$Machine" "now" "I" ∈ zk_BW := zk_inT 535 (by decide +kernel) rfl
theorem kw681 : Jvm.Cond.instanceMethod ({ cls := "PlantKeeper", name := "load", desc := "(I)I" } : Jvm.MethodName) ∈ zk_BW := zk_inT 681 (by decide +kernel) rfl
theorem kw682 : Jvm.Cond.selects "PlantKeeper" ({ cls := "PlantKeeper", name := "load", desc := "(I)I" } : Jvm.MethodName) ({ cls := "PlantKeeper", name := "load", desc := "(I)I" } : Jvm.MethodName) ∈ zk_BW := zk_inT 682 (by decide +kernel) rfl
theorem kw683 : Jvm.Cond.code ({ cls := "PlantKeeper", name := "load", desc := "(I)I" } : Jvm.MethodName) prog_1_method_5_code (2 : Nat) (Option.some FieldType.int) ∈ zk_BW := zk_inT 683 (by decide +kernel) rfl
theorem kw685 : Jvm.Cond.methodLink "PlantKeeper" (116 : Nat) ({ cls := "PlantKeeper$Machine", name := "forget", desc := "()V" } : Jvm.MethodName) ∈ zk_BW := zk_inT 685 (by decide +kernel) rfl
theorem kw686 : Jvm.Cond.instanceMethod ({ cls := "PlantKeeper$Machine", name := "forget", desc := "()V" } : Jvm.MethodName) ∈ zk_BW := zk_inT 686 (by decide +kernel) rfl
theorem kw687 : Jvm.Cond.selects "PlantKeeper$Machine" ({ cls := "PlantKeeper$Machine", name := "forget", desc := "()V" } : Jvm.MethodName) ({ cls := "PlantKeeper$Machine", name := "forget", desc := "()V" } : Jvm.MethodName) ∈ zk_BW := zk_inT 687 (by decide +kernel) rfl
theorem kw688 : Jvm.Cond.code ({ cls := "PlantKeeper$Machine", name := "forget", desc := "()V" } : Jvm.MethodName) prog_6_method_2_code (1 : Nat) (Option.none : Option FieldType) ∈ zk_BW := zk_inT 688 (by decide +kernel) rfl
theorem kw689 : Jvm.Cond.methodLink "PlantKeeper" (122 : Nat) ({ cls := "PlantKeeper$Names", name := "forget", desc := "()V" } : Jvm.MethodName) ∈ zk_BW := zk_inT 689 (by decide +kernel) rfl
theorem kw714 : Jvm.Cond.methodLink "PlantKeeper" (123 : Nat) ({ cls := "PlantKeeper$Tokens", name := "read", desc := "([BI)V" } : Jvm.MethodName) ∈ zk_BW := zk_inT 714 (by decide +kernel) rfl
theorem kw715 : Jvm.Cond.instanceMethod ({ cls := "PlantKeeper$Tokens", name := "read", desc := "([BI)V" } : Jvm.MethodName) ∈ zk_BW := zk_inT 715 (by decide +kernel) rfl
theorem kw716 : Jvm.Cond.selects "PlantKeeper$Tokens" ({ cls := "PlantKeeper$Tokens", name := "read", desc := "([BI)V" } : Jvm.MethodName) ({ cls := "PlantKeeper$Tokens", name := "read", desc := "([BI)V" } : Jvm.MethodName) ∈ zk_BW := zk_inT 716 (by decide +kernel) rfl
theorem kw717 : Jvm.Cond.code ({ cls := "PlantKeeper$Tokens", name := "read", desc := "([BI)V" } : Jvm.MethodName) prog_11_method_2_code (5 : Nat) (Option.none : Option FieldType) ∈ zk_BW := zk_inT 717 (by decide +kernel) rfl
theorem kw718 : Jvm.Cond.methodLink "PlantKeeper$Tokens" (40 : Nat) ({ cls := "PlantKeeper$Tokens", name := "skipBlanks", desc := "()Z" } : Jvm.MethodName) ∈ zk_BW := zk_inT 718 (by decide +kernel) rfl
theorem kw720 : Jvm.Cond.instanceMethod ({ cls := "PlantKeeper$Tokens", name := "skipBlanks", desc := "()Z" } : Jvm.MethodName) ∈ zk_BW := zk_inT 720 (by decide +kernel) rfl
theorem kw721 : Jvm.Cond.code ({ cls := "PlantKeeper$Tokens", name := "skipBlanks", desc := "()Z" } : Jvm.MethodName) prog_11_method_7_code (4 : Nat) (Option.some FieldType.boolean) ∈ zk_BW := zk_inT 721 (by decide +kernel) rfl
theorem kw722 : Jvm.Cond.methodLink "PlantKeeper$Tokens" (51 : Nat) ({ cls := "PlantKeeper$Tokens", name := "peek", desc := "(I)I" } : Jvm.MethodName) ∈ zk_BW := zk_inT 722 (by decide +kernel) rfl
theorem kw724 : Jvm.Cond.instanceMethod ({ cls := "PlantKeeper$Tokens", name := "peek", desc := "(I)I" } : Jvm.MethodName) ∈ zk_BW := zk_inT 724 (by decide +kernel) rfl
theorem kw725 : Jvm.Cond.code ({ cls := "PlantKeeper$Tokens", name := "peek", desc := "(I)I" } : Jvm.MethodName) prog_11_method_3_code (2 : Nat) (Option.some FieldType.int) ∈ zk_BW := zk_inT 725 (by decide +kernel) rfl
theorem kw734 : Jvm.Cond.methodLink "PlantKeeper$Tokens" (47 : Nat) ({ cls := "PlantKeeper$Tokens", name := "add", desc := "(II)V" } : Jvm.MethodName) ∈ zk_BW := zk_inT 734 (by decide +kernel) rfl
theorem kw736 : Jvm.Cond.instanceMethod ({ cls := "PlantKeeper$Tokens", name := "add", desc := "(II)V" } : Jvm.MethodName) ∈ zk_BW := zk_inT 736 (by decide +kernel) rfl
theorem kw737 : Jvm.Cond.code ({ cls := "PlantKeeper$Tokens", name := "add", desc := "(II)V" } : Jvm.MethodName) prog_11_method_4_code (3 : Nat) (Option.none : Option FieldType) ∈ zk_BW := zk_inT 737 (by decide +kernel) rfl
theorem kw738 : Jvm.Cond.methodLink "PlantKeeper$Tokens" (44 : Nat) ({ cls := "PlantKeeper$Tokens", name := "readToken", desc := "()Z" } : Jvm.MethodName) ∈ zk_BW := zk_inT 738 (by decide +kernel) rfl
theorem kw740 : Jvm.Cond.instanceMethod ({ cls := "PlantKeeper$Tokens", name := "readToken", desc := "()Z" } : Jvm.MethodName) ∈ zk_BW := zk_inT 740 (by decide +kernel) rfl
theorem kw741 : Jvm.Cond.code ({ cls := "PlantKeeper$Tokens", name := "readToken", desc := "()Z" } : Jvm.MethodName) prog_11_method_9_code (2 : Nat) (Option.some FieldType.boolean) ∈ zk_BW := zk_inT 741 (by decide +kernel) rfl
theorem kw862 : Jvm.Cond.methodLink "PlantKeeper" (127 : Nat) ({ cls := "PlantKeeper$Parser", name := "parse", desc := "()I" } : Jvm.MethodName) ∈ zk_BW := zk_inT 862 (by decide +kernel) rfl
theorem kw863 : Jvm.Cond.instanceMethod ({ cls := "PlantKeeper$Parser", name := "parse", desc := "()I" } : Jvm.MethodName) ∈ zk_BW := zk_inT 863 (by decide +kernel) rfl
theorem kw864 : Jvm.Cond.selects "PlantKeeper$Parser" ({ cls := "PlantKeeper$Parser", name := "parse", desc := "()I" } : Jvm.MethodName) ({ cls := "PlantKeeper$Parser", name := "parse", desc := "()I" } : Jvm.MethodName) ∈ zk_BW := zk_inT 864 (by decide +kernel) rfl
theorem kw865 : Jvm.Cond.code ({ cls := "PlantKeeper$Parser", name := "parse", desc := "()I" } : Jvm.MethodName) prog_8_method_2_code (4 : Nat) (Option.some FieldType.int) ∈ zk_BW := zk_inT 865 (by decide +kernel) rfl
theorem kw866 : Jvm.Cond.methodLink "PlantKeeper$Parser" (49 : Nat) ({ cls := "PlantKeeper$Tree", name := "add", desc := "(III)I" } : Jvm.MethodName) ∈ zk_BW := zk_inT 866 (by decide +kernel) rfl
theorem kw867 : Jvm.Cond.instanceMethod ({ cls := "PlantKeeper$Tree", name := "add", desc := "(III)I" } : Jvm.MethodName) ∈ zk_BW := zk_inT 867 (by decide +kernel) rfl
theorem kw868 : Jvm.Cond.selects "PlantKeeper$Tree" ({ cls := "PlantKeeper$Tree", name := "add", desc := "(III)I" } : Jvm.MethodName) ({ cls := "PlantKeeper$Tree", name := "add", desc := "(III)I" } : Jvm.MethodName) ∈ zk_BW := zk_inT 868 (by decide +kernel) rfl
theorem kw869 : Jvm.Cond.code ({ cls := "PlantKeeper$Tree", name := "add", desc := "(III)I" } : Jvm.MethodName) prog_12_method_2_code (5 : Nat) (Option.some FieldType.int) ∈ zk_BW := zk_inT 869 (by decide +kernel) rfl
theorem kw870 : Jvm.Cond.constant "PlantKeeper$Tree" (37 : Nat) (32783 : Int32) ∈ zk_BW := zk_inT 870 (by decide +kernel) rfl
theorem kw871 : Jvm.Cond.methodLink "PlantKeeper$Tree" (38 : Nat) ({ cls := "java/lang/Math", name := "min", desc := "(II)I" } : Jvm.MethodName) ∈ zk_BW := zk_inT 871 (by decide +kernel) rfl
theorem kw994 : Jvm.Cond.methodLink "PlantKeeper" (132 : Nat) ({ cls := "PlantKeeper", name := "note", desc := "(II)V" } : Jvm.MethodName) ∈ zk_BW := zk_inT 994 (by decide +kernel) rfl
theorem kw996 : Jvm.Cond.instanceMethod ({ cls := "PlantKeeper", name := "note", desc := "(II)V" } : Jvm.MethodName) ∈ zk_BW := zk_inT 996 (by decide +kernel) rfl
theorem kw997 : Jvm.Cond.code ({ cls := "PlantKeeper", name := "note", desc := "(II)V" } : Jvm.MethodName) prog_1_method_6_code (3 : Nat) (Option.none : Option FieldType) ∈ zk_BW := zk_inT 997 (by decide +kernel) rfl
theorem kw998 : Jvm.Cond.methodLink "PlantKeeper" (136 : Nat) ({ cls := "PlantKeeper$Judge", name := "judge", desc := "()I" } : Jvm.MethodName) ∈ zk_BW := zk_inT 998 (by decide +kernel) rfl
theorem kw999 : Jvm.Cond.instanceMethod ({ cls := "PlantKeeper$Judge", name := "judge", desc := "()I" } : Jvm.MethodName) ∈ zk_BW := zk_inT 999 (by decide +kernel) rfl
theorem kw1000 : Jvm.Cond.selects "PlantKeeper$Judge" ({ cls := "PlantKeeper$Judge", name := "judge", desc := "()I" } : Jvm.MethodName) ({ cls := "PlantKeeper$Judge", name := "judge", desc := "()I" } : Jvm.MethodName) ∈ zk_BW := zk_inT 1000 (by decide +kernel) rfl
theorem kw1001 : Jvm.Cond.code ({ cls := "PlantKeeper$Judge", name := "judge", desc := "()I" } : Jvm.MethodName) prog_4_method_2_code (2 : Nat) (Option.some FieldType.int) ∈ zk_BW := zk_inT 1001 (by decide +kernel) rfl
theorem kw1002 : Jvm.Cond.methodLink "PlantKeeper$Judge" (36 : Nat) ({ cls := "PlantKeeper$Plan", name := "forget", desc := "()V" } : Jvm.MethodName) ∈ zk_BW := zk_inT 1002 (by decide +kernel) rfl
theorem kw1024 : Jvm.Cond.methodLink "PlantKeeper$Judge" (41 : Nat) ({ cls := "PlantKeeper$Judge", name := "visit", desc := "(II)V" } : Jvm.MethodName) ∈ zk_BW := zk_inT 1024 (by decide +kernel) rfl
theorem kw1026 : Jvm.Cond.instanceMethod ({ cls := "PlantKeeper$Judge", name := "visit", desc := "(II)V" } : Jvm.MethodName) ∈ zk_BW := zk_inT 1026 (by decide +kernel) rfl
theorem kw1027 : Jvm.Cond.code ({ cls := "PlantKeeper$Judge", name := "visit", desc := "(II)V" } : Jvm.MethodName) prog_4_method_3_code (5 : Nat) (Option.none : Option FieldType) ∈ zk_BW := zk_inT 1027 (by decide +kernel) rfl
theorem kw1028 : Jvm.Cond.methodLink "PlantKeeper$Judge" (45 : Nat) ({ cls := "PlantKeeper$Judge", name := "enter", desc := "(I)V" } : Jvm.MethodName) ∈ zk_BW := zk_inT 1028 (by decide +kernel) rfl
theorem kw1030 : Jvm.Cond.instanceMethod ({ cls := "PlantKeeper$Judge", name := "enter", desc := "(I)V" } : Jvm.MethodName) ∈ zk_BW := zk_inT 1030 (by decide +kernel) rfl
theorem kw1031 : Jvm.Cond.code ({ cls := "PlantKeeper$Judge", name := "enter", desc := "(I)V" } : Jvm.MethodName) prog_4_method_6_code (2 : Nat) (Option.none : Option FieldType) ∈ zk_BW := zk_inT 1031 (by decide +kernel) rfl
theorem kw1036 : Jvm.Cond.methodLink "PlantKeeper$Judge" (112 : Nat) ({ cls := "PlantKeeper$Judge", name := "refuseIf", desc := "(ZII)V" } : Jvm.MethodName) ∈ zk_BW := zk_inT 1036 (by decide +kernel) rfl
theorem kw1038 : Jvm.Cond.instanceMethod ({ cls := "PlantKeeper$Judge", name := "refuseIf", desc := "(ZII)V" } : Jvm.MethodName) ∈ zk_BW := zk_inT 1038 (by decide +kernel) rfl
theorem kw1039 : Jvm.Cond.code ({ cls := "PlantKeeper$Judge", name := "refuseIf", desc := "(ZII)V" } : Jvm.MethodName) prog_4_method_5_code (4 : Nat) (Option.none : Option FieldType) ∈ zk_BW := zk_inT 1039 (by decide +kernel) rfl
theorem kw1040 : Jvm.Cond.methodLink "PlantKeeper$Judge" (68 : Nat) ({ cls := "PlantKeeper$Judge", name := "refuse", desc := "(II)V" } : Jvm.MethodName) ∈ zk_BW := zk_inT 1040 (by decide +kernel) rfl
theorem kw1042 : Jvm.Cond.instanceMethod ({ cls := "PlantKeeper$Judge", name := "refuse", desc := "(II)V" } : Jvm.MethodName) ∈ zk_BW := zk_inT 1042 (by decide +kernel) rfl
theorem kw1043 : Jvm.Cond.code ({ cls := "PlantKeeper$Judge", name := "refuse", desc := "(II)V" } : Jvm.MethodName) prog_4_method_4_code (3 : Nat) (Option.none : Option FieldType) ∈ zk_BW := zk_inT 1043 (by decide +kernel) rfl
theorem kw1053 : Jvm.Cond.methodLink "PlantKeeper$Judge" (58 : Nat) ({ cls := "PlantKeeper$Judge", name := "leave", desc := "(I)V" } : Jvm.MethodName) ∈ zk_BW := zk_inT 1053 (by decide +kernel) rfl
theorem kw1055 : Jvm.Cond.instanceMethod ({ cls := "PlantKeeper$Judge", name := "leave", desc := "(I)V" } : Jvm.MethodName) ∈ zk_BW := zk_inT 1055 (by decide +kernel) rfl
theorem kw1056 : Jvm.Cond.code ({ cls := "PlantKeeper$Judge", name := "leave", desc := "(I)V" } : Jvm.MethodName) prog_4_method_8_code (3 : Nat) (Option.none : Option FieldType) ∈ zk_BW := zk_inT 1056 (by decide +kernel) rfl
theorem kw1057 : Jvm.Cond.methodLink "PlantKeeper$Judge" (142 : Nat) ({ cls := "PlantKeeper$Judge", name := "leaveText", desc := "(I)V" } : Jvm.MethodName) ∈ zk_BW := zk_inT 1057 (by decide +kernel) rfl
theorem kw1059 : Jvm.Cond.instanceMethod ({ cls := "PlantKeeper$Judge", name := "leaveText", desc := "(I)V" } : Jvm.MethodName) ∈ zk_BW := zk_inT 1059 (by decide +kernel) rfl
theorem kw1060 : Jvm.Cond.code ({ cls := "PlantKeeper$Judge", name := "leaveText", desc := "(I)V" } : Jvm.MethodName) prog_4_method_9_code (2 : Nat) (Option.none : Option FieldType) ∈ zk_BW := zk_inT 1060 (by decide +kernel) rfl
theorem kw1061 : Jvm.Cond.methodLink "PlantKeeper$Judge" (207 : Nat) ({ cls := "PlantKeeper$Plan", name := "layOut", desc := "()V" } : Jvm.MethodName) ∈ zk_BW := zk_inT 1061 (by decide +kernel) rfl
theorem kw1062 : Jvm.Cond.instanceMethod ({ cls := "PlantKeeper$Plan", name := "layOut", desc := "()V" } : Jvm.MethodName) ∈ zk_BW := zk_inT 1062 (by decide +kernel) rfl
theorem kw1063 : Jvm.Cond.selects "PlantKeeper$Plan" ({ cls := "PlantKeeper$Plan", name := "layOut", desc := "()V" } : Jvm.MethodName) ({ cls := "PlantKeeper$Plan", name := "layOut", desc := "()V" } : Jvm.MethodName) ∈ zk_BW := zk_inT 1063 (by decide +kernel) rfl
theorem kw1064 : Jvm.Cond.code ({ cls := "PlantKeeper$Plan", name := "layOut", desc := "()V" } : Jvm.MethodName) prog_9_method_10_code (2 : Nat) (Option.none : Option FieldType) ∈ zk_BW := zk_inT 1064 (by decide +kernel) rfl
abbrev kc_Jd_enter : ByteArray := prog_4_method_6_code
def km_Jd_enter : zk_MT := (⟨"PlantKeeper$Judge", "enter", "(I)V"⟩, kc_Jd_enter, 2, none, 1)
theorem ku_Jd_enter : zk_My km_Jd_enter := ⟨kw1031, kw11, by decide, by decide, by decide, by decide +kernel⟩
theorem kv_Jd_enter : zk_Mv km_Jd_enter := ⟨kw1030, zk_inS 49 (q := (⟨"PlantKeeper$Judge", "enter", "(I)V"⟩, 14)) (by decide +kernel)⟩
abbrev kc_Pl_layOut : ByteArray := prog_9_method_10_code
def km_Pl_layOut : zk_MT := (⟨"PlantKeeper$Plan", "layOut", "()V"⟩, kc_Pl_layOut, 2, none, 0)
theorem ku_Pl_layOut : zk_My km_Pl_layOut := ⟨kw1064, kw10, by decide, by decide, by decide, by decide +kernel⟩
theorem kv_Pl_layOut : zk_Mv km_Pl_layOut := ⟨kw1062, kw1063⟩
abbrev kc_Jd_refuse : ByteArray := prog_4_method_4_code
def km_Jd_refuse : zk_MT := (⟨"PlantKeeper$Judge", "refuse", "(II)V"⟩, kc_Jd_refuse, 3, none, 2)
theorem ku_Jd_refuse : zk_My km_Jd_refuse := ⟨kw1043, kw11, by decide, by decide, by decide, by decide +kernel⟩
theorem kv_Jd_refuse : zk_Mv km_Jd_refuse := ⟨kw1042, zk_inS 52 (q := (⟨"PlantKeeper$Judge", "refuse", "(II)V"⟩, 14)) (by decide +kernel)⟩
abbrev kc_Jd_refuseIf : ByteArray := prog_4_method_5_code
def km_Jd_refuseIf : zk_MT := (⟨"PlantKeeper$Judge", "refuseIf", "(ZII)V"⟩, kc_Jd_refuseIf, 4, none, 3)
theorem ku_Jd_refuseIf : zk_My km_Jd_refuseIf := ⟨kw1039, kw11, by decide, by decide, by decide, by decide +kernel⟩
theorem kv_Jd_refuseIf : zk_Mv km_Jd_refuseIf := ⟨kw1038, zk_inS 51 (q := (⟨"PlantKeeper$Judge", "refuseIf", "(ZII)V"⟩, 14)) (by decide +kernel)⟩
abbrev kc_Jd_leaveText : ByteArray := prog_4_method_9_code
def km_Jd_leaveText : zk_MT := (⟨"PlantKeeper$Judge", "leaveText", "(I)V"⟩, kc_Jd_leaveText, 2, none, 1)
theorem ku_Jd_leaveText : zk_My km_Jd_leaveText := ⟨kw1060, kw11, by decide, by decide, by decide, by decide +kernel⟩
theorem kv_Jd_leaveText : zk_Mv km_Jd_leaveText := ⟨kw1059, zk_inS 54 (q := (⟨"PlantKeeper$Judge", "leaveText", "(I)V"⟩, 14)) (by decide +kernel)⟩
abbrev kc_Jd_leave : ByteArray := prog_4_method_8_code
def km_Jd_leave : zk_MT := (⟨"PlantKeeper$Judge", "leave", "(I)V"⟩, kc_Jd_leave, 3, none, 1)
theorem ku_Jd_leave : zk_My km_Jd_leave := ⟨kw1056, kw11, by decide, by decide, by decide, by decide +kernel⟩
theorem kv_Jd_leave : zk_Mv km_Jd_leave := ⟨kw1055, zk_inS 53 (q := (⟨"PlantKeeper$Judge", "leave", "(I)V"⟩, 14)) (by decide +kernel)⟩
abbrev kc_Jd_visit : ByteArray := prog_4_method_3_code
def km_Jd_visit : zk_MT := (⟨"PlantKeeper$Judge", "visit", "(II)V"⟩, kc_Jd_visit, 5, none, 2)
theorem ku_Jd_visit : zk_My km_Jd_visit := ⟨kw1027, kw11, by decide, by decide, by decide, by decide +kernel⟩
theorem kv_Jd_visit : zk_Mv km_Jd_visit := ⟨kw1026, zk_inS 48 (q := (⟨"PlantKeeper$Judge", "visit", "(II)V"⟩, 14)) (by decide +kernel)⟩
abbrev kc_Jd_judge : ByteArray := prog_4_method_2_code
def km_Jd_judge : zk_MT := (⟨"PlantKeeper$Judge", "judge", "()I"⟩, kc_Jd_judge, 2, some .int, 0)
theorem ku_Jd_judge : zk_My km_Jd_judge := ⟨kw1001, kw11, by decide, by decide, by decide, by decide +kernel⟩
theorem kv_Jd_judge : zk_Mv km_Jd_judge := ⟨kw999, kw1000⟩
abbrev kc_Mc_forget : ByteArray := prog_6_method_2_code
def km_Mc_forget : zk_MT := (⟨"PlantKeeper$Machine", "forget", "()V"⟩, kc_Mc_forget, 1, none, 0)
theorem ku_Mc_forget : zk_My km_Mc_forget := ⟨kw688, kw15, by decide, by decide, by decide, by decide +kernel⟩
theorem kv_Mc_forget : zk_Mv km_Mc_forget := ⟨kw686, kw687⟩
abbrev kc_Tk_peek : ByteArray := prog_11_method_3_code
def km_Tk_peek : zk_MT := (⟨"PlantKeeper$Tokens", "peek", "(I)I"⟩, kc_Tk_peek, 2, some .int, 1)
theorem ku_Tk_peek : zk_My km_Tk_peek := ⟨kw725, kw7, by decide, by decide, by decide, by decide +kernel⟩
theorem kv_Tk_peek : zk_Mv km_Tk_peek := ⟨kw724, zk_inS 3 (q := (⟨"PlantKeeper$Tokens", "peek", "(I)I"⟩, 8)) (by decide +kernel)⟩
abbrev kc_Tk_skipBlanks : ByteArray := prog_11_method_7_code
def km_Tk_skipBlanks : zk_MT := (⟨"PlantKeeper$Tokens", "skipBlanks", "()Z"⟩, kc_Tk_skipBlanks, 4, some .boolean, 0)
theorem ku_Tk_skipBlanks : zk_My km_Tk_skipBlanks := ⟨kw721, kw7, by decide, by decide, by decide, by decide +kernel⟩
theorem kv_Tk_skipBlanks : zk_Mv km_Tk_skipBlanks := ⟨kw720, zk_inS 2 (q := (⟨"PlantKeeper$Tokens", "skipBlanks", "()Z"⟩, 8)) (by decide +kernel)⟩
abbrev kc_Tk_add : ByteArray := prog_11_method_4_code
def km_Tk_add : zk_MT := (⟨"PlantKeeper$Tokens", "add", "(II)V"⟩, kc_Tk_add, 3, none, 2)
theorem ku_Tk_add : zk_My km_Tk_add := ⟨kw737, kw7, by decide, by decide, by decide, by decide +kernel⟩
theorem kv_Tk_add : zk_Mv km_Tk_add := ⟨kw736, zk_inS 6 (q := (⟨"PlantKeeper$Tokens", "add", "(II)V"⟩, 8)) (by decide +kernel)⟩
abbrev kc_Tk_readToken : ByteArray := prog_11_method_9_code
def km_Tk_readToken : zk_MT := (⟨"PlantKeeper$Tokens", "readToken", "()Z"⟩, kc_Tk_readToken, 2, some .boolean, 0)
theorem ku_Tk_readToken : zk_My km_Tk_readToken := ⟨kw741, kw7, by decide, by decide, by decide, by decide +kernel⟩
theorem kv_Tk_readToken : zk_Mv km_Tk_readToken := ⟨kw740, zk_inS 7 (q := (⟨"PlantKeeper$Tokens", "readToken", "()Z"⟩, 8)) (by decide +kernel)⟩
abbrev kc_Tk_read : ByteArray := prog_11_method_2_code
def km_Tk_read : zk_MT := (⟨"PlantKeeper$Tokens", "read", "([BI)V"⟩, kc_Tk_read, 5, none, 2)
theorem ku_Tk_read : zk_My km_Tk_read := ⟨kw717, kw7, by decide, by decide, by decide, by decide +kernel⟩
theorem kv_Tk_read : zk_Mv km_Tk_read := ⟨kw715, kw716⟩
abbrev kc_Tr_add : ByteArray := prog_12_method_2_code
def km_Tr_add : zk_MT := (⟨"PlantKeeper$Tree", "add", "(III)I"⟩, kc_Tr_add, 5, some .int, 3)
theorem ku_Tr_add : zk_My km_Tr_add := ⟨kw869, kw8, by decide, by decide, by decide, by decide +kernel⟩
theorem kv_Tr_add : zk_Mv km_Tr_add := ⟨kw867, kw868⟩
abbrev kc_Ps_parse : ByteArray := prog_8_method_2_code
def km_Ps_parse : zk_MT := (⟨"PlantKeeper$Parser", "parse", "()I"⟩, kc_Ps_parse, 4, some .int, 0)
theorem ku_Ps_parse : zk_My km_Ps_parse := ⟨kw865, kw9, by decide, by decide, by decide, by decide +kernel⟩
theorem kv_Ps_parse : zk_Mv km_Ps_parse := ⟨kw863, kw864⟩
abbrev kc_Pk_note : ByteArray := prog_1_method_6_code
def km_Pk_note : zk_MT := (⟨"PlantKeeper", "note", "(II)V"⟩, kc_Pk_note, 3, none, 2)
theorem ku_Pk_note : zk_My km_Pk_note := ⟨kw997, kw1, by decide, by decide, by decide, by decide +kernel⟩
theorem kv_Pk_note : zk_Mv km_Pk_note := ⟨kw996, zk_inS 46 (q := (⟨"PlantKeeper", "note", "(II)V"⟩, 16)) (by decide +kernel)⟩
abbrev kc_Pk_load : ByteArray := prog_1_method_5_code
def km_Pk_load : zk_MT := (⟨"PlantKeeper", "load", "(I)I"⟩, kc_Pk_load, 2, some .int, 1)
theorem ku_Pk_load : zk_My km_Pk_load := ⟨kw683, kw1, by decide, by decide, by decide, by decide +kernel⟩
theorem kv_Pk_load : zk_Mv km_Pk_load := ⟨kw681, kw682⟩
theorem kd_Jd_enter_0 : decode kc_Jd_enter 0 = .ok (.aload_n 0, 1) := by decide +kernel
theorem kd_Jd_enter_1 : decode kc_Jd_enter 1 = .ok (.getfield 9, 3) := by decide +kernel
theorem kd_Jd_enter_4 : decode kc_Jd_enter 4 = .ok (.getfield 71, 3) := by decide +kernel
theorem kd_Jd_enter_7 : decode kc_Jd_enter 7 = .ok (.iload_n 1, 1) := by decide +kernel
theorem kd_Jd_enter_8 : decode kc_Jd_enter 8 = .ok (.baload, 1) := by decide +kernel
theorem kd_Jd_enter_9 : decode kc_Jd_enter 9 = .ok (.tableswitch 302 1 24 #[111, 111, 111, 119, 135, 302, 302, 302, 302, 302, 302, 302, 149, 302, 302, 213, 302, 302, 226, 302, 302, 279, 302, 294], 111) := by decide +kernel
theorem kd_Jd_enter_120 : decode kc_Jd_enter 120 = .ok (.aload_n 0, 1) := by decide +kernel
theorem kd_Jd_enter_121 : decode kc_Jd_enter 121 = .ok (.iload_n 1, 1) := by decide +kernel
theorem kd_Jd_enter_122 : decode kc_Jd_enter 122 = .ok (.invokevirtual 75, 3) := by decide +kernel
theorem kd_Jd_enter_125 : decode kc_Jd_enter 125 = .ok (.goto 186, 3) := by decide +kernel
theorem kd_Jd_enter_128 : decode kc_Jd_enter 128 = .ok (.aload_n 0, 1) := by decide +kernel
theorem kd_Jd_enter_129 : decode kc_Jd_enter 129 = .ok (.aload_n 0, 1) := by decide +kernel
theorem kd_Jd_enter_130 : decode kc_Jd_enter 130 = .ok (.getfield 9, 3) := by decide +kernel
theorem kd_Jd_enter_133 : decode kc_Jd_enter 133 = .ok (.getfield 78, 3) := by decide +kernel
theorem kd_Jd_enter_136 : decode kc_Jd_enter 136 = .ok (.iload_n 1, 1) := by decide +kernel
theorem kd_Jd_enter_137 : decode kc_Jd_enter 137 = .ok (.iaload, 1) := by decide +kernel
theorem kd_Jd_enter_138 : decode kc_Jd_enter 138 = .ok (.putfield 81, 3) := by decide +kernel
theorem kd_Jd_enter_141 : decode kc_Jd_enter 141 = .ok (.goto 170, 3) := by decide +kernel
theorem kd_Jd_enter_144 : decode kc_Jd_enter 144 = .ok (.aload_n 0, 1) := by decide +kernel
theorem kd_Jd_enter_145 : decode kc_Jd_enter 145 = .ok (.aload_n 0, 1) := by decide +kernel
theorem kd_Jd_enter_146 : decode kc_Jd_enter 146 = .ok (.getfield 15, 3) := by decide +kernel
theorem kd_Jd_enter_149 : decode kc_Jd_enter 149 = .ok (.getfield 84, 3) := by decide +kernel
theorem kd_Jd_enter_152 : decode kc_Jd_enter 152 = .ok (.putfield 87, 3) := by decide +kernel
theorem kd_Jd_enter_155 : decode kc_Jd_enter 155 = .ok (.goto 156, 3) := by decide +kernel
theorem kd_Jd_enter_158 : decode kc_Jd_enter 158 = .ok (.aload_n 0, 1) := by decide +kernel
theorem kd_Jd_enter_159 : decode kc_Jd_enter 159 = .ok (.aload_n 0, 1) := by decide +kernel
theorem kd_Jd_enter_160 : decode kc_Jd_enter 160 = .ok (.getfield 9, 3) := by decide +kernel
theorem kd_Jd_enter_163 : decode kc_Jd_enter 163 = .ok (.getfield 49, 3) := by decide +kernel
theorem kd_Jd_enter_166 : decode kc_Jd_enter 166 = .ok (.iload_n 1, 1) := by decide +kernel
theorem kd_Jd_enter_167 : decode kc_Jd_enter 167 = .ok (.iaload, 1) := by decide +kernel
theorem kd_Jd_enter_168 : decode kc_Jd_enter 168 = .ok (.putfield 90, 3) := by decide +kernel
theorem kd_Jd_enter_171 : decode kc_Jd_enter 171 = .ok (.aload_n 0, 1) := by decide +kernel
theorem kd_Jd_enter_172 : decode kc_Jd_enter 172 = .ok (.aload_n 0, 1) := by decide +kernel
theorem kd_Jd_enter_173 : decode kc_Jd_enter 173 = .ok (.getfield 15, 3) := by decide +kernel
theorem kd_Jd_enter_176 : decode kc_Jd_enter 176 = .ok (.aload_n 0, 1) := by decide +kernel
theorem kd_Jd_enter_177 : decode kc_Jd_enter 177 = .ok (.getfield 9, 3) := by decide +kernel
theorem kd_Jd_enter_180 : decode kc_Jd_enter 180 = .ok (.getfield 78, 3) := by decide +kernel
theorem kd_Jd_enter_183 : decode kc_Jd_enter 183 = .ok (.iload_n 1, 1) := by decide +kernel
theorem kd_Jd_enter_184 : decode kc_Jd_enter 184 = .ok (.iaload, 1) := by decide +kernel
theorem kd_Jd_enter_185 : decode kc_Jd_enter 185 = .ok (.invokevirtual 93, 3) := by decide +kernel
theorem kd_Jd_enter_188 : decode kc_Jd_enter 188 = .ok (.putfield 97, 3) := by decide +kernel
theorem kd_Jd_enter_191 : decode kc_Jd_enter 191 = .ok (.aload_n 0, 1) := by decide +kernel
theorem kd_Jd_enter_192 : decode kc_Jd_enter 192 = .ok (.getfield 97, 3) := by decide +kernel
theorem kd_Jd_enter_195 : decode kc_Jd_enter 195 = .ok (.iconst (-1), 1) := by decide +kernel
theorem kd_Jd_enter_196 : decode kc_Jd_enter 196 = .ok (.if_icmp .eq 115, 3) := by decide +kernel
theorem kd_Jd_enter_199 : decode kc_Jd_enter 199 = .ok (.aload_n 0, 1) := by decide +kernel
theorem kd_Jd_enter_200 : decode kc_Jd_enter 200 = .ok (.getfield 15, 3) := by decide +kernel
theorem kd_Jd_enter_203 : decode kc_Jd_enter 203 = .ok (.getfield 100, 3) := by decide +kernel
theorem kd_Jd_enter_206 : decode kc_Jd_enter 206 = .ok (.aload_n 0, 1) := by decide +kernel
theorem kd_Jd_enter_207 : decode kc_Jd_enter 207 = .ok (.getfield 97, 3) := by decide +kernel
theorem kd_Jd_enter_210 : decode kc_Jd_enter 210 = .ok (.iaload, 1) := by decide +kernel
theorem kd_Jd_enter_211 : decode kc_Jd_enter 211 = .ok (.ifCond .ge 100, 3) := by decide +kernel
theorem kd_Jd_enter_214 : decode kc_Jd_enter 214 = .ok (.aload_n 0, 1) := by decide +kernel
theorem kd_Jd_enter_215 : decode kc_Jd_enter 215 = .ok (.iconst (-1), 1) := by decide +kernel
theorem kd_Jd_enter_216 : decode kc_Jd_enter 216 = .ok (.putfield 97, 3) := by decide +kernel
theorem kd_Jd_enter_219 : decode kc_Jd_enter 219 = .ok (.goto 92, 3) := by decide +kernel
theorem kd_Jd_enter_222 : decode kc_Jd_enter 222 = .ok (.aload_n 0, 1) := by decide +kernel
theorem kd_Jd_enter_223 : decode kc_Jd_enter 223 = .ok (.dup, 1) := by decide +kernel
theorem kd_Jd_enter_224 : decode kc_Jd_enter 224 = .ok (.getfield 103, 3) := by decide +kernel
theorem kd_Jd_enter_227 : decode kc_Jd_enter 227 = .ok (.iconst 1, 1) := by decide +kernel
theorem kd_Jd_enter_228 : decode kc_Jd_enter 228 = .ok (.iadd, 1) := by decide +kernel
theorem kd_Jd_enter_229 : decode kc_Jd_enter 229 = .ok (.putfield 103, 3) := by decide +kernel
theorem kd_Jd_enter_232 : decode kc_Jd_enter 232 = .ok (.goto 79, 3) := by decide +kernel
theorem kd_Jd_enter_235 : decode kc_Jd_enter 235 = .ok (.aload_n 0, 1) := by decide +kernel
theorem kd_Jd_enter_236 : decode kc_Jd_enter 236 = .ok (.dup, 1) := by decide +kernel
theorem kd_Jd_enter_237 : decode kc_Jd_enter 237 = .ok (.getfield 103, 3) := by decide +kernel
theorem kd_Jd_enter_240 : decode kc_Jd_enter 240 = .ok (.iconst 1, 1) := by decide +kernel
theorem kd_Jd_enter_241 : decode kc_Jd_enter 241 = .ok (.iadd, 1) := by decide +kernel
theorem kd_Jd_enter_242 : decode kc_Jd_enter 242 = .ok (.putfield 103, 3) := by decide +kernel
theorem kd_Jd_enter_245 : decode kc_Jd_enter 245 = .ok (.aload_n 0, 1) := by decide +kernel
theorem kd_Jd_enter_246 : decode kc_Jd_enter 246 = .ok (.getfield 33, 3) := by decide +kernel
theorem kd_Jd_enter_249 : decode kc_Jd_enter 249 = .ok (.aload_n 0, 1) := by decide +kernel
theorem kd_Jd_enter_250 : decode kc_Jd_enter 250 = .ok (.getfield 21, 3) := by decide +kernel
theorem kd_Jd_enter_253 : decode kc_Jd_enter 253 = .ok (.arraylength, 1) := by decide +kernel
theorem kd_Jd_enter_254 : decode kc_Jd_enter 254 = .ok (.if_icmp .ge 57, 3) := by decide +kernel
theorem kd_Jd_enter_257 : decode kc_Jd_enter 257 = .ok (.aload_n 0, 1) := by decide +kernel
theorem kd_Jd_enter_258 : decode kc_Jd_enter 258 = .ok (.getfield 21, 3) := by decide +kernel
theorem kd_Jd_enter_261 : decode kc_Jd_enter 261 = .ok (.aload_n 0, 1) := by decide +kernel
theorem kd_Jd_enter_262 : decode kc_Jd_enter 262 = .ok (.getfield 33, 3) := by decide +kernel
theorem kd_Jd_enter_265 : decode kc_Jd_enter 265 = .ok (.aload_n 0, 1) := by decide +kernel
theorem kd_Jd_enter_266 : decode kc_Jd_enter 266 = .ok (.getfield 9, 3) := by decide +kernel
theorem kd_Jd_enter_269 : decode kc_Jd_enter 269 = .ok (.getfield 78, 3) := by decide +kernel
theorem kd_Jd_enter_272 : decode kc_Jd_enter 272 = .ok (.iload_n 1, 1) := by decide +kernel
theorem kd_Jd_enter_273 : decode kc_Jd_enter 273 = .ok (.iaload, 1) := by decide +kernel
theorem kd_Jd_enter_274 : decode kc_Jd_enter 274 = .ok (.iastore, 1) := by decide +kernel
theorem kd_Jd_enter_275 : decode kc_Jd_enter 275 = .ok (.aload_n 0, 1) := by decide +kernel
theorem kd_Jd_enter_276 : decode kc_Jd_enter 276 = .ok (.dup, 1) := by decide +kernel
theorem kd_Jd_enter_277 : decode kc_Jd_enter 277 = .ok (.getfield 33, 3) := by decide +kernel
theorem kd_Jd_enter_280 : decode kc_Jd_enter 280 = .ok (.iconst 1, 1) := by decide +kernel
theorem kd_Jd_enter_281 : decode kc_Jd_enter 281 = .ok (.iadd, 1) := by decide +kernel
theorem kd_Jd_enter_282 : decode kc_Jd_enter 282 = .ok (.putfield 33, 3) := by decide +kernel
theorem kd_Jd_enter_285 : decode kc_Jd_enter 285 = .ok (.goto 26, 3) := by decide +kernel
theorem kd_Jd_enter_288 : decode kc_Jd_enter 288 = .ok (.aload_n 0, 1) := by decide +kernel
theorem kd_Jd_enter_289 : decode kc_Jd_enter 289 = .ok (.dup, 1) := by decide +kernel
theorem kd_Jd_enter_290 : decode kc_Jd_enter 290 = .ok (.getfield 103, 3) := by decide +kernel
theorem kd_Jd_enter_293 : decode kc_Jd_enter 293 = .ok (.sipush 156, 3) := by decide +kernel
theorem kd_Jd_enter_296 : decode kc_Jd_enter 296 = .ok (.iadd, 1) := by decide +kernel
theorem kd_Jd_enter_297 : decode kc_Jd_enter 297 = .ok (.putfield 103, 3) := by decide +kernel
theorem kd_Jd_enter_300 : decode kc_Jd_enter 300 = .ok (.goto 11, 3) := by decide +kernel
theorem kd_Jd_enter_303 : decode kc_Jd_enter 303 = .ok (.aload_n 0, 1) := by decide +kernel
theorem kd_Jd_enter_304 : decode kc_Jd_enter 304 = .ok (.iload_n 1, 1) := by decide +kernel
theorem kd_Jd_enter_305 : decode kc_Jd_enter 305 = .ok (.putfield 106, 3) := by decide +kernel
theorem kd_Jd_enter_308 : decode kc_Jd_enter 308 = .ok (.goto 3, 3) := by decide +kernel
theorem kd_Jd_enter_311 : decode kc_Jd_enter 311 = .ok (.return_, 1) := by decide +kernel
theorem kd_Pl_layOut_0 : decode kc_Pl_layOut 0 = .ok (.aload_n 0, 1) := by decide +kernel
theorem kd_Pl_layOut_1 : decode kc_Pl_layOut 1 = .ok (.aload_n 0, 1) := by decide +kernel
theorem kd_Pl_layOut_2 : decode kc_Pl_layOut 2 = .ok (.getfield 78, 3) := by decide +kernel
theorem kd_Pl_layOut_5 : decode kc_Pl_layOut 5 = .ok (.iconst (-1), 1) := by decide +kernel
theorem kd_Pl_layOut_6 : decode kc_Pl_layOut 6 = .ok (.if_icmp .ne 7, 3) := by decide +kernel
theorem kd_Pl_layOut_9 : decode kc_Pl_layOut 9 = .ok (.iconst 0, 1) := by decide +kernel
theorem kd_Pl_layOut_10 : decode kc_Pl_layOut 10 = .ok (.goto 12, 3) := by decide +kernel
theorem kd_Pl_layOut_13 : decode kc_Pl_layOut 13 = .ok (.aload_n 0, 1) := by decide +kernel
theorem kd_Pl_layOut_14 : decode kc_Pl_layOut 14 = .ok (.getfield 27, 3) := by decide +kernel
theorem kd_Pl_layOut_17 : decode kc_Pl_layOut 17 = .ok (.aload_n 0, 1) := by decide +kernel
theorem kd_Pl_layOut_18 : decode kc_Pl_layOut 18 = .ok (.getfield 78, 3) := by decide +kernel
theorem kd_Pl_layOut_21 : decode kc_Pl_layOut 21 = .ok (.iaload, 1) := by decide +kernel
theorem kd_Pl_layOut_22 : decode kc_Pl_layOut 22 = .ok (.putfield 81, 3) := by decide +kernel
theorem kd_Pl_layOut_25 : decode kc_Pl_layOut 25 = .ok (.bipush 9, 2) := by decide +kernel
theorem kd_Pl_layOut_27 : decode kc_Pl_layOut 27 = .ok (.istore_n 1, 1) := by decide +kernel
theorem kd_Pl_layOut_28 : decode kc_Pl_layOut 28 = .ok (.iload_n 1, 1) := by decide +kernel
theorem kd_Pl_layOut_29 : decode kc_Pl_layOut 29 = .ok (.aload_n 0, 1) := by decide +kernel
theorem kd_Pl_layOut_30 : decode kc_Pl_layOut 30 = .ok (.getfield 71, 3) := by decide +kernel
theorem kd_Pl_layOut_33 : decode kc_Pl_layOut 33 = .ok (.if_icmp .ge 44, 3) := by decide +kernel
theorem kd_Pl_layOut_36 : decode kc_Pl_layOut 36 = .ok (.aload_n 0, 1) := by decide +kernel
theorem kd_Pl_layOut_37 : decode kc_Pl_layOut 37 = .ok (.getfield 11, 3) := by decide +kernel
theorem kd_Pl_layOut_40 : decode kc_Pl_layOut 40 = .ok (.iload_n 1, 1) := by decide +kernel
theorem kd_Pl_layOut_41 : decode kc_Pl_layOut 41 = .ok (.iaload, 1) := by decide +kernel
theorem kd_Pl_layOut_42 : decode kc_Pl_layOut 42 = .ok (.iconst 1, 1) := by decide +kernel
theorem kd_Pl_layOut_43 : decode kc_Pl_layOut 43 = .ok (.if_icmp .ne 28, 3) := by decide +kernel
theorem kd_Pl_layOut_46 : decode kc_Pl_layOut 46 = .ok (.aload_n 0, 1) := by decide +kernel
theorem kd_Pl_layOut_47 : decode kc_Pl_layOut 47 = .ok (.getfield 30, 3) := by decide +kernel
theorem kd_Pl_layOut_50 : decode kc_Pl_layOut 50 = .ok (.iload_n 1, 1) := by decide +kernel
theorem kd_Pl_layOut_51 : decode kc_Pl_layOut 51 = .ok (.aload_n 0, 1) := by decide +kernel
theorem kd_Pl_layOut_52 : decode kc_Pl_layOut 52 = .ok (.getfield 81, 3) := by decide +kernel
theorem kd_Pl_layOut_55 : decode kc_Pl_layOut 55 = .ok (.iastore, 1) := by decide +kernel
theorem kd_Pl_layOut_56 : decode kc_Pl_layOut 56 = .ok (.aload_n 0, 1) := by decide +kernel
theorem kd_Pl_layOut_57 : decode kc_Pl_layOut 57 = .ok (.dup, 1) := by decide +kernel
theorem kd_Pl_layOut_58 : decode kc_Pl_layOut 58 = .ok (.getfield 81, 3) := by decide +kernel
theorem kd_Pl_layOut_61 : decode kc_Pl_layOut 61 = .ok (.aload_n 0, 1) := by decide +kernel
theorem kd_Pl_layOut_62 : decode kc_Pl_layOut 62 = .ok (.getfield 27, 3) := by decide +kernel
theorem kd_Pl_layOut_65 : decode kc_Pl_layOut 65 = .ok (.iload_n 1, 1) := by decide +kernel
theorem kd_Pl_layOut_66 : decode kc_Pl_layOut 66 = .ok (.iaload, 1) := by decide +kernel
theorem kd_Pl_layOut_67 : decode kc_Pl_layOut 67 = .ok (.iadd, 1) := by decide +kernel
theorem kd_Pl_layOut_68 : decode kc_Pl_layOut 68 = .ok (.putfield 81, 3) := by decide +kernel
theorem kd_Pl_layOut_71 : decode kc_Pl_layOut 71 = .ok (.iinc 1 1, 3) := by decide +kernel
theorem kd_Pl_layOut_74 : decode kc_Pl_layOut 74 = .ok (.goto (-46), 3) := by decide +kernel
theorem kd_Pl_layOut_77 : decode kc_Pl_layOut 77 = .ok (.return_, 1) := by decide +kernel
theorem kd_Jd_refuse_0 : decode kc_Jd_refuse 0 = .ok (.aload_n 0, 1) := by decide +kernel
theorem kd_Jd_refuse_1 : decode kc_Jd_refuse 1 = .ok (.getfield 29, 3) := by decide +kernel
theorem kd_Jd_refuse_4 : decode kc_Jd_refuse 4 = .ok (.ifCond .ne 21, 3) := by decide +kernel
theorem kd_Jd_refuse_7 : decode kc_Jd_refuse 7 = .ok (.aload_n 0, 1) := by decide +kernel
theorem kd_Jd_refuse_8 : decode kc_Jd_refuse 8 = .ok (.iload_n 1, 1) := by decide +kernel
theorem kd_Jd_refuse_9 : decode kc_Jd_refuse 9 = .ok (.putfield 29, 3) := by decide +kernel
theorem kd_Jd_refuse_12 : decode kc_Jd_refuse 12 = .ok (.aload_n 0, 1) := by decide +kernel
theorem kd_Jd_refuse_13 : decode kc_Jd_refuse 13 = .ok (.aload_n 0, 1) := by decide +kernel
theorem kd_Jd_refuse_14 : decode kc_Jd_refuse 14 = .ok (.getfield 9, 3) := by decide +kernel
theorem kd_Jd_refuse_17 : decode kc_Jd_refuse 17 = .ok (.getfield 61, 3) := by decide +kernel
theorem kd_Jd_refuse_20 : decode kc_Jd_refuse 20 = .ok (.iload_n 2, 1) := by decide +kernel
theorem kd_Jd_refuse_21 : decode kc_Jd_refuse 21 = .ok (.caload, 1) := by decide +kernel
theorem kd_Jd_refuse_22 : decode kc_Jd_refuse 22 = .ok (.putfield 65, 3) := by decide +kernel
theorem kd_Jd_refuse_25 : decode kc_Jd_refuse 25 = .ok (.return_, 1) := by decide +kernel
theorem kd_Jd_refuseIf_0 : decode kc_Jd_refuseIf 0 = .ok (.iload_n 1, 1) := by decide +kernel
theorem kd_Jd_refuseIf_1 : decode kc_Jd_refuseIf 1 = .ok (.ifCond .eq 9, 3) := by decide +kernel
theorem kd_Jd_refuseIf_4 : decode kc_Jd_refuseIf 4 = .ok (.aload_n 0, 1) := by decide +kernel
theorem kd_Jd_refuseIf_5 : decode kc_Jd_refuseIf 5 = .ok (.iload_n 2, 1) := by decide +kernel
theorem kd_Jd_refuseIf_6 : decode kc_Jd_refuseIf 6 = .ok (.iload_n 3, 1) := by decide +kernel
theorem kd_Jd_refuseIf_7 : decode kc_Jd_refuseIf 7 = .ok (.invokevirtual 68, 3) := by decide +kernel
theorem kd_Jd_refuseIf_10 : decode kc_Jd_refuseIf 10 = .ok (.return_, 1) := by decide +kernel
theorem kd_Jd_leaveText_0 : decode kc_Jd_leaveText 0 = .ok (.aload_n 0, 1) := by decide +kernel
theorem kd_Jd_leaveText_1 : decode kc_Jd_leaveText 1 = .ok (.getfield 15, 3) := by decide +kernel
theorem kd_Jd_leaveText_4 : decode kc_Jd_leaveText 4 = .ok (.invokevirtual 207, 3) := by decide +kernel
theorem kd_Jd_leaveText_7 : decode kc_Jd_leaveText 7 = .ok (.aload_n 0, 1) := by decide +kernel
theorem kd_Jd_leaveText_8 : decode kc_Jd_leaveText 8 = .ok (.aload_n 0, 1) := by decide +kernel
theorem kd_Jd_leaveText_9 : decode kc_Jd_leaveText 9 = .ok (.getfield 15, 3) := by decide +kernel
theorem kd_Jd_leaveText_12 : decode kc_Jd_leaveText 12 = .ok (.getfield 109, 3) := by decide +kernel
theorem kd_Jd_leaveText_15 : decode kc_Jd_leaveText 15 = .ok (.iconst (-1), 1) := by decide +kernel
theorem kd_Jd_leaveText_16 : decode kc_Jd_leaveText 16 = .ok (.if_icmp .ne 7, 3) := by decide +kernel
theorem kd_Jd_leaveText_19 : decode kc_Jd_leaveText 19 = .ok (.iconst 1, 1) := by decide +kernel
theorem kd_Jd_leaveText_20 : decode kc_Jd_leaveText 20 = .ok (.goto 4, 3) := by decide +kernel
theorem kd_Jd_leaveText_23 : decode kc_Jd_leaveText 23 = .ok (.iconst 0, 1) := by decide +kernel
theorem kd_Jd_leaveText_24 : decode kc_Jd_leaveText 24 = .ok (.bipush 10, 2) := by decide +kernel
theorem kd_Jd_leaveText_26 : decode kc_Jd_leaveText 26 = .ok (.iload_n 1, 1) := by decide +kernel
theorem kd_Jd_leaveText_27 : decode kc_Jd_leaveText 27 = .ok (.invokevirtual 112, 3) := by decide +kernel
theorem kd_Jd_leaveText_30 : decode kc_Jd_leaveText 30 = .ok (.aload_n 0, 1) := by decide +kernel
theorem kd_Jd_leaveText_31 : decode kc_Jd_leaveText 31 = .ok (.aload_n 0, 1) := by decide +kernel
theorem kd_Jd_leaveText_32 : decode kc_Jd_leaveText 32 = .ok (.getfield 15, 3) := by decide +kernel
theorem kd_Jd_leaveText_35 : decode kc_Jd_leaveText 35 = .ok (.getfield 210, 3) := by decide +kernel
theorem kd_Jd_leaveText_38 : decode kc_Jd_leaveText 38 = .ok (.sipush 8192, 3) := by decide +kernel
theorem kd_Jd_leaveText_41 : decode kc_Jd_leaveText 41 = .ok (.if_icmp .le 7, 3) := by decide +kernel
theorem kd_Jd_leaveText_44 : decode kc_Jd_leaveText 44 = .ok (.iconst 1, 1) := by decide +kernel
theorem kd_Jd_leaveText_45 : decode kc_Jd_leaveText 45 = .ok (.goto 4, 3) := by decide +kernel
theorem kd_Jd_leaveText_48 : decode kc_Jd_leaveText 48 = .ok (.iconst 0, 1) := by decide +kernel
theorem kd_Jd_leaveText_49 : decode kc_Jd_leaveText 49 = .ok (.bipush 42, 2) := by decide +kernel
theorem kd_Jd_leaveText_51 : decode kc_Jd_leaveText 51 = .ok (.iload_n 1, 1) := by decide +kernel
theorem kd_Jd_leaveText_52 : decode kc_Jd_leaveText 52 = .ok (.invokevirtual 112, 3) := by decide +kernel
theorem kd_Jd_leaveText_55 : decode kc_Jd_leaveText 55 = .ok (.return_, 1) := by decide +kernel
theorem kd_Jd_leave_0 : decode kc_Jd_leave 0 = .ok (.aload_n 0, 1) := by decide +kernel
theorem kd_Jd_leave_1 : decode kc_Jd_leave 1 = .ok (.getfield 9, 3) := by decide +kernel
theorem kd_Jd_leave_4 : decode kc_Jd_leave 4 = .ok (.getfield 49, 3) := by decide +kernel
theorem kd_Jd_leave_7 : decode kc_Jd_leave 7 = .ok (.iload_n 1, 1) := by decide +kernel
theorem kd_Jd_leave_8 : decode kc_Jd_leave 8 = .ok (.iaload, 1) := by decide +kernel
theorem kd_Jd_leave_9 : decode kc_Jd_leave 9 = .ok (.istore_n 2, 1) := by decide +kernel
theorem kd_Jd_leave_10 : decode kc_Jd_leave 10 = .ok (.aload_n 0, 1) := by decide +kernel
theorem kd_Jd_leave_11 : decode kc_Jd_leave 11 = .ok (.getfield 9, 3) := by decide +kernel
theorem kd_Jd_leave_14 : decode kc_Jd_leave 14 = .ok (.getfield 71, 3) := by decide +kernel
theorem kd_Jd_leave_17 : decode kc_Jd_leave 17 = .ok (.iload_n 1, 1) := by decide +kernel
theorem kd_Jd_leave_18 : decode kc_Jd_leave 18 = .ok (.baload, 1) := by decide +kernel
theorem kd_Jd_leave_19 : decode kc_Jd_leave 19 = .ok (.tableswitch 456 0 37 #[165, 173, 173, 173, 181, 189, 424, 205, 456, 213, 221, 456, 229, 245, 237, 263, 271, 456, 298, 306, 314, 456, 456, 336, 456, 344, 456, 456, 352, 360, 391, 456, 424, 424, 432, 440, 448, 197], 165) := by decide +kernel
theorem kd_Jd_leave_184 : decode kc_Jd_leave 184 = .ok (.aload_n 0, 1) := by decide +kernel
theorem kd_Jd_leave_185 : decode kc_Jd_leave 185 = .ok (.iload_n 1, 1) := by decide +kernel
theorem kd_Jd_leave_186 : decode kc_Jd_leave 186 = .ok (.invokevirtual 142, 3) := by decide +kernel
theorem kd_Jd_leave_189 : decode kc_Jd_leave 189 = .ok (.goto 286, 3) := by decide +kernel
theorem kd_Jd_leave_192 : decode kc_Jd_leave 192 = .ok (.aload_n 0, 1) := by decide +kernel
theorem kd_Jd_leave_193 : decode kc_Jd_leave 193 = .ok (.iload_n 1, 1) := by decide +kernel
theorem kd_Jd_leave_194 : decode kc_Jd_leave 194 = .ok (.invokevirtual 145, 3) := by decide +kernel
theorem kd_Jd_leave_197 : decode kc_Jd_leave 197 = .ok (.goto 278, 3) := by decide +kernel
theorem kd_Jd_leave_200 : decode kc_Jd_leave 200 = .ok (.aload_n 0, 1) := by decide +kernel
theorem kd_Jd_leave_201 : decode kc_Jd_leave 201 = .ok (.iload_n 1, 1) := by decide +kernel
theorem kd_Jd_leave_202 : decode kc_Jd_leave 202 = .ok (.invokevirtual 148, 3) := by decide +kernel
theorem kd_Jd_leave_205 : decode kc_Jd_leave 205 = .ok (.goto 270, 3) := by decide +kernel
theorem kd_Jd_leave_208 : decode kc_Jd_leave 208 = .ok (.aload_n 0, 1) := by decide +kernel
theorem kd_Jd_leave_209 : decode kc_Jd_leave 209 = .ok (.iload_n 1, 1) := by decide +kernel
theorem kd_Jd_leave_210 : decode kc_Jd_leave 210 = .ok (.invokevirtual 151, 3) := by decide +kernel
theorem kd_Jd_leave_213 : decode kc_Jd_leave 213 = .ok (.goto 262, 3) := by decide +kernel
theorem kd_Jd_leave_216 : decode kc_Jd_leave 216 = .ok (.aload_n 0, 1) := by decide +kernel
theorem kd_Jd_leave_217 : decode kc_Jd_leave 217 = .ok (.iload_n 1, 1) := by decide +kernel
theorem kd_Jd_leave_218 : decode kc_Jd_leave 218 = .ok (.invokevirtual 154, 3) := by decide +kernel
theorem kd_Jd_leave_221 : decode kc_Jd_leave 221 = .ok (.goto 254, 3) := by decide +kernel
theorem kd_Jd_leave_224 : decode kc_Jd_leave 224 = .ok (.aload_n 0, 1) := by decide +kernel
theorem kd_Jd_leave_225 : decode kc_Jd_leave 225 = .ok (.iload_n 1, 1) := by decide +kernel
theorem kd_Jd_leave_226 : decode kc_Jd_leave 226 = .ok (.invokevirtual 157, 3) := by decide +kernel
theorem kd_Jd_leave_229 : decode kc_Jd_leave 229 = .ok (.goto 246, 3) := by decide +kernel
theorem kd_Jd_leave_232 : decode kc_Jd_leave 232 = .ok (.aload_n 0, 1) := by decide +kernel
theorem kd_Jd_leave_233 : decode kc_Jd_leave 233 = .ok (.iload_n 1, 1) := by decide +kernel
theorem kd_Jd_leave_234 : decode kc_Jd_leave 234 = .ok (.invokevirtual 160, 3) := by decide +kernel
theorem kd_Jd_leave_237 : decode kc_Jd_leave 237 = .ok (.goto 238, 3) := by decide +kernel
theorem kd_Jd_leave_240 : decode kc_Jd_leave 240 = .ok (.aload_n 0, 1) := by decide +kernel
theorem kd_Jd_leave_241 : decode kc_Jd_leave 241 = .ok (.iload_n 1, 1) := by decide +kernel
theorem kd_Jd_leave_242 : decode kc_Jd_leave 242 = .ok (.invokevirtual 163, 3) := by decide +kernel
theorem kd_Jd_leave_245 : decode kc_Jd_leave 245 = .ok (.goto 230, 3) := by decide +kernel
theorem kd_Jd_leave_248 : decode kc_Jd_leave 248 = .ok (.aload_n 0, 1) := by decide +kernel
theorem kd_Jd_leave_249 : decode kc_Jd_leave 249 = .ok (.iload_n 1, 1) := by decide +kernel
theorem kd_Jd_leave_250 : decode kc_Jd_leave 250 = .ok (.invokevirtual 166, 3) := by decide +kernel
theorem kd_Jd_leave_253 : decode kc_Jd_leave 253 = .ok (.goto 222, 3) := by decide +kernel
theorem kd_Jd_leave_256 : decode kc_Jd_leave 256 = .ok (.aload_n 0, 1) := by decide +kernel
theorem kd_Jd_leave_257 : decode kc_Jd_leave 257 = .ok (.iload_n 1, 1) := by decide +kernel
theorem kd_Jd_leave_258 : decode kc_Jd_leave 258 = .ok (.invokevirtual 169, 3) := by decide +kernel
theorem kd_Jd_leave_261 : decode kc_Jd_leave 261 = .ok (.goto 214, 3) := by decide +kernel
theorem kd_Jd_leave_264 : decode kc_Jd_leave 264 = .ok (.aload_n 0, 1) := by decide +kernel
theorem kd_Jd_leave_265 : decode kc_Jd_leave 265 = .ok (.getfield 9, 3) := by decide +kernel
theorem kd_Jd_leave_268 : decode kc_Jd_leave 268 = .ok (.getfield 78, 3) := by decide +kernel
theorem kd_Jd_leave_271 : decode kc_Jd_leave 271 = .ok (.iload_n 1, 1) := by decide +kernel
theorem kd_Jd_leave_272 : decode kc_Jd_leave 272 = .ok (.aload_n 0, 1) := by decide +kernel
theorem kd_Jd_leave_273 : decode kc_Jd_leave 273 = .ok (.iload_n 1, 1) := by decide +kernel
theorem kd_Jd_leave_274 : decode kc_Jd_leave 274 = .ok (.iconst 0, 1) := by decide +kernel
theorem kd_Jd_leave_275 : decode kc_Jd_leave 275 = .ok (.invokevirtual 172, 3) := by decide +kernel
theorem kd_Jd_leave_278 : decode kc_Jd_leave 278 = .ok (.iastore, 1) := by decide +kernel
theorem kd_Jd_leave_279 : decode kc_Jd_leave 279 = .ok (.goto 196, 3) := by decide +kernel
theorem kd_Jd_leave_282 : decode kc_Jd_leave 282 = .ok (.aload_n 0, 1) := by decide +kernel
theorem kd_Jd_leave_283 : decode kc_Jd_leave 283 = .ok (.iload_n 1, 1) := by decide +kernel
theorem kd_Jd_leave_284 : decode kc_Jd_leave 284 = .ok (.invokevirtual 175, 3) := by decide +kernel
theorem kd_Jd_leave_287 : decode kc_Jd_leave 287 = .ok (.goto 188, 3) := by decide +kernel
theorem kd_Jd_leave_290 : decode kc_Jd_leave 290 = .ok (.aload_n 0, 1) := by decide +kernel
theorem kd_Jd_leave_291 : decode kc_Jd_leave 291 = .ok (.aload_n 0, 1) := by decide +kernel
theorem kd_Jd_leave_292 : decode kc_Jd_leave 292 = .ok (.getfield 9, 3) := by decide +kernel
theorem kd_Jd_leave_295 : decode kc_Jd_leave 295 = .ok (.getfield 178, 3) := by decide +kernel
theorem kd_Jd_leave_298 : decode kc_Jd_leave 298 = .ok (.iload_n 2, 1) := by decide +kernel
theorem kd_Jd_leave_299 : decode kc_Jd_leave 299 = .ok (.baload, 1) := by decide +kernel
theorem kd_Jd_leave_300 : decode kc_Jd_leave 300 = .ok (.ifCond .ne 7, 3) := by decide +kernel
theorem kd_Jd_leave_303 : decode kc_Jd_leave 303 = .ok (.iconst 1, 1) := by decide +kernel
theorem kd_Jd_leave_304 : decode kc_Jd_leave 304 = .ok (.goto 4, 3) := by decide +kernel
theorem kd_Jd_leave_307 : decode kc_Jd_leave 307 = .ok (.iconst 0, 1) := by decide +kernel
theorem kd_Jd_leave_308 : decode kc_Jd_leave 308 = .ok (.bipush 34, 2) := by decide +kernel
theorem kd_Jd_leave_310 : decode kc_Jd_leave 310 = .ok (.iload_n 1, 1) := by decide +kernel
theorem kd_Jd_leave_311 : decode kc_Jd_leave 311 = .ok (.invokevirtual 112, 3) := by decide +kernel
theorem kd_Jd_leave_314 : decode kc_Jd_leave 314 = .ok (.goto 161, 3) := by decide +kernel
theorem kd_Jd_leave_317 : decode kc_Jd_leave 317 = .ok (.aload_n 0, 1) := by decide +kernel
theorem kd_Jd_leave_318 : decode kc_Jd_leave 318 = .ok (.iload_n 1, 1) := by decide +kernel
theorem kd_Jd_leave_319 : decode kc_Jd_leave 319 = .ok (.invokevirtual 180, 3) := by decide +kernel
theorem kd_Jd_leave_322 : decode kc_Jd_leave 322 = .ok (.goto 153, 3) := by decide +kernel
theorem kd_Jd_leave_325 : decode kc_Jd_leave 325 = .ok (.aload_n 0, 1) := by decide +kernel
theorem kd_Jd_leave_326 : decode kc_Jd_leave 326 = .ok (.iload_n 1, 1) := by decide +kernel
theorem kd_Jd_leave_327 : decode kc_Jd_leave 327 = .ok (.invokevirtual 183, 3) := by decide +kernel
theorem kd_Jd_leave_330 : decode kc_Jd_leave 330 = .ok (.goto 145, 3) := by decide +kernel
theorem kd_Jd_leave_333 : decode kc_Jd_leave 333 = .ok (.aload_n 0, 1) := by decide +kernel
theorem kd_Jd_leave_334 : decode kc_Jd_leave 334 = .ok (.aload_n 0, 1) := by decide +kernel
theorem kd_Jd_leave_335 : decode kc_Jd_leave 335 = .ok (.getfield 33, 3) := by decide +kernel
theorem kd_Jd_leave_338 : decode kc_Jd_leave 338 = .ok (.ifCond .ne 7, 3) := by decide +kernel
theorem kd_Jd_leave_341 : decode kc_Jd_leave 341 = .ok (.iconst 1, 1) := by decide +kernel
theorem kd_Jd_leave_342 : decode kc_Jd_leave 342 = .ok (.goto 4, 3) := by decide +kernel
theorem kd_Jd_leave_345 : decode kc_Jd_leave 345 = .ok (.iconst 0, 1) := by decide +kernel
theorem kd_Jd_leave_346 : decode kc_Jd_leave 346 = .ok (.bipush 37, 2) := by decide +kernel
theorem kd_Jd_leave_348 : decode kc_Jd_leave 348 = .ok (.iload_n 1, 1) := by decide +kernel
theorem kd_Jd_leave_349 : decode kc_Jd_leave 349 = .ok (.invokevirtual 112, 3) := by decide +kernel
theorem kd_Jd_leave_352 : decode kc_Jd_leave 352 = .ok (.goto 123, 3) := by decide +kernel
theorem kd_Jd_leave_355 : decode kc_Jd_leave 355 = .ok (.aload_n 0, 1) := by decide +kernel
theorem kd_Jd_leave_356 : decode kc_Jd_leave 356 = .ok (.iload_n 1, 1) := by decide +kernel
theorem kd_Jd_leave_357 : decode kc_Jd_leave 357 = .ok (.invokevirtual 186, 3) := by decide +kernel
theorem kd_Jd_leave_360 : decode kc_Jd_leave 360 = .ok (.goto 115, 3) := by decide +kernel
theorem kd_Jd_leave_363 : decode kc_Jd_leave 363 = .ok (.aload_n 0, 1) := by decide +kernel
theorem kd_Jd_leave_364 : decode kc_Jd_leave 364 = .ok (.iload_n 1, 1) := by decide +kernel
theorem kd_Jd_leave_365 : decode kc_Jd_leave 365 = .ok (.invokevirtual 189, 3) := by decide +kernel
theorem kd_Jd_leave_368 : decode kc_Jd_leave 368 = .ok (.goto 107, 3) := by decide +kernel
theorem kd_Jd_leave_371 : decode kc_Jd_leave 371 = .ok (.aload_n 0, 1) := by decide +kernel
theorem kd_Jd_leave_372 : decode kc_Jd_leave 372 = .ok (.iload_n 1, 1) := by decide +kernel
theorem kd_Jd_leave_373 : decode kc_Jd_leave 373 = .ok (.invokevirtual 192, 3) := by decide +kernel
theorem kd_Jd_leave_376 : decode kc_Jd_leave 376 = .ok (.goto 99, 3) := by decide +kernel
theorem kd_Jd_leave_379 : decode kc_Jd_leave 379 = .ok (.aload_n 0, 1) := by decide +kernel
theorem kd_Jd_leave_380 : decode kc_Jd_leave 380 = .ok (.aload_n 0, 1) := by decide +kernel
theorem kd_Jd_leave_381 : decode kc_Jd_leave 381 = .ok (.getfield 9, 3) := by decide +kernel
theorem kd_Jd_leave_384 : decode kc_Jd_leave 384 = .ok (.getfield 55, 3) := by decide +kernel
theorem kd_Jd_leave_387 : decode kc_Jd_leave 387 = .ok (.aload_n 0, 1) := by decide +kernel
theorem kd_Jd_leave_388 : decode kc_Jd_leave 388 = .ok (.getfield 106, 3) := by decide +kernel
theorem kd_Jd_leave_391 : decode kc_Jd_leave 391 = .ok (.iaload, 1) := by decide +kernel
theorem kd_Jd_leave_392 : decode kc_Jd_leave 392 = .ok (.iconst (-1), 1) := by decide +kernel
theorem kd_Jd_leave_393 : decode kc_Jd_leave 393 = .ok (.if_icmp .ne 7, 3) := by decide +kernel
theorem kd_Jd_leave_396 : decode kc_Jd_leave 396 = .ok (.iconst 1, 1) := by decide +kernel
theorem kd_Jd_leave_397 : decode kc_Jd_leave 397 = .ok (.goto 4, 3) := by decide +kernel
theorem kd_Jd_leave_400 : decode kc_Jd_leave 400 = .ok (.iconst 0, 1) := by decide +kernel
theorem kd_Jd_leave_401 : decode kc_Jd_leave 401 = .ok (.bipush 40, 2) := by decide +kernel
theorem kd_Jd_leave_403 : decode kc_Jd_leave 403 = .ok (.iload_n 1, 1) := by decide +kernel
theorem kd_Jd_leave_404 : decode kc_Jd_leave 404 = .ok (.invokevirtual 112, 3) := by decide +kernel
theorem kd_Jd_leave_407 : decode kc_Jd_leave 407 = .ok (.goto 68, 3) := by decide +kernel
theorem kd_Jd_leave_410 : decode kc_Jd_leave 410 = .ok (.aload_n 0, 1) := by decide +kernel
theorem kd_Jd_leave_411 : decode kc_Jd_leave 411 = .ok (.getfield 9, 3) := by decide +kernel
theorem kd_Jd_leave_414 : decode kc_Jd_leave 414 = .ok (.getfield 178, 3) := by decide +kernel
theorem kd_Jd_leave_417 : decode kc_Jd_leave 417 = .ok (.iload_n 1, 1) := by decide +kernel
theorem kd_Jd_leave_418 : decode kc_Jd_leave 418 = .ok (.aload_n 0, 1) := by decide +kernel
theorem kd_Jd_leave_419 : decode kc_Jd_leave 419 = .ok (.getfield 9, 3) := by decide +kernel
theorem kd_Jd_leave_422 : decode kc_Jd_leave 422 = .ok (.getfield 78, 3) := by decide +kernel
theorem kd_Jd_leave_425 : decode kc_Jd_leave 425 = .ok (.iload_n 1, 1) := by decide +kernel
theorem kd_Jd_leave_426 : decode kc_Jd_leave 426 = .ok (.iaload, 1) := by decide +kernel
theorem kd_Jd_leave_427 : decode kc_Jd_leave 427 = .ok (.sipush 32767, 3) := by decide +kernel
theorem kd_Jd_leave_430 : decode kc_Jd_leave 430 = .ok (.if_icmp .le 7, 3) := by decide +kernel
theorem kd_Jd_leave_433 : decode kc_Jd_leave 433 = .ok (.iconst 2, 1) := by decide +kernel
theorem kd_Jd_leave_434 : decode kc_Jd_leave 434 = .ok (.goto 4, 3) := by decide +kernel
theorem kd_Jd_leave_437 : decode kc_Jd_leave 437 = .ok (.iconst 1, 1) := by decide +kernel
theorem kd_Jd_leave_438 : decode kc_Jd_leave 438 = .ok (.i2b, 1) := by decide +kernel
theorem kd_Jd_leave_439 : decode kc_Jd_leave 439 = .ok (.bastore, 1) := by decide +kernel
theorem kd_Jd_leave_440 : decode kc_Jd_leave 440 = .ok (.goto 35, 3) := by decide +kernel
theorem kd_Jd_leave_443 : decode kc_Jd_leave 443 = .ok (.aload_n 0, 1) := by decide +kernel
theorem kd_Jd_leave_444 : decode kc_Jd_leave 444 = .ok (.iload_n 1, 1) := by decide +kernel
theorem kd_Jd_leave_445 : decode kc_Jd_leave 445 = .ok (.invokevirtual 195, 3) := by decide +kernel
theorem kd_Jd_leave_448 : decode kc_Jd_leave 448 = .ok (.goto 27, 3) := by decide +kernel
theorem kd_Jd_leave_451 : decode kc_Jd_leave 451 = .ok (.aload_n 0, 1) := by decide +kernel
theorem kd_Jd_leave_452 : decode kc_Jd_leave 452 = .ok (.iload_n 1, 1) := by decide +kernel
theorem kd_Jd_leave_453 : decode kc_Jd_leave 453 = .ok (.invokevirtual 198, 3) := by decide +kernel
theorem kd_Jd_leave_456 : decode kc_Jd_leave 456 = .ok (.goto 19, 3) := by decide +kernel
theorem kd_Jd_leave_459 : decode kc_Jd_leave 459 = .ok (.aload_n 0, 1) := by decide +kernel
theorem kd_Jd_leave_460 : decode kc_Jd_leave 460 = .ok (.iload_n 1, 1) := by decide +kernel
theorem kd_Jd_leave_461 : decode kc_Jd_leave 461 = .ok (.invokevirtual 201, 3) := by decide +kernel
theorem kd_Jd_leave_464 : decode kc_Jd_leave 464 = .ok (.goto 11, 3) := by decide +kernel
theorem kd_Jd_leave_467 : decode kc_Jd_leave 467 = .ok (.aload_n 0, 1) := by decide +kernel
theorem kd_Jd_leave_468 : decode kc_Jd_leave 468 = .ok (.iload_n 1, 1) := by decide +kernel
theorem kd_Jd_leave_469 : decode kc_Jd_leave 469 = .ok (.invokevirtual 204, 3) := by decide +kernel
theorem kd_Jd_leave_472 : decode kc_Jd_leave 472 = .ok (.goto 3, 3) := by decide +kernel
theorem kd_Jd_leave_475 : decode kc_Jd_leave 475 = .ok (.return_, 1) := by decide +kernel
theorem kd_Jd_visit_0 : decode kc_Jd_visit 0 = .ok (.iload_n 2, 1) := by decide +kernel
theorem kd_Jd_visit_1 : decode kc_Jd_visit 1 = .ok (.sipush 240, 3) := by decide +kernel
theorem kd_Jd_visit_4 : decode kc_Jd_visit 4 = .ok (.if_icmp .le 4, 3) := by decide +kernel
theorem kd_Jd_visit_7 : decode kc_Jd_visit 7 = .ok (.return_, 1) := by decide +kernel
theorem kd_Jd_visit_8 : decode kc_Jd_visit 8 = .ok (.aload_n 0, 1) := by decide +kernel
theorem kd_Jd_visit_9 : decode kc_Jd_visit 9 = .ok (.iload_n 1, 1) := by decide +kernel
theorem kd_Jd_visit_10 : decode kc_Jd_visit 10 = .ok (.invokevirtual 45, 3) := by decide +kernel
theorem kd_Jd_visit_13 : decode kc_Jd_visit 13 = .ok (.aload_n 0, 1) := by decide +kernel
theorem kd_Jd_visit_14 : decode kc_Jd_visit 14 = .ok (.getfield 9, 3) := by decide +kernel
theorem kd_Jd_visit_17 : decode kc_Jd_visit 17 = .ok (.getfield 49, 3) := by decide +kernel
theorem kd_Jd_visit_20 : decode kc_Jd_visit 20 = .ok (.iload_n 1, 1) := by decide +kernel
theorem kd_Jd_visit_21 : decode kc_Jd_visit 21 = .ok (.iaload, 1) := by decide +kernel
theorem kd_Jd_visit_22 : decode kc_Jd_visit 22 = .ok (.istore_n 3, 1) := by decide +kernel
theorem kd_Jd_visit_23 : decode kc_Jd_visit 23 = .ok (.iconst 0, 1) := by decide +kernel
theorem kd_Jd_visit_24 : decode kc_Jd_visit 24 = .ok (.istore 4, 2) := by decide +kernel
theorem kd_Jd_visit_26 : decode kc_Jd_visit 26 = .ok (.iload 4, 2) := by decide +kernel
theorem kd_Jd_visit_28 : decode kc_Jd_visit 28 = .ok (.aload_n 0, 1) := by decide +kernel
theorem kd_Jd_visit_29 : decode kc_Jd_visit 29 = .ok (.getfield 9, 3) := by decide +kernel
theorem kd_Jd_visit_32 : decode kc_Jd_visit 32 = .ok (.getfield 52, 3) := by decide +kernel
theorem kd_Jd_visit_35 : decode kc_Jd_visit 35 = .ok (.if_icmp .ge 39, 3) := by decide +kernel
theorem kd_Jd_visit_38 : decode kc_Jd_visit 38 = .ok (.iload_n 3, 1) := by decide +kernel
theorem kd_Jd_visit_39 : decode kc_Jd_visit 39 = .ok (.iconst (-1), 1) := by decide +kernel
theorem kd_Jd_visit_40 : decode kc_Jd_visit 40 = .ok (.if_icmp .eq 34, 3) := by decide +kernel
theorem kd_Jd_visit_43 : decode kc_Jd_visit 43 = .ok (.aload_n 0, 1) := by decide +kernel
theorem kd_Jd_visit_44 : decode kc_Jd_visit 44 = .ok (.getfield 29, 3) := by decide +kernel
theorem kd_Jd_visit_47 : decode kc_Jd_visit 47 = .ok (.ifCond .ne 27, 3) := by decide +kernel
theorem kd_Jd_visit_50 : decode kc_Jd_visit 50 = .ok (.aload_n 0, 1) := by decide +kernel
theorem kd_Jd_visit_51 : decode kc_Jd_visit 51 = .ok (.iload_n 3, 1) := by decide +kernel
theorem kd_Jd_visit_52 : decode kc_Jd_visit 52 = .ok (.iload_n 2, 1) := by decide +kernel
theorem kd_Jd_visit_53 : decode kc_Jd_visit 53 = .ok (.iconst 1, 1) := by decide +kernel
theorem kd_Jd_visit_54 : decode kc_Jd_visit 54 = .ok (.iadd, 1) := by decide +kernel
theorem kd_Jd_visit_55 : decode kc_Jd_visit 55 = .ok (.invokevirtual 41, 3) := by decide +kernel
theorem kd_Jd_visit_58 : decode kc_Jd_visit 58 = .ok (.aload_n 0, 1) := by decide +kernel
theorem kd_Jd_visit_59 : decode kc_Jd_visit 59 = .ok (.getfield 9, 3) := by decide +kernel
theorem kd_Jd_visit_62 : decode kc_Jd_visit 62 = .ok (.getfield 55, 3) := by decide +kernel
theorem kd_Jd_visit_65 : decode kc_Jd_visit 65 = .ok (.iload_n 3, 1) := by decide +kernel
theorem kd_Jd_visit_66 : decode kc_Jd_visit 66 = .ok (.iaload, 1) := by decide +kernel
theorem kd_Jd_visit_67 : decode kc_Jd_visit 67 = .ok (.istore_n 3, 1) := by decide +kernel
theorem kd_Jd_visit_68 : decode kc_Jd_visit 68 = .ok (.iinc 4 1, 3) := by decide +kernel
theorem kd_Jd_visit_71 : decode kc_Jd_visit 71 = .ok (.goto (-45), 3) := by decide +kernel
theorem kd_Jd_visit_74 : decode kc_Jd_visit 74 = .ok (.aload_n 0, 1) := by decide +kernel
theorem kd_Jd_visit_75 : decode kc_Jd_visit 75 = .ok (.getfield 29, 3) := by decide +kernel
theorem kd_Jd_visit_78 : decode kc_Jd_visit 78 = .ok (.ifCond .ne 8, 3) := by decide +kernel
theorem kd_Jd_visit_81 : decode kc_Jd_visit 81 = .ok (.aload_n 0, 1) := by decide +kernel
theorem kd_Jd_visit_82 : decode kc_Jd_visit 82 = .ok (.iload_n 1, 1) := by decide +kernel
theorem kd_Jd_visit_83 : decode kc_Jd_visit 83 = .ok (.invokevirtual 58, 3) := by decide +kernel
theorem kd_Jd_visit_86 : decode kc_Jd_visit 86 = .ok (.return_, 1) := by decide +kernel
theorem kd_Jd_judge_0 : decode kc_Jd_judge 0 = .ok (.aload_n 0, 1) := by decide +kernel
theorem kd_Jd_judge_1 : decode kc_Jd_judge 1 = .ok (.iconst 0, 1) := by decide +kernel
theorem kd_Jd_judge_2 : decode kc_Jd_judge 2 = .ok (.putfield 29, 3) := by decide +kernel
theorem kd_Jd_judge_5 : decode kc_Jd_judge 5 = .ok (.aload_n 0, 1) := by decide +kernel
theorem kd_Jd_judge_6 : decode kc_Jd_judge 6 = .ok (.iconst 0, 1) := by decide +kernel
theorem kd_Jd_judge_7 : decode kc_Jd_judge 7 = .ok (.putfield 33, 3) := by decide +kernel
theorem kd_Jd_judge_10 : decode kc_Jd_judge 10 = .ok (.aload_n 0, 1) := by decide +kernel
theorem kd_Jd_judge_11 : decode kc_Jd_judge 11 = .ok (.getfield 15, 3) := by decide +kernel
theorem kd_Jd_judge_14 : decode kc_Jd_judge 14 = .ok (.invokevirtual 36, 3) := by decide +kernel
theorem kd_Jd_judge_17 : decode kc_Jd_judge 17 = .ok (.iconst 0, 1) := by decide +kernel
theorem kd_Jd_judge_18 : decode kc_Jd_judge 18 = .ok (.istore_n 1, 1) := by decide +kernel
theorem kd_Jd_judge_19 : decode kc_Jd_judge 19 = .ok (.iload_n 1, 1) := by decide +kernel
theorem kd_Jd_judge_20 : decode kc_Jd_judge 20 = .ok (.aload_n 0, 1) := by decide +kernel
theorem kd_Jd_judge_21 : decode kc_Jd_judge 21 = .ok (.getfield 25, 3) := by decide +kernel
theorem kd_Jd_judge_24 : decode kc_Jd_judge 24 = .ok (.arraylength, 1) := by decide +kernel
theorem kd_Jd_judge_25 : decode kc_Jd_judge 25 = .ok (.if_icmp .ge 16, 3) := by decide +kernel
theorem kd_Jd_judge_28 : decode kc_Jd_judge 28 = .ok (.aload_n 0, 1) := by decide +kernel
theorem kd_Jd_judge_29 : decode kc_Jd_judge 29 = .ok (.getfield 25, 3) := by decide +kernel
theorem kd_Jd_judge_32 : decode kc_Jd_judge 32 = .ok (.iload_n 1, 1) := by decide +kernel
theorem kd_Jd_judge_33 : decode kc_Jd_judge 33 = .ok (.iconst 0, 1) := by decide +kernel
theorem kd_Jd_judge_34 : decode kc_Jd_judge 34 = .ok (.bastore, 1) := by decide +kernel
theorem kd_Jd_judge_35 : decode kc_Jd_judge 35 = .ok (.iinc 1 1, 3) := by decide +kernel
theorem kd_Jd_judge_38 : decode kc_Jd_judge 38 = .ok (.goto (-19), 3) := by decide +kernel
theorem kd_Jd_judge_41 : decode kc_Jd_judge 41 = .ok (.aload_n 0, 1) := by decide +kernel
theorem kd_Jd_judge_42 : decode kc_Jd_judge 42 = .ok (.iconst 0, 1) := by decide +kernel
theorem kd_Jd_judge_43 : decode kc_Jd_judge 43 = .ok (.iconst 0, 1) := by decide +kernel
theorem kd_Jd_judge_44 : decode kc_Jd_judge 44 = .ok (.invokevirtual 41, 3) := by decide +kernel
theorem kd_Jd_judge_47 : decode kc_Jd_judge 47 = .ok (.aload_n 0, 1) := by decide +kernel
theorem kd_Jd_judge_48 : decode kc_Jd_judge 48 = .ok (.getfield 29, 3) := by decide +kernel
theorem kd_Jd_judge_51 : decode kc_Jd_judge 51 = .ok (.ireturn, 1) := by decide +kernel
theorem kd_Mc_forget_0 : decode kc_Mc_forget 0 = .ok (.aload_n 0, 1) := by decide +kernel
theorem kd_Mc_forget_1 : decode kc_Mc_forget 1 = .ok (.iconst 0, 1) := by decide +kernel
theorem kd_Mc_forget_2 : decode kc_Mc_forget 2 = .ok (.putfield 41, 3) := by decide +kernel
theorem kd_Mc_forget_5 : decode kc_Mc_forget 5 = .ok (.aload_n 0, 1) := by decide +kernel
theorem kd_Mc_forget_6 : decode kc_Mc_forget 6 = .ok (.iconst 0, 1) := by decide +kernel
theorem kd_Mc_forget_7 : decode kc_Mc_forget 7 = .ok (.putfield 45, 3) := by decide +kernel
theorem kd_Mc_forget_10 : decode kc_Mc_forget 10 = .ok (.aload_n 0, 1) := by decide +kernel
theorem kd_Mc_forget_11 : decode kc_Mc_forget 11 = .ok (.iconst 0, 1) := by decide +kernel
theorem kd_Mc_forget_12 : decode kc_Mc_forget 12 = .ok (.putfield 48, 3) := by decide +kernel
theorem kd_Mc_forget_15 : decode kc_Mc_forget 15 = .ok (.aload_n 0, 1) := by decide +kernel
theorem kd_Mc_forget_16 : decode kc_Mc_forget 16 = .ok (.iconst 0, 1) := by decide +kernel
theorem kd_Mc_forget_17 : decode kc_Mc_forget 17 = .ok (.putfield 52, 3) := by decide +kernel
theorem kd_Mc_forget_20 : decode kc_Mc_forget 20 = .ok (.aload_n 0, 1) := by decide +kernel
theorem kd_Mc_forget_21 : decode kc_Mc_forget 21 = .ok (.iconst 0, 1) := by decide +kernel
theorem kd_Mc_forget_22 : decode kc_Mc_forget 22 = .ok (.putfield 55, 3) := by decide +kernel
theorem kd_Mc_forget_25 : decode kc_Mc_forget 25 = .ok (.aload_n 0, 1) := by decide +kernel
theorem kd_Mc_forget_26 : decode kc_Mc_forget 26 = .ok (.iconst 0, 1) := by decide +kernel
theorem kd_Mc_forget_27 : decode kc_Mc_forget 27 = .ok (.putfield 58, 3) := by decide +kernel
theorem kd_Mc_forget_30 : decode kc_Mc_forget 30 = .ok (.aload_n 0, 1) := by decide +kernel
theorem kd_Mc_forget_31 : decode kc_Mc_forget 31 = .ok (.iconst 0, 1) := by decide +kernel
theorem kd_Mc_forget_32 : decode kc_Mc_forget 32 = .ok (.putfield 61, 3) := by decide +kernel
theorem kd_Mc_forget_35 : decode kc_Mc_forget 35 = .ok (.return_, 1) := by decide +kernel
theorem kd_Tk_peek_0 : decode kc_Tk_peek 0 = .ok (.iload_n 1, 1) := by decide +kernel
theorem kd_Tk_peek_1 : decode kc_Tk_peek 1 = .ok (.ifCond .lt 24, 3) := by decide +kernel
theorem kd_Tk_peek_4 : decode kc_Tk_peek 4 = .ok (.iload_n 1, 1) := by decide +kernel
theorem kd_Tk_peek_5 : decode kc_Tk_peek 5 = .ok (.aload_n 0, 1) := by decide +kernel
theorem kd_Tk_peek_6 : decode kc_Tk_peek 6 = .ok (.getfield 30, 3) := by decide +kernel
theorem kd_Tk_peek_9 : decode kc_Tk_peek 9 = .ok (.if_icmp .ge 16, 3) := by decide +kernel
theorem kd_Tk_peek_12 : decode kc_Tk_peek 12 = .ok (.aload_n 0, 1) := by decide +kernel
theorem kd_Tk_peek_13 : decode kc_Tk_peek 13 = .ok (.getfield 26, 3) := by decide +kernel
theorem kd_Tk_peek_16 : decode kc_Tk_peek 16 = .ok (.iload_n 1, 1) := by decide +kernel
theorem kd_Tk_peek_17 : decode kc_Tk_peek 17 = .ok (.baload, 1) := by decide +kernel
theorem kd_Tk_peek_18 : decode kc_Tk_peek 18 = .ok (.sipush 255, 3) := by decide +kernel
theorem kd_Tk_peek_21 : decode kc_Tk_peek 21 = .ok (.iand, 1) := by decide +kernel
theorem kd_Tk_peek_22 : decode kc_Tk_peek 22 = .ok (.goto 4, 3) := by decide +kernel
theorem kd_Tk_peek_25 : decode kc_Tk_peek 25 = .ok (.iconst (-1), 1) := by decide +kernel
theorem kd_Tk_peek_26 : decode kc_Tk_peek 26 = .ok (.ireturn, 1) := by decide +kernel
theorem kd_Tk_skipBlanks_0 : decode kc_Tk_skipBlanks 0 = .ok (.iconst 0, 1) := by decide +kernel
theorem kd_Tk_skipBlanks_1 : decode kc_Tk_skipBlanks 1 = .ok (.istore_n 1, 1) := by decide +kernel
theorem kd_Tk_skipBlanks_2 : decode kc_Tk_skipBlanks 2 = .ok (.iload_n 1, 1) := by decide +kernel
theorem kd_Tk_skipBlanks_3 : decode kc_Tk_skipBlanks 3 = .ok (.sipush 16384, 3) := by decide +kernel
theorem kd_Tk_skipBlanks_6 : decode kc_Tk_skipBlanks 6 = .ok (.if_icmp .gt 108, 3) := by decide +kernel
theorem kd_Tk_skipBlanks_9 : decode kc_Tk_skipBlanks 9 = .ok (.aload_n 0, 1) := by decide +kernel
theorem kd_Tk_skipBlanks_10 : decode kc_Tk_skipBlanks 10 = .ok (.aload_n 0, 1) := by decide +kernel
theorem kd_Tk_skipBlanks_11 : decode kc_Tk_skipBlanks 11 = .ok (.getfield 34, 3) := by decide +kernel
theorem kd_Tk_skipBlanks_14 : decode kc_Tk_skipBlanks 14 = .ok (.invokevirtual 51, 3) := by decide +kernel
theorem kd_Tk_skipBlanks_17 : decode kc_Tk_skipBlanks 17 = .ok (.istore_n 2, 1) := by decide +kernel
theorem kd_Tk_skipBlanks_18 : decode kc_Tk_skipBlanks 18 = .ok (.iload_n 2, 1) := by decide +kernel
theorem kd_Tk_skipBlanks_19 : decode kc_Tk_skipBlanks 19 = .ok (.bipush 9, 2) := by decide +kernel
theorem kd_Tk_skipBlanks_21 : decode kc_Tk_skipBlanks 21 = .ok (.if_icmp .eq 21, 3) := by decide +kernel
theorem kd_Tk_skipBlanks_24 : decode kc_Tk_skipBlanks 24 = .ok (.iload_n 2, 1) := by decide +kernel
theorem kd_Tk_skipBlanks_25 : decode kc_Tk_skipBlanks 25 = .ok (.bipush 10, 2) := by decide +kernel
theorem kd_Tk_skipBlanks_27 : decode kc_Tk_skipBlanks 27 = .ok (.if_icmp .eq 15, 3) := by decide +kernel
theorem kd_Tk_skipBlanks_30 : decode kc_Tk_skipBlanks 30 = .ok (.iload_n 2, 1) := by decide +kernel
theorem kd_Tk_skipBlanks_31 : decode kc_Tk_skipBlanks 31 = .ok (.bipush 13, 2) := by decide +kernel
theorem kd_Tk_skipBlanks_33 : decode kc_Tk_skipBlanks 33 = .ok (.if_icmp .eq 9, 3) := by decide +kernel
theorem kd_Tk_skipBlanks_36 : decode kc_Tk_skipBlanks 36 = .ok (.iload_n 2, 1) := by decide +kernel
theorem kd_Tk_skipBlanks_37 : decode kc_Tk_skipBlanks 37 = .ok (.bipush 32, 2) := by decide +kernel
theorem kd_Tk_skipBlanks_39 : decode kc_Tk_skipBlanks 39 = .ok (.if_icmp .ne 16, 3) := by decide +kernel
theorem kd_Tk_skipBlanks_42 : decode kc_Tk_skipBlanks 42 = .ok (.aload_n 0, 1) := by decide +kernel
theorem kd_Tk_skipBlanks_43 : decode kc_Tk_skipBlanks 43 = .ok (.dup, 1) := by decide +kernel
theorem kd_Tk_skipBlanks_44 : decode kc_Tk_skipBlanks 44 = .ok (.getfield 34, 3) := by decide +kernel
theorem kd_Tk_skipBlanks_47 : decode kc_Tk_skipBlanks 47 = .ok (.iconst 1, 1) := by decide +kernel
theorem kd_Tk_skipBlanks_48 : decode kc_Tk_skipBlanks 48 = .ok (.iadd, 1) := by decide +kernel
theorem kd_Tk_skipBlanks_49 : decode kc_Tk_skipBlanks 49 = .ok (.putfield 34, 3) := by decide +kernel
theorem kd_Tk_skipBlanks_52 : decode kc_Tk_skipBlanks 52 = .ok (.goto 56, 3) := by decide +kernel
theorem kd_Tk_skipBlanks_55 : decode kc_Tk_skipBlanks 55 = .ok (.iload_n 2, 1) := by decide +kernel
theorem kd_Tk_skipBlanks_56 : decode kc_Tk_skipBlanks 56 = .ok (.bipush 40, 2) := by decide +kernel
theorem kd_Tk_skipBlanks_58 : decode kc_Tk_skipBlanks 58 = .ok (.if_icmp .ne 48, 3) := by decide +kernel
theorem kd_Tk_skipBlanks_61 : decode kc_Tk_skipBlanks 61 = .ok (.aload_n 0, 1) := by decide +kernel
theorem kd_Tk_skipBlanks_62 : decode kc_Tk_skipBlanks 62 = .ok (.aload_n 0, 1) := by decide +kernel
theorem kd_Tk_skipBlanks_63 : decode kc_Tk_skipBlanks 63 = .ok (.getfield 34, 3) := by decide +kernel
theorem kd_Tk_skipBlanks_66 : decode kc_Tk_skipBlanks 66 = .ok (.iconst 1, 1) := by decide +kernel
theorem kd_Tk_skipBlanks_67 : decode kc_Tk_skipBlanks 67 = .ok (.iadd, 1) := by decide +kernel
theorem kd_Tk_skipBlanks_68 : decode kc_Tk_skipBlanks 68 = .ok (.invokevirtual 51, 3) := by decide +kernel
theorem kd_Tk_skipBlanks_71 : decode kc_Tk_skipBlanks 71 = .ok (.bipush 42, 2) := by decide +kernel
theorem kd_Tk_skipBlanks_73 : decode kc_Tk_skipBlanks 73 = .ok (.if_icmp .ne 33, 3) := by decide +kernel
theorem kd_Tk_skipBlanks_76 : decode kc_Tk_skipBlanks 76 = .ok (.aload_n 0, 1) := by decide +kernel
theorem kd_Tk_skipBlanks_77 : decode kc_Tk_skipBlanks 77 = .ok (.aload_n 0, 1) := by decide +kernel
theorem kd_Tk_skipBlanks_78 : decode kc_Tk_skipBlanks 78 = .ok (.getfield 34, 3) := by decide +kernel
theorem kd_Tk_skipBlanks_81 : decode kc_Tk_skipBlanks 81 = .ok (.iconst 2, 1) := by decide +kernel
theorem kd_Tk_skipBlanks_82 : decode kc_Tk_skipBlanks 82 = .ok (.iadd, 1) := by decide +kernel
theorem kd_Tk_skipBlanks_83 : decode kc_Tk_skipBlanks 83 = .ok (.invokevirtual 55, 3) := by decide +kernel
theorem kd_Tk_skipBlanks_86 : decode kc_Tk_skipBlanks 86 = .ok (.istore_n 3, 1) := by decide +kernel
theorem kd_Tk_skipBlanks_87 : decode kc_Tk_skipBlanks 87 = .ok (.iload_n 3, 1) := by decide +kernel
theorem kd_Tk_skipBlanks_88 : decode kc_Tk_skipBlanks 88 = .ok (.iconst (-1), 1) := by decide +kernel
theorem kd_Tk_skipBlanks_89 : decode kc_Tk_skipBlanks 89 = .ok (.if_icmp .ne 9, 3) := by decide +kernel
theorem kd_Tk_skipBlanks_92 : decode kc_Tk_skipBlanks 92 = .ok (.aload_n 0, 1) := by decide +kernel
theorem kd_Tk_skipBlanks_93 : decode kc_Tk_skipBlanks 93 = .ok (.iconst 2, 1) := by decide +kernel
theorem kd_Tk_skipBlanks_94 : decode kc_Tk_skipBlanks 94 = .ok (.invokevirtual 58, 3) := by decide +kernel
theorem kd_Tk_skipBlanks_97 : decode kc_Tk_skipBlanks 97 = .ok (.ireturn, 1) := by decide +kernel
theorem kd_Tk_skipBlanks_98 : decode kc_Tk_skipBlanks 98 = .ok (.aload_n 0, 1) := by decide +kernel
theorem kd_Tk_skipBlanks_99 : decode kc_Tk_skipBlanks 99 = .ok (.iload_n 3, 1) := by decide +kernel
theorem kd_Tk_skipBlanks_100 : decode kc_Tk_skipBlanks 100 = .ok (.putfield 34, 3) := by decide +kernel
theorem kd_Tk_skipBlanks_103 : decode kc_Tk_skipBlanks 103 = .ok (.goto 5, 3) := by decide +kernel
theorem kd_Tk_skipBlanks_106 : decode kc_Tk_skipBlanks 106 = .ok (.iconst 1, 1) := by decide +kernel
theorem kd_Tk_skipBlanks_107 : decode kc_Tk_skipBlanks 107 = .ok (.ireturn, 1) := by decide +kernel
theorem kd_Tk_skipBlanks_108 : decode kc_Tk_skipBlanks 108 = .ok (.iinc 1 1, 3) := by decide +kernel
theorem kd_Tk_skipBlanks_111 : decode kc_Tk_skipBlanks 111 = .ok (.goto (-109), 3) := by decide +kernel
theorem kd_Tk_skipBlanks_114 : decode kc_Tk_skipBlanks 114 = .ok (.iconst 1, 1) := by decide +kernel
theorem kd_Tk_skipBlanks_115 : decode kc_Tk_skipBlanks 115 = .ok (.ireturn, 1) := by decide +kernel
theorem kd_Tk_add_0 : decode kc_Tk_add 0 = .ok (.aload_n 0, 1) := by decide +kernel
theorem kd_Tk_add_1 : decode kc_Tk_add 1 = .ok (.getfield 37, 3) := by decide +kernel
theorem kd_Tk_add_4 : decode kc_Tk_add 4 = .ok (.aload_n 0, 1) := by decide +kernel
theorem kd_Tk_add_5 : decode kc_Tk_add 5 = .ok (.getfield 15, 3) := by decide +kernel
theorem kd_Tk_add_8 : decode kc_Tk_add 8 = .ok (.arraylength, 1) := by decide +kernel
theorem kd_Tk_add_9 : decode kc_Tk_add 9 = .ok (.if_icmp .ge 48, 3) := by decide +kernel
theorem kd_Tk_add_12 : decode kc_Tk_add 12 = .ok (.aload_n 0, 1) := by decide +kernel
theorem kd_Tk_add_13 : decode kc_Tk_add 13 = .ok (.getfield 15, 3) := by decide +kernel
theorem kd_Tk_add_16 : decode kc_Tk_add 16 = .ok (.aload_n 0, 1) := by decide +kernel
theorem kd_Tk_add_17 : decode kc_Tk_add 17 = .ok (.getfield 37, 3) := by decide +kernel
theorem kd_Tk_add_20 : decode kc_Tk_add 20 = .ok (.iload_n 1, 1) := by decide +kernel
theorem kd_Tk_add_21 : decode kc_Tk_add 21 = .ok (.i2c, 1) := by decide +kernel
theorem kd_Tk_add_22 : decode kc_Tk_add 22 = .ok (.castore, 1) := by decide +kernel
theorem kd_Tk_add_23 : decode kc_Tk_add 23 = .ok (.aload_n 0, 1) := by decide +kernel
theorem kd_Tk_add_24 : decode kc_Tk_add 24 = .ok (.getfield 19, 3) := by decide +kernel
theorem kd_Tk_add_27 : decode kc_Tk_add 27 = .ok (.aload_n 0, 1) := by decide +kernel
theorem kd_Tk_add_28 : decode kc_Tk_add 28 = .ok (.getfield 37, 3) := by decide +kernel
theorem kd_Tk_add_31 : decode kc_Tk_add 31 = .ok (.aload_n 0, 1) := by decide +kernel
theorem kd_Tk_add_32 : decode kc_Tk_add 32 = .ok (.getfield 34, 3) := by decide +kernel
theorem kd_Tk_add_35 : decode kc_Tk_add 35 = .ok (.i2c, 1) := by decide +kernel
theorem kd_Tk_add_36 : decode kc_Tk_add 36 = .ok (.castore, 1) := by decide +kernel
theorem kd_Tk_add_37 : decode kc_Tk_add 37 = .ok (.aload_n 0, 1) := by decide +kernel
theorem kd_Tk_add_38 : decode kc_Tk_add 38 = .ok (.getfield 22, 3) := by decide +kernel
theorem kd_Tk_add_41 : decode kc_Tk_add 41 = .ok (.aload_n 0, 1) := by decide +kernel
theorem kd_Tk_add_42 : decode kc_Tk_add 42 = .ok (.getfield 37, 3) := by decide +kernel
theorem kd_Tk_add_45 : decode kc_Tk_add 45 = .ok (.iload_n 2, 1) := by decide +kernel
theorem kd_Tk_add_46 : decode kc_Tk_add 46 = .ok (.iastore, 1) := by decide +kernel
theorem kd_Tk_add_47 : decode kc_Tk_add 47 = .ok (.aload_n 0, 1) := by decide +kernel
theorem kd_Tk_add_48 : decode kc_Tk_add 48 = .ok (.dup, 1) := by decide +kernel
theorem kd_Tk_add_49 : decode kc_Tk_add 49 = .ok (.getfield 37, 3) := by decide +kernel
theorem kd_Tk_add_52 : decode kc_Tk_add 52 = .ok (.iconst 1, 1) := by decide +kernel
theorem kd_Tk_add_53 : decode kc_Tk_add 53 = .ok (.iadd, 1) := by decide +kernel
theorem kd_Tk_add_54 : decode kc_Tk_add 54 = .ok (.putfield 37, 3) := by decide +kernel
theorem kd_Tk_add_57 : decode kc_Tk_add 57 = .ok (.return_, 1) := by decide +kernel
theorem kd_Tk_readToken_0 : decode kc_Tk_readToken 0 = .ok (.aload_n 0, 1) := by decide +kernel
theorem kd_Tk_readToken_1 : decode kc_Tk_readToken 1 = .ok (.aload_n 0, 1) := by decide +kernel
theorem kd_Tk_readToken_2 : decode kc_Tk_readToken 2 = .ok (.getfield 34, 3) := by decide +kernel
theorem kd_Tk_readToken_5 : decode kc_Tk_readToken 5 = .ok (.invokevirtual 51, 3) := by decide +kernel
theorem kd_Tk_readToken_8 : decode kc_Tk_readToken 8 = .ok (.istore_n 1, 1) := by decide +kernel
theorem kd_Tk_readToken_9 : decode kc_Tk_readToken 9 = .ok (.iload_n 1, 1) := by decide +kernel
theorem kd_Tk_readToken_10 : decode kc_Tk_readToken 10 = .ok (.iconst (-1), 1) := by decide +kernel
theorem kd_Tk_readToken_11 : decode kc_Tk_readToken 11 = .ok (.if_icmp .ne 12, 3) := by decide +kernel
theorem kd_Tk_readToken_14 : decode kc_Tk_readToken 14 = .ok (.aload_n 0, 1) := by decide +kernel
theorem kd_Tk_readToken_15 : decode kc_Tk_readToken 15 = .ok (.bipush 6, 2) := by decide +kernel
theorem kd_Tk_readToken_17 : decode kc_Tk_readToken 17 = .ok (.iconst 0, 1) := by decide +kernel
theorem kd_Tk_readToken_18 : decode kc_Tk_readToken 18 = .ok (.invokevirtual 47, 3) := by decide +kernel
theorem kd_Tk_readToken_21 : decode kc_Tk_readToken 21 = .ok (.iconst 0, 1) := by decide +kernel
theorem kd_Tk_readToken_22 : decode kc_Tk_readToken 22 = .ok (.ireturn, 1) := by decide +kernel
theorem kd_Tk_readToken_23 : decode kc_Tk_readToken 23 = .ok (.iload_n 1, 1) := by decide +kernel
theorem kd_Tk_readToken_24 : decode kc_Tk_readToken 24 = .ok (.bipush 84, 2) := by decide +kernel
theorem kd_Tk_readToken_26 : decode kc_Tk_readToken 26 = .ok (.if_icmp .eq 9, 3) := by decide +kernel
theorem kd_Tk_readToken_29 : decode kc_Tk_readToken 29 = .ok (.iload_n 1, 1) := by decide +kernel
theorem kd_Tk_readToken_30 : decode kc_Tk_readToken 30 = .ok (.bipush 116, 2) := by decide +kernel
theorem kd_Tk_readToken_32 : decode kc_Tk_readToken 32 = .ok (.if_icmp .ne 23, 3) := by decide +kernel
theorem kd_Tk_readToken_35 : decode kc_Tk_readToken 35 = .ok (.aload_n 0, 1) := by decide +kernel
theorem kd_Tk_readToken_36 : decode kc_Tk_readToken 36 = .ok (.aload_n 0, 1) := by decide +kernel
theorem kd_Tk_readToken_37 : decode kc_Tk_readToken 37 = .ok (.getfield 34, 3) := by decide +kernel
theorem kd_Tk_readToken_40 : decode kc_Tk_readToken 40 = .ok (.iconst 1, 1) := by decide +kernel
theorem kd_Tk_readToken_41 : decode kc_Tk_readToken 41 = .ok (.iadd, 1) := by decide +kernel
theorem kd_Tk_readToken_42 : decode kc_Tk_readToken 42 = .ok (.invokevirtual 51, 3) := by decide +kernel
theorem kd_Tk_readToken_45 : decode kc_Tk_readToken 45 = .ok (.bipush 35, 2) := by decide +kernel
theorem kd_Tk_readToken_47 : decode kc_Tk_readToken 47 = .ok (.if_icmp .ne 8, 3) := by decide +kernel
theorem kd_Tk_readToken_50 : decode kc_Tk_readToken 50 = .ok (.aload_n 0, 1) := by decide +kernel
theorem kd_Tk_readToken_51 : decode kc_Tk_readToken 51 = .ok (.invokevirtual 62, 3) := by decide +kernel
theorem kd_Tk_readToken_54 : decode kc_Tk_readToken 54 = .ok (.ireturn, 1) := by decide +kernel
theorem kd_Tk_readToken_55 : decode kc_Tk_readToken 55 = .ok (.iload_n 1, 1) := by decide +kernel
theorem kd_Tk_readToken_56 : decode kc_Tk_readToken 56 = .ok (.invokestatic 65, 3) := by decide +kernel
theorem kd_Tk_readToken_59 : decode kc_Tk_readToken 59 = .ok (.ifCond .eq 8, 3) := by decide +kernel
theorem kd_Tk_readToken_62 : decode kc_Tk_readToken 62 = .ok (.aload_n 0, 1) := by decide +kernel
theorem kd_Tk_readToken_63 : decode kc_Tk_readToken 63 = .ok (.invokevirtual 70, 3) := by decide +kernel
theorem kd_Tk_readToken_66 : decode kc_Tk_readToken 66 = .ok (.ireturn, 1) := by decide +kernel
theorem kd_Tk_readToken_67 : decode kc_Tk_readToken 67 = .ok (.iload_n 1, 1) := by decide +kernel
theorem kd_Tk_readToken_68 : decode kc_Tk_readToken 68 = .ok (.bipush 48, 2) := by decide +kernel
theorem kd_Tk_readToken_70 : decode kc_Tk_readToken 70 = .ok (.if_icmp .lt 14, 3) := by decide +kernel
theorem kd_Tk_readToken_73 : decode kc_Tk_readToken 73 = .ok (.iload_n 1, 1) := by decide +kernel
theorem kd_Tk_readToken_74 : decode kc_Tk_readToken 74 = .ok (.bipush 57, 2) := by decide +kernel
theorem kd_Tk_readToken_76 : decode kc_Tk_readToken 76 = .ok (.if_icmp .gt 8, 3) := by decide +kernel
theorem kd_Tk_readToken_79 : decode kc_Tk_readToken 79 = .ok (.aload_n 0, 1) := by decide +kernel
theorem kd_Tk_readToken_80 : decode kc_Tk_readToken 80 = .ok (.invokevirtual 73, 3) := by decide +kernel
theorem kd_Tk_readToken_83 : decode kc_Tk_readToken 83 = .ok (.ireturn, 1) := by decide +kernel
theorem kd_Tk_readToken_84 : decode kc_Tk_readToken 84 = .ok (.iload_n 1, 1) := by decide +kernel
theorem kd_Tk_readToken_85 : decode kc_Tk_readToken 85 = .ok (.bipush 37, 2) := by decide +kernel
theorem kd_Tk_readToken_87 : decode kc_Tk_readToken 87 = .ok (.if_icmp .ne 10, 3) := by decide +kernel
theorem kd_Tk_readToken_90 : decode kc_Tk_readToken 90 = .ok (.aload_n 0, 1) := by decide +kernel
theorem kd_Tk_readToken_91 : decode kc_Tk_readToken 91 = .ok (.invokevirtual 76, 3) := by decide +kernel
theorem kd_Tk_readToken_94 : decode kc_Tk_readToken 94 = .ok (.goto 8, 3) := by decide +kernel
theorem kd_Tk_readToken_97 : decode kc_Tk_readToken 97 = .ok (.aload_n 0, 1) := by decide +kernel
theorem kd_Tk_readToken_98 : decode kc_Tk_readToken 98 = .ok (.iload_n 1, 1) := by decide +kernel
theorem kd_Tk_readToken_99 : decode kc_Tk_readToken 99 = .ok (.invokevirtual 79, 3) := by decide +kernel
theorem kd_Tk_readToken_102 : decode kc_Tk_readToken 102 = .ok (.ireturn, 1) := by decide +kernel
theorem kd_Tk_read_0 : decode kc_Tk_read 0 = .ok (.aload_n 0, 1) := by decide +kernel
theorem kd_Tk_read_1 : decode kc_Tk_read 1 = .ok (.aload_n 1, 1) := by decide +kernel
theorem kd_Tk_read_2 : decode kc_Tk_read 2 = .ok (.putfield 26, 3) := by decide +kernel
theorem kd_Tk_read_5 : decode kc_Tk_read 5 = .ok (.aload_n 0, 1) := by decide +kernel
theorem kd_Tk_read_6 : decode kc_Tk_read 6 = .ok (.iload_n 2, 1) := by decide +kernel
theorem kd_Tk_read_7 : decode kc_Tk_read 7 = .ok (.putfield 30, 3) := by decide +kernel
theorem kd_Tk_read_10 : decode kc_Tk_read 10 = .ok (.aload_n 0, 1) := by decide +kernel
theorem kd_Tk_read_11 : decode kc_Tk_read 11 = .ok (.iconst 0, 1) := by decide +kernel
theorem kd_Tk_read_12 : decode kc_Tk_read 12 = .ok (.putfield 34, 3) := by decide +kernel
theorem kd_Tk_read_15 : decode kc_Tk_read 15 = .ok (.aload_n 0, 1) := by decide +kernel
theorem kd_Tk_read_16 : decode kc_Tk_read 16 = .ok (.iconst 0, 1) := by decide +kernel
theorem kd_Tk_read_17 : decode kc_Tk_read 17 = .ok (.putfield 37, 3) := by decide +kernel
theorem kd_Tk_read_20 : decode kc_Tk_read 20 = .ok (.iconst 1, 1) := by decide +kernel
theorem kd_Tk_read_21 : decode kc_Tk_read 21 = .ok (.istore_n 3, 1) := by decide +kernel
theorem kd_Tk_read_22 : decode kc_Tk_read 22 = .ok (.iconst 0, 1) := by decide +kernel
theorem kd_Tk_read_23 : decode kc_Tk_read 23 = .ok (.istore 4, 2) := by decide +kernel
theorem kd_Tk_read_25 : decode kc_Tk_read 25 = .ok (.iload 4, 2) := by decide +kernel
theorem kd_Tk_read_27 : decode kc_Tk_read 27 = .ok (.sipush 16384, 3) := by decide +kernel
theorem kd_Tk_read_30 : decode kc_Tk_read 30 = .ok (.if_icmp .gt 33, 3) := by decide +kernel
theorem kd_Tk_read_33 : decode kc_Tk_read 33 = .ok (.iload_n 3, 1) := by decide +kernel
theorem kd_Tk_read_34 : decode kc_Tk_read 34 = .ok (.ifCond .eq 29, 3) := by decide +kernel
theorem kd_Tk_read_37 : decode kc_Tk_read 37 = .ok (.aload_n 0, 1) := by decide +kernel
theorem kd_Tk_read_38 : decode kc_Tk_read 38 = .ok (.invokevirtual 40, 3) := by decide +kernel
theorem kd_Tk_read_41 : decode kc_Tk_read 41 = .ok (.ifCond .eq 14, 3) := by decide +kernel
theorem kd_Tk_read_44 : decode kc_Tk_read 44 = .ok (.aload_n 0, 1) := by decide +kernel
theorem kd_Tk_read_45 : decode kc_Tk_read 45 = .ok (.invokevirtual 44, 3) := by decide +kernel
theorem kd_Tk_read_48 : decode kc_Tk_read 48 = .ok (.ifCond .eq 7, 3) := by decide +kernel
theorem kd_Tk_read_51 : decode kc_Tk_read 51 = .ok (.iconst 1, 1) := by decide +kernel
theorem kd_Tk_read_52 : decode kc_Tk_read 52 = .ok (.goto 4, 3) := by decide +kernel
theorem kd_Tk_read_55 : decode kc_Tk_read 55 = .ok (.iconst 0, 1) := by decide +kernel
theorem kd_Tk_read_56 : decode kc_Tk_read 56 = .ok (.istore_n 3, 1) := by decide +kernel
theorem kd_Tk_read_57 : decode kc_Tk_read 57 = .ok (.iinc 4 1, 3) := by decide +kernel
theorem kd_Tk_read_60 : decode kc_Tk_read 60 = .ok (.goto (-35), 3) := by decide +kernel
theorem kd_Tk_read_63 : decode kc_Tk_read 63 = .ok (.return_, 1) := by decide +kernel
theorem kd_Tr_add_0 : decode kc_Tr_add 0 = .ok (.aload_n 0, 1) := by decide +kernel
theorem kd_Tr_add_1 : decode kc_Tr_add 1 = .ok (.getfield 33, 3) := by decide +kernel
theorem kd_Tr_add_4 : decode kc_Tr_add 4 = .ok (.ldc 37, 2) := by decide +kernel
theorem kd_Tr_add_6 : decode kc_Tr_add 6 = .ok (.invokestatic 38, 3) := by decide +kernel
theorem kd_Tr_add_9 : decode kc_Tr_add 9 = .ok (.istore 4, 2) := by decide +kernel
theorem kd_Tr_add_11 : decode kc_Tr_add 11 = .ok (.aload_n 0, 1) := by decide +kernel
theorem kd_Tr_add_12 : decode kc_Tr_add 12 = .ok (.getfield 12, 3) := by decide +kernel
theorem kd_Tr_add_15 : decode kc_Tr_add 15 = .ok (.iload 4, 2) := by decide +kernel
theorem kd_Tr_add_17 : decode kc_Tr_add 17 = .ok (.iload_n 1, 1) := by decide +kernel
theorem kd_Tr_add_18 : decode kc_Tr_add 18 = .ok (.i2b, 1) := by decide +kernel
theorem kd_Tr_add_19 : decode kc_Tr_add 19 = .ok (.bastore, 1) := by decide +kernel
theorem kd_Tr_add_20 : decode kc_Tr_add 20 = .ok (.aload_n 0, 1) := by decide +kernel
theorem kd_Tr_add_21 : decode kc_Tr_add 21 = .ok (.getfield 16, 3) := by decide +kernel
theorem kd_Tr_add_24 : decode kc_Tr_add 24 = .ok (.iload 4, 2) := by decide +kernel
theorem kd_Tr_add_26 : decode kc_Tr_add 26 = .ok (.iconst 0, 1) := by decide +kernel
theorem kd_Tr_add_27 : decode kc_Tr_add 27 = .ok (.bastore, 1) := by decide +kernel
theorem kd_Tr_add_28 : decode kc_Tr_add 28 = .ok (.aload_n 0, 1) := by decide +kernel
theorem kd_Tr_add_29 : decode kc_Tr_add 29 = .ok (.getfield 19, 3) := by decide +kernel
theorem kd_Tr_add_32 : decode kc_Tr_add 32 = .ok (.iload 4, 2) := by decide +kernel
theorem kd_Tr_add_34 : decode kc_Tr_add 34 = .ok (.iload_n 2, 1) := by decide +kernel
theorem kd_Tr_add_35 : decode kc_Tr_add 35 = .ok (.i2c, 1) := by decide +kernel
theorem kd_Tr_add_36 : decode kc_Tr_add 36 = .ok (.castore, 1) := by decide +kernel
theorem kd_Tr_add_37 : decode kc_Tr_add 37 = .ok (.aload_n 0, 1) := by decide +kernel
theorem kd_Tr_add_38 : decode kc_Tr_add 38 = .ok (.getfield 23, 3) := by decide +kernel
theorem kd_Tr_add_41 : decode kc_Tr_add 41 = .ok (.iload 4, 2) := by decide +kernel
theorem kd_Tr_add_43 : decode kc_Tr_add 43 = .ok (.iload_n 3, 1) := by decide +kernel
theorem kd_Tr_add_44 : decode kc_Tr_add 44 = .ok (.iastore, 1) := by decide +kernel
theorem kd_Tr_add_45 : decode kc_Tr_add 45 = .ok (.aload_n 0, 1) := by decide +kernel
theorem kd_Tr_add_46 : decode kc_Tr_add 46 = .ok (.getfield 27, 3) := by decide +kernel
theorem kd_Tr_add_49 : decode kc_Tr_add 49 = .ok (.iload 4, 2) := by decide +kernel
theorem kd_Tr_add_51 : decode kc_Tr_add 51 = .ok (.iconst (-1), 1) := by decide +kernel
theorem kd_Tr_add_52 : decode kc_Tr_add 52 = .ok (.iastore, 1) := by decide +kernel
theorem kd_Tr_add_53 : decode kc_Tr_add 53 = .ok (.aload_n 0, 1) := by decide +kernel
theorem kd_Tr_add_54 : decode kc_Tr_add 54 = .ok (.getfield 30, 3) := by decide +kernel
theorem kd_Tr_add_57 : decode kc_Tr_add 57 = .ok (.iload 4, 2) := by decide +kernel
theorem kd_Tr_add_59 : decode kc_Tr_add 59 = .ok (.iconst (-1), 1) := by decide +kernel
theorem kd_Tr_add_60 : decode kc_Tr_add 60 = .ok (.iastore, 1) := by decide +kernel
theorem kd_Tr_add_61 : decode kc_Tr_add 61 = .ok (.aload_n 0, 1) := by decide +kernel
theorem kd_Tr_add_62 : decode kc_Tr_add 62 = .ok (.iload 4, 2) := by decide +kernel
theorem kd_Tr_add_64 : decode kc_Tr_add 64 = .ok (.iconst 1, 1) := by decide +kernel
theorem kd_Tr_add_65 : decode kc_Tr_add 65 = .ok (.iadd, 1) := by decide +kernel
theorem kd_Tr_add_66 : decode kc_Tr_add 66 = .ok (.putfield 33, 3) := by decide +kernel
theorem kd_Tr_add_69 : decode kc_Tr_add 69 = .ok (.iload 4, 2) := by decide +kernel
theorem kd_Tr_add_71 : decode kc_Tr_add 71 = .ok (.ireturn, 1) := by decide +kernel
theorem kd_Ps_parse_0 : decode kc_Ps_parse 0 = .ok (.aload_n 0, 1) := by decide +kernel
theorem kd_Ps_parse_1 : decode kc_Ps_parse 1 = .ok (.iconst 0, 1) := by decide +kernel
theorem kd_Ps_parse_2 : decode kc_Ps_parse 2 = .ok (.putfield 19, 3) := by decide +kernel
theorem kd_Ps_parse_5 : decode kc_Ps_parse 5 = .ok (.aload_n 0, 1) := by decide +kernel
theorem kd_Ps_parse_6 : decode kc_Ps_parse 6 = .ok (.iconst 0, 1) := by decide +kernel
theorem kd_Ps_parse_7 : decode kc_Ps_parse 7 = .ok (.putfield 23, 3) := by decide +kernel
theorem kd_Ps_parse_10 : decode kc_Ps_parse 10 = .ok (.aload_n 0, 1) := by decide +kernel
theorem kd_Ps_parse_11 : decode kc_Ps_parse 11 = .ok (.aload_n 0, 1) := by decide +kernel
theorem kd_Ps_parse_12 : decode kc_Ps_parse 12 = .ok (.getfield 9, 3) := by decide +kernel
theorem kd_Ps_parse_15 : decode kc_Ps_parse 15 = .ok (.getfield 26, 3) := by decide +kernel
theorem kd_Ps_parse_18 : decode kc_Ps_parse 18 = .ok (.iconst 0, 1) := by decide +kernel
theorem kd_Ps_parse_19 : decode kc_Ps_parse 19 = .ok (.caload, 1) := by decide +kernel
theorem kd_Ps_parse_20 : decode kc_Ps_parse 20 = .ok (.putfield 32, 3) := by decide +kernel
theorem kd_Ps_parse_23 : decode kc_Ps_parse 23 = .ok (.aload_n 0, 1) := by decide +kernel
theorem kd_Ps_parse_24 : decode kc_Ps_parse 24 = .ok (.aload_n 0, 1) := by decide +kernel
theorem kd_Ps_parse_25 : decode kc_Ps_parse 25 = .ok (.getfield 9, 3) := by decide +kernel
theorem kd_Ps_parse_28 : decode kc_Ps_parse 28 = .ok (.getfield 35, 3) := by decide +kernel
theorem kd_Ps_parse_31 : decode kc_Ps_parse 31 = .ok (.iconst 0, 1) := by decide +kernel
theorem kd_Ps_parse_32 : decode kc_Ps_parse 32 = .ok (.caload, 1) := by decide +kernel
theorem kd_Ps_parse_33 : decode kc_Ps_parse 33 = .ok (.putfield 38, 3) := by decide +kernel
theorem kd_Ps_parse_36 : decode kc_Ps_parse 36 = .ok (.aload_n 0, 1) := by decide +kernel
theorem kd_Ps_parse_37 : decode kc_Ps_parse 37 = .ok (.iconst 0, 1) := by decide +kernel
theorem kd_Ps_parse_38 : decode kc_Ps_parse 38 = .ok (.putfield 41, 3) := by decide +kernel
theorem kd_Ps_parse_41 : decode kc_Ps_parse 41 = .ok (.aload_n 0, 1) := by decide +kernel
theorem kd_Ps_parse_42 : decode kc_Ps_parse 42 = .ok (.getfield 15, 3) := by decide +kernel
theorem kd_Ps_parse_45 : decode kc_Ps_parse 45 = .ok (.iconst 0, 1) := by decide +kernel
theorem kd_Ps_parse_46 : decode kc_Ps_parse 46 = .ok (.putfield 44, 3) := by decide +kernel
theorem kd_Ps_parse_49 : decode kc_Ps_parse 49 = .ok (.aload_n 0, 1) := by decide +kernel
theorem kd_Ps_parse_50 : decode kc_Ps_parse 50 = .ok (.getfield 15, 3) := by decide +kernel
theorem kd_Ps_parse_53 : decode kc_Ps_parse 53 = .ok (.iconst 0, 1) := by decide +kernel
theorem kd_Ps_parse_54 : decode kc_Ps_parse 54 = .ok (.iconst 0, 1) := by decide +kernel
theorem kd_Ps_parse_55 : decode kc_Ps_parse 55 = .ok (.iconst 0, 1) := by decide +kernel
theorem kd_Ps_parse_56 : decode kc_Ps_parse 56 = .ok (.invokevirtual 49, 3) := by decide +kernel
theorem kd_Ps_parse_59 : decode kc_Ps_parse 59 = .ok (.istore_n 1, 1) := by decide +kernel
theorem kd_Ps_parse_60 : decode kc_Ps_parse 60 = .ok (.iconst (-1), 1) := by decide +kernel
theorem kd_Ps_parse_61 : decode kc_Ps_parse 61 = .ok (.istore_n 2, 1) := by decide +kernel
theorem kd_Ps_parse_62 : decode kc_Ps_parse 62 = .ok (.iconst 0, 1) := by decide +kernel
theorem kd_Ps_parse_63 : decode kc_Ps_parse 63 = .ok (.istore_n 3, 1) := by decide +kernel
theorem kd_Ps_parse_64 : decode kc_Ps_parse 64 = .ok (.iload_n 3, 1) := by decide +kernel
theorem kd_Ps_parse_65 : decode kc_Ps_parse 65 = .ok (.sipush 16384, 3) := by decide +kernel
theorem kd_Ps_parse_68 : decode kc_Ps_parse 68 = .ok (.if_icmp .ge 39, 3) := by decide +kernel
theorem kd_Ps_parse_71 : decode kc_Ps_parse 71 = .ok (.aload_n 0, 1) := by decide +kernel
theorem kd_Ps_parse_72 : decode kc_Ps_parse 72 = .ok (.getfield 32, 3) := by decide +kernel
theorem kd_Ps_parse_75 : decode kc_Ps_parse 75 = .ok (.bipush 6, 2) := by decide +kernel
theorem kd_Ps_parse_77 : decode kc_Ps_parse 77 = .ok (.if_icmp .eq 30, 3) := by decide +kernel
theorem kd_Ps_parse_80 : decode kc_Ps_parse 80 = .ok (.aload_n 0, 1) := by decide +kernel
theorem kd_Ps_parse_81 : decode kc_Ps_parse 81 = .ok (.getfield 19, 3) := by decide +kernel
theorem kd_Ps_parse_84 : decode kc_Ps_parse 84 = .ok (.ifCond .ne 23, 3) := by decide +kernel
theorem kd_Ps_parse_87 : decode kc_Ps_parse 87 = .ok (.aload_n 0, 1) := by decide +kernel
theorem kd_Ps_parse_88 : decode kc_Ps_parse 88 = .ok (.getfield 15, 3) := by decide +kernel
theorem kd_Ps_parse_91 : decode kc_Ps_parse 91 = .ok (.iload_n 1, 1) := by decide +kernel
theorem kd_Ps_parse_92 : decode kc_Ps_parse 92 = .ok (.iload_n 2, 1) := by decide +kernel
theorem kd_Ps_parse_93 : decode kc_Ps_parse 93 = .ok (.aload_n 0, 1) := by decide +kernel
theorem kd_Ps_parse_94 : decode kc_Ps_parse 94 = .ok (.invokevirtual 53, 3) := by decide +kernel
theorem kd_Ps_parse_97 : decode kc_Ps_parse 97 = .ok (.invokevirtual 57, 3) := by decide +kernel
theorem kd_Ps_parse_100 : decode kc_Ps_parse 100 = .ok (.istore_n 2, 1) := by decide +kernel
theorem kd_Ps_parse_101 : decode kc_Ps_parse 101 = .ok (.iinc 3 1, 3) := by decide +kernel
theorem kd_Ps_parse_104 : decode kc_Ps_parse 104 = .ok (.goto (-40), 3) := by decide +kernel
theorem kd_Ps_parse_107 : decode kc_Ps_parse 107 = .ok (.aload_n 0, 1) := by decide +kernel
theorem kd_Ps_parse_108 : decode kc_Ps_parse 108 = .ok (.getfield 19, 3) := by decide +kernel
theorem kd_Ps_parse_111 : decode kc_Ps_parse 111 = .ok (.ireturn, 1) := by decide +kernel
theorem kd_Pk_note_0 : decode kc_Pk_note 0 = .ok (.iload_n 1, 1) := by decide +kernel
theorem kd_Pk_note_1 : decode kc_Pk_note 1 = .ok (.ifCond .eq 13, 3) := by decide +kernel
theorem kd_Pk_note_4 : decode kc_Pk_note 4 = .ok (.aload_n 0, 1) := by decide +kernel
theorem kd_Pk_note_5 : decode kc_Pk_note 5 = .ok (.iload_n 1, 1) := by decide +kernel
theorem kd_Pk_note_6 : decode kc_Pk_note 6 = .ok (.putfield 119, 3) := by decide +kernel
theorem kd_Pk_note_9 : decode kc_Pk_note 9 = .ok (.aload_n 0, 1) := by decide +kernel
theorem kd_Pk_note_10 : decode kc_Pk_note 10 = .ok (.iload_n 2, 1) := by decide +kernel
theorem kd_Pk_note_11 : decode kc_Pk_note 11 = .ok (.putfield 13, 3) := by decide +kernel
theorem kd_Pk_note_14 : decode kc_Pk_note 14 = .ok (.return_, 1) := by decide +kernel
theorem kd_Pk_load_0 : decode kc_Pk_load 0 = .ok (.iload_n 1, 1) := by decide +kernel
theorem kd_Pk_load_1 : decode kc_Pk_load 1 = .ok (.bipush 100, 2) := by decide +kernel
theorem kd_Pk_load_3 : decode kc_Pk_load 3 = .ok (.if_icmp .lt 9, 3) := by decide +kernel
theorem kd_Pk_load_6 : decode kc_Pk_load 6 = .ok (.iload_n 1, 1) := by decide +kernel
theorem kd_Pk_load_7 : decode kc_Pk_load 7 = .ok (.ldc 115, 2) := by decide +kernel
theorem kd_Pk_load_9 : decode kc_Pk_load 9 = .ok (.if_icmp .le 5, 3) := by decide +kernel
theorem kd_Pk_load_12 : decode kc_Pk_load 12 = .ok (.iconst (-1), 1) := by decide +kernel
theorem kd_Pk_load_13 : decode kc_Pk_load 13 = .ok (.ireturn, 1) := by decide +kernel
theorem kd_Pk_load_14 : decode kc_Pk_load 14 = .ok (.aload_n 0, 1) := by decide +kernel
theorem kd_Pk_load_15 : decode kc_Pk_load 15 = .ok (.getfield 95, 3) := by decide +kernel
theorem kd_Pk_load_18 : decode kc_Pk_load 18 = .ok (.invokevirtual 116, 3) := by decide +kernel
theorem kd_Pk_load_21 : decode kc_Pk_load 21 = .ok (.aload_n 0, 1) := by decide +kernel
theorem kd_Pk_load_22 : decode kc_Pk_load 22 = .ok (.iconst 0, 1) := by decide +kernel
theorem kd_Pk_load_23 : decode kc_Pk_load 23 = .ok (.putfield 119, 3) := by decide +kernel
theorem kd_Pk_load_26 : decode kc_Pk_load 26 = .ok (.aload_n 0, 1) := by decide +kernel
theorem kd_Pk_load_27 : decode kc_Pk_load 27 = .ok (.bipush (-5), 2) := by decide +kernel
theorem kd_Pk_load_29 : decode kc_Pk_load 29 = .ok (.putfield 13, 3) := by decide +kernel
theorem kd_Pk_load_32 : decode kc_Pk_load 32 = .ok (.aload_n 0, 1) := by decide +kernel
theorem kd_Pk_load_33 : decode kc_Pk_load 33 = .ok (.getfield 20, 3) := by decide +kernel
theorem kd_Pk_load_36 : decode kc_Pk_load 36 = .ok (.invokevirtual 122, 3) := by decide +kernel
theorem kd_Pk_load_39 : decode kc_Pk_load 39 = .ok (.aload_n 0, 1) := by decide +kernel
theorem kd_Pk_load_40 : decode kc_Pk_load 40 = .ok (.getfield 29, 3) := by decide +kernel
theorem kd_Pk_load_43 : decode kc_Pk_load 43 = .ok (.aload_n 0, 1) := by decide +kernel
theorem kd_Pk_load_44 : decode kc_Pk_load 44 = .ok (.getfield 9, 3) := by decide +kernel
theorem kd_Pk_load_47 : decode kc_Pk_load 47 = .ok (.aload_n 0, 1) := by decide +kernel
theorem kd_Pk_load_48 : decode kc_Pk_load 48 = .ok (.getfield 108, 3) := by decide +kernel
theorem kd_Pk_load_51 : decode kc_Pk_load 51 = .ok (.invokevirtual 123, 3) := by decide +kernel
theorem kd_Pk_load_54 : decode kc_Pk_load 54 = .ok (.aload_n 0, 1) := by decide +kernel
theorem kd_Pk_load_55 : decode kc_Pk_load 55 = .ok (.iconst 0, 1) := by decide +kernel
theorem kd_Pk_load_56 : decode kc_Pk_load 56 = .ok (.putfield 108, 3) := by decide +kernel
theorem kd_Pk_load_59 : decode kc_Pk_load 59 = .ok (.aload_n 0, 1) := by decide +kernel
theorem kd_Pk_load_60 : decode kc_Pk_load 60 = .ok (.aload_n 0, 1) := by decide +kernel
theorem kd_Pk_load_61 : decode kc_Pk_load 61 = .ok (.getfield 45, 3) := by decide +kernel
theorem kd_Pk_load_64 : decode kc_Pk_load 64 = .ok (.invokevirtual 127, 3) := by decide +kernel
theorem kd_Pk_load_67 : decode kc_Pk_load 67 = .ok (.aload_n 0, 1) := by decide +kernel
theorem kd_Pk_load_68 : decode kc_Pk_load 68 = .ok (.getfield 45, 3) := by decide +kernel
theorem kd_Pk_load_71 : decode kc_Pk_load 71 = .ok (.getfield 131, 3) := by decide +kernel
theorem kd_Pk_load_74 : decode kc_Pk_load 74 = .ok (.invokevirtual 132, 3) := by decide +kernel
theorem kd_Pk_load_77 : decode kc_Pk_load 77 = .ok (.aload_n 0, 1) := by decide +kernel
theorem kd_Pk_load_78 : decode kc_Pk_load 78 = .ok (.getfield 119, 3) := by decide +kernel
theorem kd_Pk_load_81 : decode kc_Pk_load 81 = .ok (.ifCond .ne 21, 3) := by decide +kernel
theorem kd_Pk_load_84 : decode kc_Pk_load 84 = .ok (.aload_n 0, 1) := by decide +kernel
theorem kd_Pk_load_85 : decode kc_Pk_load 85 = .ok (.aload_n 0, 1) := by decide +kernel
theorem kd_Pk_load_86 : decode kc_Pk_load 86 = .ok (.getfield 61, 3) := by decide +kernel
theorem kd_Pk_load_89 : decode kc_Pk_load 89 = .ok (.invokevirtual 136, 3) := by decide +kernel
theorem kd_Pk_load_92 : decode kc_Pk_load 92 = .ok (.aload_n 0, 1) := by decide +kernel
theorem kd_Pk_load_93 : decode kc_Pk_load 93 = .ok (.getfield 61, 3) := by decide +kernel
theorem kd_Pk_load_96 : decode kc_Pk_load 96 = .ok (.getfield 138, 3) := by decide +kernel
theorem kd_Pk_load_99 : decode kc_Pk_load 99 = .ok (.invokevirtual 132, 3) := by decide +kernel
theorem kd_Pk_load_102 : decode kc_Pk_load 102 = .ok (.aload_n 0, 1) := by decide +kernel
theorem kd_Pk_load_103 : decode kc_Pk_load 103 = .ok (.getfield 119, 3) := by decide +kernel
theorem kd_Pk_load_106 : decode kc_Pk_load 106 = .ok (.ifCond .ne 15, 3) := by decide +kernel
theorem kd_Pk_load_109 : decode kc_Pk_load 109 = .ok (.aload_n 0, 1) := by decide +kernel
theorem kd_Pk_load_110 : decode kc_Pk_load 110 = .ok (.aload_n 0, 1) := by decide +kernel
theorem kd_Pk_load_111 : decode kc_Pk_load 111 = .ok (.getfield 77, 3) := by decide +kernel
theorem kd_Pk_load_114 : decode kc_Pk_load 114 = .ok (.invokevirtual 139, 3) := by decide +kernel
theorem kd_Pk_load_117 : decode kc_Pk_load 117 = .ok (.iconst 0, 1) := by decide +kernel
theorem kd_Pk_load_118 : decode kc_Pk_load 118 = .ok (.invokevirtual 132, 3) := by decide +kernel
theorem kd_Pk_load_121 : decode kc_Pk_load 121 = .ok (.aload_n 0, 1) := by decide +kernel
theorem kd_Pk_load_122 : decode kc_Pk_load 122 = .ok (.getfield 119, 3) := by decide +kernel
theorem kd_Pk_load_125 : decode kc_Pk_load 125 = .ok (.ifCond .ne 8, 3) := by decide +kernel
theorem kd_Pk_load_128 : decode kc_Pk_load 128 = .ok (.aload_n 0, 1) := by decide +kernel
theorem kd_Pk_load_129 : decode kc_Pk_load 129 = .ok (.iload_n 1, 1) := by decide +kernel
theorem kd_Pk_load_130 : decode kc_Pk_load 130 = .ok (.invokevirtual 142, 3) := by decide +kernel
theorem kd_Pk_load_133 : decode kc_Pk_load 133 = .ok (.aload_n 0, 1) := by decide +kernel
theorem kd_Pk_load_134 : decode kc_Pk_load 134 = .ok (.getfield 119, 3) := by decide +kernel
theorem kd_Pk_load_137 : decode kc_Pk_load 137 = .ok (.ifCond .ne 28, 3) := by decide +kernel
theorem kd_Pk_load_140 : decode kc_Pk_load 140 = .ok (.aload_n 0, 1) := by decide +kernel
theorem kd_Pk_load_141 : decode kc_Pk_load 141 = .ok (.getfield 95, 3) := by decide +kernel
theorem kd_Pk_load_144 : decode kc_Pk_load 144 = .ok (.aload_n 0, 1) := by decide +kernel
theorem kd_Pk_load_145 : decode kc_Pk_load 145 = .ok (.getfield 86, 3) := by decide +kernel
theorem kd_Pk_load_148 : decode kc_Pk_load 148 = .ok (.getfield 145, 3) := by decide +kernel
theorem kd_Pk_load_151 : decode kc_Pk_load 151 = .ok (.aload_n 0, 1) := by decide +kernel
theorem kd_Pk_load_152 : decode kc_Pk_load 152 = .ok (.getfield 52, 3) := by decide +kernel
theorem kd_Pk_load_155 : decode kc_Pk_load 155 = .ok (.getfield 149, 3) := by decide +kernel
theorem kd_Pk_load_158 : decode kc_Pk_load 158 = .ok (.bipush 9, 2) := by decide +kernel
theorem kd_Pk_load_160 : decode kc_Pk_load 160 = .ok (.isub, 1) := by decide +kernel
theorem kd_Pk_load_161 : decode kc_Pk_load 161 = .ok (.iaload, 1) := by decide +kernel
theorem kd_Pk_load_162 : decode kc_Pk_load 162 = .ok (.invokevirtual 152, 3) := by decide +kernel
theorem kd_Pk_load_165 : decode kc_Pk_load 165 = .ok (.aload_n 0, 1) := by decide +kernel
theorem kd_Pk_load_166 : decode kc_Pk_load 166 = .ok (.getfield 119, 3) := by decide +kernel
theorem kd_Pk_load_169 : decode kc_Pk_load 169 = .ok (.ireturn, 1) := by decide +kernel
set_option maxHeartbeats 4000000 in
set_option maxRecDepth 100000 in
theorem zp_c_enter1 {l : Launch} {D : va_G} {sz0 : Nat} {S : zs_T} {P : ze_T} (h : zs_H) (m_13_0 : h.2.1 13 0 = 0) : zk_Sp (zs_G S l D sz0) (ze_E P) km_Jd_enter { frames := 0, cells := 0, slots := 0, locals := 0 } [.ref (S.1 38), .int 0] (zs_W S h) (fun v w => (v = none ∧ w = zs_W S h)) := by
  refine zk_met ku_Jd_enter (Nat.le_of_ble_eq_true rfl) (ze_Em P) ?_
  intro X C hR
  refine zk_lvs (lv' := [(0, .ref (S.1 38)), (1, .int 0)]) [0, 1] rfl ?_
  refine zk_aload_n C kd_Jd_enter_0 rfl 0 rfl rfl ?_
  refine zs_get (v := .ref (S.1 12)) C 38 1 rfl rfl rfl rfl ki_Jd (by decide) kw352 kd_Jd_enter_1 rfl ?_
  refine zs_get (v := .ref (S.1 13)) C 12 0 rfl rfl rfl rfl ki_Tr (by decide) kw157 kd_Jd_enter_4 rfl ?_
  refine zk_iload_n C kd_Jd_enter_7 rfl 1 rfl rfl ?_
  refine zs_bald C 13 rfl (zp_dec rfl) kd_Jd_enter_8 rfl ?_
  refine zk_stk (r' := [.int 0]) (congrArg (fun z => Value.int z :: []) m_13_0) ?_
  refine zk_tableOut (tgt := 311) C kd_Jd_enter_9 (by decide) (by decide) ?_
  exact zk_vret C hR kd_Jd_enter_311 rfl rfl ⟨rfl, rfl⟩
set_option maxHeartbeats 4000000 in
set_option maxRecDepth 100000 in
theorem zp_c_layOut1 {l : Launch} {D : va_G} {sz0 : Nat} {S : zs_T} {P : ze_T} (h : zs_H) (e_20_17 : h.1 20 17 = 9) (e_20_19 : h.1 20 19 = (-1)) : zk_Sp (zs_G S l D sz0) (ze_E P) km_Pl_layOut { frames := 0, cells := 0, slots := 0, locals := 0 } [.ref (S.1 20)] (zs_W S h) (fun v w => (v = none ∧ w = zs_W S (zs_uF h 20 20 0))) := by
  refine zk_met ku_Pl_layOut (Nat.le_of_ble_eq_true rfl) (ze_Em P) ?_
  intro X C hR
  refine zk_lvs (lv' := [(0, .ref (S.1 20))]) [0] rfl ?_
  refine zk_aload_n C kd_Pl_layOut_0 rfl 0 rfl rfl ?_
  refine zk_aload_n C kd_Pl_layOut_1 rfl 0 rfl rfl ?_
  refine zs_get (v := .int (-1)) C 20 19 rfl rfl (congrArg Value.int e_20_19) rfl ki_Pl (by decide) kw294 kd_Pl_layOut_2 rfl ?_
  refine zk_iconst (v := (-1)) C kd_Pl_layOut_5 (by decide) rfl ?_
  refine zk_icmp_ne (tgt := 13) C kd_Pl_layOut_6 (by decide) rfl (fun h_1 => absurd (by decide) h_1) (fun h_1 => ?_)
  refine zk_iconst (v := 0) C kd_Pl_layOut_9 (by decide) rfl ?_
  refine zk_goto (tgt := 22) C kd_Pl_layOut_10 (by decide) ?_
  refine zs_put (ty := .int) C 20 20 0 rfl rfl rfl rfl ki_Pl ky_Pl ko_Pl kn_Pl (by decide) kw298 rfl rfl rfl rfl (by decide) kd_Pl_layOut_22 rfl ?_
  refine zk_bipush (v := 9) C kd_Pl_layOut_25 (by decide) rfl ?_
  refine zk_istore_n (lv' := [(1, _), (0, _)]) C kd_Pl_layOut_27 rfl (by decide) rfl rfl ?_
  refine zk_iload_n C kd_Pl_layOut_28 rfl 0 rfl rfl ?_
  refine zk_aload_n C kd_Pl_layOut_29 rfl 1 rfl rfl ?_
  refine zs_get (v := .int 9) C 20 17 rfl rfl (congrArg Value.int e_20_17) rfl ki_Pl (by decide) kw290 kd_Pl_layOut_30 rfl ?_
  refine zk_icmp_ge (tgt := 77) C kd_Pl_layOut_33 (by decide) rfl (fun h_2 => ?_) (fun h_2 => absurd (by decide) h_2)
  exact zk_vret C hR kd_Pl_layOut_77 rfl rfl ⟨rfl, rfl⟩
set_option maxHeartbeats 4000000 in
set_option maxRecDepth 100000 in
theorem zp_c_refuse1 {l : Launch} {D : va_G} {sz0 : Nat} {S : zs_T} {P : ze_T} (h : zs_H) (e_38_3 : h.1 38 3 = 0) (m_15_0 : h.2.1 15 0 = 0) : zk_Sp (zs_G S l D sz0) (ze_E P) km_Jd_refuse { frames := 0, cells := 0, slots := 0, locals := 0 } [.ref (S.1 38), .int 10, .int 0] (zs_W S h) (fun v w => (v = none ∧ w = zs_W S (zs_uF (zs_uF h 38 3 10) 38 0 0))) := by
  refine zk_met ku_Jd_refuse (Nat.le_of_ble_eq_true rfl) (ze_Em P) ?_
  intro X C hR
  refine zk_lvs (lv' := [(0, .ref (S.1 38)), (1, .int 10), (2, .int 0)]) [0, 1, 2] rfl ?_
  refine zk_aload_n C kd_Jd_refuse_0 rfl 0 rfl rfl ?_
  refine zs_get (v := .int 0) C 38 3 rfl rfl (congrArg Value.int e_38_3) rfl ki_Jd (by decide) kw354 kd_Jd_refuse_1 rfl ?_
  refine zk_if_ne (tgt := 25) C kd_Jd_refuse_4 (by decide) rfl (fun h_1 => absurd (by decide) h_1) (fun h_1 => ?_)
  refine zk_aload_n C kd_Jd_refuse_7 rfl 0 rfl rfl ?_
  refine zk_iload_n C kd_Jd_refuse_8 rfl 1 rfl rfl ?_
  refine zs_put (ty := .int) C 38 3 10 rfl rfl rfl rfl ki_Jd ky_Jd ko_Jd kn_Jd (by decide) kw354 rfl rfl rfl rfl (by decide) kd_Jd_refuse_9 rfl ?_
  refine zk_aload_n C kd_Jd_refuse_12 rfl 0 rfl rfl ?_
  refine zk_aload_n C kd_Jd_refuse_13 rfl 0 rfl rfl ?_
  refine zs_get (v := .ref (S.1 12)) C 38 1 rfl rfl rfl rfl ki_Jd (by decide) kw352 kd_Jd_refuse_14 rfl ?_
  refine zs_get (v := .ref (S.1 15)) C 12 2 rfl rfl rfl rfl ki_Tr (by decide) kw163 kd_Jd_refuse_17 rfl ?_
  refine zk_iload_n C kd_Jd_refuse_20 rfl 2 rfl rfl ?_
  refine zs_cald C 15 rfl (zp_dec rfl) kd_Jd_refuse_21 rfl ?_
  refine zk_stk (r' := [.int 0, .ref (S.1 38)]) (congrArg (fun z => Value.int z :: [.ref (S.1 38)]) m_15_0) ?_
  refine zs_put (ty := .int) C 38 0 0 rfl rfl rfl rfl ki_Jd ky_Jd ko_Jd kn_Jd (by decide) kw350 rfl rfl rfl rfl (by decide) kd_Jd_refuse_22 rfl ?_
  exact zk_vret C hR kd_Jd_refuse_25 rfl rfl ⟨rfl, rfl⟩
set_option maxHeartbeats 4000000 in
set_option maxRecDepth 100000 in
theorem zp_c_refuseIf1 {l : Launch} {D : va_G} {sz0 : Nat} {S : zs_T} {P : ze_T} (h : zs_H) (e_38_3 : h.1 38 3 = 0) (m_15_0 : h.2.1 15 0 = 0) : zk_Sp (zs_G S l D sz0) (ze_E P) km_Jd_refuseIf { frames := 1, cells := 0, slots := 0, locals := 22 } [.ref (S.1 38), .int 1, .int 10, .int 0] (zs_W S h) (fun v w => (v = none ∧ w = zs_W S (zs_uF (zs_uF h 38 3 10) 38 0 0))) := by
  refine zk_met ku_Jd_refuseIf (Nat.le_of_ble_eq_true rfl) (ze_Em P) ?_
  intro X C hR
  refine zk_lvs (lv' := [(0, .ref (S.1 38)), (1, .int 1), (2, .int 10), (3, .int 0)]) [0, 1, 2, 3] rfl ?_
  refine zk_iload_n C kd_Jd_refuseIf_0 rfl 1 rfl rfl ?_
  refine zk_if_eq (tgt := 10) C kd_Jd_refuseIf_1 (by decide) rfl (fun h_1 => absurd h_1 (by decide)) (fun h_1 => ?_)
  refine zk_aload_n C kd_Jd_refuseIf_4 rfl 0 rfl rfl ?_
  refine zk_iload_n C kd_Jd_refuseIf_5 rfl 2 rfl rfl ?_
  refine zk_iload_n C kd_Jd_refuseIf_6 rfl 3 rfl rfl ?_
  refine zs_callV (k := 38) (rn := { frames := 0, cells := 0, slots := 0, locals := 0 }) (As := [.int 10, .int 0]) (rest := []) C (zp_c_refuse1 h e_38_3 m_15_0) ku_Jd_refuse kw1040 kv_Jd_refuse rfl ⟨by decide, by decide⟩ ⟨by decide, by decide⟩ rfl rfl rfl (Nat.le_of_ble_eq_true rfl) kd_Jd_refuseIf_7 rfl (c1 := 0) (s1 := 0) rfl rfl (fun v w hp => ?_)
  obtain ⟨rfl, rfl⟩ := hp
  refine zk_stk (r' := []) rfl ?_
  exact zk_vret C hR kd_Jd_refuseIf_10 rfl rfl ⟨rfl, rfl⟩
set_option maxHeartbeats 4000000 in
set_option maxRecDepth 100000 in
theorem zp_c_refuseIf2 {l : Launch} {D : va_G} {sz0 : Nat} {S : zs_T} {P : ze_T} (h : zs_H) : zk_Sp (zs_G S l D sz0) (ze_E P) km_Jd_refuseIf { frames := 0, cells := 0, slots := 0, locals := 0 } [.ref (S.1 38), .int 0, .int 42, .int 0] (zs_W S h) (fun v w => (v = none ∧ w = zs_W S h)) := by
  refine zk_met ku_Jd_refuseIf (Nat.le_of_ble_eq_true rfl) (ze_Em P) ?_
  intro X C hR
  refine zk_lvs (lv' := [(0, .ref (S.1 38)), (1, .int 0), (2, .int 42), (3, .int 0)]) [0, 1, 2, 3] rfl ?_
  refine zk_iload_n C kd_Jd_refuseIf_0 rfl 1 rfl rfl ?_
  refine zk_if_eq (tgt := 10) C kd_Jd_refuseIf_1 (by decide) rfl (fun h_1 => ?_) (fun h_1 => absurd (by decide) h_1)
  exact zk_vret C hR kd_Jd_refuseIf_10 rfl rfl ⟨rfl, rfl⟩
set_option maxHeartbeats 4000000 in
set_option maxRecDepth 100000 in
theorem zp_c_leaveText1 {l : Launch} {D : va_G} {sz0 : Nat} {S : zs_T} {P : ze_T} (h : zs_H) (e_20_17 : h.1 20 17 = 9) (e_20_19 : h.1 20 19 = (-1)) (e_38_3 : h.1 38 3 = 0) (m_15_0 : h.2.1 15 0 = 0) : zk_Sp (zs_G S l D sz0) (ze_E P) km_Jd_leaveText { frames := 2, cells := 0, slots := 0, locals := 45 } [.ref (S.1 38), .int 0] (zs_W S h) (fun v w => (v = none ∧ w = zs_W S (zs_uF (zs_uF (zs_uF h 20 20 0) 38 3 10) 38 0 0))) := by
  refine zk_met ku_Jd_leaveText (Nat.le_of_ble_eq_true rfl) (ze_Em P) ?_
  intro X C hR
  refine zk_lvs (lv' := [(0, .ref (S.1 38)), (1, .int 0)]) [0, 1] rfl ?_
  refine zk_aload_n C kd_Jd_leaveText_0 rfl 0 rfl rfl ?_
  refine zs_get (v := .ref (S.1 20)) C 38 2 rfl rfl rfl rfl ki_Jd (by decide) kw353 kd_Jd_leaveText_1 rfl ?_
  refine zs_callV (k := 20) (rn := { frames := 0, cells := 0, slots := 0, locals := 0 }) (As := []) (rest := []) C (zp_c_layOut1 h e_20_17 e_20_19) ku_Pl_layOut kw1061 kv_Pl_layOut rfl ⟨by decide, by decide⟩ ⟨by decide, by decide⟩ rfl rfl rfl (Nat.le_of_ble_eq_true rfl) kd_Jd_leaveText_4 rfl (c1 := 0) (s1 := 0) rfl rfl (fun v w hp => ?_)
  obtain ⟨rfl, rfl⟩ := hp
  refine zk_stk (r' := []) rfl ?_
  refine zk_aload_n C kd_Jd_leaveText_7 rfl 0 rfl rfl ?_
  refine zk_aload_n C kd_Jd_leaveText_8 rfl 0 rfl rfl ?_
  refine zs_get (v := .ref (S.1 20)) C 38 2 rfl rfl rfl rfl ki_Jd (by decide) kw353 kd_Jd_leaveText_9 rfl ?_
  refine zs_get (v := .int (-1)) C 20 19 rfl rfl (congrArg Value.int e_20_19) rfl ki_Pl (by decide) kw296 kd_Jd_leaveText_12 rfl ?_
  refine zk_iconst (v := (-1)) C kd_Jd_leaveText_15 (by decide) rfl ?_
  refine zk_icmp_ne (tgt := 23) C kd_Jd_leaveText_16 (by decide) rfl (fun h_1 => absurd (by decide) h_1) (fun h_1 => ?_)
  refine zk_iconst (v := 1) C kd_Jd_leaveText_19 (by decide) rfl ?_
  refine zk_goto (tgt := 24) C kd_Jd_leaveText_20 (by decide) ?_
  refine zk_bipush (v := 10) C kd_Jd_leaveText_24 (by decide) rfl ?_
  refine zk_iload_n C kd_Jd_leaveText_26 rfl 1 rfl rfl ?_
  refine zs_callV (k := 38) (rn := { frames := 1, cells := 0, slots := 0, locals := 22 }) (As := [.int 1, .int 10, .int 0]) (rest := []) C (zp_c_refuseIf1 (zs_uF h 20 20 0) e_38_3 m_15_0) ku_Jd_refuseIf kw1036 kv_Jd_refuseIf rfl ⟨by decide, by decide⟩ ⟨by decide, by decide⟩ rfl rfl rfl (Nat.le_of_ble_eq_true rfl) kd_Jd_leaveText_27 rfl (c1 := 0) (s1 := 0) rfl rfl (fun v w hp => ?_)
  obtain ⟨rfl, rfl⟩ := hp
  refine zk_stk (r' := []) rfl ?_
  refine zk_aload_n C kd_Jd_leaveText_30 rfl 0 rfl rfl ?_
  refine zk_aload_n C kd_Jd_leaveText_31 rfl 0 rfl rfl ?_
  refine zs_get (v := .ref (S.1 20)) C 38 2 rfl rfl rfl rfl ki_Jd (by decide) kw353 kd_Jd_leaveText_32 rfl ?_
  refine zs_get (v := .int 0) C 20 20 rfl rfl rfl rfl ki_Pl (by decide) kw299 kd_Jd_leaveText_35 rfl ?_
  refine zk_sipush (v := 8192) C kd_Jd_leaveText_38 (by decide) rfl ?_
  refine zk_icmp_le (tgt := 48) C kd_Jd_leaveText_41 (by decide) rfl (fun h_2 => ?_) (fun h_2 => absurd (by decide) h_2)
  refine zk_iconst (v := 0) C kd_Jd_leaveText_48 (by decide) rfl ?_
  refine zk_bipush (v := 42) C kd_Jd_leaveText_49 (by decide) rfl ?_
  refine zk_iload_n C kd_Jd_leaveText_51 rfl 1 rfl rfl ?_
  refine zs_callV (k := 38) (rn := { frames := 0, cells := 0, slots := 0, locals := 0 }) (As := [.int 0, .int 42, .int 0]) (rest := []) C (zp_c_refuseIf2 (zs_uF (zs_uF (zs_uF h 20 20 0) 38 3 10) 38 0 0)) ku_Jd_refuseIf kw1036 kv_Jd_refuseIf rfl ⟨by decide, by decide⟩ ⟨by decide, by decide⟩ rfl rfl rfl (Nat.le_of_ble_eq_true rfl) kd_Jd_leaveText_52 rfl (c1 := 0) (s1 := 0) rfl rfl (fun v w hp => ?_)
  obtain ⟨rfl, rfl⟩ := hp
  refine zk_stk (r' := []) rfl ?_
  exact zk_vret C hR kd_Jd_leaveText_55 rfl rfl ⟨rfl, rfl⟩
set_option maxHeartbeats 4000000 in
set_option maxRecDepth 100000 in
theorem zp_c_leave1 {l : Launch} {D : va_G} {sz0 : Nat} {S : zs_T} {P : ze_T} (h : zs_H) (e_20_17 : h.1 20 17 = 9) (e_20_19 : h.1 20 19 = (-1)) (e_38_3 : h.1 38 3 = 0) (m_13_0 : h.2.1 13 0 = 0) (m_15_0 : h.2.1 15 0 = 0) (m_17_0 : h.2.1 17 0 = (-1)) : zk_Sp (zs_G S l D sz0) (ze_E P) km_Jd_leave { frames := 3, cells := 0, slots := 0, locals := 66 } [.ref (S.1 38), .int 0] (zs_W S h) (fun v w => (v = none ∧ w = zs_W S (zs_uF (zs_uF (zs_uF h 20 20 0) 38 3 10) 38 0 0))) := by
  refine zk_met ku_Jd_leave (Nat.le_of_ble_eq_true rfl) (ze_Em P) ?_
  intro X C hR
  refine zk_lvs (lv' := [(0, .ref (S.1 38)), (1, .int 0)]) [0, 1] rfl ?_
  refine zk_aload_n C kd_Jd_leave_0 rfl 0 rfl rfl ?_
  refine zs_get (v := .ref (S.1 12)) C 38 1 rfl rfl rfl rfl ki_Jd (by decide) kw352 kd_Jd_leave_1 rfl ?_
  refine zs_get (v := .ref (S.1 17)) C 12 4 rfl rfl rfl rfl ki_Tr (by decide) kw170 kd_Jd_leave_4 rfl ?_
  refine zk_iload_n C kd_Jd_leave_7 rfl 1 rfl rfl ?_
  refine zs_iald C 17 rfl (zp_dec rfl) kd_Jd_leave_8 rfl ?_
  refine zk_stk (r' := [.int (-1)]) (congrArg (fun z => Value.int z :: []) m_17_0) ?_
  refine zk_istore_n (lv' := [(2, _), (0, _), (1, _)]) C kd_Jd_leave_9 rfl (by decide) rfl rfl ?_
  refine zk_aload_n C kd_Jd_leave_10 rfl 1 rfl rfl ?_
  refine zs_get (v := .ref (S.1 12)) C 38 1 rfl rfl rfl rfl ki_Jd (by decide) kw352 kd_Jd_leave_11 rfl ?_
  refine zs_get (v := .ref (S.1 13)) C 12 0 rfl rfl rfl rfl ki_Tr (by decide) kw157 kd_Jd_leave_14 rfl ?_
  refine zk_iload_n C kd_Jd_leave_17 rfl 2 rfl rfl ?_
  refine zs_bald C 13 rfl (zp_dec rfl) kd_Jd_leave_18 rfl ?_
  refine zk_stk (r' := [.int 0]) (congrArg (fun z => Value.int z :: []) m_13_0) ?_
  refine zk_tableIn (tgt := 184) C kd_Jd_leave_19 (by decide) (by decide) rfl (by decide) ?_
  refine zk_aload_n C kd_Jd_leave_184 rfl 1 rfl rfl ?_
  refine zk_iload_n C kd_Jd_leave_185 rfl 2 rfl rfl ?_
  refine zs_callV (k := 38) (rn := { frames := 2, cells := 0, slots := 0, locals := 45 }) (As := [.int 0]) (rest := []) C (zp_c_leaveText1 h e_20_17 e_20_19 e_38_3 m_15_0) ku_Jd_leaveText kw1057 kv_Jd_leaveText rfl ⟨by decide, by decide⟩ ⟨by decide, by decide⟩ rfl rfl rfl (Nat.le_of_ble_eq_true rfl) kd_Jd_leave_186 rfl (c1 := 0) (s1 := 0) rfl rfl (fun v w hp => ?_)
  obtain ⟨rfl, rfl⟩ := hp
  refine zk_stk (r' := []) rfl ?_
  refine zk_goto (tgt := 475) C kd_Jd_leave_189 (by decide) ?_
  exact zk_vret C hR kd_Jd_leave_475 rfl rfl ⟨rfl, rfl⟩
set_option maxHeartbeats 4000000 in
set_option maxRecDepth 100000 in
theorem zp_c_visit1 {l : Launch} {D : va_G} {sz0 : Nat} {S : zs_T} {P : ze_T} (h : zs_H) (e_12_6 : h.1 12 6 = 1) (e_20_17 : h.1 20 17 = 9) (e_20_19 : h.1 20 19 = (-1)) (e_38_3 : h.1 38 3 = 0) (m_13_0 : h.2.1 13 0 = 0) (m_15_0 : h.2.1 15 0 = 0) (m_17_0 : h.2.1 17 0 = (-1)) : zk_Sp (zs_G S l D sz0) (ze_E P) km_Jd_visit { frames := 4, cells := 0, slots := 0, locals := 88 } [.ref (S.1 38), .int 0, .int 0] (zs_W S h) (fun v w => (v = none ∧ w = zs_W S (zs_uF (zs_uF (zs_uF h 20 20 0) 38 3 10) 38 0 0))) := by
  refine zk_met ku_Jd_visit (Nat.le_of_ble_eq_true rfl) (ze_Em P) ?_
  intro X C hR
  refine zk_lvs (lv' := [(0, .ref (S.1 38)), (1, .int 0), (2, .int 0)]) [0, 1, 2] rfl ?_
  refine zk_iload_n C kd_Jd_visit_0 rfl 2 rfl rfl ?_
  refine zk_sipush (v := 240) C kd_Jd_visit_1 (by decide) rfl ?_
  refine zk_icmp_le (tgt := 8) C kd_Jd_visit_4 (by decide) rfl (fun h_1 => ?_) (fun h_1 => absurd (by decide) h_1)
  refine zk_aload_n C kd_Jd_visit_8 rfl 0 rfl rfl ?_
  refine zk_iload_n C kd_Jd_visit_9 rfl 1 rfl rfl ?_
  refine zs_callV (k := 38) (rn := { frames := 0, cells := 0, slots := 0, locals := 0 }) (As := [.int 0]) (rest := []) C (zp_c_enter1 h m_13_0) ku_Jd_enter kw1028 kv_Jd_enter rfl ⟨by decide, by decide⟩ ⟨by decide, by decide⟩ rfl rfl rfl (Nat.le_of_ble_eq_true rfl) kd_Jd_visit_10 rfl (c1 := 0) (s1 := 0) rfl rfl (fun v w hp => ?_)
  obtain ⟨rfl, rfl⟩ := hp
  refine zk_stk (r' := []) rfl ?_
  refine zk_aload_n C kd_Jd_visit_13 rfl 0 rfl rfl ?_
  refine zs_get (v := .ref (S.1 12)) C 38 1 rfl rfl rfl rfl ki_Jd (by decide) kw352 kd_Jd_visit_14 rfl ?_
  refine zs_get (v := .ref (S.1 17)) C 12 4 rfl rfl rfl rfl ki_Tr (by decide) kw170 kd_Jd_visit_17 rfl ?_
  refine zk_iload_n C kd_Jd_visit_20 rfl 1 rfl rfl ?_
  refine zs_iald C 17 rfl (zp_dec rfl) kd_Jd_visit_21 rfl ?_
  refine zk_stk (r' := [.int (-1)]) (congrArg (fun z => Value.int z :: []) m_17_0) ?_
  refine zk_istore_n (lv' := [(3, _), (0, _), (1, _), (2, _)]) C kd_Jd_visit_22 rfl (by decide) rfl rfl ?_
  refine zk_iconst (v := 0) C kd_Jd_visit_23 (by decide) rfl ?_
  refine zk_istore (lv' := [(4, _), (3, _), (0, _), (1, _), (2, _)]) C kd_Jd_visit_24 (by decide) rfl rfl ?_
  refine zk_iload C kd_Jd_visit_26 0 rfl rfl ?_
  refine zk_aload_n C kd_Jd_visit_28 rfl 2 rfl rfl ?_
  refine zs_get (v := .ref (S.1 12)) C 38 1 rfl rfl rfl rfl ki_Jd (by decide) kw352 kd_Jd_visit_29 rfl ?_
  refine zs_get (v := .int 1) C 12 6 rfl rfl (congrArg Value.int e_12_6) rfl ki_Tr (by decide) kw177 kd_Jd_visit_32 rfl ?_
  refine zk_icmp_ge (tgt := 74) C kd_Jd_visit_35 (by decide) rfl (fun h_2 => absurd h_2 (by decide)) (fun h_2 => ?_)
  refine zk_iload_n C kd_Jd_visit_38 rfl 1 rfl rfl ?_
  refine zk_iconst (v := (-1)) C kd_Jd_visit_39 (by decide) rfl ?_
  refine zk_icmp_eq (tgt := 74) C kd_Jd_visit_40 (by decide) rfl (fun h_3 => ?_) (fun h_3 => absurd (by decide) h_3)
  refine zk_aload_n C kd_Jd_visit_74 rfl 2 rfl rfl ?_
  refine zs_get (v := .int 0) C 38 3 rfl rfl (congrArg Value.int e_38_3) rfl ki_Jd (by decide) kw354 kd_Jd_visit_75 rfl ?_
  refine zk_if_ne (tgt := 86) C kd_Jd_visit_78 (by decide) rfl (fun h_4 => absurd (by decide) h_4) (fun h_4 => ?_)
  refine zk_aload_n C kd_Jd_visit_81 rfl 2 rfl rfl ?_
  refine zk_iload_n C kd_Jd_visit_82 rfl 3 rfl rfl ?_
  refine zs_callV (k := 38) (rn := { frames := 3, cells := 0, slots := 0, locals := 66 }) (As := [.int 0]) (rest := []) C (zp_c_leave1 h e_20_17 e_20_19 e_38_3 m_13_0 m_15_0 m_17_0) ku_Jd_leave kw1053 kv_Jd_leave rfl ⟨by decide, by decide⟩ ⟨by decide, by decide⟩ rfl rfl rfl (Nat.le_of_ble_eq_true rfl) kd_Jd_visit_83 rfl (c1 := 0) (s1 := 0) rfl rfl (fun v w hp => ?_)
  obtain ⟨rfl, rfl⟩ := hp
  refine zk_stk (r' := []) rfl ?_
  exact zk_vret C hR kd_Jd_visit_86 rfl rfl ⟨rfl, rfl⟩
set_option maxHeartbeats 4000000 in
set_option maxRecDepth 100000 in
theorem zp_judge {l : Launch} {D : va_G} {sz0 : Nat} {S : zs_T} {P : ze_T} (h : zs_H) (e_12_6 : h.1 12 6 = 1) (m_13_0 : h.2.1 13 0 = 0) (m_15_0 : h.2.1 15 0 = 0) (m_17_0 : h.2.1 17 0 = (-1)) : zk_Sp (zs_G S l D sz0) (ze_E P) km_Jd_judge { frames := 5, cells := 0, slots := 0, locals := 112 } [.ref (S.1 38)] (zs_W S h) (fun v w => (∃ h2 : zs_H, v = some (.int 10) ∧ w = zs_W S h2 ∧ zp_ag zj_A h h2)) := by
  refine zk_met ku_Jd_judge (Nat.le_of_ble_eq_true rfl) (ze_Em P) ?_
  intro X C hR
  refine zk_lvs (lv' := [(0, .ref (S.1 38))]) [0] rfl ?_
  refine zk_aload_n C kd_Jd_judge_0 rfl 0 rfl rfl ?_
  refine zk_iconst (v := 0) C kd_Jd_judge_1 (by decide) rfl ?_
  refine zs_put (ty := .int) C 38 3 0 rfl rfl rfl rfl ki_Jd ky_Jd ko_Jd kn_Jd (by decide) kw354 rfl rfl rfl rfl (by decide) kd_Jd_judge_2 rfl ?_
  refine zk_aload_n C kd_Jd_judge_5 rfl 0 rfl rfl ?_
  refine zk_iconst (v := 0) C kd_Jd_judge_6 (by decide) rfl ?_
  refine zs_put (ty := .int) C 38 12 0 rfl rfl rfl rfl ki_Jd ky_Jd ko_Jd kn_Jd (by decide) kw363 rfl rfl rfl rfl (by decide) kd_Jd_judge_7 rfl ?_
  refine zk_aload_n C kd_Jd_judge_10 rfl 0 rfl rfl ?_
  refine zs_get (v := .ref (S.1 20)) C 38 2 rfl rfl rfl rfl ki_Jd (by decide) kw353 kd_Jd_judge_11 rfl ?_
  refine zs_callV (k := 20) (rn := { frames := 3, cells := 0, slots := 0, locals := 66 }) (As := []) (rest := []) C (zl_forget (zs_uF (zs_uF h 38 3 0) 38 12 0)) ku_Pl_forget kw1002 kv_Pl_forget rfl ⟨by decide, by decide⟩ ⟨by decide, by decide⟩ rfl rfl rfl (Nat.le_of_ble_eq_true rfl) kd_Jd_judge_14 rfl (c1 := 0) (s1 := 0) rfl rfl (fun v w hp => ?_)
  obtain ⟨y_1, rfl, rfl, py_1, ay_1⟩ := hp
  have gy_1 : zp_ag zj_A h y_1 := ((show zp_ag zj_A h (zs_uF (zs_uF h 38 3 0) 38 12 0) from ((zp_ag.rf).uF (⟨by decide, by decide⟩)).uF (⟨by decide, by decide⟩))).tr (zp_ag.mono zj_pl ay_1)
  refine zk_stk (r' := []) rfl ?_
  refine zk_iconst (v := 0) C kd_Jd_judge_17 (by decide) rfl ?_
  refine zk_istore_n (lv' := [(1, _), (0, _)]) C kd_Jd_judge_18 rfl (by decide) rfl rfl ?_
  have loop : ∀ (m i : Nat) (hh : zs_H), i + m = 960 → zn_L 40 y_1 hh → zk_Ab X (zs_W S hh) 0 0 19 [(0, .ref (S.1 38)), (1, .int (nI i))] [] := by
    intro m
    induction m with
    | zero =>
      intro i hh hi hL
      refine zk_iload_n C kd_Jd_judge_19 rfl 1 rfl rfl ?_
      refine zk_aload_n C kd_Jd_judge_20 rfl 0 rfl rfl ?_
      refine zs_get (v := .ref (S.1 40)) C 38 13 rfl rfl rfl rfl ki_Jd (by decide) kw364 kd_Jd_judge_21 rfl ?_
      refine zs_alen (v := 960) C 40 rfl (by decide) rfl kd_Jd_judge_24 rfl ?_
      refine zk_icmp_ge (tgt := 41) C kd_Jd_judge_25 (by decide) rfl (fun q => ?_) (fun q => absurd (nI_le (a := 960) (by omega) (by omega)) q)
      have ah : zp_ag (fun k => k = 40) y_1 hh := hL.ag rfl
      have gh : zp_ag zj_A h hh := gy_1.tr (zp_ag.mono zj_40 ah)
      refine zk_aload_n C kd_Jd_judge_41 rfl 0 rfl rfl ?_
      refine zk_iconst (v := 0) C kd_Jd_judge_42 (by decide) rfl ?_
      refine zk_iconst (v := 0) C kd_Jd_judge_43 (by decide) rfl ?_
      refine zs_callV (k := 38) (rn := { frames := 4, cells := 0, slots := 0, locals := 88 }) (As := [.int 0, .int 0]) (rest := []) C (zp_c_visit1 hh (zp_agF ah 12 (by decide) 6 (zp_agF ay_1 12 (by unfold zl_A; decide) 6 e_12_6)) (zp_agF ah 20 (by decide) 17 py_1.1) (zp_agF ah 20 (by decide) 19 py_1.2.2.1) (zp_agF ah 38 (by decide) 3 (zp_agF ay_1 38 (by unfold zl_A; decide) 3 rfl)) (zp_agM ah 13 (by decide) 0 (zp_agM ay_1 13 (by unfold zl_A; decide) 0 m_13_0)) (zp_agM ah 15 (by decide) 0 (zp_agM ay_1 15 (by unfold zl_A; decide) 0 m_15_0)) (zp_agM ah 17 (by decide) 0 (zp_agM ay_1 17 (by unfold zl_A; decide) 0 m_17_0))) ku_Jd_visit kw1024 kv_Jd_visit rfl ⟨by decide, by decide⟩ ⟨by decide, by decide⟩ rfl rfl rfl (Nat.le_of_ble_eq_true rfl) kd_Jd_judge_44 rfl (c1 := 0) (s1 := 0) rfl rfl (fun v w hp => ?_)
      obtain ⟨rfl, rfl⟩ := hp
      refine zk_stk (r' := []) rfl ?_
      refine zk_aload_n C kd_Jd_judge_47 rfl 0 rfl rfl ?_
      refine zs_get (v := .int 10) C 38 3 rfl rfl rfl rfl ki_Jd (by decide) kw354 kd_Jd_judge_48 rfl ?_
      exact zk_iret C hR kd_Jd_judge_51 rfl rfl ⟨_, rfl, rfl, (show zp_ag zj_A h (zs_uF (zs_uF (zs_uF hh 20 20 0) 38 3 10) 38 0 0) from (((gh).uF (⟨by decide, by decide⟩)).uF (⟨by decide, by decide⟩)).uF (⟨by decide, by decide⟩))⟩
    | succ m ih =>
      intro i hh hi hL
      refine zk_iload_n C kd_Jd_judge_19 rfl 1 rfl rfl ?_
      refine zk_aload_n C kd_Jd_judge_20 rfl 0 rfl rfl ?_
      refine zs_get (v := .ref (S.1 40)) C 38 13 rfl rfl rfl rfl ki_Jd (by decide) kw364 kd_Jd_judge_21 rfl ?_
      refine zs_alen (v := 960) C 40 rfl (by decide) rfl kd_Jd_judge_24 rfl ?_
      refine zk_icmp_ge (tgt := 41) C kd_Jd_judge_25 (by decide) rfl (fun q => absurd q (nI_ge (a := i) (b := 960) (by omega) (by decide))) (fun q => ?_)
      refine zk_aload_n C kd_Jd_judge_28 rfl 0 rfl rfl ?_
      refine zs_get (v := .ref (S.1 40)) C 38 13 rfl rfl rfl rfl ki_Jd (by decide) kw364 kd_Jd_judge_29 rfl ?_
      refine zk_iload_n C kd_Jd_judge_32 rfl 1 rfl rfl ?_
      refine zk_iconst (v := 0) C kd_Jd_judge_33 (by decide) rfl ?_
      refine zs_zast C 40 rfl (vp_in_nI (by omega) (by decide)) kd_Jd_judge_34 rfl ?_
      refine zk_iinc (lv' := [(1, _), (0, _)]) C kd_Jd_judge_35 1 rfl rfl (by decide) rfl rfl ?_
      refine zk_goto (tgt := 19) C kd_Jd_judge_38 (by decide) ?_
      refine zk_lvs (lv' := [(0, .ref (S.1 38)), (1, .int (nI (i + 1)))]) [1, 0] (by rw [nI_succ]; rfl) ?_
      exact ih (i + 1) _ (by omega) hL.put
  refine zk_lvs (lv' := [(0, .ref (S.1 38)), (1, .int (nI 0))]) [1, 0] rfl ?_
  exact loop 960 0 y_1 (by omega) zn_L.rf
set_option maxHeartbeats 4000000 in
set_option maxRecDepth 100000 in
theorem zp_c_forget1 {l : Launch} {D : va_G} {sz0 : Nat} {S : zs_T} {P : ze_T} (h : zs_H) : zk_Sp (zs_G S l D sz0) (ze_E P) km_Mc_forget { frames := 0, cells := 0, slots := 0, locals := 0 } [.ref (S.1 58)] (zs_W S h) (fun v w => (v = none ∧ w = zs_W S (zs_uF (zs_uF (zs_uF (zs_uF (zs_uF (zs_uF (zs_uF h 58 3 0) 58 4 0) 58 5 0) 58 6 0) 58 7 0) 58 8 0) 58 9 0))) := by
  refine zk_met ku_Mc_forget (Nat.le_of_ble_eq_true rfl) (ze_Em P) ?_
  intro X C hR
  refine zk_lvs (lv' := [(0, .ref (S.1 58))]) [0] rfl ?_
  refine zk_aload_n C kd_Mc_forget_0 rfl 0 rfl rfl ?_
  refine zk_iconst (v := 0) C kd_Mc_forget_1 (by decide) rfl ?_
  refine zs_put (ty := .boolean) C 58 3 0 rfl rfl rfl rfl ki_Mc ky_Mc ko_Mc kn_Mc (by decide) kw522 rfl rfl rfl rfl (by decide) kd_Mc_forget_2 rfl ?_
  refine zk_aload_n C kd_Mc_forget_5 rfl 0 rfl rfl ?_
  refine zk_iconst (v := 0) C kd_Mc_forget_6 (by decide) rfl ?_
  refine zs_put (ty := .boolean) C 58 4 0 rfl rfl rfl rfl ki_Mc ky_Mc ko_Mc kn_Mc (by decide) kw525 rfl rfl rfl rfl (by decide) kd_Mc_forget_7 rfl ?_
  refine zk_aload_n C kd_Mc_forget_10 rfl 0 rfl rfl ?_
  refine zk_iconst (v := 0) C kd_Mc_forget_11 (by decide) rfl ?_
  refine zs_put (ty := .int) C 58 5 0 rfl rfl rfl rfl ki_Mc ky_Mc ko_Mc kn_Mc (by decide) kw527 rfl rfl rfl rfl (by decide) kd_Mc_forget_12 rfl ?_
  refine zk_aload_n C kd_Mc_forget_15 rfl 0 rfl rfl ?_
  refine zk_iconst (v := 0) C kd_Mc_forget_16 (by decide) rfl ?_
  refine zs_put (ty := .int) C 58 6 0 rfl rfl rfl rfl ki_Mc ky_Mc ko_Mc kn_Mc (by decide) kw529 rfl rfl rfl rfl (by decide) kd_Mc_forget_17 rfl ?_
  refine zk_aload_n C kd_Mc_forget_20 rfl 0 rfl rfl ?_
  refine zk_iconst (v := 0) C kd_Mc_forget_21 (by decide) rfl ?_
  refine zs_put (ty := .int) C 58 7 0 rfl rfl rfl rfl ki_Mc ky_Mc ko_Mc kn_Mc (by decide) kw531 rfl rfl rfl rfl (by decide) kd_Mc_forget_22 rfl ?_
  refine zk_aload_n C kd_Mc_forget_25 rfl 0 rfl rfl ?_
  refine zk_iconst (v := 0) C kd_Mc_forget_26 (by decide) rfl ?_
  refine zs_put (ty := .int) C 58 8 0 rfl rfl rfl rfl ki_Mc ky_Mc ko_Mc kn_Mc (by decide) kw533 rfl rfl rfl rfl (by decide) kd_Mc_forget_27 rfl ?_
  refine zk_aload_n C kd_Mc_forget_30 rfl 0 rfl rfl ?_
  refine zk_iconst (v := 0) C kd_Mc_forget_31 (by decide) rfl ?_
  refine zs_put (ty := .int) C 58 9 0 rfl rfl rfl rfl ki_Mc ky_Mc ko_Mc kn_Mc (by decide) kw535 rfl rfl rfl rfl (by decide) kd_Mc_forget_32 rfl ?_
  exact zk_vret C hR kd_Mc_forget_35 rfl rfl ⟨rfl, rfl⟩
set_option maxHeartbeats 4000000 in
set_option maxRecDepth 100000 in
theorem zp_c_peek1 {l : Launch} {D : va_G} {sz0 : Nat} {S : zs_T} {P : ze_T} (h : zs_H) (e_8_6 : h.1 8 6 = 0) : zk_Sp (zs_G S l D sz0) (ze_E P) km_Tk_peek { frames := 0, cells := 0, slots := 0, locals := 0 } [.ref (S.1 8), .int 0] (zs_W S h) (fun v w => (v = some (.int (-1)) ∧ w = zs_W S h)) := by
  refine zk_met ku_Tk_peek (Nat.le_of_ble_eq_true rfl) (ze_Em P) ?_
  intro X C hR
  refine zk_lvs (lv' := [(0, .ref (S.1 8)), (1, .int 0)]) [0, 1] rfl ?_
  refine zk_iload_n C kd_Tk_peek_0 rfl 1 rfl rfl ?_
  refine zk_if_lt (tgt := 25) C kd_Tk_peek_1 (by decide) rfl (fun h_1 => absurd h_1 (by decide)) (fun h_1 => ?_)
  refine zk_iload_n C kd_Tk_peek_4 rfl 1 rfl rfl ?_
  refine zk_aload_n C kd_Tk_peek_5 rfl 0 rfl rfl ?_
  refine zs_get (v := .int 0) C 8 6 rfl rfl (congrArg Value.int e_8_6) rfl ki_Tk (by decide) kw128 kd_Tk_peek_6 rfl ?_
  refine zk_icmp_ge (tgt := 25) C kd_Tk_peek_9 (by decide) rfl (fun h_2 => ?_) (fun h_2 => absurd (by decide) h_2)
  refine zk_iconst (v := (-1)) C kd_Tk_peek_25 (by decide) rfl ?_
  exact zk_iret C hR kd_Tk_peek_26 rfl rfl ⟨rfl, rfl⟩
set_option maxHeartbeats 4000000 in
set_option maxRecDepth 100000 in
theorem zp_c_skipBlanks1 {l : Launch} {D : va_G} {sz0 : Nat} {S : zs_T} {P : ze_T} (h : zs_H) (e_8_6 : h.1 8 6 = 0) (e_8_7 : h.1 8 7 = 0) : zk_Sp (zs_G S l D sz0) (ze_E P) km_Tk_skipBlanks { frames := 1, cells := 0, slots := 0, locals := 21 } [.ref (S.1 8)] (zs_W S h) (fun v w => (v = some (.int 1) ∧ w = zs_W S h)) := by
  refine zk_met ku_Tk_skipBlanks (Nat.le_of_ble_eq_true rfl) (ze_Em P) ?_
  intro X C hR
  refine zk_lvs (lv' := [(0, .ref (S.1 8))]) [0] rfl ?_
  refine zk_iconst (v := 0) C kd_Tk_skipBlanks_0 (by decide) rfl ?_
  refine zk_istore_n (lv' := [(1, _), (0, _)]) C kd_Tk_skipBlanks_1 rfl (by decide) rfl rfl ?_
  refine zk_iload_n C kd_Tk_skipBlanks_2 rfl 0 rfl rfl ?_
  refine zk_sipush (v := 16384) C kd_Tk_skipBlanks_3 (by decide) rfl ?_
  refine zk_icmp_gt (tgt := 114) C kd_Tk_skipBlanks_6 (by decide) rfl (fun h_1 => absurd h_1 (by decide)) (fun h_1 => ?_)
  refine zk_aload_n C kd_Tk_skipBlanks_9 rfl 1 rfl rfl ?_
  refine zk_aload_n C kd_Tk_skipBlanks_10 rfl 1 rfl rfl ?_
  refine zs_get (v := .int 0) C 8 7 rfl rfl (congrArg Value.int e_8_7) rfl ki_Tk (by decide) kw129 kd_Tk_skipBlanks_11 rfl ?_
  refine zs_callV (k := 8) (rn := { frames := 0, cells := 0, slots := 0, locals := 0 }) (As := [.int 0]) (rest := []) C (zp_c_peek1 h e_8_6) ku_Tk_peek kw722 kv_Tk_peek rfl ⟨by decide, by decide⟩ ⟨by decide, by decide⟩ rfl rfl rfl (Nat.le_of_ble_eq_true rfl) kd_Tk_skipBlanks_14 rfl (c1 := 0) (s1 := 0) rfl rfl (fun v w hp => ?_)
  obtain ⟨rfl, rfl⟩ := hp
  refine zk_stk (r' := [.int (-1)]) rfl ?_
  refine zk_istore_n (lv' := [(2, _), (1, _), (0, _)]) C kd_Tk_skipBlanks_17 rfl (by decide) rfl rfl ?_
  refine zk_iload_n C kd_Tk_skipBlanks_18 rfl 0 rfl rfl ?_
  refine zk_bipush (v := 9) C kd_Tk_skipBlanks_19 (by decide) rfl ?_
  refine zk_icmp_eq (tgt := 42) C kd_Tk_skipBlanks_21 (by decide) rfl (fun h_2 => absurd h_2 (by decide)) (fun h_2 => ?_)
  refine zk_iload_n C kd_Tk_skipBlanks_24 rfl 0 rfl rfl ?_
  refine zk_bipush (v := 10) C kd_Tk_skipBlanks_25 (by decide) rfl ?_
  refine zk_icmp_eq (tgt := 42) C kd_Tk_skipBlanks_27 (by decide) rfl (fun h_3 => absurd h_3 (by decide)) (fun h_3 => ?_)
  refine zk_iload_n C kd_Tk_skipBlanks_30 rfl 0 rfl rfl ?_
  refine zk_bipush (v := 13) C kd_Tk_skipBlanks_31 (by decide) rfl ?_
  refine zk_icmp_eq (tgt := 42) C kd_Tk_skipBlanks_33 (by decide) rfl (fun h_4 => absurd h_4 (by decide)) (fun h_4 => ?_)
  refine zk_iload_n C kd_Tk_skipBlanks_36 rfl 0 rfl rfl ?_
  refine zk_bipush (v := 32) C kd_Tk_skipBlanks_37 (by decide) rfl ?_
  refine zk_icmp_ne (tgt := 55) C kd_Tk_skipBlanks_39 (by decide) rfl (fun h_5 => ?_) (fun h_5 => absurd h_5 (by decide))
  refine zk_iload_n C kd_Tk_skipBlanks_55 rfl 0 rfl rfl ?_
  refine zk_bipush (v := 40) C kd_Tk_skipBlanks_56 (by decide) rfl ?_
  refine zk_icmp_ne (tgt := 106) C kd_Tk_skipBlanks_58 (by decide) rfl (fun h_6 => ?_) (fun h_6 => absurd h_6 (by decide))
  refine zk_iconst (v := 1) C kd_Tk_skipBlanks_106 (by decide) rfl ?_
  exact zk_zret C hR rfl kd_Tk_skipBlanks_107 rfl rfl ⟨rfl, rfl⟩
set_option maxHeartbeats 4000000 in
set_option maxRecDepth 100000 in
theorem zp_c_add1 {l : Launch} {D : va_G} {sz0 : Nat} {S : zs_T} {P : ze_T} (h : zs_H) (e_8_3 : h.1 8 3 = 0) (e_8_7 : h.1 8 7 = 0) : zk_Sp (zs_G S l D sz0) (ze_E P) km_Tk_add { frames := 0, cells := 0, slots := 0, locals := 0 } [.ref (S.1 8), .int 6, .int 0] (zs_W S h) (fun v w => (v = none ∧ w = zs_W S (zs_uF (zs_uM (zs_uM (zs_uM h 9 ((0 : Int32)).toNatClampNeg (vp_nar .char 6)) 10 ((0 : Int32)).toNatClampNeg (vp_nar .char 0)) 11 ((0 : Int32)).toNatClampNeg 0) 8 3 1))) := by
  refine zk_met ku_Tk_add (Nat.le_of_ble_eq_true rfl) (ze_Em P) ?_
  intro X C hR
  refine zk_lvs (lv' := [(0, .ref (S.1 8)), (1, .int 6), (2, .int 0)]) [0, 1, 2] rfl ?_
  refine zk_aload_n C kd_Tk_add_0 rfl 0 rfl rfl ?_
  refine zs_get (v := .int 0) C 8 3 rfl rfl (congrArg Value.int e_8_3) rfl ki_Tk (by decide) kw124 kd_Tk_add_1 rfl ?_
  refine zk_aload_n C kd_Tk_add_4 rfl 0 rfl rfl ?_
  refine zs_get (v := .ref (S.1 9)) C 8 0 rfl rfl rfl rfl ki_Tk (by decide) kw118 kd_Tk_add_5 rfl ?_
  refine zs_alen (v := 16385) C 9 rfl (by decide) rfl kd_Tk_add_8 rfl ?_
  refine zk_icmp_ge (tgt := 57) C kd_Tk_add_9 (by decide) rfl (fun h_1 => absurd h_1 (by decide)) (fun h_1 => ?_)
  refine zk_aload_n C kd_Tk_add_12 rfl 0 rfl rfl ?_
  refine zs_get (v := .ref (S.1 9)) C 8 0 rfl rfl rfl rfl ki_Tk (by decide) kw118 kd_Tk_add_13 rfl ?_
  refine zk_aload_n C kd_Tk_add_16 rfl 0 rfl rfl ?_
  refine zs_get (v := .int 0) C 8 3 rfl rfl (congrArg Value.int e_8_3) rfl ki_Tk (by decide) kw124 kd_Tk_add_17 rfl ?_
  refine zk_iload_n C kd_Tk_add_20 rfl 1 rfl rfl ?_
  refine zk_i2c C kd_Tk_add_21 rfl ?_
  refine zk_stk (r' := [.int 6, .int 0, .ref (S.1 9)]) rfl ?_
  refine zs_cast C 9 rfl (zp_dec rfl) kd_Tk_add_22 rfl ?_
  refine zk_aload_n C kd_Tk_add_23 rfl 0 rfl rfl ?_
  refine zs_get (v := .ref (S.1 10)) C 8 1 rfl rfl rfl rfl ki_Tk (by decide) kw120 kd_Tk_add_24 rfl ?_
  refine zk_aload_n C kd_Tk_add_27 rfl 0 rfl rfl ?_
  refine zs_get (v := .int 0) C 8 3 rfl rfl (congrArg Value.int e_8_3) rfl ki_Tk (by decide) kw124 kd_Tk_add_28 rfl ?_
  refine zk_aload_n C kd_Tk_add_31 rfl 0 rfl rfl ?_
  refine zs_get (v := .int 0) C 8 7 rfl rfl (congrArg Value.int e_8_7) rfl ki_Tk (by decide) kw129 kd_Tk_add_32 rfl ?_
  refine zk_i2c C kd_Tk_add_35 rfl ?_
  refine zk_stk (r' := [.int 0, .int 0, .ref (S.1 10)]) rfl ?_
  refine zs_cast C 10 rfl (zp_dec rfl) kd_Tk_add_36 rfl ?_
  refine zk_aload_n C kd_Tk_add_37 rfl 0 rfl rfl ?_
  refine zs_get (v := .ref (S.1 11)) C 8 2 rfl rfl rfl rfl ki_Tk (by decide) kw122 kd_Tk_add_38 rfl ?_
  refine zk_aload_n C kd_Tk_add_41 rfl 0 rfl rfl ?_
  refine zs_get (v := .int 0) C 8 3 rfl rfl (congrArg Value.int e_8_3) rfl ki_Tk (by decide) kw124 kd_Tk_add_42 rfl ?_
  refine zk_iload_n C kd_Tk_add_45 rfl 2 rfl rfl ?_
  refine zs_iast C 11 rfl (zp_dec rfl) kd_Tk_add_46 rfl ?_
  refine zk_aload_n C kd_Tk_add_47 rfl 0 rfl rfl ?_
  refine zk_dup C kd_Tk_add_48 rfl rfl ?_
  refine zs_get (v := .int 0) C 8 3 rfl rfl (congrArg Value.int e_8_3) rfl ki_Tk (by decide) kw124 kd_Tk_add_49 rfl ?_
  refine zk_iconst (v := 1) C kd_Tk_add_52 (by decide) rfl ?_
  refine zk_iadd C kd_Tk_add_53 rfl ?_
  refine zk_stk (r' := [.int 1, .ref (S.1 8)]) (by rw [show (0 : Int32) + 1 = 1 by decide]) ?_
  refine zs_put (ty := .int) C 8 3 1 rfl rfl rfl rfl ki_Tk ky_Tk ko_Tk kn_Tk (by decide) kw124 rfl rfl rfl rfl (by decide) kd_Tk_add_54 rfl ?_
  exact zk_vret C hR kd_Tk_add_57 rfl rfl ⟨rfl, rfl⟩
set_option maxHeartbeats 4000000 in
set_option maxRecDepth 100000 in
theorem zp_c_readToken1 {l : Launch} {D : va_G} {sz0 : Nat} {S : zs_T} {P : ze_T} (h : zs_H) (e_8_3 : h.1 8 3 = 0) (e_8_6 : h.1 8 6 = 0) (e_8_7 : h.1 8 7 = 0) : zk_Sp (zs_G S l D sz0) (ze_E P) km_Tk_readToken { frames := 1, cells := 0, slots := 0, locals := 22 } [.ref (S.1 8)] (zs_W S h) (fun v w => (v = some (.int 0) ∧ w = zs_W S (zs_uF (zs_uM (zs_uM (zs_uM h 9 ((0 : Int32)).toNatClampNeg (vp_nar .char 6)) 10 ((0 : Int32)).toNatClampNeg (vp_nar .char 0)) 11 ((0 : Int32)).toNatClampNeg 0) 8 3 1))) := by
  refine zk_met ku_Tk_readToken (Nat.le_of_ble_eq_true rfl) (ze_Em P) ?_
  intro X C hR
  refine zk_lvs (lv' := [(0, .ref (S.1 8))]) [0] rfl ?_
  refine zk_aload_n C kd_Tk_readToken_0 rfl 0 rfl rfl ?_
  refine zk_aload_n C kd_Tk_readToken_1 rfl 0 rfl rfl ?_
  refine zs_get (v := .int 0) C 8 7 rfl rfl (congrArg Value.int e_8_7) rfl ki_Tk (by decide) kw129 kd_Tk_readToken_2 rfl ?_
  refine zs_callV (k := 8) (rn := { frames := 0, cells := 0, slots := 0, locals := 0 }) (As := [.int 0]) (rest := []) C (zp_c_peek1 h e_8_6) ku_Tk_peek kw722 kv_Tk_peek rfl ⟨by decide, by decide⟩ ⟨by decide, by decide⟩ rfl rfl rfl (Nat.le_of_ble_eq_true rfl) kd_Tk_readToken_5 rfl (c1 := 0) (s1 := 0) rfl rfl (fun v w hp => ?_)
  obtain ⟨rfl, rfl⟩ := hp
  refine zk_stk (r' := [.int (-1)]) rfl ?_
  refine zk_istore_n (lv' := [(1, _), (0, _)]) C kd_Tk_readToken_8 rfl (by decide) rfl rfl ?_
  refine zk_iload_n C kd_Tk_readToken_9 rfl 0 rfl rfl ?_
  refine zk_iconst (v := (-1)) C kd_Tk_readToken_10 (by decide) rfl ?_
  refine zk_icmp_ne (tgt := 23) C kd_Tk_readToken_11 (by decide) rfl (fun h_1 => absurd (by decide) h_1) (fun h_1 => ?_)
  refine zk_aload_n C kd_Tk_readToken_14 rfl 1 rfl rfl ?_
  refine zk_bipush (v := 6) C kd_Tk_readToken_15 (by decide) rfl ?_
  refine zk_iconst (v := 0) C kd_Tk_readToken_17 (by decide) rfl ?_
  refine zs_callV (k := 8) (rn := { frames := 0, cells := 0, slots := 0, locals := 0 }) (As := [.int 6, .int 0]) (rest := []) C (zp_c_add1 h e_8_3 e_8_7) ku_Tk_add kw734 kv_Tk_add rfl ⟨by decide, by decide⟩ ⟨by decide, by decide⟩ rfl rfl rfl (Nat.le_of_ble_eq_true rfl) kd_Tk_readToken_18 rfl (c1 := 0) (s1 := 0) rfl rfl (fun v w hp => ?_)
  obtain ⟨rfl, rfl⟩ := hp
  refine zk_stk (r' := []) rfl ?_
  refine zk_iconst (v := 0) C kd_Tk_readToken_21 (by decide) rfl ?_
  exact zk_zret C hR rfl kd_Tk_readToken_22 rfl rfl ⟨rfl, rfl⟩
set_option maxHeartbeats 4000000 in
set_option maxRecDepth 100000 in
theorem zp_c_read1 {l : Launch} {D : va_G} {sz0 : Nat} {S : zs_T} {P : ze_T} (h : zs_H) : zk_Sp (zs_G S l D sz0) (ze_E P) km_Tk_read { frames := 2, cells := 0, slots := 0, locals := 44 } [.ref (S.1 8), .ref (S.1 1), .int 0] (zs_W S h) (fun v w => (v = none ∧ w = zs_W S (zs_uF (zs_uM (zs_uM (zs_uM (zs_uF (zs_uF (zs_uF (zs_uF h 8 5 1) 8 6 0) 8 7 0) 8 3 0) 9 ((0 : Int32)).toNatClampNeg (vp_nar .char 6)) 10 ((0 : Int32)).toNatClampNeg (vp_nar .char 0)) 11 ((0 : Int32)).toNatClampNeg 0) 8 3 1))) := by
  refine zk_met ku_Tk_read (Nat.le_of_ble_eq_true rfl) (ze_Em P) ?_
  intro X C hR
  refine zk_lvs (lv' := [(0, .ref (S.1 8)), (1, .ref (S.1 1)), (2, .int 0)]) [0, 1, 2] rfl ?_
  refine zk_aload_n C kd_Tk_read_0 rfl 0 rfl rfl ?_
  refine zk_aload_n C kd_Tk_read_1 rfl 1 rfl rfl ?_
  refine zs_put (ty := .array .byte) C 8 5 1 rfl rfl rfl rfl ki_Tk ky_Tk ko_Tk kn_Tk (by decide) kw127 rfl rfl rfl rfl (by decide) kd_Tk_read_2 rfl ?_
  refine zk_aload_n C kd_Tk_read_5 rfl 0 rfl rfl ?_
  refine zk_iload_n C kd_Tk_read_6 rfl 2 rfl rfl ?_
  refine zs_put (ty := .int) C 8 6 0 rfl rfl rfl rfl ki_Tk ky_Tk ko_Tk kn_Tk (by decide) kw128 rfl rfl rfl rfl (by decide) kd_Tk_read_7 rfl ?_
  refine zk_aload_n C kd_Tk_read_10 rfl 0 rfl rfl ?_
  refine zk_iconst (v := 0) C kd_Tk_read_11 (by decide) rfl ?_
  refine zs_put (ty := .int) C 8 7 0 rfl rfl rfl rfl ki_Tk ky_Tk ko_Tk kn_Tk (by decide) kw129 rfl rfl rfl rfl (by decide) kd_Tk_read_12 rfl ?_
  refine zk_aload_n C kd_Tk_read_15 rfl 0 rfl rfl ?_
  refine zk_iconst (v := 0) C kd_Tk_read_16 (by decide) rfl ?_
  refine zs_put (ty := .int) C 8 3 0 rfl rfl rfl rfl ki_Tk ky_Tk ko_Tk kn_Tk (by decide) kw124 rfl rfl rfl rfl (by decide) kd_Tk_read_17 rfl ?_
  refine zk_iconst (v := 1) C kd_Tk_read_20 (by decide) rfl ?_
  refine zk_istore_n (lv' := [(3, _), (0, _), (1, _), (2, _)]) C kd_Tk_read_21 rfl (by decide) rfl rfl ?_
  refine zk_iconst (v := 0) C kd_Tk_read_22 (by decide) rfl ?_
  refine zk_istore (lv' := [(4, _), (3, _), (0, _), (1, _), (2, _)]) C kd_Tk_read_23 (by decide) rfl rfl ?_
  refine zk_iload C kd_Tk_read_25 0 rfl rfl ?_
  refine zk_sipush (v := 16384) C kd_Tk_read_27 (by decide) rfl ?_
  refine zk_icmp_gt (tgt := 63) C kd_Tk_read_30 (by decide) rfl (fun h_1 => absurd h_1 (by decide)) (fun h_1 => ?_)
  refine zk_iload_n C kd_Tk_read_33 rfl 1 rfl rfl ?_
  refine zk_if_eq (tgt := 63) C kd_Tk_read_34 (by decide) rfl (fun h_2 => absurd h_2 (by decide)) (fun h_2 => ?_)
  refine zk_aload_n C kd_Tk_read_37 rfl 2 rfl rfl ?_
  refine zs_callV (k := 8) (rn := { frames := 1, cells := 0, slots := 0, locals := 21 }) (As := []) (rest := []) C (zp_c_skipBlanks1 (zs_uF (zs_uF (zs_uF (zs_uF h 8 5 1) 8 6 0) 8 7 0) 8 3 0) rfl rfl) ku_Tk_skipBlanks kw718 kv_Tk_skipBlanks rfl ⟨by decide, by decide⟩ ⟨by decide, by decide⟩ rfl rfl rfl (Nat.le_of_ble_eq_true rfl) kd_Tk_read_38 rfl (c1 := 0) (s1 := 0) rfl rfl (fun v w hp => ?_)
  obtain ⟨rfl, rfl⟩ := hp
  refine zk_stk (r' := [.int 1]) rfl ?_
  refine zk_if_eq (tgt := 55) C kd_Tk_read_41 (by decide) rfl (fun h_3 => absurd h_3 (by decide)) (fun h_3 => ?_)
  refine zk_aload_n C kd_Tk_read_44 rfl 2 rfl rfl ?_
  refine zs_callV (k := 8) (rn := { frames := 1, cells := 0, slots := 0, locals := 22 }) (As := []) (rest := []) C (zp_c_readToken1 (zs_uF (zs_uF (zs_uF (zs_uF h 8 5 1) 8 6 0) 8 7 0) 8 3 0) rfl rfl rfl) ku_Tk_readToken kw738 kv_Tk_readToken rfl ⟨by decide, by decide⟩ ⟨by decide, by decide⟩ rfl rfl rfl (Nat.le_of_ble_eq_true rfl) kd_Tk_read_45 rfl (c1 := 0) (s1 := 0) rfl rfl (fun v w hp => ?_)
  obtain ⟨rfl, rfl⟩ := hp
  refine zk_stk (r' := [.int 0]) rfl ?_
  refine zk_if_eq (tgt := 55) C kd_Tk_read_48 (by decide) rfl (fun h_4 => ?_) (fun h_4 => absurd (by decide) h_4)
  refine zk_iconst (v := 0) C kd_Tk_read_55 (by decide) rfl ?_
  refine zk_istore_n (lv' := [(3, _), (4, _), (0, _), (1, _), (2, _)]) C kd_Tk_read_56 rfl (by decide) rfl rfl ?_
  refine zk_iinc (v := 1) (lv' := [(4, _), (3, _), (0, _), (1, _), (2, _)]) C kd_Tk_read_57 1 rfl (by decide) (by decide) rfl rfl ?_
  refine zk_goto (tgt := 25) C kd_Tk_read_60 (by decide) ?_
  refine zk_iload C kd_Tk_read_25 0 rfl rfl ?_
  refine zk_sipush (v := 16384) C kd_Tk_read_27 (by decide) rfl ?_
  refine zk_icmp_gt (tgt := 63) C kd_Tk_read_30 (by decide) rfl (fun h_5 => absurd h_5 (by decide)) (fun h_5 => ?_)
  refine zk_iload_n C kd_Tk_read_33 rfl 1 rfl rfl ?_
  refine zk_if_eq (tgt := 63) C kd_Tk_read_34 (by decide) rfl (fun h_6 => ?_) (fun h_6 => absurd (by decide) h_6)
  exact zk_vret C hR kd_Tk_read_63 rfl rfl ⟨rfl, rfl⟩
set_option maxHeartbeats 4000000 in
set_option maxRecDepth 100000 in
theorem zp_c_add2 {l : Launch} {D : va_G} {sz0 : Nat} {S : zs_T} {P : ze_T} (h : zs_H) (e_12_6 : h.1 12 6 = 0) : zk_Sp (zs_G S l D sz0) (ze_E P) km_Tr_add { frames := 1, cells := 0, slots := 0, locals := 21 } [.ref (S.1 12), .int 0, .int 0, .int 0] (zs_W S h) (fun v w => (v = some (.int 0) ∧ w = zs_W S (zs_uF (zs_uM (zs_uM (zs_uM (zs_uM (zs_uM (zs_uM h 13 ((0 : Int32)).toNatClampNeg (vp_nar .byte 0)) 14 ((0 : Int32)).toNatClampNeg (vp_nar .byte 0)) 15 ((0 : Int32)).toNatClampNeg (vp_nar .char 0)) 16 ((0 : Int32)).toNatClampNeg 0) 17 ((0 : Int32)).toNatClampNeg (-1)) 18 ((0 : Int32)).toNatClampNeg (-1)) 12 6 1))) := by
  refine zk_met ku_Tr_add (Nat.le_of_ble_eq_true rfl) (ze_Em P) ?_
  intro X C hR
  refine zk_lvs (lv' := [(0, .ref (S.1 12)), (1, .int 0), (2, .int 0), (3, .int 0)]) [0, 1, 2, 3] rfl ?_
  refine zk_aload_n C kd_Tr_add_0 rfl 0 rfl rfl ?_
  refine zs_get (v := .int 0) C 12 6 rfl rfl (congrArg Value.int e_12_6) rfl ki_Tr (by decide) kw175 kd_Tr_add_1 rfl ?_
  refine zk_ldc (v := 32783) C kw870 kd_Tr_add_4 rfl ?_
  refine zk_mmin C kw871 kw816 kw19 (by decide) (Nat.le_of_ble_eq_true rfl) (by decide) (by decide) kd_Tr_add_6 rfl ?_
  refine zk_stk (r' := [.int 0]) rfl ?_
  refine zk_istore (lv' := [(4, _), (0, _), (1, _), (2, _), (3, _)]) C kd_Tr_add_9 (by decide) rfl rfl ?_
  refine zk_aload_n C kd_Tr_add_11 rfl 1 rfl rfl ?_
  refine zs_get (v := .ref (S.1 13)) C 12 0 rfl rfl rfl rfl ki_Tr (by decide) kw155 kd_Tr_add_12 rfl ?_
  refine zk_iload C kd_Tr_add_15 0 rfl rfl ?_
  refine zk_iload_n C kd_Tr_add_17 rfl 2 rfl rfl ?_
  refine zk_i2b C kd_Tr_add_18 rfl ?_
  refine zk_stk (r' := [.int 0, .int 0, .ref (S.1 13)]) rfl ?_
  refine zs_bast C 13 rfl (zp_dec rfl) kd_Tr_add_19 rfl ?_
  refine zk_aload_n C kd_Tr_add_20 rfl 1 rfl rfl ?_
  refine zs_get (v := .ref (S.1 14)) C 12 1 rfl rfl rfl rfl ki_Tr (by decide) kw159 kd_Tr_add_21 rfl ?_
  refine zk_iload C kd_Tr_add_24 0 rfl rfl ?_
  refine zk_iconst (v := 0) C kd_Tr_add_26 (by decide) rfl ?_
  refine zs_bast C 14 rfl (zp_dec rfl) kd_Tr_add_27 rfl ?_
  refine zk_aload_n C kd_Tr_add_28 rfl 1 rfl rfl ?_
  refine zs_get (v := .ref (S.1 15)) C 12 2 rfl rfl rfl rfl ki_Tr (by decide) kw162 kd_Tr_add_29 rfl ?_
  refine zk_iload C kd_Tr_add_32 0 rfl rfl ?_
  refine zk_iload_n C kd_Tr_add_34 rfl 3 rfl rfl ?_
  refine zk_i2c C kd_Tr_add_35 rfl ?_
  refine zk_stk (r' := [.int 0, .int 0, .ref (S.1 15)]) rfl ?_
  refine zs_cast C 15 rfl (zp_dec rfl) kd_Tr_add_36 rfl ?_
  refine zk_aload_n C kd_Tr_add_37 rfl 1 rfl rfl ?_
  refine zs_get (v := .ref (S.1 16)) C 12 3 rfl rfl rfl rfl ki_Tr (by decide) kw165 kd_Tr_add_38 rfl ?_
  refine zk_iload C kd_Tr_add_41 0 rfl rfl ?_
  refine zk_iload_n C kd_Tr_add_43 rfl 4 rfl rfl ?_
  refine zs_iast C 16 rfl (zp_dec rfl) kd_Tr_add_44 rfl ?_
  refine zk_aload_n C kd_Tr_add_45 rfl 1 rfl rfl ?_
  refine zs_get (v := .ref (S.1 17)) C 12 4 rfl rfl rfl rfl ki_Tr (by decide) kw169 kd_Tr_add_46 rfl ?_
  refine zk_iload C kd_Tr_add_49 0 rfl rfl ?_
  refine zk_iconst (v := (-1)) C kd_Tr_add_51 (by decide) rfl ?_
  refine zs_iast C 17 rfl (zp_dec rfl) kd_Tr_add_52 rfl ?_
  refine zk_aload_n C kd_Tr_add_53 rfl 1 rfl rfl ?_
  refine zs_get (v := .ref (S.1 18)) C 12 5 rfl rfl rfl rfl ki_Tr (by decide) kw172 kd_Tr_add_54 rfl ?_
  refine zk_iload C kd_Tr_add_57 0 rfl rfl ?_
  refine zk_iconst (v := (-1)) C kd_Tr_add_59 (by decide) rfl ?_
  refine zs_iast C 18 rfl (zp_dec rfl) kd_Tr_add_60 rfl ?_
  refine zk_aload_n C kd_Tr_add_61 rfl 1 rfl rfl ?_
  refine zk_iload C kd_Tr_add_62 0 rfl rfl ?_
  refine zk_iconst (v := 1) C kd_Tr_add_64 (by decide) rfl ?_
  refine zk_iadd C kd_Tr_add_65 rfl ?_
  refine zk_stk (r' := [.int 1, .ref (S.1 12)]) (by rw [show (0 : Int32) + 1 = 1 by decide]) ?_
  refine zs_put (ty := .int) C 12 6 1 rfl rfl rfl rfl ki_Tr ky_Tr ko_Tr kn_Tr (by decide) kw175 rfl rfl rfl rfl (by decide) kd_Tr_add_66 rfl ?_
  refine zk_iload C kd_Tr_add_69 0 rfl rfl ?_
  exact zk_iret C hR kd_Tr_add_71 rfl rfl ⟨rfl, rfl⟩
set_option maxHeartbeats 4000000 in
set_option maxRecDepth 100000 in
theorem zp_c_parse1 {l : Launch} {D : va_G} {sz0 : Nat} {S : zs_T} {P : ze_T} (h : zs_H) (m_9_0 : h.2.1 9 0 = 6) (m_10_0 : h.2.1 10 0 = 0) : zk_Sp (zs_G S l D sz0) (ze_E P) km_Ps_parse { frames := 2, cells := 0, slots := 0, locals := 45 } [.ref (S.1 19)] (zs_W S h) (fun v w => (v = some (.int 0) ∧ w = zs_W S (zs_uF (zs_uM (zs_uM (zs_uM (zs_uM (zs_uM (zs_uM (zs_uF (zs_uF (zs_uF (zs_uF (zs_uF (zs_uF h 19 3 0) 19 4 0) 19 5 6) 19 6 0) 19 7 0) 12 6 0) 13 ((0 : Int32)).toNatClampNeg (vp_nar .byte 0)) 14 ((0 : Int32)).toNatClampNeg (vp_nar .byte 0)) 15 ((0 : Int32)).toNatClampNeg (vp_nar .char 0)) 16 ((0 : Int32)).toNatClampNeg 0) 17 ((0 : Int32)).toNatClampNeg (-1)) 18 ((0 : Int32)).toNatClampNeg (-1)) 12 6 1))) := by
  refine zk_met ku_Ps_parse (Nat.le_of_ble_eq_true rfl) (ze_Em P) ?_
  intro X C hR
  refine zk_lvs (lv' := [(0, .ref (S.1 19))]) [0] rfl ?_
  refine zk_aload_n C kd_Ps_parse_0 rfl 0 rfl rfl ?_
  refine zk_iconst (v := 0) C kd_Ps_parse_1 (by decide) rfl ?_
  refine zs_put (ty := .int) C 19 3 0 rfl rfl rfl rfl ki_Ps ky_Ps ko_Ps kn_Ps (by decide) kw204 rfl rfl rfl rfl (by decide) kd_Ps_parse_2 rfl ?_
  refine zk_aload_n C kd_Ps_parse_5 rfl 0 rfl rfl ?_
  refine zk_iconst (v := 0) C kd_Ps_parse_6 (by decide) rfl ?_
  refine zs_put (ty := .int) C 19 4 0 rfl rfl rfl rfl ki_Ps ky_Ps ko_Ps kn_Ps (by decide) kw205 rfl rfl rfl rfl (by decide) kd_Ps_parse_7 rfl ?_
  refine zk_aload_n C kd_Ps_parse_10 rfl 0 rfl rfl ?_
  refine zk_aload_n C kd_Ps_parse_11 rfl 0 rfl rfl ?_
  refine zs_get (v := .ref (S.1 8)) C 19 1 rfl rfl rfl rfl ki_Ps (by decide) kw202 kd_Ps_parse_12 rfl ?_
  refine zs_get (v := .ref (S.1 9)) C 8 0 rfl rfl rfl rfl ki_Tk (by decide) kw119 kd_Ps_parse_15 rfl ?_
  refine zk_iconst (v := 0) C kd_Ps_parse_18 (by decide) rfl ?_
  refine zs_cald C 9 rfl (zp_dec rfl) kd_Ps_parse_19 rfl ?_
  refine zk_stk (r' := [.int 6, .ref (S.1 19)]) (congrArg (fun z => Value.int z :: [.ref (S.1 19)]) m_9_0) ?_
  refine zs_put (ty := .int) C 19 5 6 rfl rfl rfl rfl ki_Ps ky_Ps ko_Ps kn_Ps (by decide) kw206 rfl rfl rfl rfl (by decide) kd_Ps_parse_20 rfl ?_
  refine zk_aload_n C kd_Ps_parse_23 rfl 0 rfl rfl ?_
  refine zk_aload_n C kd_Ps_parse_24 rfl 0 rfl rfl ?_
  refine zs_get (v := .ref (S.1 8)) C 19 1 rfl rfl rfl rfl ki_Ps (by decide) kw202 kd_Ps_parse_25 rfl ?_
  refine zs_get (v := .ref (S.1 10)) C 8 1 rfl rfl rfl rfl ki_Tk (by decide) kw121 kd_Ps_parse_28 rfl ?_
  refine zk_iconst (v := 0) C kd_Ps_parse_31 (by decide) rfl ?_
  refine zs_cald C 10 rfl (zp_dec rfl) kd_Ps_parse_32 rfl ?_
  refine zk_stk (r' := [.int 0, .ref (S.1 19)]) (congrArg (fun z => Value.int z :: [.ref (S.1 19)]) m_10_0) ?_
  refine zs_put (ty := .int) C 19 6 0 rfl rfl rfl rfl ki_Ps ky_Ps ko_Ps kn_Ps (by decide) kw207 rfl rfl rfl rfl (by decide) kd_Ps_parse_33 rfl ?_
  refine zk_aload_n C kd_Ps_parse_36 rfl 0 rfl rfl ?_
  refine zk_iconst (v := 0) C kd_Ps_parse_37 (by decide) rfl ?_
  refine zs_put (ty := .int) C 19 7 0 rfl rfl rfl rfl ki_Ps ky_Ps ko_Ps kn_Ps (by decide) kw208 rfl rfl rfl rfl (by decide) kd_Ps_parse_38 rfl ?_
  refine zk_aload_n C kd_Ps_parse_41 rfl 0 rfl rfl ?_
  refine zs_get (v := .ref (S.1 12)) C 19 2 rfl rfl rfl rfl ki_Ps (by decide) kw203 kd_Ps_parse_42 rfl ?_
  refine zk_iconst (v := 0) C kd_Ps_parse_45 (by decide) rfl ?_
  refine zs_put (ty := .int) C 12 6 0 rfl rfl rfl rfl ki_Tr ky_Tr ko_Tr kn_Tr (by decide) kw176 rfl rfl rfl rfl (by decide) kd_Ps_parse_46 rfl ?_
  refine zk_aload_n C kd_Ps_parse_49 rfl 0 rfl rfl ?_
  refine zs_get (v := .ref (S.1 12)) C 19 2 rfl rfl rfl rfl ki_Ps (by decide) kw203 kd_Ps_parse_50 rfl ?_
  refine zk_iconst (v := 0) C kd_Ps_parse_53 (by decide) rfl ?_
  refine zk_iconst (v := 0) C kd_Ps_parse_54 (by decide) rfl ?_
  refine zk_iconst (v := 0) C kd_Ps_parse_55 (by decide) rfl ?_
  refine zs_callV (k := 12) (rn := { frames := 1, cells := 0, slots := 0, locals := 21 }) (As := [.int 0, .int 0, .int 0]) (rest := []) C (zp_c_add2 (zs_uF (zs_uF (zs_uF (zs_uF (zs_uF (zs_uF h 19 3 0) 19 4 0) 19 5 6) 19 6 0) 19 7 0) 12 6 0) rfl) ku_Tr_add kw866 kv_Tr_add rfl ⟨by decide, by decide⟩ ⟨by decide, by decide⟩ rfl rfl rfl (Nat.le_of_ble_eq_true rfl) kd_Ps_parse_56 rfl (c1 := 0) (s1 := 0) rfl rfl (fun v w hp => ?_)
  obtain ⟨rfl, rfl⟩ := hp
  refine zk_stk (r' := [.int 0]) rfl ?_
  refine zk_istore_n (lv' := [(1, _), (0, _)]) C kd_Ps_parse_59 rfl (by decide) rfl rfl ?_
  refine zk_iconst (v := (-1)) C kd_Ps_parse_60 (by decide) rfl ?_
  refine zk_istore_n (lv' := [(2, _), (1, _), (0, _)]) C kd_Ps_parse_61 rfl (by decide) rfl rfl ?_
  refine zk_iconst (v := 0) C kd_Ps_parse_62 (by decide) rfl ?_
  refine zk_istore_n (lv' := [(3, _), (2, _), (1, _), (0, _)]) C kd_Ps_parse_63 rfl (by decide) rfl rfl ?_
  refine zk_iload_n C kd_Ps_parse_64 rfl 0 rfl rfl ?_
  refine zk_sipush (v := 16384) C kd_Ps_parse_65 (by decide) rfl ?_
  refine zk_icmp_ge (tgt := 107) C kd_Ps_parse_68 (by decide) rfl (fun h_1 => absurd h_1 (by decide)) (fun h_1 => ?_)
  refine zk_aload_n C kd_Ps_parse_71 rfl 3 rfl rfl ?_
  refine zs_get (v := .int 6) C 19 5 rfl rfl rfl rfl ki_Ps (by decide) kw206 kd_Ps_parse_72 rfl ?_
  refine zk_bipush (v := 6) C kd_Ps_parse_75 (by decide) rfl ?_
  refine zk_icmp_eq (tgt := 107) C kd_Ps_parse_77 (by decide) rfl (fun h_2 => ?_) (fun h_2 => absurd (by decide) h_2)
  refine zk_aload_n C kd_Ps_parse_107 rfl 3 rfl rfl ?_
  refine zs_get (v := .int 0) C 19 3 rfl rfl rfl rfl ki_Ps (by decide) kw204 kd_Ps_parse_108 rfl ?_
  exact zk_iret C hR kd_Ps_parse_111 rfl rfl ⟨rfl, rfl⟩
set_option maxHeartbeats 4000000 in
set_option maxRecDepth 100000 in
theorem zp_c_note1 {l : Launch} {D : va_G} {sz0 : Nat} {S : zs_T} {P : ze_T} (h : zs_H) : zk_Sp (zs_G S l D sz0) (ze_E P) km_Pk_note { frames := 0, cells := 0, slots := 0, locals := 0 } [.ref (S.1 0), .int 0, .int 0] (zs_W S h) (fun v w => (v = none ∧ w = zs_W S h)) := by
  refine zk_met ku_Pk_note (Nat.le_of_ble_eq_true rfl) (ze_Em P) ?_
  intro X C hR
  refine zk_lvs (lv' := [(0, .ref (S.1 0)), (1, .int 0), (2, .int 0)]) [0, 1, 2] rfl ?_
  refine zk_iload_n C kd_Pk_note_0 rfl 1 rfl rfl ?_
  refine zk_if_eq (tgt := 14) C kd_Pk_note_1 (by decide) rfl (fun h_1 => ?_) (fun h_1 => absurd (by decide) h_1)
  exact zk_vret C hR kd_Pk_note_14 rfl rfl ⟨rfl, rfl⟩
set_option maxHeartbeats 4000000 in
set_option maxRecDepth 100000 in
theorem zp_c_note2 {l : Launch} {D : va_G} {sz0 : Nat} {S : zs_T} {P : ze_T} (h : zs_H) (x2 : Int32) : zk_Sp (zs_G S l D sz0) (ze_E P) km_Pk_note { frames := 0, cells := 0, slots := 0, locals := 0 } [.ref (S.1 0), .int 10, .int x2] (zs_W S h) (fun v w => (v = none ∧ w = zs_W S (zs_uF (zs_uF h 0 2 10) 0 3 x2))) := by
  refine zk_met ku_Pk_note (Nat.le_of_ble_eq_true rfl) (ze_Em P) ?_
  intro X C hR
  refine zk_lvs (lv' := [(0, .ref (S.1 0)), (1, .int 10), (2, .int x2)]) [0, 1, 2] rfl ?_
  refine zk_iload_n C kd_Pk_note_0 rfl 1 rfl rfl ?_
  refine zk_if_eq (tgt := 14) C kd_Pk_note_1 (by decide) rfl (fun h_1 => absurd h_1 (by decide)) (fun h_1 => ?_)
  refine zk_aload_n C kd_Pk_note_4 rfl 0 rfl rfl ?_
  refine zk_iload_n C kd_Pk_note_5 rfl 1 rfl rfl ?_
  refine zs_put (ty := .int) C 0 2 10 rfl rfl rfl rfl ki_Pk ky_Pk ko_Pk kn_Pk (by decide) kw621 rfl rfl rfl rfl (by decide) kd_Pk_note_6 rfl ?_
  refine zk_aload_n C kd_Pk_note_9 rfl 0 rfl rfl ?_
  refine zk_iload_n C kd_Pk_note_10 rfl 2 rfl rfl ?_
  refine zs_put (ty := .int) C 0 3 (x2) rfl rfl rfl rfl ki_Pk ky_Pk ko_Pk kn_Pk (by decide) kw622 rfl rfl rfl rfl (by decide) kd_Pk_note_11 rfl ?_
  exact zk_vret C hR kd_Pk_note_14 rfl rfl ⟨rfl, rfl⟩
