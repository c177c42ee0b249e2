/-! The coder: how the model lays calls down. -/
def yk_N (g0 : zs_H) (u dl : Nat) : List (List yI) → Int32 → Prop
  | [], x => x = -1
  | L :: Ls, x => ∃ (k : Nat) (Q : Nat → Prop), k < 33500 ∧ x = nI k ∧ ¬ Q k ∧ yk_M g0 u Q dl k L ∧ yk_N g0 u dl Ls ((g0.2.1 78) k)
section YKO
variable {g0 g : zs_H} {u dl k : Nat} {Q : Nat → Prop}
theorem yk_uA {D N : Nat} {x1 x3 x4 x5 x6 : Int32} : f_Mo_callCode_L53 (f_Mo_expressionCode D) (N + 1) g x1 x3 x4 x5 x6 = f_Mo_callCode_53 (f_Mo_expressionCode D) (f_Mo_callCode_L53 (f_Mo_expressionCode D) N) g x1 x3 x4 x5 x6 := rfl
/-- what stands behind the arguments -/
def yk_tm (D : Nat) (g : zs_H) (x1 x3 x4 x5 : Int32) : Option zs_H := f_Mo_callCode_53 (f_Mo_expressionCode D) (fun _ _ _ _ _ _ => none) g x1 x3 x4 x5 (-1)
theorem yk_te {D : Nat} {x1 x3 x4 x5 : Int32} {K : zs_H → Int32 → Int32 → Int32 → Int32 → Int32 → Option zs_H} : f_Mo_callCode_53 (f_Mo_expressionCode D) K g x1 x3 x4 x5 (-1) = yk_tm D g x1 x3 x4 x5 := by
  unfold yk_tm f_Mo_callCode_53
  rw [if_pos (show (-1 : Int32) < 0 by decide), if_pos (show (-1 : Int32) < 0 by decide)]
/-- an argument -/
theorem yk_ts {D N t kk : Nat} {x1 x3 x4 : Int32} {g1 : zs_H} (hk : kk < 33500) (h3 : ¬ (x3 = 3 ∧ t = 1)) (ht : t < 100000) (f1 : yM_f g0 g1) (E : f_Mo_expressionCode D g (nI kk) = some g1) : f_Mo_callCode_L53 (f_Mo_expressionCode D) (N + 1) g x1 x3 x4 (nI t) (nI kk) = f_Mo_callCode_L53 (f_Mo_expressionCode D) N g1 x1 x3 x4 (nI (t + 1)) ((g0.2.1 78) kk) := by
  have e89 : ∀ y, f_Mo_callCode_89 (f_Mo_expressionCode D) (f_Mo_callCode_L53 (f_Mo_expressionCode D) N) g1 x1 x3 x4 y (nI kk) = f_Mo_callCode_L53 (f_Mo_expressionCode D) N g1 x1 x3 x4 y ((g0.2.1 78) kk) := by
    intro y
    unfold f_Mo_callCode_89
    rw [if_pos (zi_in (by omega) hk), nI_clamp (show kk < 2147483648 by omega), f1.2.1 78 (by decide)]
  rw [yk_uA]
  unfold f_Mo_callCode_53
  rw [if_neg (nI_pos (by omega)), E, Option.bind_some, nI_1, e89]
  by_cases z : x3 = 3
  · rw [if_pos z, if_neg (mt (zc_eq (k := 2) (by decide) (by omega)).mp (fun q => h3 ⟨z, by omega⟩))]
  · rw [if_neg z]
theorem yk_tt {D N kk : Nat} {x1 x4 w : Int32} {g1 g2 : zs_H} (hk : kk < 33500) (f2 : yM_f g0 g2) (E : f_Mo_expressionCode D g (nI kk) = some g1) (E2 : f_Mo_emit g1 (nI 7) 24 0 0 = some (w, g2)) : f_Mo_callCode_L53 (f_Mo_expressionCode D) (N + 1) g x1 (nI 3) x4 (nI 1) (nI kk) = f_Mo_callCode_L53 (f_Mo_expressionCode D) N g2 x1 (nI 3) x4 (nI 2) ((g0.2.1 78) kk) := by
  have e89 : ∀ y, f_Mo_callCode_89 (f_Mo_expressionCode D) (f_Mo_callCode_L53 (f_Mo_expressionCode D) N) g2 x1 (nI 3) x4 y (nI kk) = f_Mo_callCode_L53 (f_Mo_expressionCode D) N g2 x1 (nI 3) x4 y ((g0.2.1 78) kk) := by
    intro y
    unfold f_Mo_callCode_89
    rw [if_pos (zi_in (by omega) hk), nI_clamp (show kk < 2147483648 by omega), f2.2.1 78 (by decide)]
  rw [yk_uA]
  unfold f_Mo_callCode_53
  rw [if_neg (nI_pos (by omega)), E, Option.bind_some, if_pos (show nI 3 = 3 from rfl), nI_1, if_pos (show nI (1 + 1) = 2 from rfl)]
  refine (congrArg (fun z => zd_B z _) E2).trans ?_
  exact e89 _
/-- arguments one after the other -/
theorem yk_tr {x1 x3 x4 : Int32} (h3 : ¬ x3 = 3) (hdl : dl < 10000) : ∀ (Ls : List (List yI)) (x : Int32) (g : zs_H) (n s v D t N : Nat), yk_N g0 u dl Ls x → yM_f g0 g → yM_c g n s u v → n + (yx_s Ls).length ≤ 90000000 → (Ls = [] ∨ 3 * dl + 2 < D) → t + Ls.length < 90000 → Ls.length < N → ∃ g', f_Mo_callCode_L53 (f_Mo_expressionCode D) N g x1 x3 x4 (nI t) x = yk_tm D g' x1 x3 x4 (nI (t + Ls.length)) ∧ yM_E s n (yv v (yx_s Ls)) g g' := by
  intro Ls
  induction Ls with
  | nil =>
    intro x g n s v D t N H f c hn hD ht hN
    obtain ⟨N, rfl⟩ : ∃ z, N = z + 1 := ⟨N - 1, by omega⟩
    refine ⟨g, ?_, yM_nil c.1.1⟩
    rw [yk_uA, show x = -1 from H, yk_te]
    rfl
  | cons L Ls ih =>
    intro x g n s v D t N H f c hn hD ht hN
    have hD := hD.resolve_left (fun z => by cases z)
    obtain ⟨kk, Q, k1, k2, k3, A, H⟩ := H
    have hn' : n + (L ++ yx_s Ls).length ≤ 90000000 := hn
    rw [List.length_append] at hn'
    have ht' : t + (Ls.length + 1) < 90000 := ht
    have hN' : Ls.length + 1 < N := hN
    obtain ⟨N, rfl⟩ : ∃ z, N = z + 1 := ⟨N - 1, by omega⟩
    obtain ⟨g1, a1, a2⟩ := yk_M1 (by omega) k1 k3 A f c (by omega) hD
    have f1 := yM_fE f a2
    obtain ⟨g2, b1, b2⟩ := ih _ g1 _ s v D (t + 1) N H f1 (yM_cL c a2) (by omega) (.inr hD) (by omega) (by omega)
    refine ⟨g2, ?_, yM_aL a2 b2⟩
    rw [k2, yk_ts k1 (fun q => h3 q.1) (by omega) f1 a1, b1, show t + 1 + Ls.length = t + (L :: Ls).length from by show _ = t + (Ls.length + 1); omega]
theorem yk_fin (e : ∀ a, ¬ a ∈ yM_M → g.2.1 a = g0.2.1 a) : f_Mo_input g = f_Mo_input g0 := by
  funext x y
  unfold f_Mo_input f_Mo_input_L10 f_Mo_input_10 f_Mo_input_25 f_Mo_input_42
  rw [e 90 (by decide), e 95 (by decide)]
/-- the inputs are written, the last one first -/
theorem yk_tw {b : Nat} {il : List Nat} (hk : k < 33500) (hb : b < 600) (mm : (g0.2.1 102) k = nI b) (hin : ∀ j w, il[j]? = some w → f_Mo_input g0 (nI b) (nI j) = some (nI w) ∧ w < 8400) : ∀ (j : Nat) (g : zs_H) (n s v N : Nat), j ≤ il.length → il.length < 90000 → yM_f g0 g → yM_c g n s u v → n + j + 2 ≤ 90000000 → j < N → ∃ g', f_Mo_callCode_L286 N g (nI k) (nI j - 1) = some g' ∧ yM_E s n (yv v (((il.take j).reverse.map (fun w => ((6, nI b, (g0.2.1 94) w, 0) : yI))) ++ [(16, nI b, 0, 0), (5, nI b, 0, 0)])) g g' := by
  intro j
  induction j with
  | zero =>
    intro g n s v N hj hil f c hn hN
    obtain ⟨N, rfl⟩ : ∃ z, N = z + 1 := ⟨N - 1, by omega⟩
    have f' : ∀ a, ¬ a ∈ yM_M → g.2.1 a = g0.2.1 a := fun a ha => f.2.1 a ha
    obtain ⟨g1, a1, a2⟩ := yM_e c (by omega) 16 (nI b) 0 0 (by decide)
    have f1 := yM_fE f a2
    obtain ⟨g2, b1, b2⟩ := yM_e (yM_cL c a2) (show n + 1 < 100000000 by omega) 5 (nI b) 0 0 (by decide)
    refine ⟨g2, ?_, show yM_E s n (yv v ([(16, nI b, 0, 0)] ++ [(5, nI b, 0, 0)])) g g2 from yM_aL a2 b2⟩
    show f_Mo_callCode_286 (f_Mo_callCode_L286 N) g (nI k) (nI 0 - 1) = _
    unfold f_Mo_callCode_286
    simp only [if_pos (show nI 0 - 1 < 0 by decide), if_pos (zi_in (show k < 2147483648 by omega) hk), nI_clamp (show k < 2147483648 by omega), f' 102 (by decide), mm]
    refine (congrArg (fun z => zd_B z _) a1).trans ?_
    show zd_B (f_Mo_emit g1 5 ((g1.2.1 102) k) 0 0) _ = _
    rw [f1.2.1 102 (by decide), mm]
    exact (congrArg (fun z => zd_B z _) b1).trans rfl
  | succ j ih =>
    intro g n s v N hj hil f c hn hN
    obtain ⟨N, rfl⟩ : ∃ z, N = z + 1 := ⟨N - 1, by omega⟩
    have f' : ∀ a, ¬ a ∈ yM_M → g.2.1 a = g0.2.1 a := fun a ha => f.2.1 a ha
    have hw : il[j]? = some il[j] := List.getElem?_eq_getElem (by omega)
    obtain ⟨w1, w2⟩ := hin j _ hw
    obtain ⟨g1, a1, a2⟩ := yM_e c (by omega) 6 (nI b) ((g0.2.1 94) il[j]) 0 (by decide)
    have f1 := yM_fE f a2
    obtain ⟨g2, b1, b2⟩ := ih g1 (n + 1) s v N (by omega) hil f1 (yM_cL c a2) (by omega) (by omega)
    refine ⟨g2, ?_, ?_⟩
    · show f_Mo_callCode_286 (f_Mo_callCode_L286 N) g (nI k) (nI (j + 1) - 1) = _
      unfold f_Mo_callCode_286
      rw [zc_sb (k := 1) (by omega), show j + 1 - OfNat.ofNat 1 = j from Nat.add_sub_cancel j 1, if_neg (nI_pos (by omega))]
      simp only [if_pos (zi_in (show k < 2147483648 by omega) hk), nI_clamp (show k < 2147483648 by omega), f' 102 (by decide), mm, yk_fin f', w1, Option.bind_some, if_pos (zi_in (show il[j] < 2147483648 by omega) w2), nI_clamp (show il[j] < 2147483648 by omega), f' 94 (by decide)]
      refine (congrArg (fun z => zd_B z _) a1).trans ?_
      show f_Mo_callCode_L286 N g1 (nI k) (nI j + (-1)) = _
      rw [← Int32.sub_eq_add_neg]
      exact b1
    · rw [List.take_add_one, hw]
      show yM_E s n (yv v (((il.take j ++ [il[j]]).reverse.map _) ++ _)) g g2
      rw [List.reverse_append, List.map_append, List.append_assoc]
      exact (show yM_E s n (yv v ([(6, nI b, (g0.2.1 94) il[j], 0)] ++ _)) g g2 from yM_aL a2 b2)
theorem yk_oC {D : Nat} (f : yM_f g0 g) (hk : k < 33500) (m1 : (g0.2.1 72) k = 34) (c1 : f_Mo_isConstant 400 g0 (nI k) = some 0) : f_Mo_operandCode (D + 1 + 1) g (nI k) = ((f_Mo_wordOf_s11 g0 ((g0.2.1 74) k)).bind fun v3 => (if 0 ≤ (g0.2.1 76) k then (if zd_in ((g0.2.1 76) k) 33500 then f_Mo_callCode_40 (f_Mo_expressionCode D) g (nI k) v3 ((g0.2.1 100) ((g0.2.1 76) k).toNatClampNeg) else none) else f_Mo_callCode_40 (f_Mo_expressionCode D) g (nI k) v3 (-1))).bind some := by
  have f' : ∀ a, ¬ a ∈ yM_M → g.2.1 a = g0.2.1 a := fun a ha => f.2.1 a ha
  rw [yk_oS]
  unfold g_Mo_operandCode
  rw [yk_fi f', c1, Option.bind_some, if_pos rfl]
  simp only [if_pos (zi_in (show k < 2147483648 by omega) hk), nI_clamp (show k < 2147483648 by omega), f' 72 (by decide)]
  rw [m1, if_neg (by decide), if_neg (by decide), if_neg (by decide), if_neg (by decide)]
  show (g_Mo_callCode (f_Mo_expressionCode D) g (nI k)).bind _ = _
  unfold g_Mo_callCode
  simp only [if_pos (zi_in (show k < 2147483648 by omega) hk), nI_clamp (show k < 2147483648 by omega), f' 74 (by decide), f' 76 (by decide), f' 100 (by decide), yk_fw f']
theorem yk_40 {D : Nat} {x3 y : Int32} (f : yM_f g0 g) (hk : k < 33500) : f_Mo_callCode_40 (f_Mo_expressionCode D) g (nI k) x3 y = f_Mo_callCode_L53 (f_Mo_expressionCode D) zF g (nI k) x3 y (nI 0) ((g0.2.1 76) k) := by
  unfold f_Mo_callCode_40
  rw [if_pos (zi_in (by omega) hk), nI_clamp (show k < 2147483648 by omega), f.2.1 76 (by decide)]
  rfl
theorem yk_M34 {b dl1 : Nat} {il : List Nat} {Ls : List (List yI)} (hk : k < 33500) (hd1 : Ls = [] ∨ dl1 < dl) (hd2 : dl1 < 9000) (hdl : dl < 10000) (m1 : (g0.2.1 72) k = 34) (c1 : f_Mo_isConstant 400 g0 (nI k) = some 0) (ew : f_Mo_wordOf_s11 g0 ((g0.2.1 74) k) = some (-1)) (hb : b < 600) (mm : (g0.2.1 102) k = nI b) (hin : ∀ j w, il[j]? = some w → f_Mo_input g0 (nI b) (nI j) = some (nI w) ∧ w < 8400) (hil : il.length = Ls.length) (hil2 : il.length < 80000) (A : yk_N g0 u dl1 Ls ((g0.2.1 76) k)) : yk_M g0 u Q dl k (yx_call b (il.reverse.map (fun w => (g0.2.1 94) w)) (yx_s Ls)) := by
  have hz := zF_big
  refine yk_M0 hk (.inl (by rw [m1]; decide)) ?_
  intro D n s v g f c hn hD
  have hn' : n + (yx_s Ls).length + il.length + 2 ≤ 90000000 := by
    unfold yx_call at hn
    rw [List.length_append, List.length_append, List.length_map, List.length_map, List.length_reverse] at hn
    have : n + ((yx_s Ls).length + (il.length + 2)) ≤ 90000000 := hn
    omega
  obtain ⟨D, rfl⟩ : ∃ z, D = z + 1 + 1 := ⟨D - 2, by omega⟩
  obtain ⟨x4, e0⟩ : ∃ x4, f_Mo_operandCode (D + 1 + 1) g (nI k) = (f_Mo_callCode_L53 (f_Mo_expressionCode D) zF g (nI k) (-1) x4 (nI 0) ((g0.2.1 76) k)).bind some := by
    rw [yk_oC f hk m1 c1, ew, Option.bind_some]
    cases Ls with
    | nil =>
      refine ⟨-1, ?_⟩
      rw [← yk_40 f hk, if_neg (by rw [show (g0.2.1 76) k = -1 from A]; decide)]
    | cons L Ls =>
      obtain ⟨kk, Q', q1, q2, _⟩ := A
      refine ⟨(g0.2.1 100) kk, ?_⟩
      rw [← yk_40 f hk, q2, if_pos ((zc_le (k := 0) (by decide) (by omega)).mpr (by omega)), if_pos (zi_in (by omega) q1), nI_clamp (show kk < 2147483648 by omega)]
  obtain ⟨g1, a1, a2⟩ := yk_tr (x1 := nI k) (x3 := -1) (x4 := x4) (by decide) (by omega) Ls _ g n s v D 0 zF A f c (by omega) (hd1.imp id (fun z => by omega)) (by omega) (by omega)
  have f1 := yM_fE f a2
  obtain ⟨g2, b1, b2⟩ := yk_tw hk hb mm hin il.length g1 _ s v zF (Nat.le_refl _) (by omega) f1 (yM_cL c a2) (by omega) (by omega)
  refine ⟨g2, ?_, ?_⟩
  · rw [e0, a1]
    unfold yk_tm f_Mo_callCode_53
    rw [if_pos (by decide), if_neg (by decide), if_neg (by decide), if_neg (by decide), if_neg (by decide), if_neg (by decide), if_neg (by decide), if_neg (by decide), if_neg (by decide), if_neg (by decide), if_neg (by decide), Nat.zero_add, ← hil, b1]
    rfl
  · rw [List.take_length] at b2
    have := yM_aL a2 b2
    unfold yx_call
    rw [List.map_map]
    exact this
/-- what a standard function ends with -/
theorem yk_ti {D st n s v ty : Nat} {x1 x4 x5 : Int32} (c : yM_c g n s u v) (hn : n < 100000000) (hs : st < 10) (ht : ty < 3) (h4 : st = 0 ∨ st = 5 ∨ st = 6 → x4 = nI ty) : ∃ g', yk_tm D g x1 (nI st) x4 x5 = some g' ∧ yM_E s n (yv v (if st = 4 then [(9, 0, 0, 0)] else if st = 8 then [] else if st = 3 then [(7, 23, 0, 0)] else [(if ya_ar st = 1 then 8 else 7, f_Cd_standardKind (nI st) (nI ty), 0, 0)])) g g' := by
  have cs : st = 0 ∨ st = 1 ∨ st = 2 ∨ st = 3 ∨ st = 4 ∨ st = 5 ∨ st = 6 ∨ st = 7 ∨ st = 8 ∨ st = 9 := by omega
  have one : ∀ (o : Nat) (a : Int32), (o = 7 ∨ o = 8 ∨ o = 9) → ∃ g', f_Mo_emit g (nI o) a 0 0 = some (nI (n - s), g') ∧ yM_E s n (yv v [(o, a, 0, 0)]) g g' := fun o a ho => yM_e c hn o a 0 0 (by omega)
  unfold yk_tm f_Mo_callCode_53 f_Mo_callCode_170 f_Mo_callCode_236
  rw [if_pos (show (-1 : Int32) < 0 by decide)]
  have kd : ∀ ty, ty < 3 → f_Cd_standardKind (nI 0) (nI ty) = (if ty = 1 then 4 else 5) ∧ f_Cd_standardKind (nI 5) (nI ty) = (if ty = 1 then 19 else 21) ∧ f_Cd_standardKind (nI 6) (nI ty) = (if ty = 1 then 20 else 22) ∧ f_Cd_standardKind (nI 1) (nI ty) = 23 ∧ f_Cd_standardKind (nI 2) (nI ty) = 24 ∧ f_Cd_standardKind (nI 7) (nI ty) = 6 ∧ f_Cd_standardKind (nI 9) (nI ty) = 7 := by decide
  obtain ⟨k0, k5, k6, k1, k2, k7, k9⟩ := kd ty ht
  rcases cs with rfl | rfl | rfl | rfl | rfl | rfl | rfl | rfl | rfl | rfl
  · rw [if_pos (show nI 0 = 0 from rfl), h4 (by decide), if_neg (show ¬ 0 = 4 by decide), if_neg (show ¬ 0 = 8 by decide), if_neg (show ¬ 0 = 3 by decide), k0]
    by_cases z : ty = 1
    · obtain ⟨g', e1, e2⟩ := one 8 4 (by decide)
      rw [if_pos ((zc_eq (k := 1) (by decide) (by omega)).mpr z), if_pos z]
      exact ⟨g', (congrArg (fun z => zd_B z _) e1).trans rfl, e2⟩
    · obtain ⟨g', e1, e2⟩ := one 8 5 (by decide)
      rw [if_neg (mt (zc_eq (k := 1) (by decide) (by omega)).mp z), if_neg z]
      exact ⟨g', (congrArg (fun z => zd_B z _) e1).trans rfl, e2⟩
  · obtain ⟨g', e1, e2⟩ := one 7 23 (by decide)
    rw [if_neg (by decide), if_pos (by decide), if_neg (by decide), if_neg (by decide), if_neg (by decide), k1]
    exact ⟨g', (congrArg (fun z => zd_B z _) e1).trans rfl, e2⟩
  · obtain ⟨g', e1, e2⟩ := one 7 24 (by decide)
    rw [if_neg (by decide), if_neg (by decide), if_pos (by decide), if_neg (by decide), if_neg (by decide), if_neg (by decide), k2]
    exact ⟨g', (congrArg (fun z => zd_B z _) e1).trans rfl, e2⟩
  · obtain ⟨g', e1, e2⟩ := one 7 23 (by decide)
    rw [if_neg (by decide), if_neg (by decide), if_neg (by decide), if_pos (by decide), if_neg (by decide), if_neg (by decide), if_pos rfl]
    exact ⟨g', (congrArg (fun z => zd_B z _) e1).trans rfl, e2⟩
  · obtain ⟨g', e1, e2⟩ := one 9 0 (by decide)
    rw [if_neg (by decide), if_neg (by decide), if_neg (by decide), if_neg (by decide), if_pos (by decide), if_pos rfl]
    exact ⟨g', (congrArg (fun z => zd_B z _) e1).trans rfl, e2⟩
  · rw [if_neg (by decide), if_neg (by decide), if_neg (by decide), if_neg (by decide), if_neg (by decide), if_pos (by decide), h4 (by decide), if_neg (show ¬ 5 = 4 by decide), if_neg (show ¬ 5 = 8 by decide), if_neg (show ¬ 5 = 3 by decide), k5]
    by_cases z : ty = 1
    · obtain ⟨g', e1, e2⟩ := one 7 19 (by decide)
      rw [if_pos ((zc_eq (k := 1) (by decide) (by omega)).mpr z), if_pos z]
      exact ⟨g', (congrArg (fun z => zd_B z _) e1).trans rfl, e2⟩
    · obtain ⟨g', e1, e2⟩ := one 7 21 (by decide)
      rw [if_neg (mt (zc_eq (k := 1) (by decide) (by omega)).mp z), if_neg z]
      exact ⟨g', (congrArg (fun z => zd_B z _) e1).trans rfl, e2⟩
  · rw [if_neg (by decide), if_neg (by decide), if_neg (by decide), if_neg (by decide), if_neg (by decide), if_neg (by decide), if_pos (by decide), h4 (by decide), if_neg (show ¬ 6 = 4 by decide), if_neg (show ¬ 6 = 8 by decide), if_neg (show ¬ 6 = 3 by decide), k6]
    by_cases z : ty = 1
    · obtain ⟨g', e1, e2⟩ := one 7 20 (by decide)
      rw [if_pos ((zc_eq (k := 1) (by decide) (by omega)).mpr z), if_pos z]
      exact ⟨g', (congrArg (fun z => zd_B z _) e1).trans rfl, e2⟩
    · obtain ⟨g', e1, e2⟩ := one 7 22 (by decide)
      rw [if_neg (mt (zc_eq (k := 1) (by decide) (by omega)).mp z), if_neg z]
      exact ⟨g', (congrArg (fun z => zd_B z _) e1).trans rfl, e2⟩
  · obtain ⟨g', e1, e2⟩ := one 8 6 (by decide)
    rw [if_neg (by decide), if_neg (by decide), if_neg (by decide), if_neg (by decide), if_neg (by decide), if_neg (by decide), if_neg (by decide), if_pos (by decide), if_neg (by decide), if_neg (by decide), if_neg (by decide), k7]
    exact ⟨g', (congrArg (fun z => zd_B z _) e1).trans rfl, e2⟩
  · rw [if_neg (by decide), if_neg (by decide), if_neg (by decide), if_neg (by decide), if_neg (by decide), if_neg (by decide), if_neg (by decide), if_neg (by decide), if_pos (by decide), if_neg (by decide), if_pos rfl]
    exact ⟨g, rfl, yM_nil c.1.1⟩
  · obtain ⟨g', e1, e2⟩ := one 8 7 (by decide)
    rw [if_neg (by decide), if_neg (by decide), if_neg (by decide), if_neg (by decide), if_neg (by decide), if_neg (by decide), if_neg (by decide), if_neg (by decide), if_neg (by decide), if_pos (by decide), if_neg (by decide), if_neg (by decide), if_neg (by decide), k9]
    exact ⟨g', (congrArg (fun z => zd_B z _) e1).trans rfl, e2⟩
theorem yk_M39 {st ty dl1 ka : Nat} {Ls : List (List yI)} (hk : k < 33500) (hd1 : dl1 < dl) (hdl : dl < 10000) (m1 : (g0.2.1 72) k = 34) (c1 : f_Mo_isConstant 400 g0 (nI k) = some 0) (hs : st < 10) (ew : f_Mo_wordOf_s11 g0 ((g0.2.1 74) k) = some (nI st)) (ht : ty < 3) (ka1 : ka < 33500) (ka2 : (g0.2.1 76) k = nI ka) (h4 : st = 0 ∨ st = 5 ∨ st = 6 → (g0.2.1 100) ka = nI ty) (hl : Ls.length = ya_ar st) (A : yk_N g0 u dl1 Ls ((g0.2.1 76) k)) : yk_M g0 u Q dl k (yx_t st (f_Cd_standardKind (nI st) (nI ty)) Ls) := by
  have hz : zF = 18446744073709551612 + 1 + 1 + 1 + 1 := rfl
  have hzb := zF_big
  refine yk_M0 hk (.inl (by rw [m1]; decide)) ?_
  intro D n s v g f c hn hD
  obtain ⟨D, rfl⟩ : ∃ z, D = z + 1 + 1 := ⟨D - 2, by omega⟩
  have e0 : f_Mo_operandCode (D + 1 + 1) g (nI k) = (f_Mo_callCode_L53 (f_Mo_expressionCode D) zF g (nI k) (nI st) ((g0.2.1 100) ka) (nI 0) ((g0.2.1 76) k)).bind some := by
    rw [yk_oC f hk m1 c1, ew, Option.bind_some, ← yk_40 f hk, ka2, if_pos ((zc_le (k := 0) (by decide) (by omega)).mpr (by omega)), if_pos (zi_in (by omega) ka1), nI_clamp (show ka < 2147483648 by omega)]
  rw [e0]
  have hars : ∀ s, s < 10 → (ya_ar s = 1 → s = 0 ∨ s = 7 ∨ s = 8 ∨ s = 9) ∧ (ya_ar s = 2 → s = 1 ∨ s = 2 ∨ s = 5 ∨ s = 6) ∧ (ya_ar s = 3 → s = 3 ∨ s = 4) ∧ 1 ≤ ya_ar s ∧ ya_ar s ≤ 3 := by decide
  obtain ⟨r1, r2, r3, r4, r5⟩ := hars st hs
  by_cases h3 : st = 3
  · subst h3
    match Ls, hl, A, hn with
    | [], hl, A, hn => exact absurd hl (by decide)
    | [a], hl, A, hn => exact absurd hl (show ¬ 1 = 3 by decide)
    | [a, b], hl, A, hn => exact absurd hl (show ¬ 2 = 3 by decide)
    | a :: b :: c' :: d :: es, hl, A, hn => exact absurd hl (by show ¬ es.length + 1 + 1 + 1 + 1 = 3; omega)
    | [a, b, c'], hl, A, hn =>
      obtain ⟨i1, Q1, j1, j2, j3, C1, i2, Q2, w1, w2, w3, C2, i3, Q3, u1, u2, u3, C3, L1⟩ := A
      have hab : (a ++ (b ++ [((7, 24, 0, 0) : yI)])).length = a.length + (b.length + 1) := by rw [List.length_append, List.length_append]; rfl
      have hn' : n + ((a ++ (b ++ [((7, 24, 0, 0) : yI)])).length + (c'.length + 1)) ≤ 90000000 := by
        have : n + ((a ++ (b ++ [((7, 24, 0, 0) : yI)])) ++ (c' ++ [((7, 23, 0, 0) : yI)])).length ≤ 90000000 := hn
        rw [List.length_append, List.length_append (as := c')] at this; exact this
      obtain ⟨g1, a1, a2⟩ := yk_M1 (D := D) (by omega) j1 j3 C1 f c (by omega) (by omega)
      have f1 := yM_fE f a2
      obtain ⟨g2, b1, b2⟩ := yk_M1 (D := D) (by omega) w1 w3 C2 f1 (yM_cL c a2) (by omega) (by omega)
      have f2 := yM_fE f1 b2
      obtain ⟨g3, d1, d2⟩ := yM_e (yM_cL (yM_cL c a2) b2) (by omega) 7 24 0 0 (by decide)
      have f3 := yM_fE f2 d2
      have A3 := yM_aL a2 (yM_aL b2 d2)
      obtain ⟨g4, p1, p2⟩ := yk_M1 (D := D) (by omega) u1 u3 C3 f3 (yM_cL c A3) (by omega) (by omega)
      have f4 := yM_fE f3 p2
      obtain ⟨g5, q1, q2⟩ := yk_ti (D := D) (x1 := nI k) (x4 := (g0.2.1 100) ka) (x5 := nI 3) (st := 3) (yM_cL (yM_cL c A3) p2) (by omega) hs ht h4
      refine ⟨g5, ?_, ?_⟩
      · rw [j2, hz, yk_ts j1 (by omega) (by omega) f1 a1, w2, yk_tt w1 f3 b1 d1, u2, yk_ts u1 (by omega) (by omega) f4 p1, show (g0.2.1 78) i3 = -1 from L1, yk_uA, yk_te, q1]
        rfl
      · rw [if_neg (by decide), if_neg (by decide), if_pos rfl] at q2
        exact yM_aL A3 (yM_aL p2 q2)
  · have hn1 : n + (yx_s Ls).length ≤ 90000000 ∧ ((yx_t st (f_Cd_standardKind (nI st) (nI ty)) Ls) = yx_s Ls ++ (if st = 4 then [(9, 0, 0, 0)] else if st = 8 then [] else if st = 3 then [(7, 23, 0, 0)] else [(if ya_ar st = 1 then 8 else 7, f_Cd_standardKind (nI st) (nI ty), 0, 0)])) := by
      have key : (yx_t st (f_Cd_standardKind (nI st) (nI ty)) Ls) = yx_s Ls ++ (if st = 4 then [(9, 0, 0, 0)] else if st = 8 then [] else if st = 3 then [(7, 23, 0, 0)] else [(if ya_ar st = 1 then 8 else 7, f_Cd_standardKind (nI st) (nI ty), 0, 0)]) := by
        match Ls, hl with
        | [], hl => exact absurd hl (by show ¬ 0 = _; omega)
        | [a], hl =>
          have := r1 hl.symm
          show (if st = 8 then a else a ++ [(8, _, 0, 0)]) = (a ++ []) ++ _
          rw [if_neg (show ¬ st = 4 by omega), if_neg h3, if_pos (show ya_ar st = 1 from hl.symm), List.append_nil]
          split
          · rw [List.append_nil]
          · rfl
        | [a, b], hl =>
          have := r2 hl.symm
          show a ++ (b ++ [(7, _, 0, 0)]) = (a ++ (b ++ [])) ++ _
          rw [if_neg (show ¬ st = 4 by omega), if_neg (show ¬ st = 8 by omega), if_neg h3, if_neg (show ¬ ya_ar st = 1 by rw [← hl]; show ¬ 2 = 1; decide), List.append_nil, List.append_assoc]
        | [a, b, c'], hl =>
          have h4' : st = 4 := (r3 hl.symm).resolve_left h3
          show (if st = 3 then _ else a ++ (b ++ (c' ++ [(9, 0, 0, 0)]))) = (a ++ (b ++ (c' ++ []))) ++ _
          rw [if_neg h3, if_pos h4', List.append_nil, List.append_assoc, List.append_assoc]
        | a :: b :: c' :: d :: es, hl => exact absurd hl (by show ¬ es.length + 1 + 1 + 1 + 1 = _; omega)
      refine ⟨?_, key⟩
      rw [key, List.length_append] at hn
      omega
    obtain ⟨g1, a1, a2⟩ := yk_tr (x1 := nI k) (x3 := nI st) (x4 := (g0.2.1 100) ka) (fun q => h3 ((zc_eq (k := 3) (by decide) (by omega)).mp q)) (by omega) Ls _ g n s v D 0 zF A f c hn1.1 (.inr (by omega)) (by omega) (by omega)
    obtain ⟨g2, q1, q2⟩ := yk_ti (D := D) (x1 := nI k) (x4 := (g0.2.1 100) ka) (x5 := nI (0 + Ls.length)) (yM_cL c a2) (by omega) hs ht h4
    refine ⟨g2, by rw [a1, q1]; rfl, ?_⟩
    rw [hn1.2]
    exact yM_aL a2 q2
end YKO
