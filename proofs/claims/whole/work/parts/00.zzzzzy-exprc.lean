/-! The coder: expressions, and how the class lays them down. -/
/-- nothing but the code has changed -/
abbrev yC_F : List (Nat × Nat) := [(41, 5), (41, 6), (47, 3), (47, 4), (47, 5), (47, 6), (47, 10), (47, 11)]
abbrev yC_M : List Nat := [42, 43, 44, 45, 46, 48, 49, 50]
def yC_f (h0 h : zs_H) : Prop := zfr yC_F yC_M [] h0 h
theorem yC_fE {h0 h h' : zs_H} {n : Nat} {L : List yI} (f : yC_f h0 h) (E : yC_E n L h h') : yC_f h0 h' := zfr_trans f (zfr_w E.2.1 (by decide) (by decide) (by decide))
/-- the class codes the node x -/
def yk_C (h0 : zs_H) (dl : Nat) (x : Int32) (e : List yI) : Prop := ∀ (D d n : Nat) (h : zs_H), yC_f h0 h → (h.1 41 5) = nI n → n + e.length ≤ 90000000 → 2 * dl + 1 < D → d + dl ≤ 240 → ∃ h', f_Cr_codeExpression D h x (nI d) = some h' ∧ yC_E n e h h'
/-- nodes in a row -/
def yk_L (h0 : zs_H) (dl : Nat) : List (List yI) → Int32 → Prop
  | [], x => x = -1
  | e :: es, x => ∃ i, i < 32784 ∧ x = nI i ∧ yk_C h0 dl (nI i) e ∧ yk_L h0 dl es ((h0.2.1 18) i)
section YKE
variable {h0 h : zs_H} {dl i : Nat}
theorem yk_CS {D : Nat} {x : Int32} {d : Nat} (hi : i < 32784) (hd : d ≤ 240) (hx : x = nI i) : f_Cr_codeExpression (D + 1) h x (nI d) = g_Cr_codeExpression (f_Cr_codeCall D) (f_Cr_codeExpression D) (f_Cr_codeStandardCall D) h (nI i) (nI d) := by rw [hx]; rfl
theorem yk_C30 (hi : i < 32784) (k : zv_kc h0 i) : yk_C h0 dl (nI i) [(0, (h0.2.1 16) i, 0, 0)] := by
  intro D d n h f e hn hD hd
  obtain ⟨D, rfl⟩ : ∃ z, D = z + 1 := ⟨D - 1, by omega⟩
  have f' : ∀ a, ¬ a ∈ yC_M → h.2.1 a = h0.2.1 a := fun a ha => f.2.1 a ha
  obtain ⟨h', e1, e2⟩ := yC_emit e (show n < 100000000 by omega) 0 (by decide) ((h0.2.1 16) i)
  refine ⟨h', ?_, e2⟩
  rw [yk_CS hi (by omega) rfl]
  unfold g_Cr_codeExpression
  simp only [if_pos ((zc_el (k := 240) (by decide) (show d < 2147483648 by omega)).mpr (show d ≤ 240 by omega)), if_pos (zi_in (show i < 2147483648 by omega) hi), nI_clamp (show i < 2147483648 by omega), f' 13 (by decide), f' 16 (by decide)]
  rcases k with k | k <;> rw [k, if_neg (by decide), if_neg (by decide), if_neg (by decide), if_neg (by decide), if_neg (by decide), if_neg (by decide), if_neg (by decide)] <;> exact (congrArg (fun z => zd_B z _) e1).trans rfl
theorem yk_C6 {w x : Nat} (hi : i < 32784) (k : (h0.2.1 13) i = 6) (hw : w < 6000) (ew : (h0.2.1 16) i = nI w) (ex : (h0.2.1 32) w = nI x) : yk_C h0 dl (nI i) [(1, nI x, 0, 0)] := by
  intro D d n h f e hn hD hd
  obtain ⟨D, rfl⟩ : ∃ z, D = z + 1 := ⟨D - 1, by omega⟩
  have f' : ∀ a, ¬ a ∈ yC_M → h.2.1 a = h0.2.1 a := fun a ha => f.2.1 a ha
  obtain ⟨h', e1, e2⟩ := yC_emit e (show n < 100000000 by omega) 1 (by decide) (nI x)
  refine ⟨h', ?_, e2⟩
  rw [yk_CS hi (by omega) rfl]
  unfold g_Cr_codeExpression f_Cr_cellOf
  simp only [if_pos ((zc_el (k := 240) (by decide) (show d < 2147483648 by omega)).mpr (show d ≤ 240 by omega)), if_pos (zi_in (show i < 2147483648 by omega) hi), nI_clamp (show i < 2147483648 by omega), f' 13 (by decide), f' 16 (by decide), f' 32 (by decide), ew, if_pos (zi_in (show w < 2147483648 by omega) hw), nI_clamp (show w < 2147483648 by omega), ex]
  rw [k, if_pos rfl, if_neg (by decide), Option.bind_some]
  exact (congrArg (fun z => zd_B z _) e1).trans rfl
theorem yk_C33 {w x a y : Nat} (hi : i < 32784) (k : (h0.2.1 13) i = 33) (hw : w < 6000) (ew : (h0.2.1 16) i = nI w) (ex : (h0.2.1 32) w = nI x) (ec : (h0.2.1 17) i = nI a) (ha : a < 32784) (ey : (h0.2.1 16) a = nI y) : yk_C h0 dl (nI i) [(1, nI (x + y), 0, 0)] := by
  intro D d n h f e hn hD hd
  obtain ⟨D, rfl⟩ : ∃ z, D = z + 1 := ⟨D - 1, by omega⟩
  have f' : ∀ a, ¬ a ∈ yC_M → h.2.1 a = h0.2.1 a := fun a ha => f.2.1 a ha
  obtain ⟨h', e1, e2⟩ := yC_emit e (show n < 100000000 by omega) 1 (by decide) (nI (x + y))
  refine ⟨h', ?_, e2⟩
  rw [yk_CS hi (by omega) rfl]
  unfold g_Cr_codeExpression f_Cr_cellOf
  simp only [if_pos ((zc_el (k := 240) (by decide) (show d < 2147483648 by omega)).mpr (show d ≤ 240 by omega)), if_pos (zi_in (show i < 2147483648 by omega) hi), nI_clamp (show i < 2147483648 by omega), f' 13 (by decide), f' 16 (by decide), f' 32 (by decide), f' 17 (by decide), ew, if_pos (zi_in (show w < 2147483648 by omega) hw), ec, if_pos (zi_in (show a < 2147483648 by omega) ha), nI_clamp (show w < 2147483648 by omega), nI_clamp (show a < 2147483648 by omega), ex, ey, nI_add]
  rw [k, if_neg (by decide), if_neg (by decide), if_pos rfl, if_pos rfl, Option.bind_some]
  exact (congrArg (fun z => zd_B z _) e1).trans rfl
theorem yk_C32 {w x dl' : Nat} {L : List yI} (hi : i < 32784) (k : (h0.2.1 13) i = 32) (hw : w < 6000) (ew : (h0.2.1 16) i = nI w) (ex : (h0.2.1 32) w = nI x) (hdl : dl' < dl) (C : yk_C h0 dl' ((h0.2.1 17) i) L) : yk_C h0 dl (nI i) (L ++ [(3, nI x, (h0.2.1 33) w, (h0.2.1 34) w)]) := by
  intro D d n h f e hn hD hd
  rw [List.length_append] at hn
  have hn' : n + (L.length + 1) ≤ 90000000 := hn
  obtain ⟨D, rfl⟩ : ∃ z, D = z + 1 := ⟨D - 1, by omega⟩
  have f' : ∀ a, ¬ a ∈ yC_M → h.2.1 a = h0.2.1 a := fun a ha => f.2.1 a ha
  obtain ⟨h1, a1, a2⟩ := C D (d + 1) n h f e (by omega) (by omega) (by omega)
  have f1 := yC_fE f a2
  have f1' : ∀ a, ¬ a ∈ yC_M → h1.2.1 a = h0.2.1 a := fun a ha => f1.2.1 a ha
  have s1 := a2.1
  obtain ⟨h2, b1, b2⟩ := yC_emit s1 (by omega) 3 (by decide) (nI x)
  obtain ⟨h3, c1, c2⟩ := yC_with (by omega) b2 ((h0.2.1 33) w) ((h0.2.1 34) w)
  have f2 := yC_fE f1 b2
  have f2' : ∀ a, ¬ a ∈ yC_M → h2.2.1 a = h0.2.1 a := fun a ha => f2.2.1 a ha
  refine ⟨h3, ?_, yC_ap a2 c2⟩
  rw [yk_CS hi (by omega) rfl]
  unfold g_Cr_codeExpression
  simp only [if_pos ((zc_el (k := 240) (by decide) (show d < 2147483648 by omega)).mpr (show d ≤ 240 by omega)), if_pos (zi_in (show i < 2147483648 by omega) hi), nI_clamp (show i < 2147483648 by omega), f' 13 (by decide), f' 16 (by decide), f' 17 (by decide), ew, nI_1, if_pos (zi_in (show w < 2147483648 by omega) hw), nI_clamp (show w < 2147483648 by omega)]
  rw [k, if_neg (by decide), if_pos rfl, a1, Option.bind_some, f1' 32 (by decide), ex]
  refine (congrArg (fun z => zd_B z _) b1).trans ?_
  show (f_Cd_with h2 ((h2.2.1 33) w) ((h2.2.1 34) w)).bind _ = _
  rw [f2' 33 (by decide), f2' 34 (by decide), c1, Option.bind_some]
theorem yk_C35 {a b dl1 dl2 : Nat} {ea eb : List yI} (hi : i < 32784) (k : (h0.2.1 13) i = 35) (ec : (h0.2.1 17) i = nI a) (ha : a < 32784) (en : (h0.2.1 18) a = nI b) (h1 : dl1 < dl) (h2 : dl2 < dl) (A : yk_C h0 dl1 (nI a) ea) (B : yk_C h0 dl2 (nI b) eb) : yk_C h0 dl (nI i) (ea ++ (eb ++ [(7, f_Cd_operation ((h0.2.1 16) i) ((h0.2.1 14) i), 0, 0)])) := by
  intro D d n h f e hn hD hd
  rw [List.length_append, List.length_append] at hn
  have hn' : n + (ea.length + (eb.length + 1)) ≤ 90000000 := hn
  obtain ⟨D, rfl⟩ : ∃ z, D = z + 1 := ⟨D - 1, by omega⟩
  have f' : ∀ a, ¬ a ∈ yC_M → h.2.1 a = h0.2.1 a := fun a ha => f.2.1 a ha
  obtain ⟨h1, a1, a2⟩ := A D (d + 1) n h f e (by omega) (by omega) (by omega)
  have f1 := yC_fE f a2
  have f1' : ∀ a, ¬ a ∈ yC_M → h1.2.1 a = h0.2.1 a := fun a ha => f1.2.1 a ha
  have s1 := a2.1
  obtain ⟨h2, b1, b2⟩ := B D (d + 1) _ h1 f1 s1 (by omega) (by omega) (by omega)
  have f2 := yC_fE f1 b2
  have f2' : ∀ a, ¬ a ∈ yC_M → h2.2.1 a = h0.2.1 a := fun a ha => f2.2.1 a ha
  have s2 := b2.1
  obtain ⟨h3, c1, c2⟩ := yC_emit s2 (by omega) 7 (by decide) (f_Cd_operation ((h0.2.1 16) i) ((h0.2.1 14) i))
  refine ⟨h3, ?_, yC_ap a2 (yC_ap b2 c2)⟩
  rw [yk_CS hi (by omega) rfl]
  unfold g_Cr_codeExpression
  simp only [if_pos ((zc_el (k := 240) (by decide) (show d < 2147483648 by omega)).mpr (show d ≤ 240 by omega)), if_pos (zi_in (show i < 2147483648 by omega) hi), nI_clamp (show i < 2147483648 by omega), f' 13 (by decide), f' 16 (by decide), f' 17 (by decide), nI_1, ec, if_pos (zi_in (show a < 2147483648 by omega) ha), nI_clamp (show a < 2147483648 by omega)]
  rw [k, if_neg (by decide), if_neg (by decide), if_neg (by decide), if_neg (by decide), if_pos rfl, a1, Option.bind_some, f1' 18 (by decide), en, b1, Option.bind_some, f2' 14 (by decide)]
  exact (congrArg (fun z => zd_B z _) c1).trans rfl
theorem yk_C36 {dl1 : Nat} {ea : List yI} {x : Int32} (hi : i < 32784) (k : (h0.2.1 13) i = 36) (ec : (h0.2.1 17) i = x) (h1 : dl1 < dl) (A : yk_C h0 dl1 x ea) : yk_C h0 dl (nI i) (ea ++ [(8, f_Cd_turning (if (h0.2.1 16) i = 0 then 1 else 0) ((h0.2.1 14) i), 0, 0)]) := by
  intro D d n h f e hn hD hd
  rw [List.length_append] at hn
  have hn' : n + (ea.length + 1) ≤ 90000000 := hn
  obtain ⟨D, rfl⟩ : ∃ z, D = z + 1 := ⟨D - 1, by omega⟩
  have f' : ∀ a, ¬ a ∈ yC_M → h.2.1 a = h0.2.1 a := fun a ha => f.2.1 a ha
  obtain ⟨h1, a1, a2⟩ := A D (d + 1) n h f e (by omega) (by omega) (by omega)
  have f1 := yC_fE f a2
  have f1' : ∀ a, ¬ a ∈ yC_M → h1.2.1 a = h0.2.1 a := fun a ha => f1.2.1 a ha
  have s1 := a2.1
  obtain ⟨h3, c1, c2⟩ := yC_emit s1 (by omega) 8 (by decide) (f_Cd_turning (if (h0.2.1 16) i = 0 then 1 else 0) ((h0.2.1 14) i))
  refine ⟨h3, ?_, yC_ap a2 c2⟩
  rw [yk_CS hi (by omega) rfl]
  unfold g_Cr_codeExpression f_Cr_codeExpression_252
  simp only [if_pos ((zc_el (k := 240) (by decide) (show d < 2147483648 by omega)).mpr (show d ≤ 240 by omega)), if_pos (zi_in (show i < 2147483648 by omega) hi), nI_clamp (show i < 2147483648 by omega), f' 13 (by decide), f' 16 (by decide), f' 17 (by decide), nI_1, ec]
  rw [k, if_neg (by decide), if_neg (by decide), if_neg (by decide), if_neg (by decide), if_neg (by decide), if_pos rfl, a1, Option.bind_some, f1' 14 (by decide)]
  by_cases z : (h0.2.1 16) i = 0
  · rw [if_pos z] at c1 ⊢
    exact (congrArg (fun z => zd_B z _) c1).trans rfl
  · rw [if_neg z] at c1 ⊢
    exact (congrArg (fun z => zd_B z _) c1).trans rfl
end YKE
