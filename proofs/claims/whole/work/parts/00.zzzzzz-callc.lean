/-! The coder: calls, and how the class lays them down. -/
/-- the code of the arguments, one after the other -/
def yx_s : List (List yI) → List yI
  | [] => []
  | a :: r => a ++ yx_s r
/-- the code of a standard function -/
def yx_t (s : Nat) (k : Int32) : List (List yI) → List yI
  | [a] => if s = 8 then a else a ++ [(8, k, 0, 0)]
  | [a, b] => a ++ (b ++ [(7, k, 0, 0)])
  | [a, b, c] => if s = 3 then (a ++ (b ++ [(7, 24, 0, 0)])) ++ (c ++ [(7, 23, 0, 0)]) else a ++ (b ++ (c ++ [(9, 0, 0, 0)]))
  | _ => []
def yx_call (u : Nat) (ws : List Int32) (L : List yI) : List yI := L ++ (ws.map (fun w => ((6, nI u, w, 0) : yI)) ++ [(16, nI u, 0, 0), (5, nI u, 0, 0)])
theorem zv_ilb (h : zs_H) : ∀ m v, zv_il h (m + 1) v = zv_il h m v ++ (if (h.2.1 29) (32 + (v + m)) = 1 then [v + m] else []) := by
  intro m
  induction m with
  | zero => intro v; rfl
  | succ m ih =>
    intro v
    have e : zv_il h (m + 1 + 1) v = if (h.2.1 29) (32 + v) = 1 then v :: zv_il h (m + 1) (v + 1) else zv_il h (m + 1) (v + 1) := rfl
    have e2 : zv_il h (m + 1) v = if (h.2.1 29) (32 + v) = 1 then v :: zv_il h m (v + 1) else zv_il h m (v + 1) := rfl
    rw [e, e2, ih (v + 1), show v + 1 + m = v + (m + 1) by omega]
    split <;> rfl
theorem zi_dec {k : Nat} (h : 1 ≤ k) : nI k + (-1) = nI (k - 1) := (Int32.sub_eq_add_neg (nI k) 1).symm.trans (zi_sub (b := 1) h)
section YKG
variable {h0 h : zs_H} {dl i : Nat}
/-- the inputs of a function are written, the last one first -/
theorem yk_wr {b lo : Nat} (hb : b < 600) (hf : (h0.2.1 23) (9 + b) = nI (32 + lo)) : ∀ (m : Nat) (h : zs_H) (n N : Nat), lo + m < 5950 → yC_f h0 h → (h.1 41 5) = nI n → n + (zv_il h0 m lo).length + 2 ≤ 90000000 → m < N → ∃ h', f_Cr_codeCall_L88 N h (nI (9 + b)) (nI b) (nI (31 + lo + m)) = some h' ∧ yC_E n (((zv_il h0 m lo).reverse.map (fun w => ((6, nI b, (h0.2.1 32) (32 + w), 0) : yI))) ++ [(16, nI b, 0, 0), (5, nI b, 0, 0)]) h h' := by
  intro m
  induction m with
  | zero =>
    intro h n N hlo f e hn hN
    obtain ⟨N, rfl⟩ : ∃ z, N = z + 1 := ⟨N - 1, by omega⟩
    have hl : (zv_il h0 0 lo).length = 0 := rfl
    obtain ⟨h1, a1, a2⟩ := yC_emit e (by omega) 16 (by decide) (nI b)
    obtain ⟨h2, b1, b2⟩ := yC_emit a2.1 (show n + 1 < 100000000 by omega) 5 (by decide) (nI b)
    refine ⟨h2, ?_, show yC_E n ([(16, nI b, 0, 0)] ++ [(5, nI b, 0, 0)]) h h2 from yC_ap a2 b2⟩
    show f_Cr_codeCall_88 (f_Cr_codeCall_L88 N) h (nI (9 + b)) (nI b) (nI (31 + lo + 0)) = _
    unfold f_Cr_codeCall_88
    rw [if_pos (zi_in (by omega) (by omega)), nI_clamp (show 9 + b < 2147483648 by omega), f.2.1 23 (by decide), hf, if_pos ((nI_ltI (by omega) (by omega)).mpr (by omega))]
    refine (congrArg (fun z => zd_B z _) a1).trans ?_
    exact (show zd_B (f_Cd_emit h1 (nI 5) (nI b)) (fun _ h8 => some h8) = some h2 from (congrArg (fun z => zd_B z _) b1).trans rfl)
  | succ m ih =>
    intro h n N hlo f e hn hN
    obtain ⟨N, rfl⟩ : ∃ z, N = z + 1 := ⟨N - 1, by omega⟩
    have f' : ∀ a, ¬ a ∈ yC_M → h.2.1 a = h0.2.1 a := fun a ha => f.2.1 a ha
    show ∃ h', f_Cr_codeCall_88 (f_Cr_codeCall_L88 N) h (nI (9 + b)) (nI b) (nI (31 + lo + (m + 1))) = some h' ∧ _
    unfold f_Cr_codeCall_88 f_Cr_codeCall_146
    rw [if_pos (zi_in (by omega) (by omega)), nI_clamp (show 9 + b < 2147483648 by omega), f' 23 (by decide), hf, if_neg (mt (nI_ltI (by omega) (by omega)).mp (by omega)), show 31 + lo + (m + 1) = 32 + (lo + m) by omega]
    simp only [if_pos (zi_in (show 32 + (lo + m) < 2147483648 by omega) (show 32 + (lo + m) < 6000 by omega)), nI_clamp (show 32 + (lo + m) < 2147483648 by omega), zi_dec (show 1 ≤ 32 + (lo + m) by omega), show 32 + (lo + m) - 1 = 31 + lo + m by omega]
    rw [f' 29 (by decide)]
    rw [zv_ilb] at hn ⊢
    by_cases z : (h0.2.1 29) (32 + (lo + m)) = 1
    · rw [if_pos z] at hn ⊢
      rw [if_pos z]
      rw [List.length_append] at hn
      have hn' : n + ((zv_il h0 m lo).length + 1) + 2 ≤ 90000000 := hn
      obtain ⟨h1, a1, a2⟩ := yC_emit e (by omega) 6 (by decide) (nI b)
      obtain ⟨h2, b1, b2⟩ := yC_with (by omega) a2 ((h0.2.1 32) (32 + (lo + m))) 0
      have f1 := yC_fE f a2
      have f2 := yC_fE f b2
      obtain ⟨h3, c1, c2⟩ := ih h2 (n + 1) N (by omega) f2 b2.1 (by omega) (by omega)
      refine ⟨h3, ?_, ?_⟩
      · refine (congrArg (fun z => zd_B z _) a1).trans ?_
        show (f_Cd_with h1 ((h1.2.1 32) (32 + (lo + m))) 0).bind _ = _
        rw [f1.2.1 32 (by decide), b1, Option.bind_some, c1]
      · rw [List.reverse_append, List.map_append, List.append_assoc]
        exact (show yC_E n ([(6, nI b, (h0.2.1 32) (32 + (lo + m)), 0)] ++ _) h h3 from yC_ap b2 c2)
    · rw [if_neg z] at hn ⊢
      rw [if_neg z]
      rw [List.append_nil] at hn ⊢
      exact ih h n N (by omega) f e hn (by omega)
theorem yk_uS {D N : Nat} {x1 x2 x3 x4 x5 : Int32} : f_Cr_codeStandardCall_L24 (f_Cr_codeExpression D) (N + 1) h x1 x2 x3 x4 x5 = f_Cr_codeStandardCall_24 (f_Cr_codeExpression D) (f_Cr_codeStandardCall_L24 (f_Cr_codeExpression D) N) h x1 x2 x3 x4 x5 := rfl
theorem yk_uL {D N : Nat} {x2 x3 x4 x5 x6 : Int32} : f_Cr_codeCall_L30 (f_Cr_codeExpression D) (N + 1) h x2 x3 x4 x5 x6 = f_Cr_codeCall_30 (f_Cr_codeExpression D) (f_Cr_codeCall_L30 (f_Cr_codeExpression D) N) h x2 x3 x4 x5 x6 := rfl
/-- arguments one after the other -/
theorem yk_ar {dl' sz : Nat} {x3 x4 : Int32} (hsz : (h0.1 12 6) = nI sz) (hs2 : sz < 100000) : ∀ (es : List (List yI)) (x : Int32) (h : zs_H) (n d D t N : Nat), yk_L h0 dl' es x → yC_f h0 h → (h.1 41 5) = nI n → n + (yx_s es).length ≤ 90000000 → (es = [] ∨ (2 * dl' + 1 < D ∧ d + 1 + dl' ≤ 240)) → t + es.length ≤ sz → es.length < N → ∃ h', f_Cr_codeCall_L30 (f_Cr_codeExpression D) N h (nI d) x3 x4 x (nI t) = f_Cr_codeCall_75 h' x3 x4 ∧ yC_E n (yx_s es) h h' := by
  intro es
  induction es with
  | nil =>
    intro x h n d D t N L f e hn hD ht hN
    obtain ⟨N, rfl⟩ : ∃ z, N = z + 1 := ⟨N - 1, by omega⟩
    refine ⟨h, ?_, yC_nil e⟩
    rw [yk_uL, show x = -1 from L]
    unfold f_Cr_codeCall_30
    rw [if_pos (show (-1 : Int32) = -1 from rfl), ite_self]
  | cons a es ih =>
    intro x h n d D t N L f e hn hD ht hN
    obtain ⟨hD, hd⟩ := hD.resolve_left (fun z => by cases z)
    obtain ⟨i, i1, i2, C, L⟩ := L
    have hn' : n + (a ++ yx_s es).length ≤ 90000000 := hn
    rw [List.length_append] at hn'
    have ht' : t + (es.length + 1) ≤ sz := ht
    have hN' : es.length + 1 < N := hN
    obtain ⟨N, rfl⟩ : ∃ z, N = z + 1 := ⟨N - 1, by omega⟩
    obtain ⟨h1, a1, a2⟩ := C D (d + 1) n h f e (by omega) hD (by omega)
    have f1 := yC_fE f a2
    have s1 := a2.1
    obtain ⟨h2, b1, b2⟩ := ih _ h1 _ d D (t + 1) N L f1 s1 (by omega) (.inr ⟨hD, hd⟩) (by omega) (by omega)
    refine ⟨h2, ?_, yC_ap a2 b2⟩
    rw [yk_uL, i2]
    unfold f_Cr_codeCall_30
    rw [f.1 _ _ (by decide), hsz, if_neg (mt (nI_leI (by omega) (by omega)).mp (by omega)), if_neg (zc_m1 (by omega)), nI_1, a1, Option.bind_some, if_pos (zi_in (by omega) i1), nI_clamp (show i < 2147483648 by omega), f1.2.1 18 (by decide), nI_1, b1]
theorem yk_C34 {b lo m dl' sz : Nat} {es : List (List yI)} (hi : i < 32784) (k : (h0.2.1 13) i = 34) (hb : b < 600) (ev : (h0.2.1 16) i = nI (9 + b)) (hf : (h0.2.1 23) (9 + b) = nI (32 + lo)) (hh : (h0.2.1 24) (9 + b) = nI (32 + (lo + m))) (hlo : lo + m < 5950) (hsz : (h0.1 12 6) = nI sz) (hs2 : sz < 100000) (hl : es.length ≤ sz) (hdl : es = [] ∨ dl' < dl) (L : yk_L h0 dl' es ((h0.2.1 17) i)) : yk_C h0 dl (nI i) (yx_call b ((zv_il h0 m lo).reverse.map (fun w => (h0.2.1 32) (32 + w))) (yx_s es)) := by
  have hz := zF_big
  intro D d n h f e hn hD hd
  have hn' : n + (yx_s es).length + (zv_il h0 m lo).length + 2 ≤ 90000000 := by
    unfold yx_call at hn
    rw [List.length_append, List.length_append, List.length_map, List.length_map, List.length_reverse] at hn
    have : n + ((yx_s es).length + ((zv_il h0 m lo).length + 2)) ≤ 90000000 := hn
    omega
  obtain ⟨D, rfl⟩ : ∃ z, D = z + 1 + 1 := ⟨D - 2, by omega⟩
  have f' : ∀ a, ¬ a ∈ yC_M → h.2.1 a = h0.2.1 a := fun a ha => f.2.1 a ha
  obtain ⟨h1, a1, a2⟩ := yk_ar (x3 := nI (9 + b)) (x4 := nI b) hsz hs2 es _ h n d D 0 zF L f e (by omega) (hdl.imp id (fun z => ⟨by omega, by omega⟩)) (by omega) (by omega)
  have f1 := yC_fE f a2
  have s1 := a2.1
  obtain ⟨h2, b1, b2⟩ := yk_wr hb hf m h1 _ zF hlo f1 s1 (by omega) (by omega)
  refine ⟨h2, ?_, yC_ap a2 ?_⟩
  · rw [yk_CS hi (by omega) rfl]
    unfold g_Cr_codeExpression
    simp only [if_pos ((zc_el (k := 240) (by decide) (show d < 2147483648 by omega)).mpr (show d ≤ 240 by omega)), if_pos (zi_in (show i < 2147483648 by omega) hi), nI_clamp (show i < 2147483648 by omega), f' 13 (by decide)]
    rw [k, if_neg (by decide), if_neg (by decide), if_neg (by decide), if_pos rfl]
    show (g_Cr_codeCall (f_Cr_codeExpression D) h (nI i) (nI d)).bind _ = _
    unfold g_Cr_codeCall
    rw [if_pos (zi_in (by omega) hi), nI_clamp (show i < 2147483648 by omega), f' 16 (by decide), f' 17 (by decide), ev, zc_sb (k := 9) (by omega), show 9 + b - OfNat.ofNat 9 = b from Nat.add_sub_cancel_left 9 b, show (0 : Int32) = nI 0 from rfl, a1]
    unfold f_Cr_codeCall_75
    rw [if_pos (zi_in (by omega) (by omega)), nI_clamp (show 9 + b < 2147483648 by omega), f1.2.1 24 (by decide), hh, zc_sb (k := 1) (by omega), show 32 + (lo + m) - OfNat.ofNat 1 = 31 + lo + m from by show 32 + (lo + m) - 1 = _; omega, b1, Option.bind_some]
  · rw [List.map_map]
    exact b2
/-- a standard function's arguments -/
theorem yk_sa {D d s t a N : Nat} {h1 : zs_H} (f1 : yC_f h0 h1) (hs : s < 10) (h3 : ¬ s = 3) (ht : t < 3) (ha : a < 32784) (E : f_Cr_codeExpression D h (nI a) (nI (d + 1)) = some h1) : f_Cr_codeStandardCall_L24 (f_Cr_codeExpression D) (N + 1) h (nI i) (nI d) (nI s) (nI a) (nI t) = f_Cr_codeStandardCall_L24 (f_Cr_codeExpression D) N h1 (nI i) (nI d) (nI s) ((h0.2.1 18) a) (nI (t + 1)) := by
  rw [yk_uS]
  unfold f_Cr_codeStandardCall_24 f_Cr_codeStandardCall_78
  rw [if_neg (mt (zc_le (k := 3) (by decide) (by omega)).mp (by omega)), if_neg (zc_m1 (by omega)), nI_1, E, Option.bind_some, if_neg (mt (zc_eq (k := 3) (by decide) (by omega)).mp h3), if_pos (zi_in (by omega) ha), nI_clamp (show a < 2147483648 by omega), f1.2.1 18 (by decide), nI_1]
theorem yk_se {D d t N : Nat} {x3 x4 : Int32} (h : zs_H) (ht : t ≤ 3) (hx : t = 3 ∨ x4 = -1) : f_Cr_codeStandardCall_L24 (f_Cr_codeExpression D) (N + 1) h (nI i) (nI d) x3 x4 (nI t) = f_Cr_codeStandardCall_96 h (nI i) x3 := by
  rw [yk_uS]
  unfold f_Cr_codeStandardCall_24
  by_cases z : t = 3
  · rw [if_pos ((zc_le (k := 3) (by decide) (by omega)).mpr (by omega))]
  · rw [if_neg (mt (zc_le (k := 3) (by decide) (by omega)).mp (by omega)), if_pos (hx.resolve_left z)]
theorem yk_4 : ∀ s, s < 10 → zt_4.getD (nI s).toNatClampNeg 0 = nI (ya_ar s) := by decide +kernel
/-- what stands behind the arguments -/
theorem yk_96 {s n : Nat} (f : yC_f h0 h) (e : (h.1 41 5) = nI n) (hn : n < 100000000) (hi : i < 32784) (hs : s < 10) : ∃ h', f_Cr_codeStandardCall_96 h (nI i) (nI s) = some h' ∧ yC_E n (if s = 4 then [(9, 0, 0, 0)] else if s = 3 ∨ s = 8 then [] else [(if ya_ar s = 1 then 8 else 7, f_Cd_standardKind (nI s) ((h0.2.1 14) i), 0, 0)]) h h' := by
  unfold f_Cr_codeStandardCall_96 f_Cr_codeStandardCall_142
  by_cases h4 : s = 4
  · obtain ⟨h1, a1, a2⟩ := yC_emit e hn 9 (by decide) 0
    rw [if_pos ((zc_eq (k := 4) (by decide) (by omega)).mpr h4), if_pos h4]
    exact ⟨h1, (congrArg (fun z => zd_B z _) a1).trans rfl, a2⟩
  · rw [if_neg (mt (zc_eq (k := 4) (by decide) (by omega)).mp h4), if_neg h4]
    by_cases h3 : s = 3
    · rw [if_pos ((zc_eq (k := 3) (by decide) (by omega)).mpr h3), if_pos (.inl h3)]
      exact ⟨h, rfl, yC_nil e⟩
    · rw [if_neg (mt (zc_eq (k := 3) (by decide) (by omega)).mp h3)]
      by_cases h8 : s = 8
      · rw [if_pos ((zc_eq (k := 8) (by decide) (by omega)).mpr h8), if_pos (.inr h8)]
        exact ⟨h, rfl, yC_nil e⟩
      · rw [if_neg (mt (zc_eq (k := 8) (by decide) (by omega)).mp h8), if_neg (show ¬ (s = 3 ∨ s = 8) by omega), if_pos (zi_in (by omega) hs), yk_4 s hs]
        have ha : ya_ar s < 4 := by
          have : ∀ s, s < 10 → ya_ar s < 4 := by decide
          exact this s hs
        by_cases z : ya_ar s = 1
        · obtain ⟨h1, a1, a2⟩ := yC_emit e hn 8 (by decide) (f_Cd_standardKind (nI s) ((h0.2.1 14) i))
          rw [if_pos ((zc_eq (k := 1) (by decide) (by omega)).mpr z), if_pos z, if_pos (zi_in (by omega) hi), nI_clamp (show i < 2147483648 by omega), f.2.1 14 (by decide)]
          exact ⟨h1, (congrArg (fun z => zd_B z _) a1).trans rfl, a2⟩
        · obtain ⟨h1, a1, a2⟩ := yC_emit e hn 7 (by decide) (f_Cd_standardKind (nI s) ((h0.2.1 14) i))
          rw [if_neg (mt (zc_eq (k := 1) (by decide) (by omega)).mp z), if_neg z, if_pos (zi_in (by omega) hi), nI_clamp (show i < 2147483648 by omega), f.2.1 14 (by decide)]
          exact ⟨h1, (congrArg (fun z => zd_B z _) a1).trans rfl, a2⟩
end YKG
section YKH
variable {h0 h : zs_H} {dl i : Nat}
theorem yk_s0 {D d a N : Nat} {h1 : zs_H} (f1 : yC_f h0 h1) (ha : a < 32784) (E : f_Cr_codeExpression D h (nI a) (nI (d + 1)) = some h1) : f_Cr_codeStandardCall_L24 (f_Cr_codeExpression D) (N + 1) h (nI i) (nI d) (nI 3) (nI a) (nI 0) = f_Cr_codeStandardCall_L24 (f_Cr_codeExpression D) N h1 (nI i) (nI d) (nI 3) ((h0.2.1 18) a) (nI 1) := by
  rw [yk_uS]
  unfold f_Cr_codeStandardCall_24 f_Cr_codeStandardCall_78
  rw [if_neg (mt (zc_le (k := 3) (by decide) (by omega)).mp (by omega)), if_neg (zc_m1 (by omega)), nI_1, E, Option.bind_some, if_pos (show nI 3 = 3 from rfl), if_pos (by decide), if_pos (zi_in (by omega) ha), nI_clamp (show a < 2147483648 by omega), f1.2.1 18 (by decide), nI_1]
theorem yk_sb {D d t a N : Nat} {h1 h2 : zs_H} {w : Int32} (ht : t = 1 ∨ t = 2) (f2 : yC_f h0 h2) (ha : a < 32784) (E : f_Cr_codeExpression D h (nI a) (nI (d + 1)) = some h1) (E2 : f_Cd_emit h1 (nI 7) (if t = 1 then 24 else 23) = some (w, h2)) : f_Cr_codeStandardCall_L24 (f_Cr_codeExpression D) (N + 1) h (nI i) (nI d) (nI 3) (nI a) (nI t) = f_Cr_codeStandardCall_L24 (f_Cr_codeExpression D) N h2 (nI i) (nI d) (nI 3) ((h0.2.1 18) a) (nI (t + 1)) := by
  rw [yk_uS]
  unfold f_Cr_codeStandardCall_24 f_Cr_codeStandardCall_74 f_Cr_codeStandardCall_78
  rw [if_neg (mt (zc_le (k := 3) (by decide) (by omega)).mp (by omega)), if_neg (zc_m1 (by omega)), nI_1, E, Option.bind_some, if_pos (show nI 3 = 3 from rfl), if_neg (mt (zc_el (k := 0) (by decide) (by omega)).mp (by omega))]
  rcases ht with rfl | rfl
  · rw [if_pos rfl] at E2
    rw [if_pos (show nI 1 = 1 from rfl)]
    refine (congrArg (fun z => zd_B z _) E2).trans ?_
    show (if zd_in (nI a) 32784 then _ else none) = _
    rw [if_pos (zi_in (by omega) ha), nI_clamp (show a < 2147483648 by omega), f2.2.1 18 (by decide), nI_1]
  · rw [if_neg (by decide)] at E2
    rw [if_neg (by decide)]
    refine (congrArg (fun z => zd_B z _) E2).trans ?_
    show (if zd_in (nI a) 32784 then _ else none) = _
    rw [if_pos (zi_in (by omega) ha), nI_clamp (show a < 2147483648 by omega), f2.2.1 18 (by decide), nI_1]
theorem yk_C39 {s dl' : Nat} {es : List (List yI)} (hi : i < 32784) (k : (h0.2.1 13) i = 39) (hs : s < 10) (ev : (h0.2.1 16) i = nI s) (hl : es.length = ya_ar s) (hdl : dl' < dl) (L : yk_L h0 dl' es ((h0.2.1 17) i)) : yk_C h0 dl (nI i) (yx_t s (f_Cd_standardKind (nI s) ((h0.2.1 14) i)) es) := by
  have hz : zF = 18446744073709551612 + 1 + 1 + 1 + 1 := rfl
  intro D d n h f e hn hD hd
  obtain ⟨D, rfl⟩ : ∃ z, D = z + 1 + 1 := ⟨D - 2, by omega⟩
  have f' : ∀ a, ¬ a ∈ yC_M → h.2.1 a = h0.2.1 a := fun a ha => f.2.1 a ha
  have e0 : f_Cr_codeExpression (D + 1 + 1) h (nI i) (nI d) = (f_Cr_codeStandardCall_L24 (f_Cr_codeExpression D) zF h (nI i) (nI d) (nI s) ((h0.2.1 17) i) (nI 0)).bind some := by
    rw [yk_CS hi (by omega) rfl]
    unfold g_Cr_codeExpression
    simp only [if_pos ((zc_el (k := 240) (by decide) (show d < 2147483648 by omega)).mpr (show d ≤ 240 by omega)), if_pos (zi_in (show i < 2147483648 by omega) hi), nI_clamp (show i < 2147483648 by omega), f' 13 (by decide)]
    rw [k, if_neg (by decide), if_neg (by decide), if_neg (by decide), if_neg (by decide), if_neg (by decide), if_neg (by decide), if_pos rfl]
    show (g_Cr_codeStandardCall (f_Cr_codeExpression D) h (nI i) (nI d)).bind _ = _
    unfold g_Cr_codeStandardCall
    rw [if_pos (zi_in (by omega) hi), nI_clamp (show i < 2147483648 by omega), f' 16 (by decide), f' 17 (by decide), ev]
    rfl
  rw [e0]
  have hars : ∀ s, s < 10 → (ya_ar s = 1 → s = 0 ∨ s = 7 ∨ s = 8 ∨ s = 9) ∧ (ya_ar s = 2 → s = 1 ∨ s = 2 ∨ s = 5 ∨ s = 6) ∧ (ya_ar s = 3 → s = 3 ∨ s = 4) ∧ 1 ≤ ya_ar s ∧ ya_ar s ≤ 3 := by decide
  obtain ⟨r1, r2, r3, r4, r5⟩ := hars s hs
  match es, hl, L, hn with
  | [], hl, L, hn => exact absurd hl (by show ¬ 0 = _; omega)
  | [a], hl, L, hn =>
    obtain ⟨i1, j1, j2, C1, L1⟩ := L
    have q := r1 hl.symm
    have hn' : n + a.length ≤ 90000000 := by
      have : n + (if s = 8 then a else a ++ [(8, f_Cd_standardKind (nI s) ((h0.2.1 14) i), 0, 0)]).length ≤ 90000000 := hn
      split at this
      · omega
      · rw [List.length_append] at this; omega
    obtain ⟨h1, a1, a2⟩ := C1 D (d + 1) n h f e hn' (by omega) (by omega)
    have f1 := yC_fE f a2
    have s1 := a2.1
    obtain ⟨h2, b1, b2⟩ := yk_96 f1 s1 (by omega) hi hs
    refine ⟨h2, ?_, ?_⟩
    · rw [j2, hz, yk_sa f1 hs (by omega) (by omega) j1 a1, yk_se h1 (by omega) (.inr L1), b1]; rfl
    · rw [if_neg (by omega)] at b2
      show yC_E n (if s = 8 then a else a ++ [(8, f_Cd_standardKind (nI s) ((h0.2.1 14) i), 0, 0)]) h h2
      by_cases h8 : s = 8
      · rw [if_pos (.inr h8)] at b2
        rw [if_pos h8]
        have := yC_ap a2 b2
        rw [List.append_nil] at this
        exact this
      · rw [if_neg (by omega), if_pos (show ya_ar s = 1 from hl.symm)] at b2
        rw [if_neg h8]
        exact yC_ap a2 b2
  | [a, b], hl, L, hn =>
    obtain ⟨i1, j1, j2, C1, i2, w1, w2, C2, L1⟩ := L
    have q := r2 hl.symm
    have hn' : n + (a.length + (b.length + 1)) ≤ 90000000 := by
      have : n + (a ++ (b ++ [(7, f_Cd_standardKind (nI s) ((h0.2.1 14) i), 0, 0)])).length ≤ 90000000 := hn
      rw [List.length_append, List.length_append] at this; exact this
    obtain ⟨h1, a1, a2⟩ := C1 D (d + 1) n h f e (by omega) (by omega) (by omega)
    have f1 := yC_fE f a2
    have s1 := a2.1
    obtain ⟨h2, b1, b2⟩ := C2 D (d + 1) _ h1 f1 s1 (by omega) (by omega) (by omega)
    have f2 := yC_fE f1 b2
    have s2 := b2.1
    obtain ⟨h3, c1, c2⟩ := yk_96 f2 s2 (by omega) hi hs
    refine ⟨h3, ?_, ?_⟩
    · rw [j2, hz, yk_sa f1 hs (by omega) (by omega) j1 a1, w2, yk_sa f2 hs (by omega) (by omega) w1 b1, yk_se h2 (by omega) (.inr L1), c1]; rfl
    · rw [if_neg (by omega), if_neg (by omega), if_neg (by rw [← hl]; show ¬ 2 = 1; omega)] at c2
      exact yC_ap a2 (yC_ap b2 c2)
  | [a, b, c], hl, L, hn =>
    obtain ⟨i1, j1, j2, C1, i2, w1, w2, C2, i3, u1, u2, C3, L1⟩ := L
    have q := r3 hl.symm
    rcases q with rfl | rfl
    · have hn' : n + ((a ++ (b ++ [((7, 24, 0, 0) : yI)])).length + (c.length + 1)) ≤ 90000000 := by
        have : n + ((a ++ (b ++ [((7, 24, 0, 0) : yI)])) ++ (c ++ [((7, 23, 0, 0) : yI)])).length ≤ 90000000 := hn
        rw [List.length_append, List.length_append (as := c)] at this; exact this
      have hab : (a ++ (b ++ [((7, 24, 0, 0) : yI)])).length = a.length + (b.length + 1) := by rw [List.length_append, List.length_append]; rfl
      obtain ⟨h1, a1, a2⟩ := C1 D (d + 1) n h f e (by omega) (by omega) (by omega)
      have f1 := yC_fE f a2
      have s1 := a2.1
      obtain ⟨h2, b1, b2⟩ := C2 D (d + 1) _ h1 f1 s1 (by omega) (by omega) (by omega)
      have f2 := yC_fE f1 b2
      have s2 := b2.1
      obtain ⟨h3, c1, c2⟩ := yC_emit s2 (by omega) 7 (by decide) 24
      have f3 := yC_fE f2 c2
      obtain ⟨h4, d1, d2⟩ := C3 D (d + 1) _ h3 f3 (yC_ap a2 (yC_ap b2 c2)).1 (by omega) (by omega) (by omega)
      have f4 := yC_fE f3 d2
      have s4 := d2.1
      obtain ⟨h5, g1, g2⟩ := yC_emit s4 (by show n + (a ++ (b ++ [(7, 24, 0, 0)])).length + c.length < _; omega) 7 (by decide) 23
      have f5 := yC_fE f4 g2
      refine ⟨h5, ?_, ?_⟩
      · rw [j2, hz, yk_s0 f1 j1 a1, w2, yk_sb (.inl rfl) f3 w1 b1 c1, u2, yk_sb (.inr rfl) f5 u1 d1 g1, yk_se h5 (by omega) (.inl rfl)]
        unfold f_Cr_codeStandardCall_96
        rw [if_neg (by decide), if_pos (by decide)]; rfl
      · exact yC_ap (yC_ap a2 (yC_ap b2 c2)) (yC_ap d2 g2)
    · have hn' : n + (a.length + (b.length + (c.length + 1))) ≤ 90000000 := by
        have : n + (a ++ (b ++ (c ++ [((9, 0, 0, 0) : yI)]))).length ≤ 90000000 := hn
        rw [List.length_append, List.length_append, List.length_append] at this; exact this
      obtain ⟨h1, a1, a2⟩ := C1 D (d + 1) n h f e (by omega) (by omega) (by omega)
      have f1 := yC_fE f a2
      have s1 := a2.1
      obtain ⟨h2, b1, b2⟩ := C2 D (d + 1) _ h1 f1 s1 (by omega) (by omega) (by omega)
      have f2 := yC_fE f1 b2
      have s2 := b2.1
      obtain ⟨h3, c1, c2⟩ := C3 D (d + 1) _ h2 f2 s2 (by omega) (by omega) (by omega)
      have f3 := yC_fE f2 c2
      have s3 := c2.1
      obtain ⟨h4, d1, d2⟩ := yk_96 f3 s3 (by omega) hi (s := 4) (by decide)
      refine ⟨h4, ?_, ?_⟩
      · rw [j2, hz, yk_sa f1 (by decide) (by decide) (by omega) j1 a1, w2, yk_sa f2 (by decide) (by decide) (by omega) w1 b1, u2, yk_sa f3 (by decide) (by decide) (by omega) u1 c1, yk_se h3 (by omega) (.inl rfl), d1]; rfl
      · rw [if_pos rfl] at d2
        exact yC_ap a2 (yC_ap b2 (yC_ap c2 d2))
  | a :: b :: c :: d :: es, hl, L, hn => exact absurd hl (by show ¬ es.length + 1 + 1 + 1 + 1 = _; omega)
end YKH
