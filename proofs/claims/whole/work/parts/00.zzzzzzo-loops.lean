/-! The coder: how both sides go through the branches of a choice. -/
def yk_ci (h0 : zs_H) (i ib xi : Nat) (L : List yI) : Prop := xi = ib ∧ ib < 32784 ∧ ¬ (h0.2.1 13) i = 11 ∧ (h0.2.1 18) i = nI ib ∧ ∃ dlc, dlc ≤ 190 ∧ yk_C h0 dlc (nI i) L
def yk_cc (h0 : zs_H) (own i ib xi : Nat) (L : List yI) : Prop := xi = i ∧ ¬ (h0.2.1 13) i = 11 ∧ ∀ (n : Nat) (h : zs_H), yC_f h0 h → (h.1 41 5) = nI n → n + L.length ≤ 90000000 → ∃ h', f_Cr_codeRanges h (nI i) (nI own) = some (nI ib, h') ∧ yC_E n L h h'
def yk_mi (g0 : zs_H) (b : Nat) (cell : Int32) (k kb xk : Nat) (L : List yI) : Prop := ∀ (D n s v : Nat) (g : zs_H) (K : zs_H → Int32 → Int32 → Int32 → Option zs_H) (x4 : Int32), yM_f g0 g → yM_c g n s b v → n + L.length ≤ 90000000 → ∃ (g1 : zs_H) (CT : Int32 → zs_H → Option zs_H), yM_E s n (yv v L) g g1 ∧ f_Mo_choiceCode_9 (f_Mo_bodyCode D) K g cell x4 (nI k) = zd_B (f_Mo_emit g1 (nI 11) 0 0 0) CT ∧ ∀ w h15, yM_f g0 h15 → CT w h15 = f_Mo_choiceCode_108 (f_Mo_bodyCode D) K h15 cell x4 (nI xk) (nI kb) w
section YLP
variable {h0 g0 : zs_H} {b dl : Nat} {CI MI : Nat → Nat → Nat → List yI → Prop}
theorem yk_GLl : ∀ (B : ys) (x x' : Int32) (ow ow' c20 c11 : Nat), yk_GL h0 g0 b dl CI MI B x x' ow ow' c20 c11 → ∀ n, (yz_x B n).length ≤ c20 ∧ (yz_g B n).length ≤ c11 := by
  intro B
  induction B with
  | leaf => intro x x' ow ow' c20 c11 _ n; exact ⟨Nat.zero_le _, Nat.zero_le _⟩
  | inner tg p o T Br _ ih =>
    intro x x' ow ow' c20 c11 ⟨i, k, ib, kb, xi, xk, oc, d20, d11, e20, e11, _, _, _, ⟨_, hx⟩, hk, ⟨s1, s2⟩, R⟩ n
    rcases hk with ⟨rfl, _, rfl, _⟩ | ⟨rfl, _⟩
    · have ex : yz_x (.inner 6 p o T .leaf) n = yz_x T n := List.nil_append _
      have eg : yz_g (.inner 6 p o T .leaf) n = [] := rfl
      rw [ex, eg]
      have := hx n
      exact ⟨by omega, Nat.zero_le _⟩
    · have ex : yz_x (.inner 5 p o T Br) n = yz_x Br (n + (p.1.length + 1 + yz_l T + (if yz_f Br = true then 0 else 1))) ++ yz_x T (n + p.1.length + 1) := rfl
      have eg : yz_g (.inner 5 p o T Br) n = yz_g Br (n + (p.1.length + 1 + yz_l T + (if yz_f Br = true then 0 else 1))) ++ (if yz_f Br = true then [] else [n + p.1.length + 1 + yz_l T]) := rfl
      have h1 : (if yz_f Br = true then ([] : List Nat) else [n + p.1.length + 1 + yz_l T]).length ≤ 1 := by
        split
        · exact Nat.zero_le _
        · exact Nat.le_refl _
      obtain ⟨q1, q2⟩ := ih _ _ _ _ _ _ R (n + (p.1.length + 1 + yz_l T + (if yz_f Br = true then 0 else 1)))
      have := hx (n + p.1.length + 1)
      rw [ex, eg, List.length_append, List.length_append]
      exact ⟨by omega, by omega⟩
theorem yk_u16 {D N : Nat} {h : zs_H} {x2 x3 x4 x5 : Int32} : f_Cr_codeIf_L16 (f_Cr_codeBody D) (f_Cr_codeBranch D) (N + 1) h x2 x3 x4 x5 = f_Cr_codeIf_16 (f_Cr_codeBody D) (f_Cr_codeBranch D) (f_Cr_codeIf_L16 (f_Cr_codeBody D) (f_Cr_codeBranch D) N) h x2 x3 x4 x5 := rfl
theorem yk_u61 {D N : Nat} {h : zs_H} {x2 x3 x4 x5 x6 : Int32} : f_Cr_codeCase_L61 (f_Cr_codeBody D) (f_Cr_codeBranch D) (N + 1) h x2 x3 x4 x5 x6 = f_Cr_codeCase_61 (f_Cr_codeBody D) (f_Cr_codeBranch D) (f_Cr_codeCase_L61 (f_Cr_codeBody D) (f_Cr_codeBranch D) N) h x2 x3 x4 x5 x6 := rfl
theorem yk_u9 {D N : Nat} {g : zs_H} {x3 x4 x5 : Int32} : f_Mo_choiceCode_L9 (f_Mo_bodyCode D) (N + 1) g x3 x4 x5 = f_Mo_choiceCode_9 (f_Mo_bodyCode D) (f_Mo_choiceCode_L9 (f_Mo_bodyCode D) N) g x3 x4 x5 := rfl
theorem yk_l5 {p : List yI × Int32 × Int32} {o : Unit} {T Br : ys} : yz_l (.inner 5 p o T Br) = p.1.length + 1 + yz_l T + (if yz_f Br = true then 0 else 1) + yz_l Br := rfl
/-- the class at an IF -/
theorem yk_ifC {sz : Nat} (hsz : (h0.1 12 6) = nI sz) (hs2 : sz < 100000) : ∀ (B : ys) (x x' : Int32) (ow ow' c20 c11 : Nat), yk_GL h0 g0 b dl (yk_ci h0) MI B x x' ow ow' c20 c11 → ∀ (D d n v q e tt N : Nat) (h : zs_H) (c0 : Int32), yC_f h0 h → (h.1 41 5) = nI n → (h.1 47 4) = nI ow → n + yz_l B ≤ 90000000 → 2 * dl + 2 ≤ D → d + 1 + dl ≤ 240 → tt + yz_n B ≤ sz → yz_n B < N → ∃ c1 h', f_Cr_codeIf_L16 (f_Cr_codeBody D) (f_Cr_codeBranch D) N h (nI d) c0 x (nI tt) = f_Cr_codeIf_126 h' c1 ∧ yC_B n v q e B ow' c0 c1 h h' := by
  intro B
  induction B with
  | leaf =>
    intro x x' ow ow' c20 c11 ⟨e1, _, e3⟩ D d n v q e tt N h c0 f es ho hn hD hd ht hN
    obtain ⟨N, rfl⟩ : ∃ z, N = z + 1 := ⟨N - 1, by omega⟩
    refine ⟨c0, h, ?_, yC_B0 (by rw [e3]; exact ho) es⟩
    rw [yk_u16, e1]
    unfold f_Cr_codeIf_16
    rw [if_pos (show (-1 : Int32) = -1 from rfl), ite_self]
  | inner tg p o T Br _ ih =>
    intro x x' ow ow' c20 c11 ⟨i, k, ib, kb, xi, xk, oc, d20, d11, e20, e11, ⟨i1, i2, i3⟩, _, ⟨BC, _⟩, ⟨sT, _⟩, hk, _, R⟩ D d n v q e tt N h c0 f es ho hn hD hd ht hN
    have hn0 : yz_n (.inner tg p o T Br) = 1 + yz_n Br := rfl
    obtain ⟨N, rfl⟩ : ∃ z, N = z + 1 := ⟨N - 1, by omega⟩
    have f' : ∀ a, ¬ a ∈ yC_M → h.2.1 a = h0.2.1 a := fun a ha => f.2.1 a ha
    rcases hk with ⟨rfl, rfl, rfl, rfl, rfl, rfl, _, k11, _⟩ | ⟨rfl, hp, ⟨c1, c2, c3, c4, dlc, c5, CC⟩, _, last, more⟩
    · obtain ⟨h1, a1, a2⟩ := BC D (d + 1) n v q h f es ho (by show n + yz_l T ≤ _; have : yz_l (.inner 6 (([], 0, 0) : List yI × Int32 × Int32) o T .leaf) = yz_l T + 0 := rfl; omega) (by omega) (by omega)
      obtain ⟨f1, e1, o1⟩ := yC_Rf f a2
      obtain ⟨R1, _, R3⟩ := R
      refine ⟨c0, h1, ?_, by rw [R3]; exact yC_B6 a2⟩
      obtain ⟨N, rfl⟩ : ∃ z, N = z + 1 := ⟨N - 1, by omega⟩
      rw [yk_u16, i2]
      unfold f_Cr_codeIf_16 f_Cr_codeIf_108
      rw [f.1 _ _ (by decide), hsz, if_neg (mt (nI_leI (by omega) (by omega)).mp (by omega)), if_neg (zc_m1 (by omega))]
      simp only [if_pos (zi_in (show xi < 2147483648 by omega) i1), nI_clamp (show xi < 2147483648 by omega), f' 13 (by decide)]
      rw [k11, if_pos rfl, nI_1, a1, Option.bind_some, f1.2.1 18 (by decide), R1, yk_u16]
      unfold f_Cr_codeIf_16
      rw [if_pos (show (-1 : Int32) = -1 from rfl), ite_self]
    · subst c1
      rw [yk_l5] at hn
      obtain ⟨L, p2⟩ := p
      have hp' : p2 = (0, 0) := hp
      subst hp'
      have hn' : n + (L.length + 1 + yz_l T + (if yz_f Br = true then 0 else 1) + yz_l Br) ≤ 90000000 := hn
      obtain ⟨h1, a1, a2⟩ := CC 400 0 n h f es (by show n + L.length ≤ _; omega) (by omega) (by omega)
      have f1 := yC_fE f a2
      have f1' : ∀ a, ¬ a ∈ yC_M → h1.2.1 a = h0.2.1 a := fun a ha => f1.2.1 a ha
      obtain ⟨cm, h2, b1, b2, b3, b4⟩ := yC_br (la := yz_f Br) (v := v) (q := q) (e := e) (c0 := c0) (d := d) (D := D) f1 a2.1 ((a2.2.1.1 _ _ (by decide)).trans ho) (by show n + L.length + 1 + yz_l T + 1 ≤ _; omega) hD hd BC
      have f2 : yC_f h0 h2 := zfr_trans f1 (zfr_w b2.2.1 (by decide) (by decide) (by decide))
      have s2 : (h2.1 41 5) = nI (n + (L.length + 1 + yz_l T + (if yz_f Br = true then 0 else 1))) := by
        rw [b2.1, List.length_append, List.length_append, yz_ml]
        have : (if yz_f Br = true then ([] : List yI) else [(10, nI e, 0, 0)]).length = if yz_f Br = true then 0 else 1 := by split <;> rfl
        rw [this]
        congr 1
        show n + L.length + (1 + _) = _
        omega
      obtain ⟨c1, h3, r1, r2⟩ := ih _ _ _ _ _ _ R D d _ v q e (tt + 1) N h2 cm f2 s2 b3 (by omega) hD hd (by omega) (by omega)
      refine ⟨c1, h3, ?_, yC_Bc a2 b2 b4 r2⟩
      rw [yk_u16, i2]
      unfold f_Cr_codeIf_16 f_Cr_codeIf_102 f_Cr_codeIf_108
      rw [f.1 _ _ (by decide), hsz, if_neg (mt (nI_leI (by omega) (by omega)).mp (by omega)), if_neg (zc_m1 (by omega))]
      simp only [if_pos (zi_in (show i < 2147483648 by omega) i1), nI_clamp (show i < 2147483648 by omega), f' 13 (by decide)]
      rw [if_neg c3, show f_Cr_codeExpression 400 h (nI i) 0 = some h1 from a1, Option.bind_some]
      simp only [f1' 18 (by decide), c4, if_pos (zi_in (show xi < 2147483648 by omega) c2), nI_clamp (show xi < 2147483648 by omega)]
      have key : (zd_B (f_Cr_codeBranch D h1 (nI xi) (if yz_f Br = true then 1 else 0) c0 (nI d)) fun v2 h3 => f_Cr_codeIf_L16 (f_Cr_codeBody D) (f_Cr_codeBranch D) N h3 (nI d) v2 (h3.2.1 18 xi) (nI tt + 1)) = f_Cr_codeIf_126 h3 c1 := by
        rw [b1]
        show f_Cr_codeIf_L16 (f_Cr_codeBody D) (f_Cr_codeBranch D) N h2 (nI d) cm (h2.2.1 18 xi) (nI tt + 1) = _
        rw [f2.2.1 18 (by decide), nI_1, r1]
      by_cases z : Br = .leaf
      · rw [if_pos (last z)]
        rw [if_pos (yz_fl.mpr z)] at key
        exact key
      · obtain ⟨⟨y, y1, y2⟩, _⟩ := more z
        rw [if_neg (by rw [y2]; exact zc_m1 (by omega))]
        rw [if_neg (fun w => z (yz_fl.mp w))] at key
        exact key
/-- the class at a CASE -/
theorem yk_caC {sz own : Nat} (hsz : (h0.1 12 6) = nI sz) (hs2 : sz < 100000) : ∀ (B : ys) (x x' : Int32) (ow ow' c20 c11 : Nat), yk_GL h0 g0 b dl (yk_cc h0 own) MI B x x' ow ow' c20 c11 → ∀ (D d n v q e tt N : Nat) (h : zs_H) (c0 : Int32), yC_f h0 h → (h.1 41 5) = nI n → (h.1 47 4) = nI ow → n + yz_l B ≤ 90000000 → 2 * dl + 2 ≤ D → d + 1 + dl ≤ 240 → tt + yz_n B ≤ sz → yz_n B < N → ∃ c1 h', f_Cr_codeCase_L61 (f_Cr_codeBody D) (f_Cr_codeBranch D) N h (nI d) (nI own) x c0 (nI tt) = f_Cr_codeCase_163 h' c1 ∧ yC_B n v q e B ow' c0 c1 h h' := by
  intro B
  induction B with
  | leaf =>
    intro x x' ow ow' c20 c11 ⟨e1, _, e3⟩ D d n v q e tt N h c0 f es ho hn hD hd ht hN
    obtain ⟨N, rfl⟩ : ∃ z, N = z + 1 := ⟨N - 1, by omega⟩
    refine ⟨c0, h, ?_, yC_B0 (by rw [e3]; exact ho) es⟩
    rw [yk_u61, e1]
    unfold f_Cr_codeCase_61
    rw [if_pos (show (-1 : Int32) = -1 from rfl), ite_self]
  | inner tg p o T Br _ ih =>
    intro x x' ow ow' c20 c11 ⟨i, k, ib, kb, xi, xk, oc, d20, d11, e20, e11, ⟨i1, i2, i3⟩, _, ⟨BC, _⟩, ⟨sT, _⟩, hk, _, R⟩ D d n v q e tt N h c0 f es ho hn hD hd ht hN
    have hn0 : yz_n (.inner tg p o T Br) = 1 + yz_n Br := rfl
    obtain ⟨N, rfl⟩ : ∃ z, N = z + 1 := ⟨N - 1, by omega⟩
    have f' : ∀ a, ¬ a ∈ yC_M → h.2.1 a = h0.2.1 a := fun a ha => f.2.1 a ha
    rcases hk with ⟨rfl, rfl, rfl, rfl, rfl, rfl, _, k11, _⟩ | ⟨rfl, hp, ⟨c1, c3, CC⟩, _, last, more⟩
    · obtain ⟨h1, a1, a2⟩ := BC D (d + 1) n v q h f es ho (by show n + yz_l T ≤ _; have : yz_l (.inner 6 (([], 0, 0) : List yI × Int32 × Int32) o T .leaf) = yz_l T + 0 := rfl; omega) (by omega) (by omega)
      obtain ⟨f1, e1, o1⟩ := yC_Rf f a2
      obtain ⟨R1, _, R3⟩ := R
      refine ⟨c0, h1, ?_, by rw [R3]; exact yC_B6 a2⟩
      obtain ⟨N, rfl⟩ : ∃ z, N = z + 1 := ⟨N - 1, by omega⟩
      rw [yk_u61, i2]
      unfold f_Cr_codeCase_61 f_Cr_codeCase_145
      rw [f.1 _ _ (by decide), hsz, if_neg (mt (nI_leI (by omega) (by omega)).mp (by omega)), if_neg (zc_m1 (by omega))]
      simp only [if_pos (zi_in (show xi < 2147483648 by omega) i1), nI_clamp (show xi < 2147483648 by omega), f' 13 (by decide)]
      rw [k11, if_pos rfl, nI_1, a1, Option.bind_some, f1.2.1 18 (by decide), R1, yk_u61]
      unfold f_Cr_codeCase_61
      rw [if_pos (show (-1 : Int32) = -1 from rfl), ite_self]
    · subst c1
      rw [yk_l5] at hn
      obtain ⟨L, p2⟩ := p
      have hp' : p2 = (0, 0) := hp
      subst hp'
      have hn' : n + (L.length + 1 + yz_l T + (if yz_f Br = true then 0 else 1) + yz_l Br) ≤ 90000000 := hn
      obtain ⟨h1, a1, a2⟩ := CC n h f es (by show n + L.length ≤ _; omega)
      have f1 := yC_fE f a2
      have f1' : ∀ a, ¬ a ∈ yC_M → h1.2.1 a = h0.2.1 a := fun a ha => f1.2.1 a ha
      obtain ⟨cm, h2, b1, b2, b3, b4⟩ := yC_br (la := yz_f Br) (v := v) (q := q) (e := e) (c0 := c0) (d := d) (D := D) f1 a2.1 ((a2.2.1.1 _ _ (by decide)).trans ho) (by show n + L.length + 1 + yz_l T + 1 ≤ _; omega) hD hd BC
      have f2 : yC_f h0 h2 := zfr_trans f1 (zfr_w b2.2.1 (by decide) (by decide) (by decide))
      have s2 : (h2.1 41 5) = nI (n + (L.length + 1 + yz_l T + (if yz_f Br = true then 0 else 1))) := by
        rw [b2.1, List.length_append, List.length_append, yz_ml]
        have : (if yz_f Br = true then ([] : List yI) else [(10, nI e, 0, 0)]).length = if yz_f Br = true then 0 else 1 := by split <;> rfl
        rw [this]
        congr 1
        show n + L.length + (1 + _) = _
        omega
      obtain ⟨c1, h3, r1, r2⟩ := ih _ _ _ _ _ _ R D d _ v q e (tt + 1) N h2 cm f2 s2 b3 (by omega) hD hd (by omega) (by omega)
      refine ⟨c1, h3, ?_, yC_Bc a2 b2 b4 r2⟩
      rw [yk_u61, i2]
      unfold f_Cr_codeCase_61 f_Cr_codeCase_137 f_Cr_codeCase_145
      rw [f.1 _ _ (by decide), hsz, if_neg (mt (nI_leI (by omega) (by omega)).mp (by omega)), if_neg (zc_m1 (by omega))]
      simp only [if_pos (zi_in (show xi < 2147483648 by omega) i1), nI_clamp (show xi < 2147483648 by omega), f' 13 (by decide)]
      rw [if_neg c3]
      refine (congrArg (fun z => zd_B z _) a1).trans ?_
      show (if (h1.2.1 18) xi = -1 then (zd_B (f_Cr_codeBranch D h1 (nI ib) 1 c0 (nI d)) fun v2 h3 => f_Cr_codeCase_L61 (f_Cr_codeBody D) (f_Cr_codeBranch D) N h3 (nI d) (nI own) (h3.2.1 18 xi) v2 (nI tt + 1)) else (zd_B (f_Cr_codeBranch D h1 (nI ib) 0 c0 (nI d)) fun v2 h3 => f_Cr_codeCase_L61 (f_Cr_codeBody D) (f_Cr_codeBranch D) N h3 (nI d) (nI own) (h3.2.1 18 xi) v2 (nI tt + 1))) = _
      have key : (zd_B (f_Cr_codeBranch D h1 (nI ib) (if yz_f Br = true then 1 else 0) c0 (nI d)) fun v2 h3 => f_Cr_codeCase_L61 (f_Cr_codeBody D) (f_Cr_codeBranch D) N h3 (nI d) (nI own) (h3.2.1 18 xi) v2 (nI tt + 1)) = f_Cr_codeCase_163 h3 c1 := by
        rw [b1]
        show f_Cr_codeCase_L61 (f_Cr_codeBody D) (f_Cr_codeBranch D) N h2 (nI d) (nI own) (h2.2.1 18 xi) cm (nI tt + 1) = _
        rw [f2.2.1 18 (by decide), nI_1, r1]
      rw [f1' 18 (by decide)]
      by_cases z : Br = .leaf
      · rw [if_pos (last z)]
        rw [if_pos (yz_fl.mpr z)] at key
        exact key
      · obtain ⟨⟨y, y1, y2⟩, _⟩ := more z
        rw [if_neg (by rw [y2]; exact zc_m1 (by omega))]
        rw [if_neg (fun w => z (yz_fl.mp w))] at key
        exact key
/-- the model at a choice -/
theorem yk_chM {cell : Int32} : ∀ (B : ys) (x x' : Int32) (ow ow' c20 c11 : Nat), yk_GL h0 g0 b dl CI (yk_mi g0 b cell) B x x' ow ow' c20 c11 → ∀ (D n s v q e w ww N : Nat) (g : zs_H) (x4 : Int32), yM_f g0 g → yM_c g n s b v → (g.1 68 68) = nI w → (g.1 68 66) = nI ww → n + yz_l B ≤ 90000000 → w + c20 ≤ 4000 → ww + c11 ≤ 8400 → 2 * dl + 1 ≤ D → yz_n B < N → ∃ g', f_Mo_choiceCode_L9 (f_Mo_bodyCode D) N g cell x4 x' = f_Mo_choiceCode_L174 zF g' x4 ∧ yM_Bx s n v q e B w ww g g' := by
  intro B
  induction B with
  | leaf =>
    intro x x' ow ow' c20 c11 ⟨_, e2, _⟩ D n s v q e w ww N g x4 f c hl hw hn h20 h11 hD hN
    obtain ⟨N, rfl⟩ : ∃ z, N = z + 1 := ⟨N - 1, by omega⟩
    refine ⟨g, ?_, yM_B0 hw hl c.1.1⟩
    rw [yk_u9, e2]
    unfold f_Mo_choiceCode_9
    rw [if_pos (show (-1 : Int32) < 0 by decide)]
  | inner tg p o T Br _ ih =>
    intro x x' ow ow' c20 c11 ⟨i, k, ib, kb, xi, xk, oc, d20, d11, e20, e11, _, ⟨k1, k2, k3⟩, ⟨_, BM⟩, ⟨sT, hx⟩, hk, ⟨s1, s2⟩, R⟩ D n s v q e w ww N g x4 f c hl hw hn h20 h11 hD hN
    have hn0 : yz_n (.inner tg p o T Br) = 1 + yz_n Br := rfl
    obtain ⟨N, rfl⟩ : ∃ z, N = z + 1 := ⟨N - 1, by omega⟩
    have f' : ∀ a, ¬ a ∈ yM_M → g.2.1 a = g0.2.1 a := fun a ha => f.2.1 a ha
    rcases hk with ⟨rfl, rfl, rfl, _, rfl, _, rfl, _, k11⟩ | ⟨rfl, hp, _, MM, last, more⟩
    · obtain ⟨g1, a1, a2⟩ := BM D n s v q w ww g f c hl hw (by show n + yz_l T ≤ _; have : yz_l (.inner 6 (([], 0, 0) : List yI × Int32 × Int32) o T .leaf) = yz_l T + 0 := rfl; omega) (by omega) (by omega) hD
      obtain ⟨f1, c1, l1, w1⟩ := yM_Rf f c a2
      obtain ⟨_, R2, _⟩ := R
      refine ⟨g1, ?_, yM_B6 hw a2⟩
      obtain ⟨N, rfl⟩ : ∃ z, N = z + 1 := ⟨N - 1, by omega⟩
      rw [yk_u9, k2]
      unfold f_Mo_choiceCode_9 f_Mo_choiceCode_108 f_Mo_choiceCode_156 f_Mo_choiceCode_171
      rw [if_neg (nI_pos (by omega))]
      simp only [if_pos (zi_in (show xk < 2147483648 by omega) k1), nI_clamp (show xk < 2147483648 by omega), f' 72 (by decide)]
      rw [k11, if_neg (by decide), if_pos rfl, a1, Option.bind_some, f1.2.1 78 (by decide), R2, if_pos (show (-1 : Int32) < 0 by decide), if_pos (show (-1 : Int32) < 0 by decide), yk_u9]
      unfold f_Mo_choiceCode_9
      rw [if_pos (show (-1 : Int32) < 0 by decide)]
    · rw [yk_l5] at hn
      obtain ⟨L, p2⟩ := p
      have hp' : p2 = (0, 0) := hp
      subst hp'
      have hn' : n + (L.length + 1 + yz_l T + (if yz_f Br = true then 0 else 1) + yz_l Br) ≤ 90000000 := hn
      obtain ⟨g1, CT, a1, a2, a3⟩ := MM D n s v g (f_Mo_choiceCode_L9 (f_Mo_bodyCode D) N) x4 f c (by show n + L.length ≤ _; omega)
      have f1 := yM_fE f a1
      have c1 : yM_c g1 (n + L.length) s b v := yM_cL c a1
      have hl1 : (g1.1 68 68) = nI w := (a1.2.1.1 _ _ (by decide)).trans hl
      have hw1 : (g1.1 68 66) = nI ww := (a1.2.1.1 _ _ (by decide)).trans hw
      have hla : if yz_f Br = true then (g0.2.1 78) xk = -1 else ∃ y, y < 33500 ∧ (g0.2.1 78) xk = nI y := by
        by_cases z : Br = .leaf
        · rw [if_pos (yz_fl.mpr z)]
          rw [z] at R
          exact R.2.1
        · rw [if_neg (fun w => z (yz_fl.mp w))]
          exact (more z).2
      obtain ⟨g2, b1, b2, g3, b3, b4, b5, b6, b7, b8, b9⟩ := yM_br (la := yz_f Br) (q := q) (e := e) (D := D) f1 c1 hl1 hw1 (by omega) (show w + d20 ≤ 4000 by omega) (show ww + d11 ≤ 8400 by omega) (by omega) hD BM k3 hla
      have f3 : yM_f g0 g3 := zfr_trans f1 (zfr_w b4.2.1 (by decide) (by decide) (by decide))
      have gl : (if yz_f Br = true then ([] : List yJ) else [((10, nI e, 0, 0), v)]).length = if yz_f Br = true then 0 else 1 := by split <;> rfl
      have s3 : (g3.1 68 56) = nI (n + (L.length + 1 + yz_l T + (if yz_f Br = true then 0 else 1))) := by
        rw [b4.1, List.length_append, List.length_append, yz_len, gl]
        congr 1
        show n + L.length + (1 + _) = _
        omega
      have c3 : yM_c g3 (n + (L.length + 1 + yz_l T + (if yz_f Br = true then 0 else 1))) s b v := by
        obtain ⟨⟨q1, q2⟩, ⟨q3, q4, q5⟩, q6, q7⟩ := c1
        exact ⟨⟨s3, by omega⟩, ⟨(b4.2.1.1 _ _ (by decide)).trans q3, q4, by rw [b4.2.1.2.1 _ (by decide)]; exact q5⟩, b5.trans q6, (b4.2.1.1 _ _ (by decide)).trans q7⟩
      have hxl := hx (n + L.length + 1)
      have hg1 : (if yz_f Br = true then ([] : List Nat) else [n + L.length + 1 + yz_l T]).length ≤ 1 := by
        split
        · exact Nat.zero_le _
        · exact Nat.le_refl _
      obtain ⟨g4, r1, r2⟩ := ih _ _ _ _ _ _ R D _ s v q e _ _ N g3 x4 f3 c3 b8.1 b6 (by omega) (by omega) (by omega) hD (by omega)
      refine ⟨g4, ?_, yM_Bc hw hl a1 b4 b5 b7 b8.2 b9 r2⟩
      rw [yk_u9, k2, a2, b1]
      show CT (nI (n + L.length - s)) g2 = _
      rw [a3 _ _ b2, b3, r1]
end YLP
