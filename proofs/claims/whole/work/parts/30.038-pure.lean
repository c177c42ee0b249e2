section
/-! The coder: all blocks, on both sides. -/
/-- where unit b begins -/
def yx_S (T : Nat → ys) : Nat → Nat
  | 0 => 0
  | b + 1 => yx_S T b + yz_l (T b)
theorem yx_Sm (T : Nat → ys) : ∀ (m b : Nat), yx_S T b ≤ yx_S T (b + m) := by
  intro m
  induction m with
  | zero => intro b; exact Nat.le_refl _
  | succ m ih => intro b; exact Nat.le_trans (ih b) (Nat.le_add_right _ _)
theorem yx_Sle {T : Nat → ys} {u b : Nat} (h : u ≤ b) : yx_S T u ≤ yx_S T b := by
  have := yx_Sm T (b - u) u
  rwa [show u + (b - u) = b by omega] at this
theorem yx_Sb {T : Nat → ys} {nb : Nat} (h : ∀ b, b < nb → yz_l (T b) ≤ 600000) : ∀ b, b ≤ nb → yx_S T b ≤ 600000 * b := by
  intro b
  induction b with
  | zero => intro _; exact Nat.le_refl _
  | succ b ih =>
    intro hb
    have := ih (by omega)
    have := h b (by omega)
    show yx_S T b + yz_l (T b) ≤ _
    omega
/-- the units below b are coded: the class, the model -/
def yx_AC (T : Nat → ys) (b : Nat) (h : zs_H) : Prop := ∀ u, u < b → ∀ k i, (yz_c (T u) (yx_S T u) 0 0 0)[k]? = some i → yC_m h (yx_S T u + k) i.1
def yx_AM (T : Nat → ys) (b : Nat) (g : zs_H) : Prop := ∀ u, u < b → ∀ k i, (yz_c (T u) (yx_S T u) 0 0 0)[k]? = some i → yM_m (yx_S T u) g (yx_S T u + k) i
def yx_PC (h0 : zs_H) (T : Nat → ys) (b : Nat) (h : zs_H) : Prop := yC_f h0 h ∧ (h.1 41 5) = nI (yx_S T b) ∧ (h.1 41 6) = nI b ∧ (∀ u, u ≤ b → (h.2.1 46) u = nI (yx_S T u)) ∧ (yx_S T b ≤ 4000 → yx_AC T b h)
def yx_PM (g0 : zs_H) (T : Nat → ys) (b : Nat) (g : zs_H) : Prop := yM_f g0 g ∧ (g.1 68 56) = nI (yx_S T b) ∧ (∀ u, u < b → (g.2.1 103) u = nI (yx_S T u)) ∧ ((g.1 68 68) = 0 ∧ (g.1 68 66) = 0) ∧ (yx_S T b ≤ 4000 → yx_AM T b g)
section YXD
variable {h0 g0 : zs_H} {T : Nat → ys} {nb : Nat}
theorem yx_in {u b k : Nat} {i : yJ} (h : u < b) (e : (yz_c (T u) (yx_S T u) 0 0 0)[k]? = some i) : yx_S T u + k < yx_S T b := by
  have h1 : k < (yz_c (T u) (yx_S T u) 0 0 0).length := by
    rcases Nat.lt_or_ge k (yz_c (T u) (yx_S T u) 0 0 0).length with z | z
    · exact z
    · rw [List.getElem?_eq_none z] at e; cases e
  rw [yz_len] at h1
  have h2 : yx_S T (u + 1) ≤ yx_S T b := yx_Sle (by omega)
  have h3 : yx_S T (u + 1) = yx_S T u + yz_l (T u) := rfl
  omega
theorem yx_allC (hn : nb ≤ 16) (hl : ∀ b, b < nb → yz_l (T b) ≤ 600000) (HT : ∀ b, b < nb → yx_C h0 b (T b)) (eb : (h0.1 20 17) = nI (9 + nb)) : ∀ (m b N : Nat) (h : zs_H), b + m = nb → m < N → yx_PC h0 T b h → ∃ h', f_Cr_codeAll_L28 N h (nI (9 + b)) = some (if yx_S T nb ≤ 4000 then 0 else 50, h') ∧ yx_PC h0 T nb h' := by
  have hS := yx_Sb hl
  intro m
  induction m with
  | zero =>
    intro b N h hb hN S
    obtain ⟨N, rfl⟩ : ∃ z, N = z + 1 := ⟨N - 1, by omega⟩
    have e : b = nb := hb
    subst e
    have := hS b (Nat.le_refl _)
    refine ⟨h, ?_, S⟩
    show f_Cr_codeAll_28 (f_Cr_codeAll_L28 N) h (nI (9 + b)) = _
    unfold f_Cr_codeAll_28
    rw [S.1.1 20 17 (by decide), eb, if_pos ((nI_leI (by omega) (by omega)).mpr (Nat.le_refl _)), S.2.1]
    by_cases z : yx_S T b ≤ 4000
    · rw [if_pos z, if_pos ((zc_el (k := 4000) (by decide) (by omega)).mpr z)]
    · rw [if_neg z, if_neg (mt (zc_el (k := 4000) (by decide) (by omega)).mp z)]
  | succ m ih =>
    intro b N h hb hN S
    obtain ⟨N, rfl⟩ : ∃ z, N = z + 1 := ⟨N - 1, by omega⟩
    obtain ⟨f, s1, s2, s3, s4⟩ := S
    have := hS b (by omega)
    have := hl b (by omega)
    have eS : yx_S T (b + 1) = yx_S T b + yz_l (T b) := rfl
    obtain ⟨h1, hh1⟩ : ∃ h1, h1 = zs_uF h 47 3 (nI (9 + b)) := ⟨_, rfl⟩
    have f1 : yC_f h0 h1 := by rw [hh1]; exact zfr_F (by decide) f
    obtain ⟨h4, e1, e2, e3, e4⟩ := HT b (by omega) h1 (yx_S T b) f1 (by rw [hh1]; rfl) (by rw [hh1]; exact s1) (by omega)
    rw [yz_ml] at e2 e4
    have u4 : (h4.1 41 6) = nI b := (e3.1 _ _ (by decide)).trans (by rw [hh1]; exact s2)
    have f4 : yC_f h0 h4 := zfr_trans f1 (zfr_w e3 (by decide) (by decide) (by decide))
    obtain ⟨h6, hh6⟩ : ∃ h6, h6 = zs_uM (zs_uF h4 41 6 (nI (b + 1))) 46 (b + 1) (nI (yx_S T (b + 1))) := ⟨_, rfl⟩
    have f6 : yC_f h0 h6 := by rw [hh6]; exact zfr_M (by decide) (zfr_F (by decide) f4)
    have eE : f_Cd_endUnit h4 = some h6 := by
      unfold f_Cd_endUnit
      rw [u4, if_neg (mt (zc_le (k := 16) (by decide) (by omega)).mp (by omega)), show nI b + 1 = nI (b + 1) from zc_ad 1 b, if_pos (zi_in (by omega) (by omega)), nI_clamp (by omega), e2, hh6]
      rfl
    have o : ∀ a j, ¬ a = 46 → h6.2.1 a j = h4.2.1 a j := fun a j ha => by
      rw [hh6]
      exact zu_MM.trans (if_neg fun z => ha z.1)
    have S6 : yx_PC h0 T (b + 1) h6 := by
      refine ⟨f6, by rw [hh6]; exact e2, by rw [hh6]; rfl, fun u hu => ?_, fun h4000 => ?_⟩
      · by_cases z : u = b + 1
        · rw [z, hh6]
          exact zu_MM.trans (if_pos ⟨rfl, rfl⟩)
        · have : (h6.2.1 46) u = (h4.2.1 46) u := by
            rw [hh6]
            exact zu_MM.trans (if_neg fun q => z q.2)
          rw [this, e3.2.1 _ (by decide), hh1]
          exact s3 u (by omega)
      · obtain ⟨d1, d2⟩ := e4 h4000
        intro u hu k i hk
        have go : ∀ j, yC_m h4 j i.1 → yC_m h6 j i.1 := fun j q => by
          unfold yC_m at q ⊢
          rw [o _ _ (by decide), o _ _ (by decide), o _ _ (by decide), o _ _ (by decide)]
          exact q
        refine go _ ?_
        by_cases z : u = b
        · subst z
          refine d2 k i.1 ?_
          rw [List.getElem?_map, hk]; rfl
        · have q := s4 (by omega) u (by omega) k i hk
          have hi := yx_in (T := T) (show u < b by omega) hk
          unfold yC_m at q ⊢
          rw [d1 _ hi _ (by decide), d1 _ hi _ (by decide), d1 _ hi _ (by decide), d1 _ hi _ (by decide), hh1]
          exact q
    obtain ⟨h', r1, r2⟩ := ih (b + 1) N h6 (by omega) (by omega) S6
    refine ⟨h', ?_, r2⟩
    show f_Cr_codeAll_28 (f_Cr_codeAll_L28 N) h (nI (9 + b)) = _
    unfold f_Cr_codeAll_28
    rw [f.1 20 17 (by decide), eb, if_neg (mt (nI_leI (by omega) (by omega)).mp (by omega)), ← hh1, e1, Option.bind_some, eE, Option.bind_some, show nI (9 + b) + 1 = nI (9 + (b + 1)) from zc_ad 1 (9 + b)]
    exact r1
theorem yx_allM (hn : nb ≤ 16) (hl : ∀ b, b < nb → yz_l (T b) ≤ 600000) (HT : ∀ b, b < nb → yx_M g0 b (T b)) (eb : (g0.1 68 33) = nI nb) : ∀ (m b N : Nat) (g : zs_H), b + m = nb → m < N → yx_PM g0 T b g → ∃ g', f_Mo_generate_L18 N g (nI b) = some (if yx_S T nb ≤ 4000 then 1 else 0, g') ∧ yx_PM g0 T nb g' ∧ (g'.2.1 103) nb = nI (yx_S T nb) := by
  have hS := yx_Sb hl
  intro m
  induction m with
  | zero =>
    intro b N g hb hN S
    obtain ⟨N, rfl⟩ : ∃ z, N = z + 1 := ⟨N - 1, by omega⟩
    have e : b = nb := hb
    subst e
    have := hS b (Nat.le_refl _)
    obtain ⟨f, s1, s2, s3, s4⟩ := S
    obtain ⟨g', hg'⟩ : ∃ g', g' = zs_uM g 103 b (nI (yx_S T b)) := ⟨_, rfl⟩
    have o : ∀ a j, ¬ a = 103 → g'.2.1 a j = g.2.1 a j := fun a j ha => by
      rw [hg']
      exact zu_MM.trans (if_neg fun z => ha z.1)
    refine ⟨g', ?_, ⟨by rw [hg']; exact zfr_M (by decide) f, by rw [hg']; exact s1, fun u hu => ?_, by rw [hg']; exact s3, fun h4 u hu k i hk => ?_⟩, ?_⟩
    · show f_Mo_generate_18 (f_Mo_generate_L18 N) g (nI b) = _
      unfold f_Mo_generate_18
      rw [f.1 68 33 (by decide), eb, if_pos ((nI_leI (by omega) (by omega)).mpr (Nat.le_refl _)), if_pos (zi_in (by omega) (by omega)), nI_clamp (by omega), s1, ← hg']
      by_cases z : yx_S T b ≤ 4000
      · rw [if_pos z, if_neg (mt (zc_lt (k := 4000) (by decide) (by omega)).mp (by omega))]
      · rw [if_neg z, if_pos ((zc_lt (k := 4000) (by decide) (by omega)).mpr (by omega))]
    · rw [hg']
      exact zu_MM.trans ((if_neg fun q => by have := q.2; omega).trans (s2 u hu))
    · have q := s4 h4 u hu k i hk
      unfold yM_m at q ⊢
      rw [o _ _ (by decide), o _ _ (by decide), o _ _ (by decide), o _ _ (by decide), o _ _ (by decide)]
      exact q
    · rw [hg']
      exact zu_MM.trans (if_pos ⟨rfl, rfl⟩)
  | succ m ih =>
    intro b N g hb hN S
    obtain ⟨N, rfl⟩ : ∃ z, N = z + 1 := ⟨N - 1, by omega⟩
    obtain ⟨f, s1, s2, ⟨s3, s3'⟩, s4⟩ := S
    have := hS b (by omega)
    have := hl b (by omega)
    have eS : yx_S T (b + 1) = yx_S T b + yz_l (T b) := rfl
    obtain ⟨g1, hg1⟩ : ∃ g1, g1 = zs_uF (zs_uM (zs_uF (zs_uF g 68 58 (nI b)) 68 54 (nI b)) 103 b (nI (yx_S T b))) 68 64 0 := ⟨_, rfl⟩
    have f1 : yM_f g0 g1 := by rw [hg1]; exact zfr_F (by decide) (zfr_M (by decide) (zfr_F (by decide) (zfr_F (by decide) f)))
    have bg : ∀ u, (g1.2.1 103) u = if u = b then nI (yx_S T b) else (g.2.1 103) u := fun u => by
      rw [hg1]
      refine zu_MM.trans ?_
      by_cases z : u = b
      · rw [if_pos z, if_pos ⟨rfl, z⟩]
      · rw [if_neg z, if_neg fun q => z q.2]; rfl
    have o : ∀ a j, ¬ a = 103 → g1.2.1 a j = g.2.1 a j := fun a j ha => by
      rw [hg1]
      exact zu_MM.trans (if_neg fun z => ha z.1)
    have c1 : yM_c g1 (yx_S T b) (yx_S T b) b 0 := ⟨⟨by rw [hg1]; exact s1, Nat.le_refl _⟩, ⟨by rw [hg1]; rfl, by omega, by rw [bg, if_pos rfl]⟩, by rw [hg1]; rfl, by rw [hg1]; rfl⟩
    obtain ⟨g2, e1, ⟨e2, e3, e4⟩, e5, e6⟩ := HT b (by omega) g1 (yx_S T b) f1 c1 (by rw [hg1]; exact s3) (by rw [hg1]; exact s3') (by omega)
    rw [yz_len] at e2 e4
    have S2 : yx_PM g0 T (b + 1) g2 := by
      refine ⟨zfr_trans f1 (zfr_w e3 (by decide) (by decide) (by decide)), e2, fun u hu => ?_, ⟨e5, e6⟩, fun h4000 => ?_⟩
      · rw [e3.2.1 _ (by decide), bg]
        by_cases z : u = b
        · rw [if_pos z, z]
        · rw [if_neg z]; exact s2 u (by omega)
      · obtain ⟨d1, d2⟩ := e4 h4000
        intro u hu k i hk
        by_cases z : u = b
        · subst z; exact d2 k i hk
        · have q := s4 (by omega) u (by omega) k i hk
          have hi := yx_in (T := T) (show u < b by omega) hk
          unfold yM_m at q ⊢
          rw [d1 _ hi _ (by decide), d1 _ hi _ (by decide), d1 _ hi _ (by decide), d1 _ hi _ (by decide), d1 _ hi _ (by decide), o _ _ (by decide), o _ _ (by decide), o _ _ (by decide), o _ _ (by decide), o _ _ (by decide)]
          exact q
    obtain ⟨g', r1, r2⟩ := ih (b + 1) N g2 (by omega) (by omega) S2
    refine ⟨g', ?_, r2⟩
    show f_Mo_generate_18 (f_Mo_generate_L18 N) g (nI b) = _
    unfold f_Mo_generate_18
    rw [f.1 68 33 (by decide), eb, if_neg (mt (nI_leI (by omega) (by omega)).mp (by omega)), if_pos (zi_in (show b < 2147483648 by omega) (show b < 17 by omega)), if_pos (zi_in (show b < 2147483648 by omega) (show b < 2100 by omega)), nI_clamp (by omega), s1, ← hg1, ← o 86 b (by decide)]
    exact (e1 _).trans r1
end YXD
/-- all is coded -/
def yx_Z (sz : Nat) (LC LM : List (List Int32)) (h0 g0 h g : zs_H) : Prop := ∃ (nb : Nat) (F X Y : Nat → Nat) (K : Nat → Nat) (T : Nat → ys), (nb ≤ 16 ∧ yk_cx LC LM nb F X Y h0 g0) ∧ ((∀ j, j < nb → (K j = 1 ∨ K j = 2 ∨ K j = 3) ∧ (h0.2.1 21) (9 + j) = nI (K j) ∧ (g0.2.1 86) j = nI (K j)) ∧ yh_T nb X K h0 g0) ∧ (∀ b, b < nb → yx_T X Y h0 b (T b)) ∧ yx_S T nb ≤ 4000 ∧ yx_PC h0 T nb h ∧ yx_PM g0 T nb g ∧ (g.2.1 103) nb = nI (yx_S T nb) ∧ ∀ j, j < nb → ∃ i k, i < 32784 ∧ k < 33500 ∧ (h0.2.1 22) (9 + j) = nI i ∧ (g0.2.1 84) j = nI k ∧ (h0.2.1 15) i = (g0.2.1 73) k
theorem yx_all {sz : Nat} {LC LM : List (List Int32)} {h0 g0 : zs_H} (Z : yh_Z sz LC LM h0 g0) (hsz : (h0.1 12 6) = nI sz) (hs2 : sz ≤ 32784) (e46 : (h0.2.1 46) 0 = 0) (w1 : (g0.1 68 68) = 0) (w2 : (g0.1 68 66) = 0) : ∃ h g, yC_f h0 h ∧ yM_f g0 g ∧ ((h.2.1 46) 0 = 0 ∧ (g.1 68 68) = 0 ∧ (g.1 68 66) = 0) ∧ ((f_Cr_codeAll h0 = some (50, h) ∧ f_Mo_generate g0 = some (0, g)) ∨ (f_Cr_codeAll h0 = some (0, h) ∧ f_Mo_generate g0 = some (1, g) ∧ yx_Z sz LC LM h0 g0 h g)) := by
  have hz := zF_big
  obtain ⟨nb, F, X, K, I, si, BK, TT, KK⟩ := Z
  have HB := I.2.1
  have hnb := HB.1.2.2
  have eC : f_Cr_codeAll h0 = (if nb ≤ 16 then f_Cr_codeAll_L28 zF (zs_uF (zs_uF h0 41 5 0) 41 6 0) (nI (9 + 0)) else some (50, zs_uF (zs_uF h0 41 5 0) 41 6 0)) := by
    unfold f_Cr_codeAll f_Cd_forget
    rw [Option.bind_some, show ((zs_uF (zs_uF h0 41 5 0) 41 6 0).1 20 17) = nI (9 + nb) from HB.1.1, show nI (9 + nb) - 9 = nI nb by rw [show nI (9 + nb) - 9 = nI (9 + nb - 9) from zi_sub (b := 9) (by omega)]; congr 1; omega]
    by_cases q : nb ≤ 16
    · rw [if_pos q, if_pos ((zc_el (k := 16) (by decide) (by omega)).mpr q)]; rfl
    · rw [if_neg q, if_neg (mt (zc_el (k := 16) (by decide) (by omega)).mp q)]
  have eM : f_Mo_generate g0 = (if nb ≤ 16 then f_Mo_generate_L18 zF (zs_uF g0 68 56 0) (nI 0) else some (0, zs_uF g0 68 56 0)) := by
    unfold f_Mo_generate
    rw [HB.1.2.1]
    by_cases q : nb ≤ 16
    · rw [if_pos q, if_pos ((zc_el (k := 16) (by decide) (by omega)).mpr q)]; rfl
    · rw [if_neg q, if_neg (mt (zc_el (k := 16) (by decide) (by omega)).mp q)]
  have fC : yC_f h0 (zs_uF (zs_uF h0 41 5 0) 41 6 0) := zfr_F (by decide) (zfr_F (by decide) zfr_rfl)
  have fM : yM_f g0 (zs_uF g0 68 56 0) := zfr_F (by decide) zfr_rfl
  rw [eC, eM]
  by_cases q : nb ≤ 16
  · rw [if_pos q, if_pos q]
    obtain ⟨Y, hY⟩ : ∃ Y : Nat → Nat, Y = fun b => ((h0.2.1 25) (9 + b)).toNatClampNeg := ⟨_, rfl⟩
    have C : yk_cx LC LM nb F X Y h0 g0 := by
      refine ⟨I, si, fun b hb => ?_⟩
      obtain ⟨⟨b1, b2⟩, ⟨b3, b4⟩, b5, b6⟩ := BK b hb
      obtain ⟨Pb, Qb, _, Fb, i, k, c, kv, lb, a, bn, y, m, _, _, _, ⟨hc, hA, ok, _⟩, ⟨_, ⟨_, a2⟩, _⟩, _, ⟨⟨y1, y1'⟩, y2, y3⟩, _, _, S3, _⟩ := KK b hb
      have ey : Y b = y := by rw [hY]; show ((h0.2.1 25) (9 + b)).toNatClampNeg = y; rw [y2, nI_clamp (by omega)]
      have hbd := (yg_body (kv := kv) (o := ()) hc hA ok).2
      have hsl : zt_sz (.inner c kv () lb .leaf) = 1 + zt_sz lb + 0 := rfl
      have eX : X b = y + yc_o (.inner c kv () lb .leaf) := (nI_eq (by omega) (by omega)).mp (b4.symm.trans y3)
      rw [ey]
      exact ⟨⟨b1, by omega, y1⟩, b4, b6, y2, y1', fun v v1 v2 => ⟨(S3 v v1 v2).2.2, (S3 v v1 v2).2.1⟩⟩
    have U : ∀ b, b < nb → ∃ T, yx_C h0 b T ∧ yx_M g0 b T ∧ yx_T X Y h0 b T := fun b hb => by
      obtain ⟨Pb, Qb, hP, Kb⟩ := KK b hb
      exact yx_unit C hb q hP hsz hs2 Kb
    obtain ⟨T, HT⟩ : ∃ T : Nat → ys, ∀ b, b < nb → yx_C h0 b (T b) ∧ yx_M g0 b (T b) ∧ yx_T X Y h0 b (T b) := by
      refine ⟨fun b => if hb : b < nb then Classical.choose (U b hb) else .leaf, fun b hb => ?_⟩
      have e : (if hb : b < nb then Classical.choose (U b hb) else .leaf) = Classical.choose (U b hb) := dif_pos hb
      show yx_C h0 b (if hb : b < nb then Classical.choose (U b hb) else .leaf) ∧ yx_M g0 b (if hb : b < nb then Classical.choose (U b hb) else .leaf) ∧ yx_T X Y h0 b (if hb : b < nb then Classical.choose (U b hb) else .leaf)
      rw [e]
      exact Classical.choose_spec (U b hb)
    have hl : ∀ b, b < nb → yz_l (T b) ≤ 600000 := fun b hb => (HT b hb).2.2.2.2.1
    obtain ⟨h, c1, c2⟩ := yx_allC q hl (fun b hb => (HT b hb).1) HB.1.1 nb 0 zF (zs_uF (zs_uF h0 41 5 0) 41 6 0) (by omega) (by omega) ⟨fC, rfl, rfl, fun u hu => by rw [show u = 0 by omega]; exact e46, fun _ u hu => absurd hu (Nat.not_lt_zero u)⟩
    obtain ⟨g, m1, m2, m3⟩ := yx_allM q hl (fun b hb => (HT b hb).2.1) HB.1.2.1 nb 0 zF (zs_uF g0 68 56 0) (by omega) (by omega) ⟨fM, rfl, fun u hu => absurd hu (Nat.not_lt_zero u), ⟨w1, w2⟩, fun _ u hu => absurd hu (Nat.not_lt_zero u)⟩
    refine ⟨h, g, c2.1, m2.1, ⟨c2.2.2.2.1 0 (Nat.zero_le _), m2.2.2.2.1⟩, ?_⟩
    rw [c1, m1]
    by_cases z : yx_S T nb ≤ 4000
    · rw [if_pos z, if_pos z]
      exact .inr ⟨rfl, rfl, nb, F, X, Y, K, T, ⟨q, C⟩, ⟨fun j hj => ⟨(BK j hj).1.2, (BK j hj).2.1.1, (BK j hj).2.2.1⟩, TT⟩, fun b hb => (HT b hb).2.2, z, c2, m2, m3, fun j hj => by
        obtain ⟨_, _, _, _, i, k, _, _, _, _, _, _, _, _, ⟨i1, i2, i3, i4⟩, _, _, _, _, _, _, _, _, pl⟩ := KK j hj
        exact ⟨i, k, i1, i2, i3, i4, pl⟩⟩
    · rw [if_neg z, if_neg z]
      exact .inl ⟨rfl, rfl⟩
  · rw [if_neg q, if_neg q]
    exact ⟨_, _, fC, fM, ⟨e46, w1, w2⟩, .inl ⟨rfl, rfl⟩⟩
end
section
/-! The prover: the most steps of a way; none: there is no way. -/
def yP_p : Option Nat → Option Nat → Option Nat
  | some x, some y => some (x + y)
  | none, _ => none
  | some _, none => none
def yP_m : Option Nat → Option Nat → Option Nat
  | none, b => b
  | some x, none => some x
  | some x, some y => some (max x y)
abbrev yP3 : Type := Option Nat × Option Nat × Option Nat
def yP_a (w : Nat) (c : yP3) : yP3 := (yP_p (some w) c.1, yP_p (some w) c.2.1, yP_p (some w) c.2.2)
def yP_x (c d : yP3) : yP3 := (yP_m c.1 d.1, yP_m c.2.1 d.2.1, yP_m c.2.2 d.2.2)
/-- the rounds before the last one -/
def yP_b (N : Nat) : Option Nat → Nat
  | none => 0
  | some x => (N - 1) * x
/-- a loop up to what is behind it -/
def yP_ps (N : Nat) (t : yP3) : Option Nat := yP_m (yP_p (yP_p (some (yP_b N (yP_p (some 1) t.1))) (yP_p (some 1) t.1)) (some 1)) (yP_p (some (yP_b N (yP_p (some 1) t.1) + 1)) t.2.1)
def yP_N (N : Nat) (t c : yP3) : yP3 := if N = 0 then yP_a 1 c else (yP_p (yP_ps N t) c.1, yP_p (yP_ps N t) c.2.1, yP_m (yP_p (some (yP_b N (yP_p (some 1) t.1) + 1)) t.2.2) (yP_p (yP_ps N t) c.2.2))
/-- the same, as the model says it -/
def yP_g (N : Nat) : Option Nat → Option Nat → Option Nat → Option Nat
  | none, i, _ => i
  | some O, i, a => yP_m (yP_p (some ((N - 1) * O)) i) (yP_p (some (N * O)) a)
def yP_R (v : Nat) (Q : Nat → Option Nat) (c : yP3) (k : Nat) : Option Nat := if v < k then none else if k = v then (if v = 0 then yP_m c.1 c.2.2 else c.1) else if k = 0 then yP_m (yP_p c.2.1 (Q 0)) c.2.2 else yP_p c.2.1 (Q k)
theorem yP_pa (a b c : Option Nat) : yP_p (yP_p a b) c = yP_p a (yP_p b c) := by
  cases a <;> cases b <;> cases c <;> simp only [yP_p, Option.some.injEq] ; omega
theorem yP_pm (a b c : Option Nat) : yP_p a (yP_m b c) = yP_m (yP_p a b) (yP_p a c) := by
  cases a <;> cases b <;> cases c <;> simp only [yP_p, yP_m, Option.some.injEq] ; omega
theorem yP_mp (a b c : Option Nat) : yP_p (yP_m b c) a = yP_m (yP_p b a) (yP_p c a) := by
  cases a <;> cases b <;> cases c <;> simp only [yP_p, yP_m, Option.some.injEq] ; omega
theorem yP_ma (a b c : Option Nat) : yP_m (yP_m a b) c = yP_m a (yP_m b c) := by
  cases a <;> cases b <;> cases c <;> simp only [yP_m, Option.some.injEq] ; omega
theorem yP_mc (a b : Option Nat) : yP_m a b = yP_m b a := by
  cases a <;> cases b <;> simp only [yP_m, Option.some.injEq] ; omega
theorem yP_m4 (a b c d : Option Nat) : yP_m (yP_m a b) (yP_m c d) = yP_m (yP_m a c) (yP_m b d) := by
  rw [yP_ma, yP_ma, ← yP_ma b, yP_mc b c, yP_ma c]
theorem yP_Ra {v k w : Nat} {Q : Nat → Option Nat} {c : yP3} : yP_p (some w) (yP_R v Q c k) = yP_R v Q (yP_a w c) k := by
  unfold yP_R yP_a
  by_cases h1 : v < k
  · rw [if_pos h1, if_pos h1]; rfl
  rw [if_neg h1, if_neg h1]
  by_cases h2 : k = v
  · rw [if_pos h2, if_pos h2]
    by_cases h3 : v = 0
    · rw [if_pos h3, if_pos h3, yP_pm]
    · rw [if_neg h3, if_neg h3]
  rw [if_neg h2, if_neg h2]
  by_cases h3 : k = 0
  · rw [if_pos h3, if_pos h3, yP_pm, yP_pa]
  · rw [if_neg h3, if_neg h3, yP_pa]
theorem yP_Rx {v k : Nat} {Q : Nat → Option Nat} {c d : yP3} : yP_m (yP_R v Q c k) (yP_R v Q d k) = yP_R v Q (yP_x c d) k := by
  unfold yP_R yP_x
  by_cases h1 : v < k
  · rw [if_pos h1, if_pos h1, if_pos h1]; rfl
  rw [if_neg h1, if_neg h1, if_neg h1]
  by_cases h2 : k = v
  · rw [if_pos h2, if_pos h2, if_pos h2]
    by_cases h3 : v = 0
    · rw [if_pos h3, if_pos h3, if_pos h3, yP_m4]
    · rw [if_neg h3, if_neg h3, if_neg h3]
  rw [if_neg h2, if_neg h2, if_neg h2]
  by_cases h3 : k = 0
  · rw [if_pos h3, if_pos h3, if_pos h3, yP_m4, yP_mp]
  · rw [if_neg h3, if_neg h3, if_neg h3, yP_mp]
theorem yP_N1 {N : Nat} (hN : ¬ N = 0) (O : Nat) : N * O = (N - 1) * O + O := by
  obtain ⟨m, rfl⟩ : ∃ m, N = m + 1 := ⟨N - 1, by omega⟩
  rw [Nat.add_sub_cancel, Nat.succ_mul]
theorem yP_A1 {N : Nat} (hN : ¬ N = 0) (t : yP3) (X : Option Nat) : yP_g N (yP_p (some 1) t.1) (yP_p (some 1) (yP_p t.2.1 X)) (yP_p (some 1) X) = yP_p (yP_ps N t) X := by
  obtain ⟨a, b, d⟩ := t
  have h := yP_N1 hN
  unfold yP_ps
  cases a with
  | none =>
    cases b <;> cases X <;> simp only [yP_p, yP_m, yP_g, yP_b, Option.some.injEq] ; omega
  | some a =>
    have h1 := h (1 + a)
    cases b <;> cases X <;> simp only [yP_p, yP_m, yP_g, yP_b, Option.some.injEq, h1] <;> (clear h1 h; generalize (N - 1) * (1 + a) = m) <;> omega
theorem yP_A2 {N : Nat} (hN : ¬ N = 0) (t : yP3) (X : Option Nat) : yP_g N (yP_p (some 1) t.1) (yP_p (some 1) (yP_m (yP_p t.2.1 X) t.2.2)) (yP_p (some 1) X) = yP_m (yP_p (some (yP_b N (yP_p (some 1) t.1) + 1)) t.2.2) (yP_p (yP_ps N t) X) := by
  obtain ⟨a, b, d⟩ := t
  have h := yP_N1 hN
  unfold yP_ps
  cases a with
  | none =>
    cases b <;> cases d <;> cases X <;> simp only [yP_p, yP_m, yP_g, yP_b, Option.some.injEq] <;> omega
  | some a =>
    have h1 := h (1 + a)
    cases b <;> cases d <;> cases X <;> simp only [yP_p, yP_m, yP_g, yP_b, Option.some.injEq, h1] <;> (clear h1 h; generalize (N - 1) * (1 + a) = m) <;> omega
theorem yP_RN {N v k : Nat} {Q : Nat → Option Nat} {t c : yP3} (hN : ¬ N = 0) (hk : k ≤ v) : yP_g N (yP_p (some 1) (yP_R (v + 1) (yP_R v Q c) t (v + 1))) (yP_p (some 1) (yP_R (v + 1) (yP_R v Q c) t k)) (yP_p (some 1) (yP_R v Q c k)) = yP_R v Q (yP_N N t c) k := by
  have e1 : yP_R (v + 1) (yP_R v Q c) t (v + 1) = t.1 := by
    unfold yP_R
    rw [if_neg (Nat.lt_irrefl _), if_pos rfl, if_neg (by omega)]
  have eN : yP_N N t c = (yP_p (yP_ps N t) c.1, yP_p (yP_ps N t) c.2.1, yP_m (yP_p (some (yP_b N (yP_p (some 1) t.1) + 1)) t.2.2) (yP_p (yP_ps N t) c.2.2)) := if_neg hN
  rw [e1]
  by_cases h0 : k = 0
  · subst h0
    have e2 : yP_R (v + 1) (yP_R v Q c) t 0 = yP_m (yP_p t.2.1 (yP_R v Q c 0)) t.2.2 := by
      rw [yP_R, if_neg (Nat.not_lt_zero _), if_neg (show ¬ 0 = v + 1 by omega), if_pos rfl]
    rw [e2, yP_A2 hN, eN]
    unfold yP_R
    simp only [if_neg (Nat.not_lt_zero v)]
    by_cases hv : v = 0
    · simp only [if_pos hv.symm, if_pos hv]
      rw [yP_pm, ← yP_ma, yP_mc (yP_p _ t.2.2), yP_ma]
    · simp only [if_neg (Ne.symm hv), if_true]
      rw [yP_pm, ← yP_ma, yP_mc (yP_p _ t.2.2), yP_ma, yP_pa]
  · have e2 : yP_R (v + 1) (yP_R v Q c) t k = yP_p t.2.1 (yP_R v Q c k) := by
      rw [yP_R, if_neg (show ¬ v + 1 < k by omega), if_neg (show ¬ k = v + 1 by omega), if_neg h0]
    rw [e2, yP_A1 hN, eN]
    unfold yP_R
    simp only [if_neg (show ¬ v < k by omega)]
    by_cases hv : k = v
    · simp only [if_pos hv, if_neg (show ¬ v = 0 by omega)]
    · simp only [if_neg hv, if_neg h0, yP_pa]
/-- as a number -/
def yP_s (M : Nat) : Option Nat → Int64
  | none => -1
  | some x => lN (min x M)
theorem zj_m1 {a : Nat} (ha : a < 9223372036854775808) : ¬ lN a = -1 := fun z => zj_nn ha (by rw [z]; decide)
theorem zj_ml {a : Nat} (ha : a < 9223372036854775808) : (-1 : Int64) < lN a := Int64.lt_of_lt_of_le (show (-1 : Int64) < 0 by decide) ((zj_le (a := 0) (by decide) ha).mpr (Nat.zero_le _))
theorem yP_sum (x y : Option Nat) : f_Pv_sum (yP_s 1099511627776 x) (yP_s 1099511627776 y) = yP_s 1099511627776 (yP_p x y) := by
  unfold f_Pv_sum f_Pv_sum_16
  cases x with
  | none => exact if_pos rfl
  | some x =>
    have hx : min x 1099511627776 < 9223372036854775808 := by have : min x 1099511627776 ≤ 1099511627776 := Nat.min_le_right _ _; omega
    rw [if_neg (show ¬ yP_s 1099511627776 (some x) = -1 from zj_m1 hx)]
    cases y with
    | none => exact if_pos rfl
    | some y =>
      have hy : min y 1099511627776 < 9223372036854775808 := by have : min y 1099511627776 ≤ 1099511627776 := Nat.min_le_right _ _; omega
      rw [if_neg (show ¬ yP_s 1099511627776 (some y) = -1 from zj_m1 hy)]
      show zd_minl (lN (min x 1099511627776) + lN (min y 1099511627776)) (1099511627776 : Int64) = lN (min (x + y) 1099511627776)
      unfold zd_minl
      rw [lN_add]
      by_cases z : 1099511627776 < min x 1099511627776 + min y 1099511627776
      · rw [if_pos ((zj_gt (k := 1099511627776) (by decide) (by omega)).mpr z), show min (x + y) 1099511627776 = 1099511627776 by omega]; rfl
      · rw [if_neg (mt (zj_gt (k := 1099511627776) (by decide) (by omega)).mp z), show min (x + y) 1099511627776 = min x 1099511627776 + min y 1099511627776 by omega]
theorem yP_mx {M : Nat} (hM : M < 9223372036854775808) (x y : Option Nat) : zd_maxl (yP_s M x) (yP_s M y) = yP_s M (yP_m x y) := by
  have hb : ∀ x, min x M < 9223372036854775808 := fun x => Nat.lt_of_le_of_lt (Nat.min_le_right _ _) hM
  unfold zd_maxl
  cases x with
  | none =>
    cases y with
    | none => exact ite_self _
    | some y => exact if_neg (show ¬ lN (min y M) < -1 from fun z => zj_nn (hb y) (Int64.lt_trans z (by decide)))
  | some x =>
    cases y with
    | none => exact if_pos (zj_ml (hb x))
    | some y =>
      show (if lN (min y M) < lN (min x M) then lN (min x M) else lN (min y M)) = lN (min (max x y) M)
      by_cases z : min y M < min x M
      · rw [if_pos ((zj_lt (hb y) (hb x)).mpr z), show min (max x y) M = min x M by omega]
      · rw [if_neg (mt (zj_lt (hb y) (hb x)).mp z), show min (max x y) M = min y M by omega]
theorem zj_tl {k t : Nat} (hk : k < 9223372036854775808) (ht : t < 9223372036854775808) : lN t < (OfNat.ofNat k : Int64) ↔ t < k := zj_lt ht hk
theorem yP_minG (a : Nat) (ha : a < 9223372036854775808) : zd_minl (1000000000000 : Int64) (lN a) = lN (min a 1000000000000) := by
  unfold zd_minl
  by_cases z : a < 1000000000000
  · rw [if_pos ((zj_tl (k := 1000000000000) (by decide) ha).mpr z), show min a 1000000000000 = a by omega]
  · rw [if_neg (mt (zj_tl (k := 1000000000000) (by decide) ha).mp z), show min a 1000000000000 = 1000000000000 by omega]; rfl
theorem yP_more {w : Nat} (hw : w ≤ 2000000000) (y : Option Nat) : f_Mo_more (lN w) (yP_s 1000000000000 y) = yP_s 1000000000000 (yP_p (some w) y) := by
  unfold f_Mo_more
  cases y with
  | none => exact if_neg (show ¬ (0 : Int64) ≤ -1 by decide)
  | some y =>
    have hy : min y 1000000000000 ≤ 1000000000000 := Nat.min_le_right _ _
    rw [if_pos (show (0 : Int64) ≤ yP_s 1000000000000 (some y) from (zj_le (a := 0) (by decide) (by omega)).mpr (Nat.zero_le _))]
    show zd_minl (1000000000000 : Int64) (lN w + lN (min y 1000000000000)) = lN (min (w + y) 1000000000000)
    rw [lN_add, yP_minG _ (by omega), show min (w + min y 1000000000000) 1000000000000 = min (w + y) 1000000000000 by omega]
theorem yP_sat (k O I G : Nat) : min (k * min O G + min I G) G = min (k * O + I) G := by
  by_cases hk : k = 0
  · subst hk; rw [Nat.zero_mul, Nat.zero_mul]; omega
  by_cases hO : O ≤ G
  · rw [Nat.min_eq_left hO]; omega
  · have h1 : G ≤ k * G := Nat.le_mul_of_pos_left G (by omega)
    have h2 : O ≤ k * O := Nat.le_mul_of_pos_left O (by omega)
    rw [Nat.min_eq_right (show G ≤ O by omega)]
    omega
end
section
/-! The prover: the class's sums. -/
/-- how many steps an instruction takes: B u of unit u's beginning -/
def yP_w (B : Nat → Nat) (i : yI) : Nat := if i.1 = 15 ∨ i.1 = 16 then B i.2.1.toNatClampNeg else 1
def yP_L (B : Nat → Nat) : List yI → yP3 → yP3
  | [], c => c
  | i :: L, c => yP_a (yP_w B i) (yP_L B L c)
/-- from the beginning of T on: c from its end on, E from behind a choice on -/
def yP_T (B : Nat → Nat) : ys → yP3 → yP3 → yP3
  | .leaf, _, c => c
  | .inner k p _ l r, E, c =>
    if k = 0 then yP_L B p.1 (yP_T B r E c)
    else if k = 1 then yP_T B l (yP_T B r E c) (yP_T B r E c)
    else if k = 2 then yP_a 1 (yP_N p.2.2.toNatClampNeg (yP_T B l (none, none, none) (some 1, none, none)) (yP_T B r E c))
    else if k = 3 then (none, some 1, none)
    else if k = 4 then (none, none, some 1)
    else if k = 5 then yP_L B p.1 (yP_a 1 (yP_x (yP_T B l (none, none, none) (if yz_f r = true then yP_T B r E c else yP_a 1 E)) (yP_T B r E c)))
    else yP_T B l (none, none, none) (yP_T B r E c)
/-- code lies at n -/
def yP_K (h : zs_H) (n : Nat) (L : List yI) : Prop := ∀ k i, L[k]? = some i → yC_m h (n + k) i
def yP_at (h : zs_H) (j : Nat) (c : yP3) : Prop := h.2.2 54 j = yP_s 1099511627776 c.1 ∧ h.2.2 55 j = yP_s 1099511627776 c.2.1 ∧ h.2.2 56 j = yP_s 1099511627776 c.2.2
/-- what stays -/
def yP_fr (lo hi v : Nat) (h h' : zs_H) : Prop := (∀ a b, h'.1 a b = h.1 a b) ∧ (∀ a j, (a = 57 → j < v) → h'.2.1 a j = h.2.1 a j) ∧ (∀ a j, ¬ a ∈ [54, 55, 56] ∨ j < lo ∨ hi ≤ j → h'.2.2 a j = h.2.2 a j)
theorem yP_fr0 {lo hi v : Nat} {h : zs_H} : yP_fr lo hi v h h := ⟨fun _ _ => rfl, fun _ _ _ => rfl, fun _ _ _ => rfl⟩
theorem yP_frt {lo hi v lo1 hi1 v1 lo2 hi2 v2 : Nat} {h h1 h2 : zs_H} (a : yP_fr lo1 hi1 v1 h h1) (b : yP_fr lo2 hi2 v2 h1 h2) (l1 : lo ≤ lo1) (l2 : hi1 ≤ hi) (l3 : v ≤ v1) (m1 : lo ≤ lo2) (m2 : hi2 ≤ hi) (m3 : v ≤ v2) : yP_fr lo hi v h h2 := by
  refine ⟨fun x y => (b.1 x y).trans (a.1 x y), fun x j q => (b.2.1 x j (fun z => by have := q z; omega)).trans (a.2.1 x j (fun z => by have := q z; omega)), fun x j q => ?_⟩
  have q1 : ¬ x ∈ [54, 55, 56] ∨ j < lo1 ∨ hi1 ≤ j := by rcases q with q | q | q; exact .inl q; exact .inr (.inl (by omega)); exact .inr (.inr (by omega))
  have q2 : ¬ x ∈ [54, 55, 56] ∨ j < lo2 ∨ hi2 ≤ j := by rcases q with q | q | q; exact .inl q; exact .inr (.inl (by omega)); exact .inr (.inr (by omega))
  exact (b.2.2 x j q2).trans (a.2.2 x j q1)
section YPC
variable {h h' : zs_H} {B : Nat → Nat} {n j s N v lo hi : Nat} {c d : yP3} {L L1 L2 : List yI}
theorem yP_Kf (f : yP_fr lo hi v h h') (K : yP_K h n L) : yP_K h' n L := by
  intro k i e
  have q := K k i e
  unfold yC_m at q ⊢
  rw [f.2.1 _ _ (by intro z; cases z), f.2.1 _ _ (by intro z; cases z), f.2.1 _ _ (by intro z; cases z), f.2.1 _ _ (by intro z; cases z)]
  exact q
theorem yP_Kl (K : yP_K h n (L1 ++ L2)) : yP_K h n L1 := by
  intro k i e
  refine K k i ?_
  rw [List.getElem?_append_left (by
    rcases Nat.lt_or_ge k L1.length with z | z
    · exact z
    · rw [List.getElem?_eq_none z] at e; cases e)]
  exact e
theorem yP_Kr (K : yP_K h n (L1 ++ L2)) : yP_K h (n + L1.length) L2 := by
  intro k i e
  have := K (L1.length + k) i (by rw [List.getElem?_append_right (Nat.le_add_right _ _), Nat.add_sub_cancel_left]; exact e)
  rwa [← Nat.add_assoc] at this
theorem yP_atf (f : yP_fr lo hi v h h') (q : j < lo ∨ hi ≤ j) (a : yP_at h j c) : yP_at h' j c := by
  unfold yP_at at a ⊢
  rw [f.2.2 _ _ (.inr q), f.2.2 _ _ (.inr q), f.2.2 _ _ (.inr q)]
  exact a
theorem yP_tell (hj : j < 4001) : ∃ h', f_Pv_tell h (nI j) (yP_s 1099511627776 c.1) (yP_s 1099511627776 c.2.1) (yP_s 1099511627776 c.2.2) = some h' ∧ yP_at h' j c ∧ yP_fr j (j + 1) v h h' := by
  unfold f_Pv_tell
  rw [if_pos (zi_in (by omega) hj), nI_clamp (by omega)]
  refine ⟨_, rfl, ⟨?_, ?_, ?_⟩, fun _ _ => rfl, fun _ _ _ => rfl, fun a k q => ?_⟩
  · rw [zu_LL, if_neg (fun z => absurd z.1 (by decide)), zu_LL, if_neg (fun z => absurd z.1 (by decide)), zu_LL, if_pos ⟨rfl, rfl⟩]
  · rw [zu_LL, if_neg (fun z => absurd z.1 (by decide)), zu_LL, if_pos ⟨rfl, rfl⟩]
  · rw [zu_LL, if_pos ⟨rfl, rfl⟩]
  · have q' : ∀ x, x ∈ [54, 55, 56] → ¬ (a = x ∧ k = j) := fun x hx z => by
      rcases q with q | q
      · exact q (by rw [z.1]; exact hx)
      · omega
    rw [zu_LL, if_neg (q' 56 (by decide)), zu_LL, if_neg (q' 55 (by decide)), zu_LL, if_neg (q' 54 (by decide))]
theorem yP_aft {w t : Nat} (hj : j < 4001) (ht : t < 4001) (hw : w ≤ 2000000000) (a : yP_at h t c) : ∃ h', f_Pv_proveAfter h (nI j) (lN w) (nI t) = some h' ∧ yP_at h' j (yP_a w c) ∧ yP_fr j (j + 1) v h h' := by
  obtain ⟨h', e1, e2, e3⟩ := yP_tell (h := h) (v := v) (c := yP_a w c) hj
  refine ⟨h', ?_, e2, e3⟩
  have ew : lN w = yP_s 1099511627776 (some w) := by show lN w = lN (min w 1099511627776); rw [Nat.min_eq_left (by omega)]
  unfold f_Pv_proveAfter
  rw [if_pos (zi_in (by omega) ht), nI_clamp (by omega), a.1, a.2.1, a.2.2, ew, yP_sum, yP_sum, yP_sum, Option.bind_fun_some]
  exact e1
/-- what the class does at an instruction -/
def yP_d (h : zs_H) (j : Nat) : Option zs_H := if (h.2.1 42) j = 10 then f_Pv_proveGo h (nI j) else if (h.2.1 42) j = 11 then f_Pv_proveUnless h (nI j) else if (h.2.1 42) j = 13 then f_Pv_proveNext h (nI j) else if (h.2.1 42) j = 14 then f_Pv_proveBack h (nI j) else if (h.2.1 42) j = 15 ∨ (h.2.1 42) j = 16 then (if zd_in ((h.2.1 43) j) 16 then f_Pv_proveAfter h (nI j) ((1 : Int64) + (h.2.1 52 ((h.2.1 43) j).toNatClampNeg).toInt64) (nI (j + 1)) else none) else if (h.2.1 42) j = 18 then f_Pv_tell h (nI j) (-1) (-1) 1 else f_Pv_proveAfter h (nI j) 1 (nI (j + 1))
theorem yP_step (hs : s ≤ j) (hj : j < 4000) (e : yP_d h j = some h') : f_Pv_longest_L21 (N + 1) h (nI s) (nI (j + 1) - 1) = f_Pv_longest_L21 N h' (nI s) (nI j - 1) := by
  show f_Pv_longest_21 (f_Pv_longest_L21 N) h (nI s) (nI (j + 1) - 1) = _
  have e1 : nI (j + 1) - 1 = nI j := zi_sub (b := 1) (by omega)
  have e2 : nI j + (-1) = nI j - 1 := (Int32.sub_eq_add_neg _ _).symm
  unfold yP_d at e
  unfold f_Pv_longest_21 f_Pv_longest_168
  rw [e1, if_neg (mt (nI_ltI (by omega) (by omega)).mp (by omega)), if_pos (zi_in (by omega) hj), nI_clamp (by omega), e2, show nI j + 1 = nI (j + 1) from zc_ad 1 j]
  by_cases a : (h.2.1 42) j = 10
  · rw [if_pos a] at e ⊢; rw [e]; rfl
  rw [if_neg a] at e ⊢
  by_cases a : (h.2.1 42) j = 11
  · rw [if_pos a] at e ⊢; rw [e]; rfl
  rw [if_neg a] at e ⊢
  by_cases a : (h.2.1 42) j = 13
  · rw [if_pos a] at e ⊢; rw [e]; rfl
  rw [if_neg a] at e ⊢
  by_cases a : (h.2.1 42) j = 14
  · rw [if_pos a] at e ⊢; rw [e]; rfl
  rw [if_neg a] at e ⊢
  by_cases a : (h.2.1 42) j = 15
  · rw [if_pos (.inl a)] at e
    rw [if_pos a]
    by_cases z : zd_in ((h.2.1 43) j) 16
    · rw [if_pos z] at e ⊢; rw [e]; rfl
    · rw [if_neg z] at e; cases e
  rw [if_neg a]
  by_cases a' : (h.2.1 42) j = 16
  · rw [if_pos (.inr a')] at e
    rw [if_pos a']
    by_cases z : zd_in ((h.2.1 43) j) 16
    · rw [if_pos z] at e ⊢; rw [e]; rfl
    · rw [if_neg z] at e; cases e
  rw [if_neg (fun z => z.elim a a')] at e
  rw [if_neg a']
  by_cases a : (h.2.1 42) j = 18
  · rw [if_pos a] at e ⊢; rw [e]; rfl
  rw [if_neg a] at e ⊢
  rw [e]; rfl
/-- instructions of straight code -/
def yP_o (b : Nat) (i : yI) : Prop := (i.1 < 10 ∨ i.1 = 12 ∨ i.1 = 15 ∨ i.1 = 16 ∨ i.1 = 17) ∧ (i.1 = 15 ∨ i.1 = 16 → ∃ u, i.2.1 = nI u ∧ u < b)
def yP_B (B : Nat → Nat) (b : Nat) (h : zs_H) : Prop := ∀ u, u < b → B u ≤ 1000000001 ∧ (1 : Int64) + (h.2.1 52 u).toInt64 = lN (B u)
theorem yP_Bf {bb : Nat} (b : yP_B B bb h) (f : yP_fr lo hi v h h') : yP_B B bb h' := by
  intro u hu
  rw [f.2.1 _ _ (by intro z; cases z)]
  exact b u hu
theorem yP_one {i : yI} {bb : Nat} (hbb : bb ≤ 16) (hj : j < 4000) (b : yP_B B bb h) (m : yC_m h j i) (o : yP_o bb i) (a : yP_at h (j + 1) c) : ∃ h', yP_d h j = some h' ∧ yP_at h' j (yP_a (yP_w B i) c) ∧ yP_fr j (j + 1) v h h' := by
  obtain ⟨m1, m2, _, _⟩ := m
  obtain ⟨o1, o2⟩ := o
  have hi : i.1 < 2147483648 := by omega
  have ne : ∀ k : Nat, k < 19 → ¬ i.1 = k → ¬ (h.2.1 42) j = (OfNat.ofNat k : Int32) := fun k hk z q => z ((zc_eq (k := k) (by omega) hi).mp (by rw [← m1]; exact q))
  unfold yP_d
  rw [if_neg (ne 10 (by decide) (by omega)), if_neg (ne 11 (by decide) (by omega)), if_neg (ne 13 (by decide) (by omega)), if_neg (ne 14 (by decide) (by omega))]
  by_cases z : i.1 = 15 ∨ i.1 = 16
  · obtain ⟨u, u1, u2⟩ := o2 z
    have z' : (h.2.1 42) j = 15 ∨ (h.2.1 42) j = 16 := by
      rcases z with z | z
      · left; rw [m1, z]; rfl
      · right; rw [m1, z]; rfl
    have ew : yP_w B i = B u := by
      unfold yP_w
      rw [if_pos z, u1, nI_clamp (by omega)]
    rw [if_pos z', m2, u1, if_pos (zi_in (by omega) (by omega)), nI_clamp (by omega), (b u u2).2, ew]
    exact yP_aft (by omega) (by omega) (by have := (b u u2).1; omega) a
  · have ew : yP_w B i = 1 := by unfold yP_w; rw [if_neg z]
    rw [if_neg (fun q => q.elim (ne 15 (by decide) (fun y => z (.inl y))) (ne 16 (by decide) (fun y => z (.inr y)))), if_neg (ne 18 (by decide) (by omega)), ew]
    exact yP_aft (w := 1) (by omega) (by omega) (by omega) a
theorem yP_str {bb : Nat} (hbb : bb ≤ 16) : ∀ (L : List yI) (n : Nat) (h : zs_H), s ≤ n → n + L.length ≤ 4000 → (∀ i, i ∈ L → yP_o bb i) → yP_B B bb h → yP_K h n L → yP_at h (n + L.length) c → ∃ h', (∀ N, f_Pv_longest_L21 (N + L.length) h (nI s) (nI (n + L.length) - 1) = f_Pv_longest_L21 N h' (nI s) (nI n - 1)) ∧ yP_at h' n (yP_L B L c) ∧ yP_fr n (n + L.length) v h h' := by
  intro L
  induction L with
  | nil => intro n h _ _ _ _ _ a; exact ⟨h, fun _ => rfl, a, yP_fr0⟩
  | cons i L ih =>
    intro n h hs hn ho b K a
    have el : n + (i :: L).length = n + 1 + L.length := by rw [List.length_cons]; omega
    rw [el] at hn a
    obtain ⟨h1, e1, e2, e3⟩ := ih (n + 1) h (by omega) hn (fun j hj => ho j (List.mem_cons_of_mem _ hj)) b (yP_Kr (L1 := [i]) K) a
    have m := yP_Kf e3 K 0 i rfl
    obtain ⟨h2, d1, d2, d3⟩ := yP_one hbb (B := B) (c := yP_L B L c) (v := v) (by omega) (yP_Bf b e3) m (ho i (List.mem_cons_self ..)) e2
    refine ⟨h2, fun N => ?_, d2, ?_⟩
    · rw [el, show N + (i :: L).length = (N + 1) + L.length by rw [List.length_cons]; omega, e1 (N + 1)]
      exact yP_step hs (by omega) d1
    · rw [el]
      exact yP_frt e3 d3 (by omega) (by omega) (Nat.le_refl _) (by omega) (by omega) (Nat.le_refl _)
end YPC
end
section
/-! The prover: the class's sums of jumps and loops. -/
section YPD
variable {h h' : zs_H} {B X Y : Nat → Nat} {kb : Nat → yK} {n j s N v lo hi b : Nat} {c d : yP3} {L : List yI}
theorem yP_io {i : yI} (hb : b ≤ 16) (H : yo_i X (fun u => (kb u).1 = 1) b i) : yP_o b i := by
  rcases H with H | H | ⟨H, _⟩ | ⟨H, _⟩ | ⟨H, _⟩ | ⟨H, _⟩ | ⟨H, _⟩ | ⟨H, _⟩ | ⟨H, u, u1, u2, _⟩
  all_goals first | exact ⟨.inl (by omega), fun z => by omega⟩ | exact ⟨by omega, fun _ => ⟨u, u1, by omega⟩⟩
theorem yP_wo {i : yI} {lo : Nat} (hb : b ≤ 16) (H : yw_i X Y kb b lo i) : yP_o b i := by
  rcases H with H | ⟨H, _⟩ | ⟨H, _⟩ | ⟨H, u, x, u1, _, u2, _⟩ | ⟨H, _⟩
  · exact yP_io hb H
  · exact ⟨.inl (by omega), fun z => by omega⟩
  · exact ⟨.inl (by omega), fun z => by omega⟩
  · exact ⟨by omega, fun _ => ⟨u, u1, by omega⟩⟩
  · exact ⟨by omega, fun z => by omega⟩
theorem yP_leave {i : yI} (hj : j < 4000) (m : yC_m h j i) (hi : i.1 = 18) : ∃ h', yP_d h j = some h' ∧ yP_at h' j (none, none, some 1) ∧ yP_fr j (j + 1) v h h' := by
  have e : (h.2.1 42) j = 18 := by rw [m.1, hi]; rfl
  unfold yP_d
  rw [e, if_neg (by decide), if_neg (by decide), if_neg (by decide), if_neg (by decide), if_neg (by decide), if_pos rfl]
  exact yP_tell (c := (none, none, some 1)) (by omega)
theorem yP_go {i : yI} {e : Nat} (hj : j < 4000) (m : yC_m h j i) (hi : i.1 = 10) (ha : i.2.1 = nI e) (he : e ≤ 4000) (hl : (h.1 51 7) = nI v) (hv : v ≤ 200) (hb : 0 < v → ∃ bk, h.2.1 57 (v - 1) = nI bk ∧ e ≤ bk ∧ bk < 2147483648) (a : yP_at h e c) : ∃ h', yP_d h j = some h' ∧ yP_at h' j (yP_a 1 c) ∧ yP_fr j (j + 1) v h h' := by
  have eo : (h.2.1 42) j = 10 := by rw [m.1, hi]; rfl
  have ea : (h.2.1 43) j = nI e := m.2.1.trans ha
  obtain ⟨h', e1, e2, e3⟩ := yP_aft (h := h) (w := 1) (v := v) (show j < 4001 by omega) (show e < 4001 by omega) (by omega) a
  refine ⟨h', ?_, e2, e3⟩
  have e45 : f_Pv_proveGo_45 h (nI j) = some h' := by
    unfold f_Pv_proveGo_45
    rw [if_pos (zi_in (by omega) hj), nI_clamp (by omega), ea, Option.bind_fun_some]
    exact e1
  unfold yP_d f_Pv_proveGo
  rw [eo, if_pos rfl, hl]
  by_cases z : v = 0
  · rw [if_pos ((zc_el (k := 0) (by decide) (by omega)).mpr (by omega)), e45]
  · obtain ⟨bk, b1, b2, b3⟩ := hb (by omega)
    rw [if_neg (mt (zc_el (k := 0) (by decide) (by omega)).mp (by omega)), if_pos (zi_in (by omega) hj), show nI v - 1 = nI (v - 1) from zi_sub (b := 1) (by omega), if_pos (zi_in (by omega) (by omega)), nI_clamp (n := j) (by omega), nI_clamp (n := v - 1) (by omega), ea, b1, if_pos ((nI_leI (by omega) (by omega)).mpr b2), e45]
theorem yP_exit {i : yI} {q bk : Nat} (hj : j < 4000) (m : yC_m h j i) (hi : i.1 = 10) (ha : i.2.1 = nI q) (hl : (h.1 51 7) = nI v) (hv : v ≤ 200) (hv0 : 0 < v) (b1 : h.2.1 57 (v - 1) = nI bk) (b2 : bk < q) (hq : q < 2147483648) : ∃ h', yP_d h j = some h' ∧ yP_at h' j (none, some 1, none) ∧ yP_fr j (j + 1) v h h' := by
  have eo : (h.2.1 42) j = 10 := by rw [m.1, hi]; rfl
  have ea : (h.2.1 43) j = nI q := m.2.1.trans ha
  unfold yP_d f_Pv_proveGo
  rw [eo, if_pos rfl, hl, if_neg (mt (zc_el (k := 0) (by decide) (by omega)).mp (by omega)), if_pos (zi_in (by omega) hj), show nI v - 1 = nI (v - 1) from zi_sub (b := 1) (by omega), if_pos (zi_in (by omega) (by omega)), nI_clamp (n := j) (by omega), nI_clamp (n := v - 1) (by omega), ea, b1, if_neg (mt (nI_leI (by omega) (by omega)).mp (by omega)), Option.bind_fun_some]
  exact yP_tell (c := (none, some 1, none)) (by omega)
theorem yP_unl {i : yI} {t : Nat} (hj : j < 4000) (m : yC_m h j i) (hi : i.1 = 11) (ha : i.2.1 = nI t) (ht : t ≤ 4000) (a : yP_at h (j + 1) c) (a2 : yP_at h t d) : ∃ h', yP_d h j = some h' ∧ yP_at h' j (yP_a 1 (yP_x c d)) ∧ yP_fr j (j + 1) v h h' := by
  have eo : (h.2.1 42) j = 11 := by rw [m.1, hi]; rfl
  have ea : (h.2.1 43) j = nI t := m.2.1.trans ha
  obtain ⟨h', e1, e2, e3⟩ := yP_tell (h := h) (v := v) (c := yP_a 1 (yP_x c d)) (show j < 4001 by omega)
  refine ⟨h', ?_, e2, e3⟩
  unfold yP_d f_Pv_proveUnless
  rw [eo, if_neg (by decide), if_pos rfl, if_pos (zi_in (by omega) hj), show nI j + 1 = nI (j + 1) from zc_ad 1 j, if_pos (zi_in (by omega) (by omega)), nI_clamp (n := j) (by omega), ea, if_pos (zi_in (by omega) (by omega)), nI_clamp (n := j + 1) (by omega), nI_clamp (n := t) (by omega), a.1, a.2.1, a.2.2, a2.1, a2.2.1, a2.2.2, yP_mx (by decide), yP_mx (by decide), yP_mx (by decide), show (1 : Int64) = yP_s 1099511627776 (some 1) from rfl, yP_sum, yP_sum, yP_sum, Option.bind_fun_some]
  exact e1
theorem yP_back {i : yI} (hj : j < 4000) (m : yC_m h j i) (hi : i.1 = 14) (hl : (h.1 51 7) = nI v) (hv : v ≤ 200) : ∃ h1 h', yP_d h j = some h' ∧ h1 = zs_uF (zs_uM h 57 v (nI j)) 51 7 (nI (v + 1)) ∧ yP_at h' j (some 1, none, none) ∧ yP_fr j (j + 1) (v + 1) h1 h' := by
  have eo : (h.2.1 42) j = 14 := by rw [m.1, hi]; rfl
  obtain ⟨h', e1, e2, e3⟩ := yP_tell (h := zs_uF (zs_uM h 57 v (nI j)) 51 7 (nI (v + 1))) (v := v + 1) (c := (some 1, none, none)) (show j < 4001 by omega)
  refine ⟨_, h', ?_, rfl, e2, e3⟩
  unfold yP_d f_Pv_proveBack f_Pv_proveBack_32
  rw [eo, if_neg (by decide), if_neg (by decide), if_neg (by decide), if_pos rfl, hl, if_neg (mt (zc_le (k := 240) (by decide) (by omega)).mp (by omega)), if_pos (zi_in (by omega) (by omega)), nI_clamp (by omega), show nI v + 1 = nI (v + 1) from zc_ad 1 v, Option.bind_fun_some]
  exact e1
theorem zj_32 {a : Nat} (ha : a < 2147483648) : (nI a).toInt64 = lN a := by
  apply Int64.toInt.inj
  rw [Int32.toInt_toInt64]
  show (Int32.ofNat a).toInt = (Int64.ofNat a).toInt
  rw [Int32.toInt_ofNat_of_lt ha, Int64.toInt_ofNat_of_lt (by omega)]
theorem yP_bef {x : Option Nat} {M : Nat} (hN : ¬ M = 0) (hM : M ≤ 1000000) (hx : ¬ yP_s 1099511627776 x = -1) : zd_minl (((nI M - 1).toInt64) * yP_s 1099511627776 x) (1099511627776 : Int64) = yP_s 1099511627776 (some (yP_b M x)) := by
  cases x with
  | none => exact absurd rfl hx
  | some x =>
    have h1 : min x 1099511627776 ≤ 1099511627776 := Nat.min_le_right _ _
    have h2 : (M - 1) * min x 1099511627776 ≤ 1000000 * 1099511627776 := Nat.mul_le_mul (by omega) h1
    rw [show nI M - 1 = nI (M - 1) from zi_sub (b := 1) (by omega), zj_32 (by omega)]
    show zd_minl (lN (M - 1) * lN (min x 1099511627776)) (1099511627776 : Int64) = lN (min ((M - 1) * x) 1099511627776)
    have h3 := yP_sat (M - 1) x 0 1099511627776
    rw [Nat.zero_min, Nat.add_zero, Nat.add_zero] at h3
    unfold zd_minl
    rw [lN_mul, ← h3]
    by_cases z : 1099511627776 < (M - 1) * min x 1099511627776
    · rw [if_pos ((zj_gt (k := 1099511627776) (by decide) (by omega)).mpr z), show min ((M - 1) * min x 1099511627776) 1099511627776 = 1099511627776 by omega]; rfl
    · rw [if_neg (mt (zj_gt (k := 1099511627776) (by decide) (by omega)).mp z), Nat.min_eq_left (Nat.not_lt.mp z)]
theorem yP_next {i i0 : yI} {t M : Nat} (hj : j + 1 < 4000) (m0 : yC_m h j i0) (m : yC_m h (j + 1) i) (hi : i.1 = 13) (ha : i.2.1 = nI t) (hb : i0.2.2.1 = nI M) (hM : M ≤ 1000000) (ht : t ≤ 4000) (hl : (h.1 51 7) = nI (v + 1)) (hv : v ≤ 200) (a : yP_at h (j + 2) c) (a2 : yP_at h t d) : ∃ h1 h', yP_d h (j + 1) = some h' ∧ h1 = zs_uF h 51 7 (nI v) ∧ yP_at h' (j + 1) (yP_N M c d) ∧ yP_fr (j + 1) (j + 2) v h1 h' := by
  have eo : (h.2.1 42) (j + 1) = 13 := by rw [m.1, hi]; rfl
  have ea : (h.2.1 43) (j + 1) = nI t := m.2.1.trans ha
  have eb : (h.2.1 44) j = nI M := m0.2.2.1.trans hb
  have a' : yP_at (zs_uF h 51 7 (nI v)) t d := a2
  have s1 : ∀ x, f_Pv_sum 1 (yP_s 1099511627776 x) = yP_s 1099511627776 (yP_p (some 1) x) := fun x => yP_sum (some 1) x
  have s2 : ∀ x, f_Pv_sum (yP_s 1099511627776 x) 1 = yP_s 1099511627776 (yP_p x (some 1)) := fun x => yP_sum x (some 1)
  unfold yP_d f_Pv_proveNext
  rw [eo, if_neg (by decide), if_neg (by decide), if_pos rfl, if_pos (zi_in (by omega) hj), show nI (j + 1) - 1 = nI j from zi_sub (b := 1) (by omega), if_pos (zi_in (by omega) (by omega)), nI_clamp (n := j) (by omega), eb, hl, show nI (v + 1) - 1 = nI v from zi_sub (b := 1) (by omega), nI_clamp (n := j + 1) (by omega), ea]
  by_cases z : M = 0
  · obtain ⟨h', e1, e2, e3⟩ := yP_aft (h := zs_uF h 51 7 (nI v)) (w := 1) (v := v) (show j + 1 < 4001 by omega) (show t < 4001 by omega) (by omega) a'
    refine ⟨_, h', ?_, rfl, ?_, e3⟩
    · rw [if_pos (by rw [z]; rfl), Option.bind_fun_some]
      exact e1
    · unfold yP_N
      rw [if_pos z]; exact e2
  · obtain ⟨h', e1, e2, e3⟩ := yP_tell (h := zs_uF h 51 7 (nI v)) (v := v) (c := yP_N M c d) (show j + 1 < 4001 by omega)
    refine ⟨_, h', ?_, rfl, e2, e3⟩
    have e84 : f_Pv_proveNext_84 (zs_uF h 51 7 (nI v)) (nI (j + 1)) (nI t) (yP_s 1099511627776 (yP_p (some 1) c.1)) (yP_s 1099511627776 (some (yP_b M (yP_p (some 1) c.1)))) = some h' := by
      unfold f_Pv_proveNext_84
      have l1 : ∀ x : Nat, x < 1099511627776 → ∀ y, yP_p (some x) (some y) = some (x + y) := fun _ _ _ => rfl
      rw [show nI (j + 1) + 1 = nI (j + 2) from zc_ad 1 (j + 1), if_pos (zi_in (by omega) (by omega)), if_pos (zi_in (by omega) (by omega)), nI_clamp (n := j + 2) (by omega), nI_clamp (n := t) (by omega)]
      have b1 : (zs_uF h 51 7 (nI v)).2.2 55 (j + 2) = yP_s 1099511627776 c.2.1 := a.2.1
      have b2 : (zs_uF h 51 7 (nI v)).2.2 56 (j + 2) = yP_s 1099511627776 c.2.2 := a.2.2
      rw [b1, b2, a'.1, a'.2.1, a'.2.2]
      simp only [s2, yP_sum, yP_mx (M := 1099511627776) (by decide), Option.bind_fun_some]
      unfold yP_N at e1
      rw [if_neg z] at e1
      exact e1
    rw [if_neg (mt (zc_eq (k := 0) (by decide) (by omega)).mp z), show nI (j + 1) + 1 = nI (j + 2) from zc_ad 1 (j + 1), if_pos (zi_in (by omega) (by omega)), nI_clamp (n := j + 2) (by omega), a.1, s1]
    by_cases q : yP_s 1099511627776 (yP_p (some 1) c.1) = -1
    · rw [if_pos q]
      have : yP_s 1099511627776 (some (yP_b M (yP_p (some 1) c.1))) = 0 := by
        have : yP_p (some 1) c.1 = none := by
          cases hc : c.1 with
          | none => rfl
          | some x =>
            rw [hc] at q
            exact absurd q (zj_m1 (Nat.lt_of_le_of_lt (Nat.min_le_right _ _) (by decide)))
        rw [this]; rfl
      rw [this] at e84
      exact e84
    · rw [if_neg q, yP_bef z hM q]
      exact e84
end YPD
end
section
/-! The prover: the class's sums of all statements. -/
section YPE
variable {B X Y : Nat → Nat} {kb : Nat → yK} {b : Nat}
def yP_sc (h h' : zs_H) (s n m : Nat) : Prop := ∀ N, f_Pv_longest_L21 (N + m) h (nI s) (nI (n + m) - 1) = f_Pv_longest_L21 N h' (nI s) (nI n - 1)
theorem yP_sct {h h1 h2 : zs_H} {s n m1 m2 m : Nat} (a : yP_sc h h1 s (n + m1) m2) (b : yP_sc h1 h2 s n m1) (e : m = m1 + m2) : yP_sc h h2 s n m := by
  intro N
  rw [e, show N + (m1 + m2) = (N + m1) + m2 by omega, show n + (m1 + m2) = n + m1 + m2 by omega, a (N + m1), b N]
theorem yP_sc1 {h h' : zs_H} {s n : Nat} (hs : s ≤ n) (hn : n < 4000) (e : yP_d h n = some h') : yP_sc h h' s n 1 := fun _ => yP_step hs hn e
/-- where the loop around ends -/
def yP_bk (h : zs_H) (m v q e n : Nat) : Prop := 0 < v → ∃ bk, h.2.1 57 (v - 1) = nI bk ∧ n ≤ bk ∧ bk < q ∧ (m = 1 → e ≤ bk) ∧ q ≤ 4000
theorem yP_bkf {h h' : zs_H} {m v q e n n' lo hi : Nat} (f : yP_fr lo hi v h h') (a : yP_bk h m v q e n) (hn : n' ≤ n) : yP_bk h' m v q e n' := by
  intro hv
  obtain ⟨bk, b1, b2, b3, b4, b5⟩ := a hv
  exact ⟨bk, by rw [f.2.1 _ _ (fun _ => by omega)]; exact b1, by omega, b3, b4, b5⟩
theorem yP_TC (hb : b ≤ 16) : ∀ (T : ys) (m n v q e lo s : Nat) (E c : yP3) (h : zs_H), ((m = 0 ∧ yz_st T) ∨ (m = 1 ∧ yz_br T)) → yz_W X Y kb b T lo → s ≤ n → n + yz_l T ≤ 4000 → v + yz_v T ≤ 100 → yP_B B b h → yP_K h n ((yz_c T n v q e).map Prod.fst) → (h.1 51 7) = nI v → (v = 0 → yz_x T n = []) → yP_bk h m v q e (n + yz_l T) → (m = 1 → n + yz_l T ≤ e ∧ e ≤ 4000 ∧ yP_at h e E) → yP_at h (n + yz_l T) c → ∃ h', yP_sc h h' s n (yz_l T) ∧ yP_at h' n (yP_T B T E c) ∧ yP_fr n (n + yz_l T) v h h' := by
  intro T
  induction T with
  | leaf => intro m n v q e lo s E c h _ _ _ _ _ _ _ _ _ _ _ a; exact ⟨h, fun _ => rfl, a, yP_fr0⟩
  | inner k p o l r ihl ihr =>
    intro m n v q e lo s E c h hm ⟨W1, W2⟩ hs hn hv hB K hl hx hbk hE a
    have hr : ((m = 0 ∧ yz_st r) ∨ (m = 1 ∧ yz_br r)) := hm.elim (fun z => .inl ⟨z.1, z.2.2⟩) (fun z => .inr ⟨z.1, z.2.2⟩)
    have hv2 : v + max (if k = 2 then yz_v l + 1 else yz_v l) (yz_v r) ≤ 100 := hv
    have hvr : v + yz_v r ≤ 100 := by omega
    -- what is behind, first
    have rest : ∀ (hd : Nat), yz_l (.inner k p o l r) = hd + yz_l r → yP_K h (n + hd) ((yz_c r (n + hd) v q e).map Prod.fst) → (v = 0 → yz_x r (n + hd) = []) → ∃ h1, yP_sc h h1 s (n + hd) (yz_l r) ∧ yP_at h1 (n + hd) (yP_T B r E c) ∧ yP_fr (n + hd) (n + hd + yz_l r) v h h1 ∧ (h1.1 51 7) = nI v ∧ yP_bk h1 m v q e (n + hd) ∧ (m = 1 → yP_at h1 e E) := by
      intro hd e1 K1 x1
      have e2 : n + yz_l (.inner k p o l r) = n + hd + yz_l r := by rw [e1]; omega
      rw [e2] at hn hbk hE a
      obtain ⟨h1, r1, r2, r3⟩ := ihr m (n + hd) v q e lo s E c h hr W2 (by omega) hn hvr hB K1 hl x1 hbk hE a
      exact ⟨h1, r1, r2, r3, (r3.1 _ _).trans hl, yP_bkf r3 hbk (by omega), fun z => yP_atf r3 (.inr (hE z).1) (hE z).2.2⟩
    by_cases k0 : k = 0
    · subst k0
      have eL : yz_l (.inner 0 p o l r) = p.1.length + yz_l r := rfl
      have K' : yP_K h n (p.1 ++ (yz_c r (n + p.1.length) v q e).map Prod.fst) := by
        have : (yz_c (.inner 0 p o l r) n v q e).map Prod.fst = p.1 ++ (yz_c r (n + p.1.length) v q e).map Prod.fst := by
          show (yv v p.1 ++ yz_c r (n + p.1.length) v q e).map Prod.fst = _
          rw [List.map_append, yv_m]
        rw [← this]; exact K
      obtain ⟨h1, r1, r2, r3, _, _, _⟩ := rest p.1.length eL (yP_Kr K') hx
      rw [eL] at hn ⊢
      obtain ⟨h2, d1, d2, d3⟩ := yP_str hb (B := B) (v := v) (c := yP_T B r E c) (s := s) p.1 n h1 hs (by omega) (fun i hi => yP_wo hb (W1.2 i hi)) (yP_Bf hB r3) (yP_Kf r3 (yP_Kl K')) r2
      exact ⟨h2, yP_sct r1 d1 rfl, d2, yP_frt r3 d3 (by omega) (by omega) (Nat.le_refl _) (by omega) (by omega) (Nat.le_refl _)⟩
    by_cases k1 : k = 1
    · subst k1
      have eL : yz_l (.inner 1 p o l r) = yz_l l + yz_l r := rfl
      have eT : yP_T B (.inner 1 p o l r) E c = yP_T B l (yP_T B r E c) (yP_T B r E c) := rfl
      have K' : yP_K h n ((yz_c l n v q (n + yz_l l)).map Prod.fst ++ (yz_c r (n + yz_l l) v q e).map Prod.fst) := by
        rw [← List.map_append]; exact K
      have Kr := yP_Kr K'
      rw [List.length_map, yz_len] at Kr
      have hx' : v = 0 → yz_x r (n + yz_l l) = [] ∧ yz_x l n = [] := fun z => List.append_eq_nil_iff.mp (hx z)
      obtain ⟨h1, r1, r2, r3, r4, r5, _⟩ := rest (yz_l l) eL Kr (fun z => (hx' z).1)
      rw [eL] at hn ⊢
      have W1' : yz_br l ∧ yz_W X Y kb b l lo := W1
      have hvl : v + yz_v l ≤ 100 := by
        rw [if_neg (by decide)] at hv2; omega
      obtain ⟨h2, d1, d2, d3⟩ := ihl 1 n v q (n + yz_l l) lo s (yP_T B r E c) (yP_T B r E c) h1 (.inr ⟨rfl, W1'.1⟩) W1'.2 hs (by omega) hvl (yP_Bf hB r3) (yP_Kf r3 (yP_Kl K')) r4 (fun z => (hx' z).2) (fun z => by
        obtain ⟨bk, b1, b2, b3, _, b5⟩ := r5 z
        exact ⟨bk, b1, b2, b3, fun _ => b2, b5⟩) (fun _ => ⟨Nat.le_refl _, by omega, r2⟩) r2
      rw [eT]
      exact ⟨h2, yP_sct r1 d1 rfl, d2, yP_frt r3 d3 (by omega) (by omega) (Nat.le_refl _) (by omega) (by omega) (Nat.le_refl _)⟩
    by_cases k2 : k = 2
    · subst k2
      have eL : yz_l (.inner 2 p o l r) = (3 + yz_l l) + yz_l r := rfl
      have eT : yP_T B (.inner 2 p o l r) E c = yP_a 1 (yP_N p.2.2.toNatClampNeg (yP_T B l (none, none, none) (some 1, none, none)) (yP_T B r E c)) := rfl
      obtain ⟨cc, M, w1, w2, w3, w4, w5, w6, w7⟩ := (show ∃ c N, p.2.1 = nI c ∧ p.2.2 = nI N ∧ lo ≤ c ∧ c < X b ∧ N ≤ 1000000 ∧ yz_st l ∧ yz_W X Y kb b l (c + 1) from W1)
      have K' : yP_K h n ([(12, p.2.1, p.2.2, 0)] ++ ([(13, nI (n + (3 + yz_l l)), p.2.1, 0)] ++ ((yz_c l (n + 2) (v + 1) (n + (3 + yz_l l)) 0).map Prod.fst ++ ([(14, nI (n + 1), 0, 0)] ++ (yz_c r (n + (3 + yz_l l)) v q e).map Prod.fst)))) := by
        have : (yz_c (.inner 2 p o l r) n v q e).map Prod.fst = [(12, p.2.1, p.2.2, 0)] ++ ([(13, nI (n + (3 + yz_l l)), p.2.1, 0)] ++ ((yz_c l (n + 2) (v + 1) (n + (3 + yz_l l)) 0).map Prod.fst ++ ([(14, nI (n + 1), 0, 0)] ++ (yz_c r (n + (3 + yz_l l)) v q e).map Prod.fst))) := by
          show ([((12, p.2.1, p.2.2, 0), v)] ++ ([((13, nI (n + (3 + yz_l l)), p.2.1, 0), v)] ++ (yz_c l (n + 2) (v + 1) (n + (3 + yz_l l)) 0 ++ ([((14, nI (n + 1), 0, 0), v + 1)] ++ yz_c r (n + (3 + yz_l l)) v q e)))).map Prod.fst = _
          rw [List.map_append, List.map_append, List.map_append, List.map_append]; rfl
        rw [← this]; exact K
      have pieces : ∀ h : zs_H, yP_K h n ([(12, p.2.1, p.2.2, 0)] ++ ([(13, nI (n + (3 + yz_l l)), p.2.1, 0)] ++ ((yz_c l (n + 2) (v + 1) (n + (3 + yz_l l)) 0).map Prod.fst ++ ([(14, nI (n + 1), 0, 0)] ++ (yz_c r (n + (3 + yz_l l)) v q e).map Prod.fst)))) → yC_m h n (12, p.2.1, p.2.2, 0) ∧ yC_m h (n + 1) (13, nI (n + (3 + yz_l l)), p.2.1, 0) ∧ yP_K h (n + 2) ((yz_c l (n + 2) (v + 1) (n + (3 + yz_l l)) 0).map Prod.fst) ∧ yC_m h (n + 2 + yz_l l) (14, nI (n + 1), 0, 0) ∧ yP_K h (n + 2 + yz_l l + 1) ((yz_c r (n + (3 + yz_l l)) v q e).map Prod.fst) := by
        intro h K
        have Ka := yP_Kr (L1 := [_]) (yP_Kr (L1 := [_]) K)
        have Kb := yP_Kr Ka
        rw [List.length_map, yz_len] at Kb
        exact ⟨K 0 _ rfl, K 1 _ rfl, yP_Kl Ka, Kb 0 _ rfl, yP_Kr (L1 := [_]) Kb⟩
      have e3 : n + 2 + yz_l l + 1 = n + (3 + yz_l l) := by omega
      obtain ⟨h1, r1, r2, r3, r4, r5, _⟩ := rest (3 + yz_l l) eL (by have := (pieces h K').2.2.2.2; rw [e3] at this; exact this) hx
      rw [eL] at hn ⊢
      have K1 := pieces h1 (yP_Kf r3 K')
      have hv3 : v + (yz_v l + 1) ≤ 100 := by
        rw [if_pos rfl] at hv2; omega
      obtain ⟨h1', h2, b1, b2, b3, b4⟩ := yP_back (h := h1) (v := v) (show n + 2 + yz_l l < 4000 by omega) K1.2.2.2.1 rfl r4 (by omega)
      have A1 : ∀ a j, ¬ a = 57 → h1'.2.1 a j = h1.2.1 a j := fun a j ha => by
        rw [b2]; exact zu_MM.trans (if_neg fun z => ha z.1)
      have A2 : ∀ j, h1'.2.1 57 j = if j = v then nI (n + 2 + yz_l l) else h1.2.1 57 j := fun j => by
        rw [b2]
        refine zu_MM.trans ?_
        by_cases z : j = v
        · rw [if_pos z, if_pos ⟨rfl, z⟩]
        · rw [if_neg z, if_neg fun q => z q.2]
      have A3 : h1'.2.2 = h1.2.2 := by rw [b2]; rfl
      have K1' : yP_K h1' n ([(12, p.2.1, p.2.2, 0)] ++ ([(13, nI (n + (3 + yz_l l)), p.2.1, 0)] ++ ((yz_c l (n + 2) (v + 1) (n + (3 + yz_l l)) 0).map Prod.fst ++ ([(14, nI (n + 1), 0, 0)] ++ (yz_c r (n + (3 + yz_l l)) v q e).map Prod.fst)))) := by
        intro k i e
        have q := yP_Kf r3 K' k i e
        unfold yC_m at q ⊢
        rw [A1 _ _ (by decide), A1 _ _ (by decide), A1 _ _ (by decide), A1 _ _ (by decide)]
        exact q
      have K2 := yP_Kf b4 K1'
      have B2 : yP_B B b h2 := by
        refine yP_Bf (fun u hu => ?_) b4
        rw [A1 _ _ (by decide)]
        exact yP_Bf hB r3 u hu
      have l2 : (h2.1 51 7) = nI (v + 1) := (b4.1 _ _).trans (by rw [b2]; rfl)
      obtain ⟨h3, d1, d2, d3⟩ := ihl 0 (n + 2) (v + 1) (n + (3 + yz_l l)) 0 (cc + 1) s (none, none, none) (some 1, none, none) h2 (.inl ⟨rfl, w6⟩) w7 (by omega) (by omega) (by omega) B2 (pieces h2 K2).2.2.1 l2 (fun z => absurd z (Nat.succ_ne_zero v)) (fun _ => ⟨n + 2 + yz_l l, by rw [b4.2.1 _ _ (fun _ => by omega), Nat.add_sub_cancel, A2, if_pos rfl], Nat.le_refl _, by omega, fun z => absurd z (by decide), by omega⟩) (fun z => absurd z (by decide)) b3
      have K3 := pieces h3 (yP_Kf d3 K2)
      have a3 : yP_at h3 (n + (3 + yz_l l)) (yP_T B r E c) := by
        refine yP_atf d3 (.inr (by omega)) (yP_atf b4 (.inr (by omega)) ?_)
        unfold yP_at
        rw [A3]
        exact r2
      obtain ⟨h4', h4, f1, f2, f3, f4⟩ := yP_next (h := h3) (v := v) (M := M) (show n + 1 < 4000 by omega) K3.1 K3.2.1 rfl rfl w2 w5 (by omega) ((d3.1 _ _).trans l2) (by omega) d2 a3
      have F14 : yP_fr n (n + (3 + yz_l l)) v h1 h4 := by
        refine ⟨fun a b => ?_, fun a j q => ?_, fun a j q => ?_⟩
        · rw [f4.1, f2]
          by_cases z : a = 51 ∧ b = 7
          · rw [z.1, z.2]
            exact r4.symm
          · refine (zu_FF.trans (if_neg z)).trans ?_
            rw [d3.1, b4.1, b2]
            exact zu_FF.trans (if_neg z)
        · rw [f4.2.1 a j q, f2]
          show h3.2.1 a j = _
          rw [d3.2.1 a j (fun z => by have := q z; omega), b4.2.1 a j (fun z => by have := q z; omega)]
          by_cases z : a = 57
          · have := q z
            rw [z, A2, if_neg (by omega)]
          · exact A1 a j z
        · have q1 : ¬ a ∈ [54, 55, 56] ∨ j < n + 1 ∨ n + 2 ≤ j := by rcases q with q | q | q; exact .inl q; exact .inr (.inl (by omega)); exact .inr (.inr (by omega))
          have q2 : ¬ a ∈ [54, 55, 56] ∨ j < n + 2 ∨ n + 2 + yz_l l ≤ j := by rcases q with q | q | q; exact .inl q; exact .inr (.inl (by omega)); exact .inr (.inr (by omega))
          have q3 : ¬ a ∈ [54, 55, 56] ∨ j < n + 2 + yz_l l ∨ n + 2 + yz_l l + 1 ≤ j := by rcases q with q | q | q; exact .inl q; exact .inr (.inl (by omega)); exact .inr (.inr (by omega))
          rw [f4.2.2 a j q1, f2]
          show h3.2.2 a j = _
          rw [d3.2.2 a j q2, b4.2.2 a j q3, A3]
      have K4 := pieces h4 (yP_Kf F14 (yP_Kf r3 K'))
      obtain ⟨h5, g1, g2, g3⟩ := yP_one hb (B := B) (v := v) (show n < 4000 by omega) (yP_Bf (yP_Bf hB r3) F14) K4.1 ⟨.inr (.inl rfl), fun z => absurd z (show ¬ ((12 : Nat) = 15 ∨ (12 : Nat) = 16) by decide)⟩ f3
      have s1 : yP_sc h h2 s (n + 2 + yz_l l) (1 + yz_l r) := yP_sct (by rw [e3]; exact r1) (yP_sc1 (by omega) (by omega) b1) rfl
      have s2 : yP_sc h h3 s (n + 2) (yz_l l + (1 + yz_l r)) := yP_sct s1 d1 rfl
      have s3 : yP_sc h h4 s (n + 1) (1 + (yz_l l + (1 + yz_l r))) := yP_sct s2 (yP_sc1 (by omega) (by omega) f1) rfl
      rw [eT, w2, nI_clamp (by omega)]
      exact ⟨h5, yP_sct s3 (yP_sc1 hs (by omega) g1) (by omega), g2, yP_frt (yP_frt r3 F14 (lo := n) (hi := n + (3 + yz_l l + yz_l r)) (v := v) (by omega) (by omega) (Nat.le_refl _) (by omega) (by omega) (Nat.le_refl _)) g3 (by omega) (by omega) (Nat.le_refl _) (by omega) (by omega) (Nat.le_refl _)⟩
    by_cases k3 : k = 3
    · subst k3
      have eL : yz_l (.inner 3 p o l r) = 1 + yz_l r := rfl
      have K' : yP_K h n ([(10, nI q, 0, 0)] ++ (yz_c r (n + 1) v q e).map Prod.fst) := by
        have : (yz_c (.inner 3 p o l r) n v q e).map Prod.fst = [(10, nI q, 0, 0)] ++ (yz_c r (n + 1) v q e).map Prod.fst := by
          show ([((10, nI q, 0, 0), v)] ++ yz_c r (n + 1) v q e).map Prod.fst = _
          rw [List.map_append]; rfl
        rw [← this]; exact K
      have hx' : v = 0 → yz_x r (n + 1) ++ [n] = [] := hx
      have hv0 : 0 < v := by
        rcases Nat.eq_zero_or_pos v with z | z
        · exact absurd (List.append_eq_nil_iff.mp (hx' z)).2 (by intro y; cases y)
        · exact z
      obtain ⟨h1, r1, r2, r3, r4, r5, _⟩ := rest 1 eL (yP_Kr (L1 := [_]) K') (fun z => by omega)
      rw [eL] at hn ⊢
      obtain ⟨bk, b1, b2, b3, _, b5⟩ := r5 hv0
      obtain ⟨h2, d1, d2, d3⟩ := yP_exit (h := h1) (v := v) (bk := bk) (q := q) (show n < 4000 by omega) (yP_Kf r3 K' 0 _ rfl) rfl rfl r4 (by omega) hv0 b1 b3 (by omega)
      exact ⟨h2, yP_sct r1 (yP_sc1 hs (by omega) d1) rfl, d2, yP_frt r3 d3 (by omega) (by omega) (Nat.le_refl _) (by omega) (by omega) (Nat.le_refl _)⟩
    by_cases k4 : k = 4
    · subst k4
      have eL : yz_l (.inner 4 p o l r) = 1 + yz_l r := rfl
      have K' : yP_K h n ([(18, 0, 0, 0)] ++ (yz_c r (n + 1) v q e).map Prod.fst) := by
        have : (yz_c (.inner 4 p o l r) n v q e).map Prod.fst = [(18, 0, 0, 0)] ++ (yz_c r (n + 1) v q e).map Prod.fst := by
          show ([((18, 0, 0, 0), v)] ++ yz_c r (n + 1) v q e).map Prod.fst = _
          rw [List.map_append]; rfl
        rw [← this]; exact K
      obtain ⟨h1, r1, r2, r3, r4, r5, _⟩ := rest 1 eL (yP_Kr (L1 := [_]) K') hx
      rw [eL] at hn ⊢
      obtain ⟨h2, d1, d2, d3⟩ := yP_leave (h := h1) (v := v) (show n < 4000 by omega) (yP_Kf r3 K' 0 _ rfl) rfl
      exact ⟨h2, yP_sct r1 (yP_sc1 hs (by omega) d1) rfl, d2, yP_frt r3 d3 (by omega) (by omega) (Nat.le_refl _) (by omega) (by omega) (Nat.le_refl _)⟩
    have hm1 : m = 1 ∧ (k = 5 ∨ (k = 6 ∧ yz_f r = true)) := by
      rcases hm with ⟨_, z, _⟩ | ⟨z1, z2, _⟩
      · omega
      · exact ⟨z1, z2⟩
    obtain ⟨m1, k56⟩ := hm1
    subst m1
    have hvl : v + yz_v l ≤ 100 := by
      rw [if_neg k2] at hv2; omega
    rcases k56 with k5 | ⟨k6, fr⟩
    · subst k5
      obtain ⟨g, hg⟩ : ∃ g : Nat, g = if yz_f r = true then 0 else 1 := ⟨_, rfl⟩
      have eL : yz_l (.inner 5 p o l r) = (p.1.length + 1 + yz_l l + g) + yz_l r := by rw [hg]; rfl
      have eT : yP_T B (.inner 5 p o l r) E c = yP_L B p.1 (yP_a 1 (yP_x (yP_T B l (none, none, none) (if yz_f r = true then yP_T B r E c else yP_a 1 E)) (yP_T B r E c))) := rfl
      have W1' : yo_h 0 p.1 = some 1 ∧ (∀ i, i ∈ p.1 → yo_i X (fun u => (kb u).1 = 1) b i) ∧ yz_st l ∧ yz_W X Y kb b l lo := W1
      have K' : yP_K h n (p.1 ++ ([(11, nI (n + (p.1.length + 1 + yz_l l + g)), 0, 0)] ++ ((yz_c l (n + p.1.length + 1) v q 0).map Prod.fst ++ ((if yz_f r = true then [] else [(10, nI e, 0, 0)]) ++ (yz_c r (n + (p.1.length + 1 + yz_l l + g)) v q e).map Prod.fst)))) := by
        have : (yz_c (.inner 5 p o l r) n v q e).map Prod.fst = p.1 ++ ([(11, nI (n + (p.1.length + 1 + yz_l l + g)), 0, 0)] ++ ((yz_c l (n + p.1.length + 1) v q 0).map Prod.fst ++ ((if yz_f r = true then [] else [(10, nI e, 0, 0)]) ++ (yz_c r (n + (p.1.length + 1 + yz_l l + g)) v q e).map Prod.fst))) := by
          rw [hg]
          show (yv v p.1 ++ ([((11, nI (n + (p.1.length + 1 + yz_l l + (if yz_f r = true then 0 else 1))), 0, 0), v)] ++ (yz_c l (n + p.1.length + 1) v q 0 ++ ((if yz_f r = true then [] else [((10, nI e, 0, 0), v)]) ++ yz_c r (n + (p.1.length + 1 + yz_l l + (if yz_f r = true then 0 else 1))) v q e)))).map Prod.fst = _
          rw [List.map_append, List.map_append, List.map_append, List.map_append, yv_m]
          by_cases z : yz_f r = true
          · simp only [if_pos z]; rfl
          · simp only [if_neg z]; rfl
        rw [← this]; exact K
      have lg : (if yz_f r = true then [] else [((10, nI e, 0, 0) : yI)]).length = g := by
        rw [hg]; split <;> rfl
      have pieces : ∀ h : zs_H, yP_K h n (p.1 ++ ([(11, nI (n + (p.1.length + 1 + yz_l l + g)), 0, 0)] ++ ((yz_c l (n + p.1.length + 1) v q 0).map Prod.fst ++ ((if yz_f r = true then [] else [(10, nI e, 0, 0)]) ++ (yz_c r (n + (p.1.length + 1 + yz_l l + g)) v q e).map Prod.fst)))) → yP_K h n p.1 ∧ yC_m h (n + p.1.length) (11, nI (n + (p.1.length + 1 + yz_l l + g)), 0, 0) ∧ yP_K h (n + p.1.length + 1) ((yz_c l (n + p.1.length + 1) v q 0).map Prod.fst) ∧ (¬ yz_f r = true → yC_m h (n + p.1.length + 1 + yz_l l) (10, nI e, 0, 0)) ∧ yP_K h (n + p.1.length + 1 + yz_l l + g) ((yz_c r (n + (p.1.length + 1 + yz_l l + g)) v q e).map Prod.fst) := by
        intro h K
        have Ka := yP_Kr K
        have Kb := yP_Kr (L1 := [_]) Ka
        have Kc := yP_Kr Kb
        rw [List.length_map, yz_len] at Kc
        have Kd := yP_Kr Kc
        rw [lg] at Kd
        refine ⟨yP_Kl K, Ka 0 _ rfl, yP_Kl Kb, fun z => ?_, Kd⟩
        rw [if_neg z] at Kc
        exact Kc 0 _ rfl
      have e3 : n + p.1.length + 1 + yz_l l + g = n + (p.1.length + 1 + yz_l l + g) := by omega
      have hx' : v = 0 → yz_x r (n + (p.1.length + 1 + yz_l l + g)) = [] ∧ yz_x l (n + p.1.length + 1) = [] := fun z => by
        have := hx z
        rw [hg]
        exact List.append_eq_nil_iff.mp this
      obtain ⟨h1, r1, r2, r3, r4, r5, r6⟩ := rest (p.1.length + 1 + yz_l l + g) eL (by have := (pieces h K').2.2.2.2; rw [e3] at this; exact this) (fun z => (hx' z).1)
      have hE' := hE rfl
      rw [eL] at hn hE' ⊢
      have K1 := yP_Kf r3 K'
      -- the jump behind the choice
      have go : ∃ h2, yP_sc h h2 s (n + p.1.length + 1 + yz_l l) (g + yz_l r) ∧ yP_at h2 (n + p.1.length + 1 + yz_l l) (if yz_f r = true then yP_T B r E c else yP_a 1 E) ∧ yP_fr (n + p.1.length + 1 + yz_l l) (n + p.1.length + 1 + yz_l l + g) v h1 h2 := by
        by_cases z : yz_f r = true
        · rw [if_pos z]
          have g0 : g = 0 := by rw [hg, if_pos z]
          subst g0
          refine ⟨h1, ?_, ?_, yP_fr0⟩
          · rw [Nat.zero_add]
            rw [show n + (p.1.length + 1 + yz_l l + 0) = n + p.1.length + 1 + yz_l l by omega] at r1
            exact r1
          · rw [show n + p.1.length + 1 + yz_l l = n + (p.1.length + 1 + yz_l l + 0) by omega]; exact r2
        · rw [if_neg z]
          have g1 : g = 1 := by rw [hg, if_neg z]
          subst g1
          obtain ⟨h2, d1, d2, d3⟩ := yP_go (h := h1) (v := v) (c := E) (e := e) (show n + p.1.length + 1 + yz_l l < 4000 by omega) ((pieces h1 K1).2.2.2.1 z) rfl rfl hE'.2.1 r4 (by omega) (fun hv0 => by
            obtain ⟨bk, b1, b2, b3, b4, b5⟩ := r5 hv0
            exact ⟨bk, b1, b4 rfl, by omega⟩) (r6 rfl)
          exact ⟨h2, yP_sct (by rw [e3]; exact r1) (yP_sc1 (by omega) (by omega) d1) rfl, d2, d3⟩
      obtain ⟨h2, s1, a2, f2⟩ := go
      have K2 := yP_Kf f2 K1
      obtain ⟨h3, d1, d2, d3⟩ := ihl 0 (n + p.1.length + 1) v q 0 lo s (none, none, none) _ h2 (.inl ⟨rfl, W1'.2.2.1⟩) W1'.2.2.2 (by omega) (by omega) hvl (yP_Bf (yP_Bf hB r3) f2) (pieces h2 K2).2.2.1 ((f2.1 _ _).trans r4) (fun z => (hx' z).2) (fun hv0 => by
        obtain ⟨bk, b1, b2, b3, b4, b5⟩ := r5 hv0
        exact ⟨bk, by rw [f2.2.1 _ _ (fun _ => by omega)]; exact b1, by omega, b3, fun z => absurd z (by decide), b5⟩) (fun z => absurd z (by decide)) a2
      have K3 := yP_Kf d3 K2
      have a3 : yP_at h3 (n + (p.1.length + 1 + yz_l l + g)) (yP_T B r E c) := yP_atf d3 (.inr (by omega)) (yP_atf f2 (.inr (by omega)) r2)
      obtain ⟨h4, f1, f3, f4⟩ := yP_unl (h := h3) (v := v) (show n + p.1.length < 4000 by omega) (pieces h3 K3).2.1 rfl rfl (by omega) d2 a3
      have K4 := yP_Kf f4 K3
      obtain ⟨h5, g1, g2, g3⟩ := yP_str hb (B := B) (v := v) (s := s) p.1 n h4 hs (by omega) (fun i hi => yP_io hb (W1'.2.1 i hi)) (yP_Bf (yP_Bf (yP_Bf (yP_Bf hB r3) f2) d3) f4) (pieces h4 K4).1 f3
      have s2 : yP_sc h h3 s (n + p.1.length + 1) (yz_l l + (g + yz_l r)) := yP_sct s1 d1 rfl
      have s3 : yP_sc h h4 s (n + p.1.length) (1 + (yz_l l + (g + yz_l r))) := yP_sct s2 (yP_sc1 (by omega) (by omega) f1) rfl
      have F1 : yP_fr n (n + (p.1.length + 1 + yz_l l + g + yz_l r)) v h h2 := yP_frt r3 f2 (by omega) (by omega) (Nat.le_refl _) (by omega) (by omega) (Nat.le_refl _)
      have F2 : yP_fr n (n + (p.1.length + 1 + yz_l l + g + yz_l r)) v h h3 := yP_frt F1 d3 (by omega) (by omega) (Nat.le_refl _) (by omega) (by omega) (Nat.le_refl _)
      have F3 : yP_fr n (n + (p.1.length + 1 + yz_l l + g + yz_l r)) v h h4 := yP_frt F2 f4 (by omega) (by omega) (Nat.le_refl _) (by omega) (by omega) (Nat.le_refl _)
      rw [eT]
      exact ⟨h5, yP_sct s3 g1 (by omega), g2, yP_frt F3 g3 (by omega) (by omega) (Nat.le_refl _) (by omega) (by omega) (Nat.le_refl _)⟩
    · subst k6
      have eL : yz_l (.inner 6 p o l r) = yz_l l + yz_l r := rfl
      have eT : yP_T B (.inner 6 p o l r) E c = yP_T B l (none, none, none) (yP_T B r E c) := rfl
      have W1' : yz_st l ∧ yz_W X Y kb b l lo := W1
      have K' : yP_K h n ((yz_c l n v q 0).map Prod.fst ++ (yz_c r (n + yz_l l) v q e).map Prod.fst) := by
        rw [← List.map_append]; exact K
      have Kr := yP_Kr K'
      rw [List.length_map, yz_len] at Kr
      have hx' : v = 0 → yz_x r (n + yz_l l) = [] ∧ yz_x l n = [] := fun z => List.append_eq_nil_iff.mp (hx z)
      obtain ⟨h1, r1, r2, r3, r4, r5, _⟩ := rest (yz_l l) eL Kr (fun z => (hx' z).1)
      rw [eL] at hn ⊢
      obtain ⟨h2, d1, d2, d3⟩ := ihl 0 n v q 0 lo s (none, none, none) (yP_T B r E c) h1 (.inl ⟨rfl, W1'.1⟩) W1'.2 hs (by omega) hvl (yP_Bf hB r3) (yP_Kf r3 (yP_Kl K')) r4 (fun z => (hx' z).2) (fun z => by
        obtain ⟨bk, b1, b2, b3, _, b5⟩ := r5 z
        exact ⟨bk, b1, b2, b3, fun z => absurd z (by decide), b5⟩) (fun z => absurd z (by decide)) r2
      rw [eT]
      exact ⟨h2, yP_sct r1 d1 rfl, d2, yP_frt r3 d3 (by omega) (by omega) (Nat.le_refl _) (by omega) (by omega) (Nat.le_refl _)⟩
end YPE
end
section
/-! The prover: the model's sums. -/
def yQ_at (g : zs_H) (j : Nat) (R : Nat → Option Nat) : Prop := ∀ k, k < 62 → g.2.2 113 (62 * j + k) = yP_s 1000000000000 (R k)
/-- what stays -/
def yQ_fr (lo hi : Nat) (g g' : zs_H) : Prop := g'.1 = g.1 ∧ g'.2.1 = g.2.1 ∧ ∀ a x, ¬ a = 113 ∨ x < 62 * lo ∨ 62 * hi ≤ x → g'.2.2 a x = g.2.2 a x
theorem yQ_fr0 {lo hi : Nat} {g : zs_H} : yQ_fr lo hi g g := ⟨rfl, rfl, fun _ _ _ => rfl⟩
theorem yQ_frt {lo hi lo1 hi1 lo2 hi2 : Nat} {g g1 g2 : zs_H} (a : yQ_fr lo1 hi1 g g1) (b : yQ_fr lo2 hi2 g1 g2) (l1 : lo ≤ lo1) (l2 : hi1 ≤ hi) (m1 : lo ≤ lo2) (m2 : hi2 ≤ hi) : yQ_fr lo hi g g2 := by
  refine ⟨b.1.trans a.1, b.2.1.trans a.2.1, fun x j q => ?_⟩
  have q1 : ¬ x = 113 ∨ j < 62 * lo1 ∨ 62 * hi1 ≤ j := by rcases q with q | q | q; exact .inl q; exact .inr (.inl (by omega)); exact .inr (.inr (by omega))
  have q2 : ¬ x = 113 ∨ j < 62 * lo2 ∨ 62 * hi2 ≤ j := by rcases q with q | q | q; exact .inl q; exact .inr (.inl (by omega)); exact .inr (.inr (by omega))
  exact (b.2.2 x j q2).trans (a.2.2 x j q1)
def yQ_K (g : zs_H) (s n : Nat) (L : List yJ) : Prop := ∀ k i, L[k]? = some i → yM_m s g (n + k) i
section YQM
variable {g g' : zs_H} {B : Nat → Nat} {R : Nat → Option Nat} {n j s u v sz lo hi k : Nat} {L L1 L2 : List yJ}
theorem yQ_atf (f : yQ_fr lo hi g g') (q : j < lo ∨ hi ≤ j) (a : yQ_at g j R) : yQ_at g' j R := by
  intro k hk
  rw [f.2.2 _ _ (.inr (by rcases q with q | q; exact .inl (by omega); exact .inr (by omega)))]
  exact a k hk
theorem yQ_Kf (f : yQ_fr lo hi g g') (K : yQ_K g s n L) : yQ_K g' s n L := by
  intro k i e
  have q := K k i e
  unfold yM_m at q ⊢
  rw [f.2.1]
  exact q
theorem yQ_Kl (K : yQ_K g s n (L1 ++ L2)) : yQ_K g s n L1 := by
  intro k i e
  refine K k i ?_
  rw [List.getElem?_append_left (by
    rcases Nat.lt_or_ge k L1.length with z | z
    · exact z
    · rw [List.getElem?_eq_none z] at e; cases e)]
  exact e
theorem yQ_Kr (K : yQ_K g s n (L1 ++ L2)) : yQ_K g s (n + L1.length) L2 := by
  intro k i e
  have := K (L1.length + k) i (by rw [List.getElem?_append_right (Nat.le_add_right _ _), Nat.add_sub_cancel_left]; exact e)
  rwa [← Nat.add_assoc] at this
theorem yQ_ix (j k : Nat) : (62 : Int32) * nI j + nI k = nI (62 * j + k) := by
  rw [show (62 : Int32) * nI j = nI (62 * j) from zi_mul 62 j, nI_add]
theorem yQ_39 (hj : j ≤ 4000) (hv : v < 62) (hn : n ≤ 4000) (hR : ∀ k, v < k → R k = none) : ∀ (m k N : Nat) (g : zs_H), k + m = 62 → m < N → (∀ k' g', k ≤ k' → k' ≤ v → yQ_fr j (j + 1) g g' → (if nI j = nI n then some 0 else f_Mo_greatest g' (nI u) (nI j) (nI k') (nI v)) = some (yP_s 1000000000000 (R k'))) → ∃ g', (∀ k8, f_Mo_sumOf_L39 k8 N g (nI u) (nI n) (nI j) (nI v) (nI k) = k8 g' (nI u) (nI n) (nI j - 1)) ∧ (∀ k', k ≤ k' → k' < 62 → g'.2.2 113 (62 * j + k') = yP_s 1000000000000 (R k')) ∧ (∀ x, x < 62 * j + k → g'.2.2 113 x = g.2.2 113 x) ∧ yQ_fr j (j + 1) g g' := by
  intro m
  induction m with
  | zero =>
    intro k N g hk hN H
    obtain ⟨N, rfl⟩ : ∃ z, N = z + 1 := ⟨N - 1, by omega⟩
    refine ⟨g, fun k8 => ?_, fun k' h1 h2 => by omega, fun _ _ => rfl, yQ_fr0⟩
    show f_Mo_sumOf_39 k8 (f_Mo_sumOf_L39 k8 N) g _ _ _ _ (nI k) = _
    unfold f_Mo_sumOf_39
    rw [if_pos ((zc_le (k := 62) (by decide) (by omega)).mpr (by omega)), show nI j + (-1) = nI j - 1 from (Int32.sub_eq_add_neg _ _).symm]
  | succ m ih =>
    intro k N g hk hN H
    obtain ⟨N, rfl⟩ : ∃ z, N = z + 1 := ⟨N - 1, by omega⟩
    obtain ⟨g1, hg1⟩ : ∃ g1, g1 = zs_uL g 113 (62 * j + k) (yP_s 1000000000000 (R k)) := ⟨_, rfl⟩
    have f1 : yQ_fr j (j + 1) g g1 := by
      rw [hg1]
      refine ⟨rfl, rfl, fun a x q => ?_⟩
      exact zu_LL.trans (if_neg fun z => by rcases q with q | q | q; exact q z.1; omega; omega)
    obtain ⟨g', e1, e2, e3, e4⟩ := ih (k + 1) N g1 (by omega) (by omega) (fun k' g' h1 h2 h3 => H k' g' (by omega) h2 (yQ_frt f1 h3 (Nat.le_refl _) (Nat.le_refl _) (Nat.le_refl _) (Nat.le_refl _)))
    refine ⟨g', fun k8 => ?_, fun k' h1 h2 => ?_, fun x hx => ?_, yQ_frt f1 e4 (Nat.le_refl _) (Nat.le_refl _) (Nat.le_refl _) (Nat.le_refl _)⟩
    · show f_Mo_sumOf_39 k8 (f_Mo_sumOf_L39 k8 N) g _ _ _ _ (nI k) = _
      have e89 : f_Mo_sumOf_89 k8 (f_Mo_sumOf_L39 k8 N) g (nI u) (nI n) (nI j) (nI v) (nI k) (yP_s 1000000000000 (R k)) (nI (62 * j + k)) = k8 g' (nI u) (nI n) (nI j - 1) := by
        unfold f_Mo_sumOf_89
        rw [if_pos (zi_in (by omega) (by omega)), nI_clamp (by omega), ← hg1, show nI k + 1 = nI (k + 1) from zc_ad 1 k]
        exact e1 k8
      unfold f_Mo_sumOf_39
      rw [if_neg (mt (zc_le (k := 62) (by decide) (by omega)).mp (by omega)), yQ_ix]
      by_cases z : k ≤ v
      · rw [if_pos ((nI_leI (by omega) (by omega)).mpr z)]
        have h := H k g (Nat.le_refl _) z yQ_fr0
        by_cases y : nI j = nI n
        · rw [if_pos y] at h ⊢
          rw [Option.some.inj h]
          exact e89
        · rw [if_neg y] at h ⊢
          rw [h, Option.bind_some]
          exact e89
      · rw [if_neg (mt (nI_leI (by omega) (by omega)).mp z)]
        rw [hR k (by omega)] at e89
        exact e89
    · by_cases z : k' = k
      · subst z
        rw [e3 _ (by omega), hg1]
        exact zu_LL.trans (if_pos ⟨rfl, rfl⟩)
      · exact e2 k' (by omega) h2
    · rw [e3 x (by omega), hg1]
      exact zu_LL.trans (if_neg fun z => by have := z.2; omega)
/-- a row of the sums -/
theorem yQ_step (hj : j ≤ n) (hn : n ≤ 4000) (hv : v < 62) (hu : u < 17) (hR : ∀ k, v < k → R k = none) (hl : j = n ∧ v = 0 ∨ (j < n ∧ (g.2.1 103) u = nI s ∧ s + n ≤ 4000 ∧ (g.2.1 108) (s + j) = nI v)) (H : ∀ k g', k ≤ v → yQ_fr j (j + 1) g g' → (if j = n then some 0 else f_Mo_greatest g' (nI u) (nI j) (nI k) (nI v)) = some (yP_s 1000000000000 (R k))) : ∃ g', (∀ N, f_Mo_sumOf_L8 (N + 1) g (nI u) (nI n) (nI (j + 1) - 1) = f_Mo_sumOf_L8 N g' (nI u) (nI n) (nI j - 1)) ∧ yQ_at g' j R ∧ yQ_fr j (j + 1) g g' := by
  have hz := zF_big
  obtain ⟨g', e1, e2, _, e4⟩ := yQ_39 (u := u) (R := R) (show j ≤ 4000 by omega) hv hn hR 62 0 zF g rfl (by omega) (fun k' g' _ h2 h3 => by
    have h := H k' g' h2 h3
    by_cases y : j = n
    · rw [if_pos y] at h
      rw [if_pos (by rw [y])]; exact h
    · rw [if_neg y] at h
      rw [if_neg (mt (nI_eq (by omega) (by omega)).mp y)]; exact h)
  refine ⟨g', fun N => ?_, fun k hk => e2 k (Nat.zero_le _) hk, e4⟩
  show f_Mo_sumOf_8 (f_Mo_sumOf_L8 N) g (nI u) (nI n) (nI (j + 1) - 1) = _
  unfold f_Mo_sumOf_8 f_Mo_sumOf_34
  rw [show nI (j + 1) - 1 = nI j from zi_sub (b := 1) (by omega), if_neg (mt (zc_tl (k := 0) (by decide) (by omega)).mp (by omega))]
  rcases hl with ⟨z1, z2⟩ | ⟨z1, z2, z3, z4⟩
  · rw [if_pos (by rw [z1])]
    have := e1 (f_Mo_sumOf_L8 N)
    rw [z2] at this
    exact this
  · rw [if_neg (mt (nI_eq (by omega) (by omega)).mp (by omega)), if_pos (zi_in (by omega) hu), nI_clamp (n := u) (by omega), z2, nI_add, if_pos (zi_in (by omega) (by omega)), nI_clamp (n := s + j) (by omega), z4]
    exact e1 (f_Mo_sumOf_L8 N)
def yQ_B (B : Nat → Nat) (b : Nat) (g : zs_H) : Prop := ∀ u, u < b → B u ≤ 1000000001 ∧ (1 : Int64) + g.2.2 109 u = lN (B u)
theorem yQ_Bf {bb : Nat} (b : yQ_B B bb g) (f : yQ_fr lo hi g g') : yQ_B B bb g' := by
  intro w hw
  rw [f.2.2 _ _ (.inl (by decide))]
  exact b w hw
/-- what the model does at an instruction -/
theorem yQ_one {i : yI} {lv bb : Nat} (hbb : bb ≤ 16) (hu : u < 17) (hb : (g.2.1 103) u = nI s) (hs : s + j < 4000) (hk : k < 62) (b : yQ_B B bb g) (m : yM_m s g (s + j) (i, lv)) (o : yP_o bb i) (a : yQ_at g (j + 1) R) : f_Mo_greatest g (nI u) (nI j) (nI k) (nI v) = some (yP_s 1000000000000 (yP_p (some (yP_w B i)) (R k))) := by
  obtain ⟨m1, m2, _⟩ := m
  obtain ⟨o1, o2⟩ := o
  have hi : i.1 < 2147483648 := by omega
  have ne : ∀ k : Nat, k < 19 → ¬ i.1 = k → ¬ nI i.1 = (OfNat.ofNat k : Int32) := fun k hk z q => z ((zc_eq (k := k) (by omega) hi).mp q)
  have m1' : (g.2.1 104) (s + j) = nI i.1 := m1
  have a' := a k hk
  unfold f_Mo_greatest
  simp only [if_pos (zi_in (show u < 2147483648 by omega) hu), nI_clamp (show u < 2147483648 by omega), hb, nI_add, if_pos (zi_in (show s + j < 2147483648 by omega) hs), nI_clamp (show s + j < 2147483648 by omega), m1', if_neg (ne 10 (by decide) (by omega)), if_neg (ne 11 (by decide) (by omega)), if_neg (ne 13 (by decide) (by omega)), if_neg (ne 14 (by decide) (by omega)), show nI j + 1 = nI (j + 1) from zc_ad 1 j, yQ_ix, if_pos (zi_in (show 62 * (j + 1) + k < 2147483648 by omega) (show 62 * (j + 1) + k < 248100 by omega)), nI_clamp (show 62 * (j + 1) + k < 2147483648 by omega), a', if_neg (ne 18 (by decide) (by omega))]
  by_cases z : i.1 = 15 ∨ i.1 = 16
  · obtain ⟨w, u1, u2⟩ := o2 z
    have ew : yP_w B i = B w := by
      unfold yP_w
      rw [if_pos z, u1, nI_clamp (by omega)]
    have ea : (g.2.1 105) (s + j) = nI w := by
      have : (g.2.1 105) (s + j) = yM_A s i := m2
      rw [this]
      unfold yM_A
      rw [if_neg (by omega), if_neg (by omega), u1]
    have fin : some (f_Mo_more ((1 : Int64) + g.2.2 109 w) (yP_s 1000000000000 (R k))) = some (yP_s 1000000000000 (yP_p (some (yP_w B i)) (R k))) := by
      rw [(b w u2).2, ew, yP_more (by have := (b w u2).1; omega)]
    rw [ea, if_pos (zi_in (by omega) (by omega)), nI_clamp (by omega)]
    rcases z with z | z
    · rw [if_pos (by rw [z]; rfl)]; exact fin
    · rw [if_neg (ne 15 (by decide) (by omega)), if_pos (by rw [z]; rfl)]; exact fin
  · have ew : yP_w B i = 1 := by unfold yP_w; rw [if_neg z]
    rw [if_neg (ne 15 (by decide) (fun y => z (.inl y))), if_neg (ne 16 (by decide) (fun y => z (.inr y))), ew]
    exact congrArg some (yP_more (w := 1) (by omega) (R k))
theorem yQ_go {i : yI} {lv t : Nat} (hu : u < 17) (hb : (g.2.1 103) u = nI s) (hs : s + j < 4000) (hk : k < 62) (m : yM_m s g (s + j) (i, lv)) (hi : i.1 = 10) (ha : i.2.1 = nI t) (ht : s ≤ t ∧ t ≤ 4000) (a : yQ_at g (t - s) R) : f_Mo_greatest g (nI u) (nI j) (nI k) (nI v) = some (yP_s 1000000000000 (yP_p (some 1) (R k))) := by
  have m1 : (g.2.1 104) (s + j) = 10 := by rw [show (g.2.1 104) (s + j) = nI i.1 from m.1, hi]; rfl
  have m2 : (g.2.1 105) (s + j) = nI (t - s) := by
    rw [show (g.2.1 105) (s + j) = yM_A s i from m.2.1]
    unfold yM_A
    rw [if_pos (.inl hi), ha, zi_sub ht.1]
  have a' := a k hk
  unfold f_Mo_greatest f_Mo_target
  simp only [if_pos (zi_in (show u < 2147483648 by omega) hu), nI_clamp (show u < 2147483648 by omega), hb, nI_add, if_pos (zi_in (show s + j < 2147483648 by omega) hs), nI_clamp (show s + j < 2147483648 by omega), m1, if_true, m2, Option.bind_some, yQ_ix, if_pos (zi_in (show 62 * (t - s) + k < 2147483648 by omega) (show 62 * (t - s) + k < 248100 by omega)), nI_clamp (show 62 * (t - s) + k < 2147483648 by omega), a']
  exact congrArg some (yP_more (w := 1) (by omega) (R k))
theorem yQ_leave {i : yI} {lv : Nat} (hu : u < 16) (hb : (g.2.1 103) u = nI s) (hb2 : (g.2.1 103) (u + 1) = nI (s + sz)) (hsz : s + sz ≤ 4000) (hs : s + j < 4000) (hk : k < 62) (m : yM_m s g (s + j) (i, lv)) (hi : i.1 = 18) (a : yQ_at g sz R) : f_Mo_greatest g (nI u) (nI j) (nI k) (nI v) = some (yP_s 1000000000000 (yP_p (some 1) (R k))) := by
  have m1 : (g.2.1 104) (s + j) = 18 := by rw [show (g.2.1 104) (s + j) = nI i.1 from m.1, hi]; rfl
  have a' := a k hk
  have n10 : ¬ (18 : Int32) = 10 := by decide
  have n11 : ¬ (18 : Int32) = 11 := by decide
  have n13 : ¬ (18 : Int32) = 13 := by decide
  have n14 : ¬ (18 : Int32) = 14 := by decide
  have n15 : ¬ (18 : Int32) = 15 := by decide
  have n16 : ¬ (18 : Int32) = 16 := by decide
  unfold f_Mo_greatest f_Mo_target f_Mo_sizeOf
  simp only [if_pos (zi_in (show u < 2147483648 by omega) (show u < 17 by omega)), nI_clamp (show u < 2147483648 by omega), hb, nI_add, if_pos (zi_in (show s + j < 2147483648 by omega) hs), nI_clamp (show s + j < 2147483648 by omega), m1, if_neg n10, if_neg n11, if_neg n13, if_neg n14, if_neg n15, if_neg n16, if_true, show nI u + 1 = nI (u + 1) from zc_ad 1 u, if_pos (zi_in (show u + 1 < 2147483648 by omega) (show u + 1 < 17 by omega)), nI_clamp (show u + 1 < 2147483648 by omega), hb2, show nI (s + sz) - nI s = nI sz by rw [zi_sub (by omega), Nat.add_sub_cancel_left], Option.bind_some, yQ_ix, if_pos (zi_in (show 62 * sz + k < 2147483648 by omega) (show 62 * sz + k < 248100 by omega)), nI_clamp (show 62 * sz + k < 2147483648 by omega), a']
  exact congrArg some (yP_more (w := 1) (by omega) (R k))
theorem yQ_unl {i : yI} {lv t : Nat} {R2 : Nat → Option Nat} (hu : u < 17) (hb : (g.2.1 103) u = nI s) (hs : s + j < 4000) (hk : k < 62) (m : yM_m s g (s + j) (i, lv)) (hi : i.1 = 11) (ha : i.2.1 = nI t) (ht : s ≤ t ∧ t ≤ 4000) (a : yQ_at g (j + 1) R) (a2 : yQ_at g (t - s) R2) : f_Mo_greatest g (nI u) (nI j) (nI k) (nI v) = some (yP_s 1000000000000 (yP_p (some 1) (yP_m (R k) (R2 k)))) := by
  have m1 : (g.2.1 104) (s + j) = 11 := by rw [show (g.2.1 104) (s + j) = nI i.1 from m.1, hi]; rfl
  have m2 : (g.2.1 105) (s + j) = nI (t - s) := by
    rw [show (g.2.1 105) (s + j) = yM_A s i from m.2.1]
    unfold yM_A
    rw [if_pos (.inr (.inl hi)), ha, zi_sub ht.1]
  have a' := a k hk
  have a2' := a2 k hk
  have n10 : ¬ (11 : Int32) = 10 := by decide
  unfold f_Mo_greatest
  simp only [if_pos (zi_in (show u < 2147483648 by omega) hu), nI_clamp (show u < 2147483648 by omega), hb, nI_add, if_pos (zi_in (show s + j < 2147483648 by omega) hs), nI_clamp (show s + j < 2147483648 by omega), m1, if_neg n10, if_true, m2, show nI j + 1 = nI (j + 1) from zc_ad 1 j, yQ_ix, if_pos (zi_in (show 62 * (j + 1) + k < 2147483648 by omega) (show 62 * (j + 1) + k < 248100 by omega)), nI_clamp (show 62 * (j + 1) + k < 2147483648 by omega), a', if_pos (zi_in (show 62 * (t - s) + k < 2147483648 by omega) (show 62 * (t - s) + k < 248100 by omega)), nI_clamp (show 62 * (t - s) + k < 2147483648 by omega), a2']
  rw [show (1 : Int64) = lN 1 from rfl, yP_more (w := 1) (by omega), yP_more (w := 1) (by omega), yP_mx (by decide), yP_pm]
theorem yQ_back {i : yI} {lv : Nat} (hu : u < 17) (hb : (g.2.1 103) u = nI s) (hs : s + j < 4000) (hk : k < 62) (hv : v < 62) (m : yM_m s g (s + j) (i, lv)) (hi : i.1 = 14) : f_Mo_greatest g (nI u) (nI j) (nI k) (nI v) = some (yP_s 1000000000000 (if k = v then some 1 else none)) := by
  have m1 : (g.2.1 104) (s + j) = 14 := by rw [show (g.2.1 104) (s + j) = nI i.1 from m.1, hi]; rfl
  have n10 : ¬ (14 : Int32) = 10 := by decide
  have n11 : ¬ (14 : Int32) = 11 := by decide
  have n13 : ¬ (14 : Int32) = 13 := by decide
  unfold f_Mo_greatest
  simp only [if_pos (zi_in (show u < 2147483648 by omega) hu), nI_clamp (show u < 2147483648 by omega), hb, nI_add, if_pos (zi_in (show s + j < 2147483648 by omega) hs), nI_clamp (show s + j < 2147483648 by omega), m1, if_neg n10, if_neg n11, if_neg n13, if_true]
  by_cases z : k = v
  · rw [if_pos (by rw [z]), if_pos z]; rfl
  · rw [if_neg (mt (nI_eq (by omega) (by omega)).mp z), if_neg z]; rfl
end YQM
end
