/-! The coder: all blocks, on both sides. -/
/-- where unit b begins -/
def yx_S (T : Nat → ys) : Nat → Nat
  | 0 => 0
  | b + 1 => yx_S T b + yz_l (T b)
theorem yx_Sm (T : Nat → ys) : ∀ (m b : Nat), yx_S T b ≤ yx_S T (b + m) := by
  intro m
  induction m with
  | zero => intro b; exact Nat.le_refl _
  | succ m ih => intro b; exact Nat.le_trans (ih b) (Nat.le_add_right _ _)
theorem yx_Sle {T : Nat → ys} {u b : Nat} (h : u ≤ b) : yx_S T u ≤ yx_S T b := by
  have := yx_Sm T (b - u) u
  rwa [show u + (b - u) = b by omega] at this
theorem yx_Sb {T : Nat → ys} {nb : Nat} (h : ∀ b, b < nb → yz_l (T b) ≤ 600000) : ∀ b, b ≤ nb → yx_S T b ≤ 600000 * b := by
  intro b
  induction b with
  | zero => intro _; exact Nat.le_refl _
  | succ b ih =>
    intro hb
    have := ih (by omega)
    have := h b (by omega)
    show yx_S T b + yz_l (T b) ≤ _
    omega
/-- the units below b are coded: the class, the model -/
def yx_AC (T : Nat → ys) (b : Nat) (h : zs_H) : Prop := ∀ u, u < b → ∀ k i, (yz_c (T u) (yx_S T u) 0 0 0)[k]? = some i → yC_m h (yx_S T u + k) i.1
def yx_AM (T : Nat → ys) (b : Nat) (g : zs_H) : Prop := ∀ u, u < b → ∀ k i, (yz_c (T u) (yx_S T u) 0 0 0)[k]? = some i → yM_m (yx_S T u) g (yx_S T u + k) i
def yx_PC (h0 : zs_H) (T : Nat → ys) (b : Nat) (h : zs_H) : Prop := yC_f h0 h ∧ (h.1 41 5) = nI (yx_S T b) ∧ (h.1 41 6) = nI b ∧ (∀ u, u ≤ b → (h.2.1 46) u = nI (yx_S T u)) ∧ (yx_S T b ≤ 4000 → yx_AC T b h)
def yx_PM (g0 : zs_H) (T : Nat → ys) (b : Nat) (g : zs_H) : Prop := yM_f g0 g ∧ (g.1 68 56) = nI (yx_S T b) ∧ (∀ u, u < b → (g.2.1 103) u = nI (yx_S T u)) ∧ ((g.1 68 68) = 0 ∧ (g.1 68 66) = 0) ∧ (yx_S T b ≤ 4000 → yx_AM T b g)
section YXD
variable {h0 g0 : zs_H} {T : Nat → ys} {nb : Nat}
theorem yx_in {u b k : Nat} {i : yJ} (h : u < b) (e : (yz_c (T u) (yx_S T u) 0 0 0)[k]? = some i) : yx_S T u + k < yx_S T b := by
  have h1 : k < (yz_c (T u) (yx_S T u) 0 0 0).length := by
    rcases Nat.lt_or_ge k (yz_c (T u) (yx_S T u) 0 0 0).length with z | z
    · exact z
    · rw [List.getElem?_eq_none z] at e; cases e
  rw [yz_len] at h1
  have h2 : yx_S T (u + 1) ≤ yx_S T b := yx_Sle (by omega)
  have h3 : yx_S T (u + 1) = yx_S T u + yz_l (T u) := rfl
  omega
theorem yx_allC (hn : nb ≤ 16) (hl : ∀ b, b < nb → yz_l (T b) ≤ 600000) (HT : ∀ b, b < nb → yx_C h0 b (T b)) (eb : (h0.1 20 17) = nI (9 + nb)) : ∀ (m b N : Nat) (h : zs_H), b + m = nb → m < N → yx_PC h0 T b h → ∃ h', f_Cr_codeAll_L28 N h (nI (9 + b)) = some (if yx_S T nb ≤ 4000 then 0 else 50, h') ∧ yx_PC h0 T nb h' := by
  have hS := yx_Sb hl
  intro m
  induction m with
  | zero =>
    intro b N h hb hN S
    obtain ⟨N, rfl⟩ : ∃ z, N = z + 1 := ⟨N - 1, by omega⟩
    have e : b = nb := hb
    subst e
    have := hS b (Nat.le_refl _)
    refine ⟨h, ?_, S⟩
    show f_Cr_codeAll_28 (f_Cr_codeAll_L28 N) h (nI (9 + b)) = _
    unfold f_Cr_codeAll_28
    rw [S.1.1 20 17 (by decide), eb, if_pos ((nI_leI (by omega) (by omega)).mpr (Nat.le_refl _)), S.2.1]
    by_cases z : yx_S T b ≤ 4000
    · rw [if_pos z, if_pos ((zc_el (k := 4000) (by decide) (by omega)).mpr z)]
    · rw [if_neg z, if_neg (mt (zc_el (k := 4000) (by decide) (by omega)).mp z)]
  | succ m ih =>
    intro b N h hb hN S
    obtain ⟨N, rfl⟩ : ∃ z, N = z + 1 := ⟨N - 1, by omega⟩
    obtain ⟨f, s1, s2, s3, s4⟩ := S
    have := hS b (by omega)
    have := hl b (by omega)
    have eS : yx_S T (b + 1) = yx_S T b + yz_l (T b) := rfl
    obtain ⟨h1, hh1⟩ : ∃ h1, h1 = zs_uF h 47 3 (nI (9 + b)) := ⟨_, rfl⟩
    have f1 : yC_f h0 h1 := by rw [hh1]; exact zfr_F (by decide) f
    obtain ⟨h4, e1, e2, e3, e4⟩ := HT b (by omega) h1 (yx_S T b) f1 (by rw [hh1]; rfl) (by rw [hh1]; exact s1) (by omega)
    rw [yz_ml] at e2 e4
    have u4 : (h4.1 41 6) = nI b := (e3.1 _ _ (by decide)).trans (by rw [hh1]; exact s2)
    have f4 : yC_f h0 h4 := zfr_trans f1 (zfr_w e3 (by decide) (by decide) (by decide))
    obtain ⟨h6, hh6⟩ : ∃ h6, h6 = zs_uM (zs_uF h4 41 6 (nI (b + 1))) 46 (b + 1) (nI (yx_S T (b + 1))) := ⟨_, rfl⟩
    have f6 : yC_f h0 h6 := by rw [hh6]; exact zfr_M (by decide) (zfr_F (by decide) f4)
    have eE : f_Cd_endUnit h4 = some h6 := by
      unfold f_Cd_endUnit
      rw [u4, if_neg (mt (zc_le (k := 16) (by decide) (by omega)).mp (by omega)), show nI b + 1 = nI (b + 1) from zc_ad 1 b, if_pos (zi_in (by omega) (by omega)), nI_clamp (by omega), e2, hh6]
      rfl
    have o : ∀ a j, ¬ a = 46 → h6.2.1 a j = h4.2.1 a j := fun a j ha => by
      rw [hh6]
      exact zu_MM.trans (if_neg fun z => ha z.1)
    have S6 : yx_PC h0 T (b + 1) h6 := by
      refine ⟨f6, by rw [hh6]; exact e2, by rw [hh6]; rfl, fun u hu => ?_, fun h4000 => ?_⟩
      · by_cases z : u = b + 1
        · rw [z, hh6]
          exact zu_MM.trans (if_pos ⟨rfl, rfl⟩)
        · have : (h6.2.1 46) u = (h4.2.1 46) u := by
            rw [hh6]
            exact zu_MM.trans (if_neg fun q => z q.2)
          rw [this, e3.2.1 _ (by decide), hh1]
          exact s3 u (by omega)
      · obtain ⟨d1, d2⟩ := e4 h4000
        intro u hu k i hk
        have go : ∀ j, yC_m h4 j i.1 → yC_m h6 j i.1 := fun j q => by
          unfold yC_m at q ⊢
          rw [o _ _ (by decide), o _ _ (by decide), o _ _ (by decide), o _ _ (by decide)]
          exact q
        refine go _ ?_
        by_cases z : u = b
        · subst z
          refine d2 k i.1 ?_
          rw [List.getElem?_map, hk]; rfl
        · have q := s4 (by omega) u (by omega) k i hk
          have hi := yx_in (T := T) (show u < b by omega) hk
          unfold yC_m at q ⊢
          rw [d1 _ hi _ (by decide), d1 _ hi _ (by decide), d1 _ hi _ (by decide), d1 _ hi _ (by decide), hh1]
          exact q
    obtain ⟨h', r1, r2⟩ := ih (b + 1) N h6 (by omega) (by omega) S6
    refine ⟨h', ?_, r2⟩
    show f_Cr_codeAll_28 (f_Cr_codeAll_L28 N) h (nI (9 + b)) = _
    unfold f_Cr_codeAll_28
    rw [f.1 20 17 (by decide), eb, if_neg (mt (nI_leI (by omega) (by omega)).mp (by omega)), ← hh1, e1, Option.bind_some, eE, Option.bind_some, show nI (9 + b) + 1 = nI (9 + (b + 1)) from zc_ad 1 (9 + b)]
    exact r1
theorem yx_allM (hn : nb ≤ 16) (hl : ∀ b, b < nb → yz_l (T b) ≤ 600000) (HT : ∀ b, b < nb → yx_M g0 b (T b)) (eb : (g0.1 68 33) = nI nb) : ∀ (m b N : Nat) (g : zs_H), b + m = nb → m < N → yx_PM g0 T b g → ∃ g', f_Mo_generate_L18 N g (nI b) = some (if yx_S T nb ≤ 4000 then 1 else 0, g') ∧ yx_PM g0 T nb g' ∧ (g'.2.1 103) nb = nI (yx_S T nb) := by
  have hS := yx_Sb hl
  intro m
  induction m with
  | zero =>
    intro b N g hb hN S
    obtain ⟨N, rfl⟩ : ∃ z, N = z + 1 := ⟨N - 1, by omega⟩
    have e : b = nb := hb
    subst e
    have := hS b (Nat.le_refl _)
    obtain ⟨f, s1, s2, s3, s4⟩ := S
    obtain ⟨g', hg'⟩ : ∃ g', g' = zs_uM g 103 b (nI (yx_S T b)) := ⟨_, rfl⟩
    have o : ∀ a j, ¬ a = 103 → g'.2.1 a j = g.2.1 a j := fun a j ha => by
      rw [hg']
      exact zu_MM.trans (if_neg fun z => ha z.1)
    refine ⟨g', ?_, ⟨by rw [hg']; exact zfr_M (by decide) f, by rw [hg']; exact s1, fun u hu => ?_, by rw [hg']; exact s3, fun h4 u hu k i hk => ?_⟩, ?_⟩
    · show f_Mo_generate_18 (f_Mo_generate_L18 N) g (nI b) = _
      unfold f_Mo_generate_18
      rw [f.1 68 33 (by decide), eb, if_pos ((nI_leI (by omega) (by omega)).mpr (Nat.le_refl _)), if_pos (zi_in (by omega) (by omega)), nI_clamp (by omega), s1, ← hg']
      by_cases z : yx_S T b ≤ 4000
      · rw [if_pos z, if_neg (mt (zc_lt (k := 4000) (by decide) (by omega)).mp (by omega))]
      · rw [if_neg z, if_pos ((zc_lt (k := 4000) (by decide) (by omega)).mpr (by omega))]
    · rw [hg']
      exact zu_MM.trans ((if_neg fun q => by have := q.2; omega).trans (s2 u hu))
    · have q := s4 h4 u hu k i hk
      unfold yM_m at q ⊢
      rw [o _ _ (by decide), o _ _ (by decide), o _ _ (by decide), o _ _ (by decide), o _ _ (by decide)]
      exact q
    · rw [hg']
      exact zu_MM.trans (if_pos ⟨rfl, rfl⟩)
  | succ m ih =>
    intro b N g hb hN S
    obtain ⟨N, rfl⟩ : ∃ z, N = z + 1 := ⟨N - 1, by omega⟩
    obtain ⟨f, s1, s2, ⟨s3, s3'⟩, s4⟩ := S
    have := hS b (by omega)
    have := hl b (by omega)
    have eS : yx_S T (b + 1) = yx_S T b + yz_l (T b) := rfl
    obtain ⟨g1, hg1⟩ : ∃ g1, g1 = zs_uF (zs_uM (zs_uF (zs_uF g 68 58 (nI b)) 68 54 (nI b)) 103 b (nI (yx_S T b))) 68 64 0 := ⟨_, rfl⟩
    have f1 : yM_f g0 g1 := by rw [hg1]; exact zfr_F (by decide) (zfr_M (by decide) (zfr_F (by decide) (zfr_F (by decide) f)))
    have bg : ∀ u, (g1.2.1 103) u = if u = b then nI (yx_S T b) else (g.2.1 103) u := fun u => by
      rw [hg1]
      refine zu_MM.trans ?_
      by_cases z : u = b
      · rw [if_pos z, if_pos ⟨rfl, z⟩]
      · rw [if_neg z, if_neg fun q => z q.2]; rfl
    have o : ∀ a j, ¬ a = 103 → g1.2.1 a j = g.2.1 a j := fun a j ha => by
      rw [hg1]
      exact zu_MM.trans (if_neg fun z => ha z.1)
    have c1 : yM_c g1 (yx_S T b) (yx_S T b) b 0 := ⟨⟨by rw [hg1]; exact s1, Nat.le_refl _⟩, ⟨by rw [hg1]; rfl, by omega, by rw [bg, if_pos rfl]⟩, by rw [hg1]; rfl, by rw [hg1]; rfl⟩
    obtain ⟨g2, e1, ⟨e2, e3, e4⟩, e5, e6⟩ := HT b (by omega) g1 (yx_S T b) f1 c1 (by rw [hg1]; exact s3) (by rw [hg1]; exact s3') (by omega)
    rw [yz_len] at e2 e4
    have S2 : yx_PM g0 T (b + 1) g2 := by
      refine ⟨zfr_trans f1 (zfr_w e3 (by decide) (by decide) (by decide)), e2, fun u hu => ?_, ⟨e5, e6⟩, fun h4000 => ?_⟩
      · rw [e3.2.1 _ (by decide), bg]
        by_cases z : u = b
        · rw [if_pos z, z]
        · rw [if_neg z]; exact s2 u (by omega)
      · obtain ⟨d1, d2⟩ := e4 h4000
        intro u hu k i hk
        by_cases z : u = b
        · subst z; exact d2 k i hk
        · have q := s4 (by omega) u (by omega) k i hk
          have hi := yx_in (T := T) (show u < b by omega) hk
          unfold yM_m at q ⊢
          rw [d1 _ hi _ (by decide), d1 _ hi _ (by decide), d1 _ hi _ (by decide), d1 _ hi _ (by decide), d1 _ hi _ (by decide), o _ _ (by decide), o _ _ (by decide), o _ _ (by decide), o _ _ (by decide), o _ _ (by decide)]
          exact q
    obtain ⟨g', r1, r2⟩ := ih (b + 1) N g2 (by omega) (by omega) S2
    refine ⟨g', ?_, r2⟩
    show f_Mo_generate_18 (f_Mo_generate_L18 N) g (nI b) = _
    unfold f_Mo_generate_18
    rw [f.1 68 33 (by decide), eb, if_neg (mt (nI_leI (by omega) (by omega)).mp (by omega)), if_pos (zi_in (show b < 2147483648 by omega) (show b < 17 by omega)), if_pos (zi_in (show b < 2147483648 by omega) (show b < 2100 by omega)), nI_clamp (by omega), s1, ← hg1, ← o 86 b (by decide)]
    exact (e1 _).trans r1
end YXD
/-- all is coded -/
def yx_Z (sz : Nat) (LC LM : List (List Int32)) (h0 g0 h g : zs_H) : Prop := ∃ (nb : Nat) (F X Y : Nat → Nat) (K : Nat → Nat) (T : Nat → ys), (nb ≤ 16 ∧ yk_cx LC LM nb F X Y h0 g0) ∧ ((∀ j, j < nb → (K j = 1 ∨ K j = 2 ∨ K j = 3) ∧ (h0.2.1 21) (9 + j) = nI (K j) ∧ (g0.2.1 86) j = nI (K j)) ∧ yh_T nb X K h0 g0) ∧ (∀ b, b < nb → yx_T X Y h0 b (T b)) ∧ yx_S T nb ≤ 4000 ∧ yx_PC h0 T nb h ∧ yx_PM g0 T nb g ∧ (g.2.1 103) nb = nI (yx_S T nb) ∧ ∀ j, j < nb → ∃ i k, i < 32784 ∧ k < 33500 ∧ (h0.2.1 22) (9 + j) = nI i ∧ (g0.2.1 84) j = nI k ∧ (h0.2.1 15) i = (g0.2.1 73) k
theorem yx_all {sz : Nat} {LC LM : List (List Int32)} {h0 g0 : zs_H} (Z : yh_Z sz LC LM h0 g0) (hsz : (h0.1 12 6) = nI sz) (hs2 : sz ≤ 32784) (e46 : (h0.2.1 46) 0 = 0) (w1 : (g0.1 68 68) = 0) (w2 : (g0.1 68 66) = 0) : ∃ h g, yC_f h0 h ∧ yM_f g0 g ∧ ((h.2.1 46) 0 = 0 ∧ (g.1 68 68) = 0 ∧ (g.1 68 66) = 0) ∧ ((f_Cr_codeAll h0 = some (50, h) ∧ f_Mo_generate g0 = some (0, g)) ∨ (f_Cr_codeAll h0 = some (0, h) ∧ f_Mo_generate g0 = some (1, g) ∧ yx_Z sz LC LM h0 g0 h g)) := by
  have hz := zF_big
  obtain ⟨nb, F, X, K, I, si, BK, TT, KK⟩ := Z
  have HB := I.2.1
  have hnb := HB.1.2.2
  have eC : f_Cr_codeAll h0 = (if nb ≤ 16 then f_Cr_codeAll_L28 zF (zs_uF (zs_uF h0 41 5 0) 41 6 0) (nI (9 + 0)) else some (50, zs_uF (zs_uF h0 41 5 0) 41 6 0)) := by
    unfold f_Cr_codeAll f_Cd_forget
    rw [Option.bind_some, show ((zs_uF (zs_uF h0 41 5 0) 41 6 0).1 20 17) = nI (9 + nb) from HB.1.1, show nI (9 + nb) - 9 = nI nb by rw [show nI (9 + nb) - 9 = nI (9 + nb - 9) from zi_sub (b := 9) (by omega)]; congr 1; omega]
    by_cases q : nb ≤ 16
    · rw [if_pos q, if_pos ((zc_el (k := 16) (by decide) (by omega)).mpr q)]; rfl
    · rw [if_neg q, if_neg (mt (zc_el (k := 16) (by decide) (by omega)).mp q)]
  have eM : f_Mo_generate g0 = (if nb ≤ 16 then f_Mo_generate_L18 zF (zs_uF g0 68 56 0) (nI 0) else some (0, zs_uF g0 68 56 0)) := by
    unfold f_Mo_generate
    rw [HB.1.2.1]
    by_cases q : nb ≤ 16
    · rw [if_pos q, if_pos ((zc_el (k := 16) (by decide) (by omega)).mpr q)]; rfl
    · rw [if_neg q, if_neg (mt (zc_el (k := 16) (by decide) (by omega)).mp q)]
  have fC : yC_f h0 (zs_uF (zs_uF h0 41 5 0) 41 6 0) := zfr_F (by decide) (zfr_F (by decide) zfr_rfl)
  have fM : yM_f g0 (zs_uF g0 68 56 0) := zfr_F (by decide) zfr_rfl
  rw [eC, eM]
  by_cases q : nb ≤ 16
  · rw [if_pos q, if_pos q]
    obtain ⟨Y, hY⟩ : ∃ Y : Nat → Nat, Y = fun b => ((h0.2.1 25) (9 + b)).toNatClampNeg := ⟨_, rfl⟩
    have C : yk_cx LC LM nb F X Y h0 g0 := by
      refine ⟨I, si, fun b hb => ?_⟩
      obtain ⟨⟨b1, b2⟩, ⟨b3, b4⟩, b5, b6⟩ := BK b hb
      obtain ⟨Pb, Qb, _, Fb, i, k, c, kv, lb, a, bn, y, m, _, _, _, ⟨hc, hA, ok, _⟩, ⟨_, ⟨_, a2⟩, _⟩, _, ⟨⟨y1, y1'⟩, y2, y3⟩, _, _, S3, _⟩ := KK b hb
      have ey : Y b = y := by rw [hY]; show ((h0.2.1 25) (9 + b)).toNatClampNeg = y; rw [y2, nI_clamp (by omega)]
      have hbd := (yg_body (kv := kv) (o := ()) hc hA ok).2
      have hsl : zt_sz (.inner c kv () lb .leaf) = 1 + zt_sz lb + 0 := rfl
      have eX : X b = y + yc_o (.inner c kv () lb .leaf) := (nI_eq (by omega) (by omega)).mp (b4.symm.trans y3)
      rw [ey]
      exact ⟨⟨b1, by omega, y1⟩, b4, b6, y2, y1', fun v v1 v2 => ⟨(S3 v v1 v2).2.2, (S3 v v1 v2).2.1⟩⟩
    have U : ∀ b, b < nb → ∃ T, yx_C h0 b T ∧ yx_M g0 b T ∧ yx_T X Y h0 b T := fun b hb => by
      obtain ⟨Pb, Qb, hP, Kb⟩ := KK b hb
      exact yx_unit C hb q hP hsz hs2 Kb
    obtain ⟨T, HT⟩ : ∃ T : Nat → ys, ∀ b, b < nb → yx_C h0 b (T b) ∧ yx_M g0 b (T b) ∧ yx_T X Y h0 b (T b) := by
      refine ⟨fun b => if hb : b < nb then Classical.choose (U b hb) else .leaf, fun b hb => ?_⟩
      have e : (if hb : b < nb then Classical.choose (U b hb) else .leaf) = Classical.choose (U b hb) := dif_pos hb
      show yx_C h0 b (if hb : b < nb then Classical.choose (U b hb) else .leaf) ∧ yx_M g0 b (if hb : b < nb then Classical.choose (U b hb) else .leaf) ∧ yx_T X Y h0 b (if hb : b < nb then Classical.choose (U b hb) else .leaf)
      rw [e]
      exact Classical.choose_spec (U b hb)
    have hl : ∀ b, b < nb → yz_l (T b) ≤ 600000 := fun b hb => (HT b hb).2.2.2.2.1
    obtain ⟨h, c1, c2⟩ := yx_allC q hl (fun b hb => (HT b hb).1) HB.1.1 nb 0 zF (zs_uF (zs_uF h0 41 5 0) 41 6 0) (by omega) (by omega) ⟨fC, rfl, rfl, fun u hu => by rw [show u = 0 by omega]; exact e46, fun _ u hu => absurd hu (Nat.not_lt_zero u)⟩
    obtain ⟨g, m1, m2, m3⟩ := yx_allM q hl (fun b hb => (HT b hb).2.1) HB.1.2.1 nb 0 zF (zs_uF g0 68 56 0) (by omega) (by omega) ⟨fM, rfl, fun u hu => absurd hu (Nat.not_lt_zero u), ⟨w1, w2⟩, fun _ u hu => absurd hu (Nat.not_lt_zero u)⟩
    refine ⟨h, g, c2.1, m2.1, ⟨c2.2.2.2.1 0 (Nat.zero_le _), m2.2.2.2.1⟩, ?_⟩
    rw [c1, m1]
    by_cases z : yx_S T nb ≤ 4000
    · rw [if_pos z, if_pos z]
      exact .inr ⟨rfl, rfl, nb, F, X, Y, K, T, ⟨q, C⟩, ⟨fun j hj => ⟨(BK j hj).1.2, (BK j hj).2.1.1, (BK j hj).2.2.1⟩, TT⟩, fun b hb => (HT b hb).2.2, z, c2, m2, m3, fun j hj => by
        obtain ⟨_, _, _, _, i, k, _, _, _, _, _, _, _, _, ⟨i1, i2, i3, i4⟩, _, _, _, _, _, _, _, _, pl⟩ := KK j hj
        exact ⟨i, k, i1, i2, i3, i4, pl⟩⟩
    · rw [if_neg z, if_neg z]
      exact .inl ⟨rfl, rfl⟩
  · rw [if_neg q, if_neg q]
    exact ⟨_, _, fC, fM, ⟨e46, w1, w2⟩, .inl ⟨rfl, rfl⟩⟩
