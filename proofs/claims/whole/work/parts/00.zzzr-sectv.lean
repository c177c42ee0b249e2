/-! The judge: a section is visited. -/
theorem zv_sectV {LC LM : List (List Int32)} {nb nf s sz i k d D D' yv : Nat} {F : Nat → Nat} {l : zt_T} {P Q : Nat → Prop} {h g : zs_H} {y y' p0 : Int32} (I : zv_I LC LM nb nf (F nb) F (-1) h g) (hbo : nf + 1 = nb) (hd : d + 2 < 240) (hN : F nb + zg_c l ≤ 5900) (hs : s < 3) (hi : i < 32784) (hk : k < 33500) (hP : ∀ j, P j → j < 32784 ∧ j < sz) (hQ : ∀ j, Q j → j < 33500) (hsz : (h.1 12 6) = nI sz) (hs3 : 3 ≤ sz) (hsz2 : sz < 100000) (c0 : (h.2.1 13) i = 4) (c1 : (h.2.1 15) i = p0) (c2 : (h.2.1 16) i = nI s) (m0 : (g.2.1 72) k = 4) (m1 : (g.2.1 73) k = p0) (m2 : (g.2.1 74) k = nI s) (hC : zt_C h l P ((h.2.1 17) i) y) (hM : zt_M LC LM g l Q (nI k) ((g.2.1 76) k) y') (hA : zg_A 4 (zg_run 4 0 l) = true) (hok : zg_ok l) (hty : ∀ j, P j → (h.2.1 14) j = 0) (hy : (h.2.1 25) (8 + nb) = nI yv) (hy2 : yv ≤ 4096) :
    ∃ h' g', f_Jd_visit (D + 4) h (nI i) (nI d) = some h' ∧ f_Mo_look (D' + 8) g (nI k) = some g' ∧ ((zv_Fb h g h' g' ∧ ¬ (h'.1 38 3) = 0 ∧ ¬ (g'.1 68 29) = 0) ∨ (∃ F' hx, (∀ j, ¬ j = nb → F' j = F j) ∧ F' nb ≤ F nb + zg_c l ∧ zv_I LC LM nb nf (F' nb) F' (-1) h' g' ∧ (∃ y, y ≤ 4096 ∧ (h'.2.1 25) (8 + nb) = nI y) ∧ hx = zs_uF h 38 5 (nI s) ∧ zv_fr P Q hx g h' g' ∧ zv_sk nb hx g h' g' ∧ zv_vn (F (nb - 1)) ((hx.2.1 21) (8 + nb)) (F nb) (F' nb) hx h' ∧ F nb ≤ F' nb)) := by
  have hb : 0 < nb := by omega
  obtain ⟨h1, hh1⟩ : ∃ h1, h1 = zs_uF h 38 5 (nI s) := ⟨_, rfl⟩
  have f01 : zfr [(38, 5)] [] [] h h1 := by rw [hh1]; exact zfr_F (by decide) zfr_rfl
  have A1 : ∀ z, h1.2.1 z = h.2.1 z := fun z => f01.2.1 z List.not_mem_nil
  have hen : f_Jd_enter h (nI i) = some h1 := by
    unfold f_Jd_enter
    simp (config := { decide := true }) only [if_pos (zi_in (show i < 2147483648 by omega) hi), nI_clamp (show i < 2147483648 by omega), c0, if_false, if_true, c2, hh1]
  have I1 : zv_I LC LM nb nf (F nb) F (-1) h1 g := zv_Ifr I (zfr_w f01 (by decide) (by decide) (by decide)) zfr_rfl
  have sec : (h1.1 38 5) = nI s := by rw [hh1]; rfl
  have siz : (h1.1 12 6) = nI sz := (f01.1 _ _ (by decide)).trans hsz
  have hC1 : zt_C h1 l P ((h1.2.1 17) i) y := by
    rw [A1]
    exact zt_fr l P P 0 _ y (fun i _ => ⟨fun kd k up z hz => by unfold zt_NC at hz ⊢; rw [A1, A1, A1]; exact hz, by rw [A1], by rw [A1]⟩) (fun i hi => hi) hC
  have hln : zt_ln l ≤ sz := Nat.le_trans (zv_lnsz l) (Nat.le_trans (zt_sz_le l P _ _ _ sz hC (fun j hj => (hP j hj).2)) (zc_cnt_le _ _))
  have S0 : zv_SS LC LM nb nf k F l P Q h1 g l h1 g ((h1.2.1 17) i) ((g.2.1 76) k) := by
    refine ⟨P, Q, y, y', F, ⟨hC1, hM⟩, ⟨fun _ z => z, fun _ z => z⟩, ⟨hok, fun z => ?_⟩, I1, ⟨fun _ _ => rfl, Nat.le_refl _⟩, fun j hj => by rw [A1]; exact hty j hj, ⟨yv, hy2, by rw [A1]; exact hy⟩, zv_fr0, ⟨⟨rfl, ⟨rfl, rfl, rfl⟩, rfl, rfl⟩, ⟨rfl, rfl, rfl⟩, rfl, fun _ _ => rfl⟩, ⟨fun _ _ => ⟨rfl, rfl, rfl, rfl, rfl, rfl, rfl, rfl⟩, fun v h1 h2 => by omega⟩, Nat.le_refl _⟩
    rw [z, zv_A99] at hA
    exact absurd hA (by decide)
  have stp : zv_stp (D + 3) (D' + 6) d sz (zv_SS LC LM nb nf k F l P Q h1 g) (zv_Fb h1 g) := by
    intro c kv w lc r h g x x' S
    exact zv_sDecl (D := D) (D' := D') hbo hP hQ hd hN hs hk hs3 hsz2 sec siz m2 S
  have hend : ∀ h' g' x x', zv_SS LC LM nb nf k F l P Q h1 g .leaf h' g' x x' → x = -1 ∧ x' = -1 := by
    intro h' g' x x' S
    obtain ⟨_, _, yy, yy', _, ⟨sC, sM⟩, _⟩ := S
    exact ⟨(show x = -1 ∧ yy = -1 from sC).1, (show x' = -1 ∧ yy' = -1 from sM).1⟩
  rcases zv_node (D := D + 3) (D' := D' + 6) (kd := 4) (by omega) hsz2 hi hk (by decide) (by decide) (by decide) m0 hen stp hend S0 hln with ⟨h', g', e1, e2, ⟨X, x1, x2⟩, e4, e5⟩ | ⟨h', g', S, e1, e2⟩
  · exact ⟨h', g', e1, e2, .inl ⟨⟨X, zfr_trans (zfr_w f01 (by decide) (by decide) (by decide)) x1, x2⟩, e4, e5⟩⟩
  · obtain ⟨_, _, _, _, F', _, _, _, I', ⟨s8, s9⟩, _, hyy, s11, s12, s13, s14⟩ := S
    have J1 : (h'.1 38 3) = 0 := I'.2.2.2.2.2.2.2.1
    have J2 : (g'.1 68 29) = 0 := I'.2.2.2.2.2.2.2.2
    have gT : ∀ z, ¬ z ∈ zv_mm → g'.2.1 z = g.2.1 z := fun z hz => s11.2.1.2.1 z hz
    have hT : ∀ z, ¬ z ∈ (14 :: zv_cm) → h'.2.1 z = h1.2.1 z := fun z hz => s11.1.2.1 z hz
    obtain ⟨h2, g2, r1, r2, r3⟩ := zv_section (i := i) (k := k) (s := s) I' hb hi hk hs (s12.2.1.2.2.trans sec) (by rw [gT 72 (by decide)]; exact m0) (by rw [gT 74 (by decide)]; exact m2)
    have eC : f_Jd_visit (D + 3 + 1) h (nI i) (nI d) = some h2 := by
      rw [e1]
      unfold f_Jd_visit_74
      rw [if_pos J1, Option.bind_fun_some, zv_lv4 hi (by rw [hT 13 (by decide), A1]; exact c0), r1]
    have eM : f_Mo_look (D' + 6 + 2) g (nI k) = some g2 := by
      rw [e2, Option.bind_fun_some, zv_54B (by decide) J2, r2]
    refine ⟨h2, g2, eC, eM, ?_⟩
    rcases r3 with ⟨t1, t2⟩ | Y
    · subst t1; subst t2
      exact .inr ⟨F', h1, s8, s9, I', hyy, hh1, s11, s12, s13, s14⟩
    · obtain ⟨X, f1, f2⟩ := zv_YX Y (by decide) (by decide) (show (h'.2.1 15) i = p0 by rw [hT 15 (by decide), A1]; exact c1) (show (g'.2.1 73) k = p0 by rw [gT 73 (by decide)]; exact m1)
      have xn := zv_Xn X
      exact .inl ⟨⟨⟨13, _, X⟩, zfr_trans (zfr_w f01 (by decide) (by decide) (by decide)) (zfr_trans (zfr_w s11.1 (fun _ z => z) (by decide) (by decide)) (zfr_w f1 (fun _ z => z) (by decide) (by decide))), zfr_trans s11.2.1 f2⟩, xn.1, xn.2⟩
