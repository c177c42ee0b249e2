section
/-! The judge: a block is visited (from its beginning to its end). -/
theorem zt_szap : ∀ t u : zt_T, zt_sz (zt_ap t u) = zt_sz t + zt_sz u := by
  intro t u
  induction t with
  | leaf => show zt_sz u = 0 + zt_sz u; omega
  | inner kd kv o l r ihl ihr =>
    show 1 + zt_sz l + zt_sz (zt_ap r u) = 1 + zt_sz l + zt_sz r + zt_sz u
    rw [ihr]; omega
theorem yg_ent {h : zs_H} {i kd : Nat} (hi : i < 32784) (hkd : kd = 1 ∨ kd = 2 ∨ kd = 3) (c : (h.2.1 13) i = nI kd) : f_Jd_enter h (nI i) = f_Jd_enterBlock h (nI i) := by
  unfold f_Jd_enter
  rcases hkd with e | e | e <;> subst e
  · simp (config := { decide := true }) only [if_pos (zi_in (show i < 2147483648 by omega) hi), nI_clamp (show i < 2147483648 by omega), show (h.2.1 13) i = 1 from c, if_true, if_false, Option.bind_fun_some]
  · simp (config := { decide := true }) only [if_pos (zi_in (show i < 2147483648 by omega) hi), nI_clamp (show i < 2147483648 by omega), show (h.2.1 13) i = 2 from c, if_true, if_false, Option.bind_fun_some]
  · simp (config := { decide := true }) only [if_pos (zi_in (show i < 2147483648 by omega) hi), nI_clamp (show i < 2147483648 by omega), show (h.2.1 13) i = 3 from c, if_true, if_false, Option.bind_fun_some]
theorem yg_flC {h : zs_H} {D : Nat} {x1 x2 x3 x4 : Int32} (hf : ¬ (h.1 38 3) = 0) : f_Jd_visit_L26 (f_Jd_visit D) zF h x1 x2 x3 x4 = some h := by
  obtain ⟨N, hN⟩ : ∃ N, zF = N + 1 := ⟨zF - 1, by have := zF_big; omega⟩
  rw [hN]
  show f_Jd_visit_26 (f_Jd_visit D) (f_Jd_visit_L26 (f_Jd_visit D) N) h x1 x2 x3 x4 = _
  unfold f_Jd_visit_26 f_Jd_visit_74
  simp only [if_neg hf, ite_self]
theorem yg_flM {g : zs_H} {D : Nat} {x1 x2 x3 : Int32} (hf : ¬ (g.1 68 29) = 0) : f_Mo_lookAlone_L28 (f_Mo_look D) zF g x1 x2 x3 = some g := by
  obtain ⟨N, hN⟩ : ∃ N, zF = N + 1 := ⟨zF - 1, by have := zF_big; omega⟩
  rw [hN]
  show f_Mo_lookAlone_28 (f_Mo_look D) (f_Mo_lookAlone_L28 (f_Mo_look D) N) g x1 x2 x3 = _
  unfold f_Mo_lookAlone_28 f_Mo_lookAlone_54
  simp only [if_neg hf, ite_self]
theorem yg_lv {h : zs_H} {i kd : Nat} (hi : i < 32784) (hkd : kd = 1 ∨ kd = 2 ∨ kd = 3) (c : (h.2.1 13) i = nI kd) : f_Jd_leave h (nI i) = f_Jd_leaveBlock h (nI i) := by
  rcases hkd with e | e | e <;> subst e
  · exact zv_lv1 hi c
  · exact zv_lv2 hi c
  · exact zv_lv3 hi c
/-- the type of a FUNCTION -/
theorem yg_ty {LC LM : List (List Int32)} {h g : zs_H} {l : zt_T} {P Q : Nat → Prop} {x y up x' y' : Int32} (hP : ∀ j, P j → j < 32784) (hQ : ∀ j, Q j → j < 33500) (cC : zt_C h l P x y) (cM : zt_M LC LM g l Q up x' y') (hA : zg_A 1 (zg_run 1 0 l) = true) (ok : zg_ok l) : ∃ i' k' ty, i' < 32784 ∧ k' < 33500 ∧ ty < 3 ∧ x = nI i' ∧ (h.2.1 16) i' = nI ty ∧ x' = nI k' ∧ (g.2.1 74) k' = nI ty := by
  have key : ∀ r ∈ zg_R, r.1 = 1 → r.2.1 = 0 → ∀ c ∈ r.2.2.1, c = 8 := by decide +kernel
  cases l with
  | leaf => exact absurd hA (by decide)
  | inner c kv o lc r =>
    obtain ⟨cs, to, m1, m2, m3⟩ := zv_qR (yb_run hA)
    have e8 := key _ m1 rfl rfl c m2
    subst e8
    obtain ⟨a, _, _, _, _, ea, _, a2, _, _, a5, _⟩ := zv_hC cC
    obtain ⟨b, _, _, _, eb, _, b2, _, _, b5, _⟩ := zv_hM cM
    rcases ok.1.2 with z | ⟨x, x1, x2, _⟩
    · exact absurd z (by decide)
    · exact ⟨a, b, x, hP a a2, hQ b b2, x1, ea, a5.trans x2, eb, (show (g.2.1 74) b = kv.2 from b5).trans x2⟩
theorem yg_blockV {LC LM : List (List Int32)} {nb sz i k t0 d D D' kd : Nat} {F : Nat → Nat} {h g : zs_H} {l : zt_T} {P Q : Nat → Prop} {y0 : Int32} {kv : Int32 × Int32} (I : zv_I LC LM nb nb (F nb) F (-1) h g) (si : zv_si (F nb) h) (hnb : nb < 568) (hN : F nb + 1 + zg_c l ≤ 5900) (hi : i < 32784) (hk : k < 33500) (hPi : ¬ P i) (hQk : ¬ Q k) (hP : ∀ j, P j → j < 32784 ∧ j < sz) (hQ : ∀ j, Q j → j < 33500) (hkd : kd = 1 ∨ kd = 2 ∨ kd = 3) (c0 : (h.2.1 13) i = nI kd) (c1 : (h.2.1 15) i = kv.1) (c2 : (h.2.1 16) i = kv.2) (c4 : ∀ j, P j → (h.2.1 14) j = 0) (cC : zt_C h l P ((h.2.1 17) i) y0) (m0 : (g.2.1 72) k = nI kd) (m1 : (g.2.1 73) k = kv.1) (m2 : zt_nr LC LM kv.2 ((g.2.1 74) k)) (m3 : (g.2.1 75) k = nI t0) (cM : zt_M LC LM g l Q (nI k) ((g.2.1 76) k) ((g.2.1 77) k)) (hA : zg_A kd (zg_run kd 0 l) = true) (ok : zg_ok l) (hdl : zg_d l ≤ 185) (hcx : zg_cx l) (hd0 : d ≤ 50) (hs3 : 3 ≤ sz) (hsz2 : sz ≤ 32784) (hsz : (h.1 12 6) = nI sz) (hD : 4 ≤ D ∧ zg_d l ≤ D) (hD' : 8 ≤ D' ∧ 2 * zg_d l < D') (ht0 : t0 < 33500) (u2 : (g.2.1 75) t0 = -1) (u3 : ¬ (g.2.1 72) t0 = 19) (lp : (h.1 38 12) = 0) :
    ∃ h' g', f_Jd_visit (D + 1) h (nI i) (nI d) = some h' ∧ f_Mo_look (D' + 2) g (nI k) = some g' ∧ ((zv_Fb h g h' g' ∧ ¬ (h'.1 38 3) = 0 ∧ ¬ (g'.1 68 29) = 0) ∨ ∃ F' : Nat → Nat, zv_I LC LM (nb + 1) (nb + 1) (F' (nb + 1)) F' (-1) h' g' ∧ (zv_si (F' (nb + 1)) h' ∧ (h'.2.1 27) (9 + nb) = 0) ∧ (∀ j, j ≤ nb → F' j = F j) ∧ F' (nb + 1) ≤ F nb + 1 + zg_c l ∧ (h'.1 38 12) = 0 ∧ (h'.2.1 22) (9 + nb) = nI i ∧ yg_bf nb (F nb) P Q h g h' g' ∧ yg_K LC LM F' sz nb P Q h' g') := by
  have hz := zF_big
  obtain ⟨c, k', v1, v2, c41, cl, kl, ce⟩ := id m2
  have hc : c < 6000 := Nat.lt_trans cl I.1.2.2.1
  obtain ⟨h1, g1, b1, b2, fC, fM, r⟩ := yg_begin (c := c) (w := (g.2.1 74) k) (p := kv.1) I hnb (by omega) hi hk hkd c0 (c2.trans v1) c1 m0 rfl m1 (by rw [← v1]; exact m2) hc (fun e => yg_ty (fun j hj => (hP j hj).1) hQ cC cM (by rw [← e]; exact hA) ok)
  obtain ⟨e1, e2⟩ := yg_bnode (D := D) (D' := D') (d := d) (by omega) hi hk hkd m0 ((yg_ent hi hkd c0).trans b1) b2
  rcases r with ⟨φ, X⟩ | ⟨⟨o1, o2, o3, o4, o5, o6, I1⟩, ob⟩
  · have xn := zv_Xn X
    exact ⟨h1, g1, by rw [e1]; exact yg_flC xn.1, by rw [e2]; exact yg_flM xn.2, .inl ⟨⟨⟨φ, _, X⟩, zfr_w fC (fun _ z => z) (by decide) (by decide), fM⟩, xn.1, xn.2⟩⟩
  obtain ⟨F1, hF1⟩ : ∃ F1 : Nat → Nat, F1 = (fun j => if j = nb + 1 then (if kd = 1 then F nb + 1 else F nb) else F j) := ⟨_, rfl⟩
  have eF : F1 (nb + 1) = (if kd = 1 then F nb + 1 else F nb) := by rw [hF1]; exact if_pos rfl
  have eF2 : ∀ j, ¬ j = nb + 1 → F1 j = F j := fun j hj => by rw [hF1]; exact if_neg hj
  rw [← hF1, ← eF] at I1
  have hFF : F nb ≤ F1 (nb + 1) ∧ F1 (nb + 1) ≤ F nb + 1 := by rw [eF]; split <;> omega
  obtain ⟨⟨t1, t2, t3⟩, obk, ob1, ob2, opl, yv0, yy1, yy2⟩ := ob
  have fr0 : zv_fr P Q h g h1 g1 := ⟨zfr_w fC (fun _ z => z) (by decide) (by decide), fM, fun j _ => by rw [fC.2.1 _ (by decide)], fun j _ => ⟨by rw [t1], by rw [t2], by rw [t3]⟩⟩
  obtain ⟨kC, kM⟩ := zv_CM fr0 cC cM
  have hA1 : ∀ z, ¬ z ∈ zv_cm → h1.2.1 z = h.2.1 z := fun z hz => fC.2.1 z hz
  have gA1 : ∀ z, ¬ z ∈ zv_mm → g1.2.1 z = g.2.1 z := fun z hz => fM.2.1 z hz
  have siz1 : (h1.1 12 6) = nI sz := (fC.1 _ _ (by decide)).trans hsz
  have si1 : zv_si (F1 (nb + 1)) h1 := by
    intro v hv hs
    by_cases q : v < F nb
    · obtain ⟨w1, w2, w3, _⟩ := ob2 (32 + v) (by omega)
      rw [w3]
      exact si v q (by rw [← w2]; exact hs)
    · have k1 : kd = 1 := by
        rw [eF] at hv
        by_cases z : kd = 1
        · exact z
        · rw [if_neg z] at hv; omega
      rw [eF, if_pos k1] at hv
      have : v = F nb := by omega
      rw [this]
      exact (obk k1).1
  have hln : zt_sz l ≤ sz := Nat.le_trans (zt_sz_le l P _ _ _ sz cC (fun j hj => (hP j hj).2)) (zc_cnt_le _ _)
  have hln2 := zv_lnsz l
  have S0 : yg_S LC LM (nb + 1) nb kd k F1 l P Q y0 ((g1.2.1 77) k) h1 g1 l h1 g1 ((h1.2.1 17) i) ((g1.2.1 76) k) := by
    refine .inl ⟨0, .leaf, P, Q, y0, (g1.2.1 77) k, F1, ⟨rfl, trivial, trivial⟩, ⟨?_, ?_⟩, ⟨fun _ z => z, fun _ z => z⟩, ⟨ok, hA, by omega, Nat.le_refl _⟩, ⟨I1, ⟨fun _ _ => rfl, Nat.le_refl _⟩, ⟨yv0, yy1, by rw [show 8 + (nb + 1) = 9 + nb by omega]; exact yy2⟩, zv_fr0, ⟨⟨rfl, ⟨rfl, rfl, rfl⟩, rfl, rfl⟩, ⟨rfl, rfl⟩, rfl, fun _ _ => rfl⟩, ⟨fun _ _ => ⟨rfl, rfl, rfl, rfl, rfl, rfl, rfl, rfl⟩, fun v h1 h2 => by omega⟩⟩, Nat.le_refl _, fun j hj => by rw [hA1 14 (by decide)]; exact c4 j hj, fun _ => ⟨rfl, rfl⟩⟩
    · rw [hA1 17 (by decide)]; exact kC
    · rw [gA1 76 (by decide), gA1 77 (by decide)]; exact kM
  have stp : zv_stp D D' d sz (yg_S LC LM (nb + 1) nb kd k F1 l P Q y0 ((g1.2.1 77) k) h1 g1) (zv_Fb h1 g1) := by
    intro c kv w lc r h2 g2 x x' S
    exact yg_step (t0 := t0) rfl hkd hP hQ (by omega) (by omega) (by omega) hk hs3 hsz2 siz1 hD hD' si1 ht0 (by rw [gA1 _ (by decide)]; exact m3) (by rw [gA1 _ (by decide)]; exact u2) (by rw [gA1 _ (by decide)]; exact u3) (by rw [gA1 _ (by decide)]; exact m0) (o2.trans lp) o1 S
  have hend : ∀ h2 g2 x x', yg_S LC LM (nb + 1) nb kd k F1 l P Q y0 ((g1.2.1 77) k) h1 g1 .leaf h2 g2 x x' → x = -1 ∧ x' = -1 := by
    intro h2 g2 x x' S
    rcases S with ⟨_, _, _, _, yy, yy', _, _, ⟨sC, sM⟩, _⟩ | ⟨_, q1, q2, _⟩
    · exact ⟨(show x = -1 ∧ yy = -1 from sC).1, (show x' = -1 ∧ yy' = -1 from sM).1⟩
    · exact ⟨q1, q2⟩
  rcases zv_fold (i := i) (k := k) (kd := kd) (by omega) (by omega) stp hend l 0 zF zF h1 g1 _ _ S0 (by omega) (by omega) (by omega) with ⟨h', g', r1, r2, B, n1, n2⟩ | ⟨h2, g2, S, r1, r2⟩
  · exact ⟨h', g', by rw [e1]; exact r1, by rw [e2]; exact r2, .inl ⟨⟨B.1, zfr_trans (zfr_w fC (fun _ z => z) (by decide) (by decide)) B.2.1, zfr_trans fM B.2.2⟩, n1, n2⟩⟩
  rcases S with ⟨st, w, Pu, Qu, yy, yy', F', _, _, _, ⟨_, gA, hst, _⟩, _⟩ | ⟨_, _, _, SB⟩
  · exfalso
    have gA' : zg_A kd st = true := gA
    have q : st = 0 ∨ st = 1 := by omega
    rcases hkd with e | e | e <;> rcases q with q | q <;> rw [e, q] at gA' <;> exact absurd gA' (by decide)
  obtain ⟨w, F', hb, gb, c', kvb, lb, a, b, P1, Q1, ⟨el, sw, okw⟩, ⟨hc', hAb, okb⟩, ⟨AA, hFc⟩, ⟨⟨ha, hbb, ea, eb⟩, ⟨Pa, Qb⟩, P1P, Q1Q⟩, ⟨O, A⟩, ⟨n1, n2, ow, xx⟩, kb, nx, bs⟩ := SB
  obtain ⟨IA, ⟨FA1, FA2⟩, ⟨yv, y1, y2⟩, fr, sk, vn⟩ := AA
  have I2 : zv_I LC LM (nb + 1) nb (F' (nb + 1)) F' (-1) h2 g2 := zv_Ifr IA (zfr_w O.1 (by decide) (by decide) (by decide)) O.2.1
  have noP : ∀ j, ¬ P j → ¬ (P1 j ∨ j = a) := fun j hj z => hj (z.elim (P1P j) (fun e => by rw [e]; exact Pa))
  have noQ : ∀ j, ¬ Q j → ¬ (Q1 j ∨ j = b) := fun j hj z => hj (z.elim (Q1Q j) (fun e => by rw [e]; exact Qb))
  have hA2 : ∀ z, ¬ z ∈ (13 :: 14 :: 16 :: 17 :: zv_cm) → h2.2.1 z = h.2.1 z := fun z hz => ((zfr_w O.1 (by decide) (by decide) (by decide) : zfr zv_cf (13 :: 14 :: 16 :: 17 :: zv_cm) [] hb h2).2.1 z hz).trans (((zfr_w fr.1 (fun _ z => z) (by decide) (by decide) : zfr zv_cf (13 :: 14 :: 16 :: 17 :: zv_cm) [] h1 hb).2.1 z hz).trans ((zfr_w fC (fun _ z => z) (by decide) (by decide) : zfr zv_cf (13 :: 14 :: 16 :: 17 :: zv_cm) [] h h1).2.1 z hz))
  have gA2 : ∀ z, ¬ z ∈ zv_mm → g2.2.1 z = g.2.1 z := fun z hz => ((zfr_w O.2.1 (by decide) (by decide) (by decide) : zfr zv_mf zv_mm [] gb g2).2.1 z hz).trans ((fr.2.1.2.1 z hz).trans (gA1 z hz))
  have same : ∀ j, ¬ P j → (h2.2.1 13) j = (h.2.1 13) j ∧ (h2.2.1 14) j = (h.2.1 14) j ∧ (h2.2.1 16) j = (h.2.1 16) j ∧ (h2.2.1 17) j = (h.2.1 17) j := by
    intro j hj
    obtain ⟨q1, q2, q3, q4⟩ := O.2.2.1 j (noP j hj)
    refine ⟨q1.trans ?_, q2.trans ?_, q3.trans ?_, q4.trans ?_⟩
    · rw [fr.1.2.1 _ (by decide), hA1 _ (by decide)]
    · rw [fr.2.2.1 j hj, hA1 _ (by decide)]
    · rw [fr.1.2.1 _ (by decide), hA1 _ (by decide)]
    · rw [fr.1.2.1 _ (by decide), hA1 _ (by decide)]
  have hM2 : zt_M LC LM g2 l Q (nI k) ((g2.2.1 76) k) ((g2.2.1 77) k) := by
    rw [gA2 76 (by decide), gA2 77 (by decide)]
    refine zt_fr l Q Q _ _ _ (fun i _ => ?_) (fun i hi => hi) cM
    exact ⟨fun kd k up z hz => by unfold zt_NM at hz ⊢; rw [gA2 72 (by decide), gA2 73 (by decide), gA2 74 (by decide), gA2 75 (by decide), gA2 77 (by decide)]; exact hz, by rw [gA2 76 (by decide)], by rw [gA2 78 (by decide)]⟩
  have hbd := yg_body (kv := kvb) (o := ()) hc' hAb okb
  have ez : zt_sz l = zt_sz w + zt_sz (.inner c' kvb () lb .leaf) := by rw [el]; exact zt_szap _ _
  have cw : ∀ p, yg_c p w = 0 := fun p => yg_sd0 p w okw sw
  have ecl : ∀ p, yg_c p l = yg_c p (.inner c' kvb () lb .leaf) := fun p => by rw [el, yg_cap, cw, Nat.zero_add]
  have lb2 : (g2.2.1 77) k = nI b := by rw [gA2 77 (by decide), ← gA1 77 (by decide)]; exact eb.symm
  have vc2 : (h2.2.1 25) (8 + (nb + 1)) = nI yv := by rw [O.1.2.1 _ (by decide)]; exact y2
  obtain ⟨h', g', w1, w2, w3⟩ := yg_leave (l := l) (Q := Q) (kb := b) (kdb := c') (oc := yc_o (.inner c' kvb () lb .leaf)) (yv := yv) (p0 := kv.1) I2 rfl hi hk hbb hkd (by omega) ((same i hPi).1.trans c0) (by rw [hA2 15 (by decide)]; exact c1) (by rw [gA2 72 (by decide)]; exact m0) (by rw [gA2 73 (by decide)]; exact m1) lb2 kb hM2 ok hQ hQk (by omega) (by omega) ow vc2 (by omega) (by rw [ecl, ecl]; exact hbd.1)
  refine ⟨h', g', ?_, ?_, ?_⟩
  · rw [e1, r1]
    unfold f_Jd_visit_74
    rw [if_pos n1, Option.bind_fun_some, yg_lv hi hkd ((same i hPi).1.trans c0), w1]
  · rw [e2, r2, zv_54B (by omega) n2, w2]
  have FC : zfr zv_cf (13 :: 14 :: 16 :: 17 :: zv_cm) [] h h2 := zfr_trans (zfr_w fC (fun _ z => z) (by decide) (by decide)) (zfr_trans (zfr_w fr.1 (fun _ z => z) (by decide) (by decide)) (zfr_w O.1 (by decide) (by decide) (by decide)))
  have FM : zfr zv_mf zv_mm [] g g2 := zfr_trans fM (zfr_trans fr.2.1 (zfr_w O.2.1 (by decide) (by decide) (by decide)))
  rcases w3 with ⟨B, n3, n4⟩ | ⟨I3, x1, x2, x3, x4, x5, x6, x7, x8, x9⟩
  · exact .inl ⟨⟨B.1, zfr_trans FC B.2.1, zfr_trans FM B.2.2⟩, n3, n4⟩
  right
  have hA3 : ∀ z, ¬ z = 26 → h'.2.1 z = h2.2.1 z := fun z hz => x1.2.1 z (by simpa using hz)
  have gA3 : ∀ z, ¬ z ∈ [88, 101, 102] → g'.2.1 z = g2.2.1 z := fun z hz => x3.2.1 z hz
  have v8b : ∀ j, j < 32 + F nb → zv_v8 h hb j := by
    intro j hj
    obtain ⟨a1, a2, a3, a4, a5, a6, a7, a8⟩ := ob2 j hj
    obtain ⟨b1, b2, b3, b4, b5, b6, b7, b8⟩ := vn.1 j (by omega)
    exact ⟨b1.trans a1, b2.trans a2, b3.trans a3, b4.trans a4, b5.trans a5, b6.trans a6, b7.trans a7, b8.trans a8⟩
  have hAb3 : ∀ z, ¬ z = 26 → ¬ z ∈ yc_m → h'.2.1 z = hb.2.1 z := fun z h1 h2 => (hA3 z h1).trans (O.1.2.1 z h2)
  have BF : yg_bf nb (F nb) P Q h g h' g' := by
    refine ⟨zfr_trans FC (zfr_w x1 (by decide) (by decide) (by decide)), zfr_trans FM (zfr_w x3 (by decide) (by decide) (by decide)), fun j hj => ?_, fun j hj => ?_, fun j hj => ?_, fun bq hbq => ?_⟩
    · obtain ⟨q1, q2, q3, q4⟩ := same j hj
      rw [hA3 13 (by decide), hA3 14 (by decide), hA3 16 (by decide), hA3 17 (by decide)]
      exact ⟨q1, q2, q3, q4⟩
    · obtain ⟨q1, q2, q3⟩ := O.2.2.2.1 j (noQ j hj)
      obtain ⟨p1, p2, p3⟩ := fr.2.2.2 j hj
      obtain ⟨s1, s2⟩ := x5 j hj
      refine ⟨?_, ?_, ?_⟩
      · rw [gA3 _ (by decide), q1, p1, t1]
      · rw [s1, q2, p2, t2]
      · rw [s2, q3, p3, t3]
    · obtain ⟨a1, a2, a3, a4, a5, a6, a7, a8⟩ := v8b j hj
      unfold zv_v8 zv_v6
      rw [hAb3 28 (by decide) (by decide), hAb3 29 (by decide) (by decide), hAb3 30 (by decide) (by decide), hAb3 31 (by decide) (by decide), hAb3 32 (by decide) (by decide), hAb3 33 (by decide) (by decide), hAb3 34 (by decide) (by decide), hAb3 35 (by decide) (by decide)]
      exact ⟨a1, a2, a3, a4, a5, a6, a7, a8⟩
    · obtain ⟨p1, p2⟩ := ob1 bq hbq
      obtain ⟨q1, q2, q3⟩ := o5 bq hbq
      obtain ⟨⟨s1, ⟨s2, s2', _⟩, _, _⟩, _, s3, s4⟩ := sk
      refine ⟨?_, ?_, ?_, ?_, ?_⟩
      · rw [hAb3 21 (by decide) (by decide), s1]; exact p1
      · rw [hAb3 22 (by decide) (by decide), s2]; exact q1
      · rw [hAb3 25 (by decide) (by decide), s4 bq (by omega)]; exact q3
      · rw [x2, if_neg (by omega), O.1.2.1 _ (by decide), s2']; exact p2
      · rw [gA3 _ (by decide), O.2.1.2.1 _ (by decide), s3]; exact q2
  have e18 : h'.2.1 18 = h.2.1 18 := BF.1.2.1 _ (by decide)
  have hne : ¬ l = .leaf := by
    rw [el]
    cases w with
    | leaf => exact fun z => by cases z
    | inner => exact fun z => by cases z
  obtain ⟨a', m, z1, z2, z3, z4⟩ := yg_cnC l P _ y0 hne cC (fun j hj => (hP j hj).1)
  have ea' : a' = a := (nI_eq (by omega) (by omega)).mp (z2.symm.trans ea.symm)
  subst ea'
  have e84 : (g'.2.1 84) nb = nI k := by rw [gA3 _ (by decide), O.2.1.2.1 _ (by decide), sk.2.2.1]; exact o4
  have e22 : (h'.2.1 22) (9 + nb) = nI i := by rw [hAb3 22 (by decide) (by decide), sk.1.2.1.1]; exact o3
  have hM3 : zt_M LC LM g' (zt_ap w (.inner c' kvb () lb .leaf)) Q (nI k) ((g2.2.1 76) k) ((g2.2.1 77) k) := by
    rw [← el]
    refine zt_fr l Q Q _ _ _ (fun i _ => ?_) (fun i hi => hi) hM2
    exact ⟨fun kd k up z hz => by unfold zt_NM at hz ⊢; rw [gA3 72 (by decide), gA3 73 (by decide), gA3 74 (by decide), gA3 75 (by decide), gA3 77 (by decide)]; exact hz, by rw [gA3 76 (by decide)], by rw [gA3 78 (by decide)]⟩
  obtain ⟨Qm, qm1, qm2⟩ := yg_Mlast w Q _ _ _ hM3
  rw [lb2] at qm2
  refine ⟨F', I3, ⟨fun v hv hs => ?_, by rw [hAb3 27 (by decide) (by decide), sk.1.2.1.2.2]; exact opl⟩, fun j hj => (FA1 j (by omega)).trans (eF2 j (by omega)), by omega, ?_, e22, BF, F', i, k, c', kvb, lb, a', b, yv, m, fun j _ => rfl, ⟨hi, hk, e22, e84⟩, ⟨by rw [gA3 _ (by decide)]; exact lb2, hbb, by rw [gA3 _ (by decide)]; exact kb, Qm, fun j z => hQ j (qm1 j z), qm2⟩, ⟨hc', hAb, okb, ?_, (zg_cxi (zg_cxa w _ (by rw [← el]; exact hcx))).1, xx⟩, ⟨ha, ⟨by omega, by
    have q := Nat.le_trans (zt_sz_le l P _ _ _ sz cC (fun j hj => (hP j hj).2)) (zc_cnt_le _ _)
    rw [ez] at q
    have q2 : zt_sz (.inner c' kvb () lb .leaf) = 1 + zt_sz lb + 0 := rfl
    omega⟩, ?_⟩, ?_, ⟨⟨y1, fun q3 => ?_⟩, ?_, ?_⟩, ?_, ?_, fun v hv1 hv2 => ?_, by rw [hA3 15 (by decide), hA2 15 (by decide), gA3 73 (by decide), gA2 73 (by decide), c1, m1]⟩
  · rw [hAb3 30 (by decide) (by decide)]
    rw [hAb3 29 (by decide) (by decide)] at hs
    by_cases q : v < F1 (nb + 1)
    · obtain ⟨_, p2, p3, _⟩ := vn.1 (32 + v) (by omega)
      rw [p3]
      exact si1 v q (by rw [← p2]; exact hs)
    · exact (vn.2 v (by omega) hv).2.1 hs
  · exact (x1.1 _ _ List.not_mem_nil).trans (O.2.2.2.2.1.trans (sk.2.1.2.trans (o2.trans lp)))
  · have : ∀ t u : zt_T, zg_d u ≤ zg_d (zt_ap t u) := by
      intro t u
      induction t with
      | leaf => exact Nat.le_refl _
      | inner kd kv o l r _ ihr => exact Nat.le_trans ihr (Nat.le_trans (Nat.le_max_right _ _) (zg_d1 (kd := kd) (k := kv) (v := o) (l := l) (r := zt_ap r u)))
    have q := this w (.inner c' kvb () lb .leaf)
    rw [← el] at q
    have q2 : max (zg_d lb + 1) 0 ≤ zg_d (.inner c' kvb () lb .leaf) := zg_d1 (r := .leaf)
    omega
  · rw [e18, (BF.2.2.1 i hPi).2.2.2]; exact z4
  · rw [nx, bs] at A
    refine yb_Ff (h := h2) (g := g2) ⟨fun j hj => ⟨(hP j hj).1, by rw [hA3 _ (by decide)], by rw [hA3 _ (by decide)], by rw [hA3 _ (by decide)], by rw [hA3 _ (by decide)], by rw [hA3 _ (by decide)]⟩, fun j hj => ⟨by rw [gA3 _ (by decide)], fun q1 q2 => x6 j q1 q2, fun q1 => x7 j q1, by rw [gA3 _ (by decide)], by rw [gA3 _ (by decide)], by rw [gA3 _ (by decide)]⟩, fun j _ => ⟨by rw [hA3 _ (by decide)], by rw [hA3 _ (by decide)], by rw [hA3 _ (by decide)], by rw [hA3 _ (by decide)], by rw [hA3 _ (by decide)]⟩, fun bq _ => by rw [hA3 _ (by decide)], fun bq hbq => (I2.2.1.2.2.2.1 bq (by omega)).2⟩ _ _ _ _ _ (yb_Fm (fun j z => z.elim (P1P j) (fun e => by rw [e]; exact Pa)) (fun j z => z.elim (Q1Q j) (fun e => by rw [e]; exact Qb)) _ _ _ _ _ A)
  · rw [hA3 _ (by decide)] at q3
    obtain ⟨xo, _, xo1, _, xo2⟩ := I2.2.2.2.2.1.2.2.1 nb (by omega) (by omega)
    have := xo2 q3
    have e5 : nI xo = nI yv := xo1.symm.trans (by rw [show 9 + nb = 8 + (nb + 1) by omega]; exact vc2)
    have : xo = yv := (nI_eq (by omega) (by omega)).mp e5
    omega
  · rw [hA3 _ (by decide), show 9 + nb = 8 + (nb + 1) by omega]; exact vc2
  · rw [x2, if_pos (by omega)]
  · have hM3 : zt_M LC LM g' (zt_ap w (.inner c' kvb () lb .leaf)) Q (nI k) ((g2.2.1 76) k) ((g2.2.1 77) k) := by
      rw [← el]
      refine zt_fr l Q Q _ _ _ (fun i _ => ?_) (fun i hi => hi) hM2
      exact ⟨fun kd k up z hz => by unfold zt_NM at hz ⊢; rw [gA3 72 (by decide), gA3 73 (by decide), gA3 74 (by decide), gA3 75 (by decide), gA3 77 (by decide)]; exact hz, by rw [gA3 76 (by decide)], by rw [gA3 78 (by decide)]⟩
    rw [el] at x8
    have := yg_Glast w Q yv _ _ _ hM3 x8
    rw [cw, lb2] at this
    exact this
  · have hM3 : zt_M LC LM g' (zt_ap w (.inner c' kvb () lb .leaf)) Q (nI k) ((g2.2.1 76) k) ((g2.2.1 77) k) := by
      rw [← el]
      refine zt_fr l Q Q _ _ _ (fun i _ => ?_) (fun i hi => hi) hM2
      exact ⟨fun kd k up z hz => by unfold zt_NM at hz ⊢; rw [gA3 72 (by decide), gA3 73 (by decide), gA3 74 (by decide), gA3 75 (by decide), gA3 77 (by decide)]; exact hz, by rw [gA3 76 (by decide)], by rw [gA3 78 (by decide)]⟩
    rw [ecl] at x9
    rw [el] at x9
    have := yg_Glast w Q (yv + yg_c 0 (.inner c' kvb () lb .leaf)) _ _ _ hM3 x9
    rw [cw, lb2] at this
    exact this
  · rw [FA1 nb (by omega), eF2 nb (by omega)] at hv1 ⊢
    rw [hAb3 29 (by decide) (by decide), hAb3 30 (by decide) (by decide)]
    have ek : (h'.2.1 21) (9 + nb) = nI kd := by rw [hAb3 21 (by decide) (by decide), sk.1.1]; exact o6
    rw [ek]
    by_cases q : v < F1 (nb + 1)
    · have k1 : kd = 1 := by
        rw [eF] at q
        by_cases z : kd = 1
        · exact z
        · rw [if_neg z] at q; omega
      rw [eF, if_pos k1] at q
      have ev : v = F nb := by omega
      obtain ⟨_, p2, p3, _⟩ := vn.1 (32 + v) (by rw [eF, if_pos k1]; omega)
      rw [p2, p3, ev, (obk k1).2, (obk k1).1, k1]
      exact ⟨⟨fun _ => ⟨rfl, rfl⟩, fun _ => rfl⟩, fun _ => .inl rfl, fun u u1 u2 => absurd u2 (by omega), fun z => absurd z (by decide)⟩
    · refine ⟨⟨fun z => absurd z (vn.2 v (by omega) hv2).1, fun z => ?_⟩, fun z => (vn.2 v (by omega) hv2).2.2.1 (by rw [show 8 + (nb + 1) = 9 + nb by omega, o6]; exact z), zv_lvf (h := hb) (fun u _ => ⟨by rw [hAb3 30 (by decide) (by decide)], by rw [hAb3 31 (by decide) (by decide)], by rw [hAb3 32 (by decide) (by decide)], by rw [hAb3 33 (by decide) (by decide)], by rw [hAb3 34 (by decide) (by decide)], by rw [hAb3 35 (by decide) (by decide)]⟩) (by
        have L := (vn.2 v (by omega) hv2).2.2.2
        rw [Nat.add_sub_cancel, eF2 nb (by omega), show 8 + (nb + 1) = 9 + nb by omega, o6] at L
        exact L)⟩
      have k1 : kd = 1 := (zc_eq (k := 1) (by decide) (by omega)).mp z.1
      rw [eF, if_pos k1] at q
      omega
end
section
/-! The judge: the walk through a text. -/
theorem yh_mono {F : Nat → Nat} {nb : Nat} (h : ∀ b, b < nb → F b ≤ F (b + 1)) : ∀ (m i : Nat), i + m ≤ nb → F i ≤ F (i + m) := by
  intro m
  induction m with
  | zero => intro i _; exact Nat.le_refl _
  | succ m ih => intro i hi; exact Nat.le_trans (ih i (by omega)) (h (i + m) (by omega))
theorem yg_Km {LC LM : List (List Int32)} {F : Nat → Nat} {sz b : Nat} {P Q P' Q' : Nat → Prop} {h g : zs_H} (hP : ∀ j, P j → P' j) (hQ : ∀ j, Q j → Q' j) (K : yg_K LC LM F sz b P Q h g) : yg_K LC LM F sz b P' Q' h g := by
  obtain ⟨Fb, i, k, c, kv, lb, a, bn, y, m, k1, k2, k3, k4, k5, k6, k7, k8, k9, k10⟩ := K
  exact ⟨Fb, i, k, c, kv, lb, a, bn, y, m, k1, k2, k3, k4, k5, yb_Fm hP hQ _ _ _ _ _ k6, k7, yg_Gf hQ rfl rfl rfl (fun j _ => ⟨fun _ _ => rfl, fun _ _ => rfl, fun _ _ => rfl⟩) _ _ _ k8, yg_Gf hQ rfl rfl rfl (fun j _ => ⟨fun _ _ => rfl, fun _ _ => rfl, fun _ _ => rfl⟩) _ _ _ k9, k10⟩
/-- a block's node is one of these -/
def yh_nd (b : Nat) (P : Nat → Prop) (h : zs_H) : Prop := ∃ i, i < 32784 ∧ (h.2.1 22) (9 + b) = nI i ∧ P i
theorem yg_Kf {LC LM : List (List Int32)} {F F' : Nat → Nat} {nb sz b : Nat} {P Q P1 Q1 : Nat → Prop} {h g h' g' : zs_H} (hF : ∀ bq, bq < nb → F bq ≤ F (bq + 1)) (hF' : ∀ j, j ≤ nb → F' j = F j) (hb : b < nb) (B : yg_bf nb (F nb) P1 Q1 h g h' g') (hP : ∀ j, P j → j < 32784 ∧ ¬ P1 j) (hQ : ∀ j, Q j → ¬ Q1 j) (N : yh_nd b P h) (K : yg_K LC LM F sz b P Q h g) : yg_K LC LM F' sz b P Q h' g' ∧ yh_nd b P h' := by
  obtain ⟨Fb, i, k, c, kv, lb, a, bn, y, m, k1, ⟨i1, i2, i3, i4⟩, ⟨l1, l2, l3, Qm, q01, q02⟩, k4, ⟨a1, a2, a3⟩, k6, ⟨y1, y2, y3⟩, k8, k9, k10, k11⟩ := K
  obtain ⟨B1, B2, B3, B4, B5, B6⟩ := B
  obtain ⟨i', n1, n2, n3⟩ := N
  have e : i' = i := (nI_eq (by omega) (by omega)).mp (n2.symm.trans i3)
  subst e
  obtain ⟨q1, q2, q3, q4, q5⟩ := B6 b hb
  have hm := yh_mono hF
  have gA : ∀ z, ¬ z ∈ zv_mm → g'.2.1 z = g.2.1 z := fun z hz => B2.2.1 z hz
  have e18 : h'.2.1 18 = h.2.1 18 := B1.2.1 _ (by decide)
  have hFb : Fb (b + 1) ≤ F nb := by
    rw [k1 _ (Nat.le_refl _)]
    have := hm (nb - (b + 1)) (b + 1) (by omega)
    rwa [show b + 1 + (nb - (b + 1)) = nb by omega] at this
  refine ⟨⟨Fb, i', k, c, kv, lb, a, bn, y, m, fun j hj => (k1 j hj).trans (hF' j (by omega)).symm, ⟨i1, i2, q2.trans i3, q5.trans i4⟩, ⟨by rw [gA _ (by decide)]; exact l1, l2, by rw [gA _ (by decide)]; exact l3, Qm, q01, zt_fr _ Qm Qm _ _ _ (fun i _ => ⟨fun kd k up z hz => by unfold zt_NM at hz ⊢; rw [gA 72 (by decide), gA 73 (by decide), gA 74 (by decide), gA 75 (by decide), gA 77 (by decide)]; exact hz, by rw [gA 76 (by decide)], by rw [gA 78 (by decide)]⟩) (fun i hi => hi) q02⟩, k4, ⟨a1, a2, by rw [e18, (B3 i' (hP i' n3).2).2.2.2]; exact a3⟩, ?_, ⟨⟨y1.1, fun z => y1.2 (by rw [← q1]; exact z)⟩, q3.trans y2, q4.trans y3⟩, ?_, ?_, fun v v1 v2 => ?_, by rw [B1.2.1 15 (by decide), gA 73 (by decide)]; exact k11⟩, i', n1, q2.trans n2, n3⟩
  · refine yb_Ff (h := h) (g := g) ⟨fun j hj => ?_, fun j hj => ?_, fun j hj => ?_, fun bq hbq => (B6 bq (by omega)).1, fun bq hbq => ?_⟩ _ _ _ _ _ k6
    · obtain ⟨s1, s2, s3, s4⟩ := B3 j (hP j hj).2
      exact ⟨(hP j hj).1, s1, s2, s3, s4, by rw [e18]⟩
    · obtain ⟨s1, s2, s3⟩ := B4 j (hQ j hj)
      exact ⟨s1, fun _ _ => s2, fun _ => s3, by rw [gA _ (by decide)], by rw [gA _ (by decide)], by rw [gA _ (by decide)]⟩
    · obtain ⟨v1, v2, v3, v4, v5, _⟩ := B5 j (by omega)
      exact ⟨v1, v2, v5, v3, v4⟩
    · rw [k1 _ (by omega), k1 _ (by omega)]
      have := hm (b - bq) (bq + 1) (by omega)
      rwa [show bq + 1 + (b - bq) = b + 1 by omega] at this
  · exact yg_Gf (fun _ z => z) (gA _ (by decide)) (gA _ (by decide)) (gA _ (by decide)) (fun j hj => ⟨fun _ _ => (B4 j (hQ j hj)).2.1, fun _ _ => (B4 j (hQ j hj)).2.2, fun _ _ => (B4 j (hQ j hj)).2.1⟩) _ _ _ k8
  · exact yg_Gf (fun _ z => z) (gA _ (by decide)) (gA _ (by decide)) (gA _ (by decide)) (fun j hj => ⟨fun _ _ => (B4 j (hQ j hj)).2.1, fun _ _ => (B4 j (hQ j hj)).2.2, fun _ _ => (B4 j (hQ j hj)).2.1⟩) _ _ _ k9
  · rw [hF' b (by omega)] at v1 ⊢
    rw [hF' (b + 1) (by omega)] at v2
    rw [k1 _ (Nat.le_refl _)] at hFb
    obtain ⟨_, e2, e3, _⟩ := B5 (32 + v) (by omega)
    rw [e2, e3, q1]
    obtain ⟨z1, z2, z3⟩ := k10 v v1 v2
    exact ⟨z1, z2, zv_lvf (fun u u2 => (B5 (32 + u) (by omega)).2.2) z3⟩
/-- what stays in the whole walk -/
def yh_fr (P Q : Nat → Prop) (h g h' g' : zs_H) : Prop := zfr zv_cf (13 :: 14 :: 16 :: 17 :: zv_cm) [] h h' ∧ zfr zv_mf zv_mm [] g g' ∧ (∀ j, ¬ P j → (h'.2.1 13) j = (h.2.1 13) j ∧ (h'.2.1 14) j = (h.2.1 14) j ∧ (h'.2.1 16) j = (h.2.1 16) j ∧ (h'.2.1 17) j = (h.2.1 17) j) ∧ (∀ j, ¬ Q j → (g'.2.1 100) j = (g.2.1 100) j ∧ (g'.2.1 101) j = (g.2.1 101) j ∧ (g'.2.1 102) j = (g.2.1 102) j)
/-- all blocks up to here -/
def yh_B (LC LM : List (List Int32)) (F : Nat → Nat) (sz nb : Nat) (P Q Pu Qu : Nat → Prop) (h g : zs_H) : Prop := ∀ b, b < nb → ∃ Pb Qb : Nat → Prop, (∀ j, Pb j → P j ∧ ¬ Pu j) ∧ (∀ j, Qb j → Q j ∧ ¬ Qu j) ∧ yg_K LC LM F sz b Pb Qb h g ∧ yh_nd b Pb h
def yh_S (LC LM : List (List Int32)) (sz t0 : Nat) (l : zt_T) (P Q : Nat → Prop) (h1 g1 : zs_H) (u : zt_T) (h g : zs_H) (x x' : Int32) : Prop :=
  ∃ (nb : Nat) (F : Nat → Nat) (Pu Qu : Nat → Prop) (yy yy' : Int32), nb + zt_ln u = zt_ln l ∧ (zt_C h u Pu x yy ∧ zt_M LC LM g u Qu (nI t0) x' yy') ∧ ((∀ j, Pu j → P j) ∧ (∀ j, Qu j → Q j)) ∧ (zg_ok u ∧ ¬ zg_run 0 0 u = 99 ∧ zg_d u ≤ zg_d l ∧ zg_cx u) ∧ (zv_I LC LM nb nb (F nb) F (-1) h g ∧ zv_si (F nb) h ∧ ∀ b, b < nb → (h.2.1 21) (9 + b) = 3 → (h.2.1 27) (9 + b) = 0) ∧ F nb + zg_c u + zt_ln u ≤ zg_c l + zt_ln l ∧ (∀ j, Pu j → (h.2.1 14) j = 0) ∧ (h.1 38 12) = 0 ∧ yh_fr P Q h1 g1 h g ∧ yh_B LC LM F sz nb P Q Pu Qu h g
theorem yh_step {LC LM : List (List Int32)} {sz t0 d D D' c : Nat} {l : zt_T} {P Q : Nat → Prop} {h1 g1 h g : zs_H} {x x' : Int32} {kv : Int32 × Int32} {o : Unit} {lc r : zt_T} (hP : ∀ j, P j → j < 32784 ∧ j < sz) (hQ : ∀ j, Q j → j < 33500) (hl : zt_ln l ≤ 568) (hc : zg_c l ≤ 5120) (hdl : zg_d l ≤ 186) (hd0 : d ≤ 49) (hs3 : 3 ≤ sz) (hsz2 : sz ≤ 32784) (hsz : (h1.1 12 6) = nI sz) (hD : 188 ≤ D) (hD' : 376 ≤ D') (ht0 : t0 < 33500) (u2 : (g1.2.1 75) t0 = -1) (u3 : ¬ (g1.2.1 72) t0 = 19)
    (S : yh_S LC LM sz t0 l P Q h1 g1 (.inner c kv o lc r) h g x x') : zv_res (D + 1) (D' + 2) d sz h1 g1 (yh_S LC LM sz t0 l P Q h1 g1 r) h g x x' := by
  obtain ⟨nb, F, Pu, Qu, yy, yy', en, ⟨sC, sM⟩, ⟨p1, p2⟩, ⟨⟨⟨hA, hv⟩, okl, okr⟩, gr, zd, zx⟩, ⟨I, si, _⟩, nc, ty, lp, fr, BB⟩ := S
  have key : ∀ r ∈ zg_R, r.1 = 0 → ∀ c ∈ r.2.2.1, (c = 1 ∨ c = 2 ∨ c = 3) := by decide +kernel
  have key2 : ∀ r ∈ zg_R, r.1 = 0 → r.2.2.2 = 0 := by decide +kernel
  have hq : ¬ zg_q 0 0 c = 99 := fun z => gr (by show zg_run 0 (zg_q 0 0 c) r = 99; rw [z]; exact zv_q99 0 r)
  obtain ⟨cs, to, g1', g2', g3'⟩ := zv_qR hq
  have hkd := key _ g1' rfl c g2'
  have gr' : ¬ zg_run 0 0 r = 99 := by
    have e0 : to = 0 := key2 _ g1' rfl
    intro z
    exact gr (by show zg_run 0 (zg_q 0 0 c) r = 99; rw [g3', e0]; exact z)
  have el : zt_ln (.inner c kv o lc r) = 1 + zt_ln r := rfl
  have ec : zg_c (.inner c kv o lc r) = (if c = 37 then 1 else 0) + zg_c lc + zg_c r := rfl
  have ed : max (zg_d lc + 1) (zg_d r) ≤ zg_d l := Nat.le_trans zg_d1 zd
  have J1 : (h.1 38 3) = 0 := I.2.2.2.2.2.2.2.1
  have J2 : (g.1 68 29) = 0 := I.2.2.2.2.2.2.2.2
  have siz : (h.1 12 6) = nI sz := (fr.1.1 _ _ (by decide)).trans hsz
  obtain ⟨a, P1, P2, z1, z2, ea, _, a2, a3, a4, a5, a6, a7, a8, a9, a10⟩ := zv_hC sC
  obtain ⟨b, Q1, Q2, z3, eb, _, b2, b3, b4, b5, b6, b7, b8, b9, b10, b11⟩ := zv_hM sM
  have ha := (hP a (p1 a a2)).1
  have hb := hQ b (p2 b b2)
  have gk : ∀ z, ¬ z ∈ zv_mm → g.2.1 z = g1.2.1 z := fun z hz => fr.2.1.2.1 z hz
  have ekm : zt_km c = c := by rcases hkd with e | e | e <;> rw [e] <;> rfl
  have enk : zt_nk c = true := by rcases hkd with e | e | e <;> rw [e] <;> rfl
  rw [if_pos enk] at b5
  rw [ekm] at b3
  obtain ⟨h', g', r1, r2, r3⟩ := yg_blockV (D := D) (D' := D') (d := d + 1) (t0 := t0) (sz := sz) (P := P1) (Q := Q1) I si (by omega) (by omega) ha hb (fun z => (a6 a z).2.1 rfl) (fun z => (b7 b z).2.1 rfl) (fun j hj => hP j (p1 j (a6 j hj).1)) (fun j hj => hQ j (p2 j (b7 j hj).1)) hkd a3 a4 a5 (fun j hj => ty j (a6 j hj).1) a8 b3 (b4 (by omega)) b5 b6 b9 hA okl (by omega) (zg_cxi zx).1 (by omega) hs3 hsz2 siz ⟨by omega, by omega⟩ ⟨by omega, by omega⟩ ht0 (by rw [gk _ (by decide)]; exact u2) (by rw [gk _ (by decide)]; exact u3) lp
  refine ⟨a, b, ea, ha, eb, hb, J1, J2, siz, h', g', r1, r2, ?_⟩
  rcases r3 with ⟨B, n1, n2⟩ | ⟨F', I', ⟨si', pl0⟩, fF, nF, lp', nd', bf, K⟩
  · exact .inl ⟨⟨B.1, zfr_trans fr.1 B.2.1, zfr_trans fr.2.1 B.2.2⟩, n1, n2⟩
  · right
    have e18 : h'.2.1 18 = h.2.1 18 := bf.1.2.1 _ (by decide)
    have e15 : h'.2.1 15 = h.2.1 15 := bf.1.2.1 _ (by decide)
    have gA : ∀ z, ¬ z ∈ zv_mm → g'.2.1 z = g.2.1 z := fun z hz => bf.2.1.2.1 z hz
    have nP2 : ∀ j, P2 j → ¬ P1 j := fun j hj z => (a6 j z).2.2 hj
    refine ⟨nb + 1, F', P2, Q2, z2, z3, by omega, ⟨?_, ?_⟩, ⟨fun j hj => p1 j (a7 j hj).1, fun j hj => p2 j (b8 j hj).1⟩, ⟨okr, gr', by omega, (zg_cxi zx).2⟩, ⟨I', si', fun b hb k3 => by
      obtain ⟨kd, _, e1, _, e2⟩ := I'.2.1.2.2.2.2.1 b hb
      have e3 : kd = 3 := by
        rw [e1] at k3
        have : kd < 4 := by omega
        exact (zc_eq (k := 3) (by decide) (by omega)).mp k3
      have : b = nb := by have := e2 e3; omega
      rw [this]; exact pl0⟩, ?_, fun j hj => ?_, lp', ⟨zfr_trans fr.1 bf.1, zfr_trans fr.2.1 bf.2.1, fun j hj => ?_, fun j hj => ?_⟩, fun bq hbq => ?_⟩
    · rw [e18]
      refine zt_fr r P2 P2 0 _ z2 (fun i hi => ?_) (fun i hi => hi) a9
      obtain ⟨s1, s2, s3, s4⟩ := bf.2.2.1 i (nP2 i hi)
      exact ⟨fun kd k up z hz => by unfold zt_NC at hz ⊢; rw [s1, s3, e15]; exact hz, s4, by rw [e18]⟩
    · rw [gA 78 (by decide)]
      refine zt_fr r Q2 Q2 _ _ z3 (fun i _ => ?_) (fun i hi => hi) b10
      exact ⟨fun kd k up z hz => by unfold zt_NM at hz ⊢; rw [gA 72 (by decide), gA 73 (by decide), gA 74 (by decide), gA 75 (by decide), gA 77 (by decide)]; exact hz, by rw [gA 76 (by decide)], by rw [gA 78 (by decide)]⟩
    · rw [ec] at nc; omega
    · rw [(bf.2.2.1 j (nP2 j hj)).2.1]; exact ty j (a7 j hj).1
    · obtain ⟨s1, s2, s3, s4⟩ := bf.2.2.1 j (fun z => hj (p1 j (a6 j z).1))
      obtain ⟨v1, v2, v3, v4⟩ := fr.2.2.1 j hj
      exact ⟨s1.trans v1, s2.trans v2, s3.trans v3, s4.trans v4⟩
    · obtain ⟨s1, s2, s3⟩ := bf.2.2.2.1 j (fun z => hj (p2 j (b7 j z).1))
      obtain ⟨v1, v2, v3⟩ := fr.2.2.2 j hj
      exact ⟨s1.trans v1, s2.trans v2, s3.trans v3⟩
    · by_cases e : bq = nb
      · subst e
        have K' : yg_K LC LM F' sz bq (fun j => P1 j ∨ j = a) Q1 h' g' := yg_Km (fun j z => .inl z) (fun j z => z) K
        refine ⟨fun j => P1 j ∨ j = a, Q1, fun j z => ?_, fun j z => ⟨p2 j (b7 j z).1, (b7 j z).2.2⟩, K', ?_⟩
        · rcases z with z | z
          · exact ⟨p1 j (a6 j z).1, (a6 j z).2.2⟩
          · rw [z]; exact ⟨p1 a a2, fun q => (a7 a q).2 rfl⟩
        · exact ⟨a, ha, nd', .inr rfl⟩
      · obtain ⟨Pb, Qb, w1, w2, w3, w4⟩ := BB bq (by omega)
        obtain ⟨K', N'⟩ := yg_Kf (fun b hb => (I.2.1.2.2.2.1 b hb).1) fF (show bq < nb by omega) bf (fun j hj => ⟨(hP j (w1 j hj).1).1, fun z => (w1 j hj).2 (a6 j z).1⟩) (fun j hj z => (w2 j hj).2 (b7 j z).1) w4 w3
        exact ⟨Pb, Qb, fun j hj => ⟨(w1 j hj).1, fun z => (w1 j hj).2 (a7 j z).1⟩, fun j hj => ⟨(w2 j hj).1, fun z => (w2 j hj).2 (b8 j z).1⟩, K', N'⟩
end
section
/-! The judge: where the functions' cells lie; a text is left (10, 42). -/
/-- the cells up to a block -/
def yh_pl (X K : Nat → Nat) (s0 : Nat) : Nat → Nat
  | 0 => s0
  | b + 1 => yh_pl X K s0 b + (if K b = 1 then X b else 0)
theorem yh_plb {X K : Nat → Nat} {s0 nb : Nat} (h : ∀ b, b < nb → X b ≤ 30000) : ∀ b, b ≤ nb → yh_pl X K s0 b ≤ s0 + 30000 * b := by
  intro b
  induction b with
  | zero => intro _; exact Nat.le_refl _
  | succ b ih =>
    intro hb
    have h1 := ih (by omega)
    have h2 := h b (by omega)
    show yh_pl X K s0 b + (if K b = 1 then X b else 0) ≤ _
    split <;> omega
section YHL
variable {X K : Nat → Nat} {s0 nb : Nat}
theorem yh_loC (hnb : nb ≤ 568) (hK : ∀ j, j < nb → K j < 4) : ∀ (m b N : Nat) (h : zs_H), b + m = nb → (h.1 20 17) = nI (9 + nb) → (∀ j, j < nb → (h.2.1 21) (9 + j) = nI (K j) ∧ (h.2.1 26) (9 + j) = nI (X j)) → (h.1 20 20) = nI (yh_pl X K s0 b) → m < N → ∃ h', f_Pl_layOut_L28 N h (nI (9 + b)) = some h' ∧ zfr [(20, 20)] [27] [] h h' ∧ (h'.1 20 20) = nI (yh_pl X K s0 nb) ∧ (∀ j, j < b → (h'.2.1 27) (9 + j) = (h.2.1 27) (9 + j)) ∧ (∀ j, b ≤ j → j < nb → K j = 1 → (h'.2.1 27) (9 + j) = nI (yh_pl X K s0 j)) ∧ (∀ j, j < nb → ¬ K j = 1 → (h'.2.1 27) (9 + j) = (h.2.1 27) (9 + j)) := by
  have uL : ∀ (N : Nat) (h : zs_H) (x : Int32), f_Pl_layOut_L28 (N + 1) h x = f_Pl_layOut_28 (f_Pl_layOut_L28 N) h x := fun _ _ _ => rfl
  intro m
  induction m with
  | zero =>
    intro b N h hb h1 _ h3 hN
    obtain ⟨N, rfl⟩ : ∃ z, N = z + 1 := ⟨N - 1, by omega⟩
    rw [uL]
    unfold f_Pl_layOut_28
    rw [h1, if_pos ((nI_leI (by omega) (by omega)).mpr (by omega))]
    exact ⟨h, rfl, zfr_rfl, by rw [h3]; exact congrArg (fun z => nI (yh_pl X K s0 z)) (by omega), fun _ _ => rfl, fun j q1 q2 => by omega, fun _ _ _ => rfl⟩
  | succ m ih =>
    intro b N h hb h1 h2 h3 hN
    obtain ⟨N, rfl⟩ : ∃ z, N = z + 1 := ⟨N - 1, by omega⟩
    obtain ⟨k1, k2⟩ := h2 b (by omega)
    have hk := hK b (by omega)
    have q1 : (nI (K b) = 1) ↔ K b = 1 := zc_eq (k := 1) (by decide) (by omega)
    have en : nI (9 + b) + 1 = nI (9 + (b + 1)) := by rw [nI_1]; rfl
    rw [uL]
    unfold f_Pl_layOut_28 f_Pl_layOut_71
    rw [h1, if_neg (mt (nI_leI (by omega) (by omega)).mp (by omega)), if_pos (zi_in (by omega) (by omega)), nI_clamp (show 9 + b < 2147483648 by omega), k1, k2, h3, en]
    by_cases z : K b = 1
    · rw [if_pos (q1.mpr z), show nI (yh_pl X K s0 b) + nI (X b) = nI (yh_pl X K s0 b + X b) from (Int32.ofNat_add _ _).symm]
      have f0 : zfr [(20, 20)] [27] [] h (zs_uF (zs_uM h 27 (9 + b) (nI (yh_pl X K s0 b))) 20 20 (nI (yh_pl X K s0 b + X b))) := zfr_F (by decide) (zfr_M (by decide) zfr_rfl)
      obtain ⟨h', r1, r2, r3, r4, r5, r6⟩ := ih (b + 1) N (zs_uF (zs_uM h 27 (9 + b) (nI (yh_pl X K s0 b))) 20 20 (nI (yh_pl X K s0 b + X b))) (by omega) ((f0.1 _ _ (by decide)).trans h1) (fun j hj => by rw [f0.2.1 21 (by decide), f0.2.1 26 (by decide)]; exact h2 j hj) (by show nI (yh_pl X K s0 b + X b) = nI (yh_pl X K s0 b + (if K b = 1 then X b else 0)); rw [if_pos z]) (by omega)
      refine ⟨h', r1, zfr_trans f0 r2, r3, fun j hj => (r4 j (by omega)).trans ((yg_uM (h := h) (9 + j)).trans (if_neg (by omega))), fun j p1 p2 p3 => ?_, fun j p1 p2 => (r6 j p1 p2).trans ((yg_uM (h := h) (9 + j)).trans (if_neg (fun q => p2 (by rw [show j = b by omega]; exact z))))⟩
      by_cases e : j = b
      · subst e
        exact (r4 j (by omega)).trans ((yg_uM (h := h) (9 + j)).trans (if_pos rfl))
      · exact r5 j (by omega) p2 p3
    · rw [if_neg (mt q1.mp z)]
      obtain ⟨h', r1, r2, r3, r4, r5, r6⟩ := ih (b + 1) N h (by omega) h1 h2 (by rw [h3]; show _ = nI (yh_pl X K s0 b + (if K b = 1 then X b else 0)); rw [if_neg z]; rfl) (by omega)
      exact ⟨h', r1, r2, r3, fun j hj => r4 j (by omega), fun j p1 p2 p3 => r5 j (by by_cases e : j = b; exact absurd (e ▸ p3) z; omega) p2 p3, r6⟩
theorem yh_loM (hnb : nb ≤ 568) (hK : ∀ j, j < nb → K j < 4) : ∀ (m b N : Nat) (g : zs_H) (x1 : Int32), b + m = nb → (g.1 68 33) = nI nb → (g.1 68 29) = 0 → (∀ j, j < nb → (g.2.1 86) j = nI (K j) ∧ (g.2.1 88) j = nI (X j)) → m < N → ∃ g', f_Mo_lookAtText_L59 N g x1 (nI (yh_pl X K s0 b)) (nI b) = f_Mo_lookAtText_106 g' x1 (nI (yh_pl X K s0 nb)) ∧ zfr [] [89] [] g g' ∧ (∀ j, j < b → (g'.2.1 89) j = (g.2.1 89) j) ∧ (∀ j, b ≤ j → j < nb → K j = 1 → (g'.2.1 89) j = nI (yh_pl X K s0 j)) := by
  have uL : ∀ (N : Nat) (g : zs_H) (x1 x2 x : Int32), f_Mo_lookAtText_L59 (N + 1) g x1 x2 x = f_Mo_lookAtText_59 (f_Mo_lookAtText_L59 N) g x1 x2 x := fun _ _ _ _ _ => rfl
  intro m
  induction m with
  | zero =>
    intro b N g x1 hb h1 hj _ hN
    obtain ⟨N, rfl⟩ : ∃ z, N = z + 1 := ⟨N - 1, by omega⟩
    rw [uL]
    unfold f_Mo_lookAtText_59
    rw [h1, if_pos ((nI_leI (by omega) (by omega)).mpr (by omega)), show b = nb by omega]
    exact ⟨g, rfl, zfr_rfl, fun _ _ => rfl, fun j q1 q2 => by omega⟩
  | succ m ih =>
    intro b N g x1 hb h1 hj h2 hN
    obtain ⟨N, rfl⟩ : ∃ z, N = z + 1 := ⟨N - 1, by omega⟩
    obtain ⟨k1, k2⟩ := h2 b (by omega)
    have hk := hK b (by omega)
    have q1 : (nI (K b) = 1) ↔ K b = 1 := zc_eq (k := 1) (by decide) (by omega)
    rw [uL]
    unfold f_Mo_lookAtText_59 f_Mo_lookAtText_100
    rw [h1, if_neg (mt (nI_leI (by omega) (by omega)).mp (by omega)), if_pos hj, if_pos (zi_in (by omega) (by omega)), nI_clamp (show b < 2147483648 by omega), k1, k2, nI_1]
    by_cases z : K b = 1
    · rw [if_pos (q1.mpr z), show nI (yh_pl X K s0 b) + nI (X b) = nI (yh_pl X K s0 (b + 1)) by rw [show yh_pl X K s0 (b + 1) = yh_pl X K s0 b + (if K b = 1 then X b else 0) from rfl, if_pos z]; exact (Int32.ofNat_add _ _).symm]
      have f0 : zfr [] [89] [] g (zs_uM g 89 b (nI (yh_pl X K s0 b))) := zfr_M (by decide) zfr_rfl
      obtain ⟨g', r1, r2, r4, r5⟩ := ih (b + 1) N (zs_uM g 89 b (nI (yh_pl X K s0 b))) x1 (by omega) ((f0.1 _ _ (by decide)).trans h1) ((f0.1 _ _ (by decide)).trans hj) (fun j hj => by rw [f0.2.1 86 (by decide), f0.2.1 88 (by decide)]; exact h2 j hj) (by omega)
      refine ⟨g', r1, zfr_trans f0 r2, fun j hj => (r4 j (by omega)).trans ((yg_uM (h := g) j).trans (if_neg (by omega))), fun j p1 p2 p3 => ?_⟩
      by_cases e : j = b
      · subst e
        exact (r4 j (by omega)).trans ((yg_uM (h := g) j).trans (if_pos rfl))
      · exact r5 j (by omega) p2 p3
    · rw [if_neg (mt q1.mp z)]
      obtain ⟨g', r1, r2, r4, r5⟩ := ih (b + 1) N g x1 (by omega) h1 hj h2 (by omega)
      rw [show yh_pl X K s0 (b + 1) = yh_pl X K s0 b by show yh_pl X K s0 b + (if K b = 1 then X b else 0) = _; rw [if_neg z]; rfl] at r1
      exact ⟨g', r1, r2, fun j hj => r4 j (by omega), fun j p1 p2 p3 => r5 j (by by_cases e : j = b; exact absurd (e ▸ p3) z; omega) p2 p3⟩
end YHL
/-- the blocks' kinds and cells, as numbers -/
theorem yh_XK {LC LM : List (List Int32)} {nb : Nat} {F : Nat → Nat} {h g : zs_H} (I : zv_I LC LM nb nb (F nb) F (-1) h g) : ∃ X K : Nat → Nat, ∀ j, j < nb → (X j ≤ 30000 ∧ (K j = 1 ∨ K j = 2 ∨ K j = 3)) ∧ ((h.2.1 21) (9 + j) = nI (K j) ∧ (h.2.1 26) (9 + j) = nI (X j)) ∧ ((g.2.1 86) j = nI (K j) ∧ (g.2.1 88) j = nI (X j)) := by
  refine ⟨fun j => ((h.2.1 26) (9 + j)).toNatClampNeg, fun j => ((h.2.1 21) (9 + j)).toNatClampNeg, fun j hj => ?_⟩
  obtain ⟨x, x1, x2, x3⟩ := I.2.2.2.2.1.2.1 j hj
  obtain ⟨kd, k1, k2, k3, _⟩ := I.2.1.2.2.2.2.1 j hj
  have e1 : ((h.2.1 26) (9 + j)).toNatClampNeg = x := by rw [x2]; exact nI_clamp (by omega)
  have e2 : ((h.2.1 21) (9 + j)).toNatClampNeg = kd := by rw [k2]; exact nI_clamp (by omega)
  show (((h.2.1 26) (9 + j)).toNatClampNeg ≤ 30000 ∧ (((h.2.1 21) (9 + j)).toNatClampNeg = 1 ∨ ((h.2.1 21) (9 + j)).toNatClampNeg = 2 ∨ ((h.2.1 21) (9 + j)).toNatClampNeg = 3)) ∧ ((h.2.1 21) (9 + j) = nI ((h.2.1 21) (9 + j)).toNatClampNeg ∧ (h.2.1 26) (9 + j) = nI ((h.2.1 26) (9 + j)).toNatClampNeg) ∧ ((g.2.1 86) j = nI ((h.2.1 21) (9 + j)).toNatClampNeg ∧ (g.2.1 88) j = nI ((h.2.1 26) (9 + j)).toNatClampNeg)
  rw [e1, e2]
  exact ⟨⟨x1, k1⟩, ⟨k2, x2⟩, k3, x3⟩
/-- what is known of the whole text -/
def yh_T (nb : Nat) (X K : Nat → Nat) (h g : zs_H) : Prop := (0 < nb ∧ K (nb - 1) = 3) ∧ ((h.1 20 20) = nI (yh_pl X K (X (nb - 1)) nb) ∧ (g.1 68 55) = nI (yh_pl X K (X (nb - 1)) nb) ∧ yh_pl X K (X (nb - 1)) nb ≤ 8192) ∧ (∀ j, j < nb → K j = 1 → (h.2.1 27) (9 + j) = nI (yh_pl X K (X (nb - 1)) j) ∧ (g.2.1 89) j = nI (yh_pl X K (X (nb - 1)) j)) ∧ ((g.2.1 89) (nb - 1) = 0 ∧ (h.2.1 27) (9 + (nb - 1)) = 0)
theorem yh_leave {LC LM : List (List Int32)} {nb i k : Nat} {F X K : Nat → Nat} {h g : zs_H} {p0 : Int32} (I : zv_I LC LM nb nb (F nb) F (-1) h g) (hi : i < 32784) (hk : k < 33500) (c1 : (h.2.1 15) i = p0) (m1 : (g.2.1 73) k = p0) (hXK : ∀ j, j < nb → (X j ≤ 30000 ∧ (K j = 1 ∨ K j = 2 ∨ K j = 3)) ∧ ((h.2.1 21) (9 + j) = nI (K j) ∧ (h.2.1 26) (9 + j) = nI (X j)) ∧ ((g.2.1 86) j = nI (K j) ∧ (g.2.1 88) j = nI (X j))) (hp0 : ∀ b, b < nb → (h.2.1 21) (9 + b) = 3 → (h.2.1 27) (9 + b) = 0) :
    ∃ h' g', f_Jd_leaveText h (nI i) = some h' ∧ f_Mo_lookAtText g (nI k) = some g' ∧ ((zv_Fb h g h' g' ∧ ¬ (h'.1 38 3) = 0 ∧ ¬ (g'.1 68 29) = 0) ∨ (yh_T nb X K h' g' ∧ (h'.1 38 3) = 0 ∧ (g'.1 68 29) = 0 ∧ zfr [(20, 20)] [27] [] h h' ∧ zfr [(68, 55)] [89] [] g g')) := by
  have hz := zF_big
  obtain ⟨HS, ⟨⟨B1, B2, B3⟩, _, _, _, _, _, _, _, _, B10⟩, _, _, _, _, _, J1, J2⟩ := I
  have hK4 : ∀ j, j < nb → K j < 4 := fun j hj => by have := (hXK j hj).1.2; omega
  have hC : ∀ j, j < nb → (h.2.1 21) (9 + j) = nI (K j) ∧ (h.2.1 26) (9 + j) = nI (X j) := fun j hj => (hXK j hj).2.1
  have hM : ∀ j, j < nb → (g.2.1 86) j = nI (K j) ∧ (g.2.1 88) j = nI (X j) := fun j hj => (hXK j hj).2.2
  have loC : ∀ s0, ∃ h2, f_Pl_layOut_22 h (nI s0) = some h2 ∧ zfr [(20, 20)] [27] [] h h2 ∧ (h2.1 20 20) = nI (yh_pl X K s0 nb) ∧ (∀ j, j < nb → K j = 1 → (h2.2.1 27) (9 + j) = nI (yh_pl X K s0 j)) ∧ (∀ j, j < nb → ¬ K j = 1 → (h2.2.1 27) (9 + j) = (h.2.1 27) (9 + j)) := by
    intro s0
    have f0 : zfr [(20, 20)] [27] [] h (zs_uF h 20 20 (nI s0)) := zfr_F (by decide) zfr_rfl
    obtain ⟨h2, r1, r2, r3, _, r5, r6⟩ := yh_loC (X := X) (K := K) (s0 := s0) B3 hK4 nb 0 zF (zs_uF h 20 20 (nI s0)) (by omega) B1 hC rfl (by omega)
    exact ⟨h2, r1, zfr_trans f0 r2, r3, fun j hj => r5 j (Nat.zero_le _) hj, fun j hj k => (r6 j hj k).trans rfl⟩
  have q3 : ∀ j, j < nb → (nI (K j) = 3 ↔ K j = 3) := fun j hj => zc_eq (k := 3) (by decide) (by have := hK4 j hj; omega)
  have nb0 : (nI nb = 0) ↔ nb = 0 := zc_eq (k := 0) (by decide) (by omega)
  have nbl : (nI nb ≤ (0 : Int32)) ↔ nb ≤ 0 := zc_el (k := 0) (by decide) (by omega)
  by_cases q : 0 < nb ∧ (g.2.1 86) (nb - 1) = 3
  · -- with a PROGRAM
    have hb : 0 < nb := q.1
    have k3 : K (nb - 1) = 3 := (q3 (nb - 1) (by omega)).mp ((hM (nb - 1) (by omega)).1 ▸ q.2)
    rw [if_pos q] at B10
    obtain ⟨h2, r1, r2, r3, r4, r6⟩ := loC (X (nb - 1))
    obtain ⟨g2, s1, s2, s3, s4⟩ := yh_loM (X := X) (K := K) (s0 := X (nb - 1)) B3 hK4 nb 0 zF g (nI k) (by omega) B2 J2 hM (by omega)
    have hpb := yh_plb (X := X) (K := K) (s0 := X (nb - 1)) (nb := nb) (fun b hb => (hXK b hb).1.1) nb (Nat.le_refl _)
    have hx0 := (hXK (nb - 1) (by omega)).1.1
    generalize hT : yh_pl X K (X (nb - 1)) nb = T at r3 s1 hpb
    have J1' : (h2.1 38 3) = 0 := (r2.1 _ _ (by decide)).trans J1
    have J2' : (g2.1 68 29) = 0 := (s2.1 _ _ (by decide)).trans J2
    have qT : (nI T ≤ (8192 : Int32)) ↔ T ≤ 8192 := zc_el (k := 8192) (by decide) (by omega)
    obtain ⟨h', g', v1, v2, v3⟩ := zv_both (φ := 42) (i := i) (k := k) (8192 < T) J1' J2' hi hk
    have e98 : 9 + (nb - 1) = 8 + nb := by omega
    have eC : f_Jd_leaveText h (nI i) = some h' := by
      unfold f_Jd_leaveText f_Pl_layOut
      rw [B10, if_neg (zc_m1 (show 8 + nb < 2147483648 by omega)), if_pos (zi_in (by omega) (by omega)), nI_clamp (show 8 + nb < 2147483648 by omega), ← e98, (hC (nb - 1) (by omega)).2, r1, Option.bind_some, show (h2.1 20 19) = nI (8 + nb) from (r2.1 _ _ (by decide)).trans B10, if_neg (zc_m1 (show 8 + nb < 2147483648 by omega))]
      unfold f_Jd_leaveText_24 f_Jd_leaveText_49
      rw [zv_ref0, Option.bind_some, r3]
      by_cases z : T ≤ 8192
      · rw [if_neg (by omega)] at v1
        rw [if_pos (qT.mpr z), show (42 : Int32) = nI 42 from rfl, v1]; rfl
      · rw [if_pos (by omega)] at v1
        rw [if_neg (mt qT.mp z), show (42 : Int32) = nI 42 from rfl, v1]; rfl
    have e106 : f_Mo_lookAtText_106 g2 (nI k) (nI T) = f_Mo_lookAtText_119 g2 (nI k) (nI T) (if 8192 < T then 1 else 0) := by
      unfold f_Mo_lookAtText_106
      by_cases z : T ≤ 8192
      · rw [if_pos (qT.mpr z), if_neg (by omega)]
      · rw [if_neg (mt qT.mp z), if_pos (by omega)]
    have e1 : nI nb - 1 = nI (nb - 1) := zi_sub (b := 1) (by omega)
    have hbg : g'.2 = g2.2 ∧ (g'.1 68 33) = nI nb := by
      have b0 : (g2.1 68 33) = nI nb := (s2.1 _ _ (by decide)).trans B2
      rcases v3 with ⟨_, _, z⟩ | ⟨_, _, z⟩
      · rw [z]; exact ⟨rfl, b0⟩
      · rw [z]; exact ⟨rfl, b0⟩
    have eM : f_Mo_lookAtText g (nI k) = some (zs_uF (zs_uM g' 89 (nb - 1) 0) 68 55 (nI T)) := by
      unfold f_Mo_lookAtText
      rw [B2, if_neg (mt nb0.mp (by omega)), e1, if_pos (zi_in (by omega) (by omega)), nI_clamp (show nb - 1 < 2147483648 by omega), if_pos q.2]
      unfold f_Mo_lookAtText_28 f_Mo_lookAtText_56
      rw [zv_rule0, Option.bind_some, if_pos J2, B2, e1, if_pos (zi_in (by omega) (by omega)), nI_clamp (show nb - 1 < 2147483648 by omega), (hM (nb - 1) (by omega)).2]
      rw [show f_Mo_lookAtText_L59 zF g (nI k) (nI (X (nb - 1))) 0 = f_Mo_lookAtText_106 g2 (nI k) (nI T) from s1, e106]
      unfold f_Mo_lookAtText_119 f_Mo_lookAtText_144
      rw [show f_Mo_rule g2 (if 8192 < T then 1 else 0) 42 (nI k) = some g' from v2, Option.bind_some, hbg.2, if_neg (mt nbl.mp (by omega)), e1, if_pos (zi_in (by omega) (by omega)), nI_clamp (show nb - 1 < 2147483648 by omega)]
    have fg : zfr [(68, 55)] [89] [] g' (zs_uF (zs_uM g' 89 (nb - 1) 0) 68 55 (nI T)) := zfr_F (by decide) (zfr_M (by decide) zfr_rfl)
    refine ⟨h', _, eC, eM, ?_⟩
    rcases v3 with ⟨nT, x1, x2⟩ | ⟨_, Y⟩
    · right
      subst x1; subst x2
      refine ⟨⟨⟨hb, k3⟩, ⟨by rw [hT]; exact r3, by rw [hT]; rfl, by rw [hT]; omega⟩, fun j hj kj => ⟨r4 j hj kj, ?_⟩, ⟨(yg_uM (h := g') (nb - 1)).trans (if_pos rfl), (r6 (nb - 1) (by omega) (by rw [k3]; decide)).trans (hp0 (nb - 1) (by omega) (by rw [(hC (nb - 1) (by omega)).1, k3]; rfl))⟩⟩, J1', (fg.1 _ _ (by decide)).trans J2', r2, zfr_trans (zfr_w s2 (by decide) (by decide) (by decide)) fg⟩
      have nj : ¬ j = nb - 1 := fun z => by rw [z, k3] at kj; exact absurd kj (by decide)
      exact (yg_uM (h := g') j).trans ((if_neg nj).trans (s4 j (Nat.zero_le _) hj kj))
    · left
      obtain ⟨XX, u1, u2⟩ := zv_YX Y (by decide) (by decide) (show (h2.2.1 15) i = p0 by rw [r2.2.1 _ (by decide)]; exact c1) (show (g2.2.1 73) k = p0 by rw [s2.2.1 _ (by decide)]; exact m1)
      have X2 : zv_X 42 p0 h' (zs_uF (zs_uM g' 89 (nb - 1) 0) 68 55 (nI T)) := ⟨XX.1, XX.2.1, XX.2.2.1, XX.2.2.2.1, (fg.1 _ _ (by decide)).trans XX.2.2.2.2.1, (fg.1 _ _ (by decide)).trans XX.2.2.2.2.2⟩
      have xn := zv_Xn X2
      exact ⟨⟨⟨42, p0, X2⟩, zfr_trans (zfr_w r2 (by decide) (by decide) (by decide)) (zfr_w u1 (fun _ z => z) (by decide) (by decide)), zfr_trans (zfr_w s2 (by decide) (by decide) (by decide)) (zfr_trans u2 (zfr_w fg (by decide) (by decide) (by decide)))⟩, xn.1, xn.2⟩
  · -- without one
    rw [if_neg q] at B10
    obtain ⟨h2, r1, r2, r3, r4, _⟩ := loC 0
    have J1' : (h2.1 38 3) = 0 := (r2.1 _ _ (by decide)).trans J1
    have nf := zv_rff (φ := 10) (i := i) (h := h2) (by decide) (by decide)
    have nj := zv_ruf (φ := 10) (k := k) (g := g) (by decide) (by decide)
    have eC : f_Jd_leaveText h (nI i) = some (zv_rf 10 i h2) := by
      unfold f_Jd_leaveText f_Pl_layOut
      rw [B10, if_pos rfl, show f_Pl_layOut_22 h 0 = some h2 from r1, Option.bind_some, show (h2.1 20 19) = -1 from (r2.1 _ _ (by decide)).trans B10, if_pos rfl]
      unfold f_Jd_leaveText_24 f_Jd_leaveText_49
      rw [show f_Jd_refuseIf h2 1 10 (nI i) = some (zv_rf 10 i h2) from zv_ref1 (φ := 10) (by decide) J1' hi, Option.bind_some, zv_refF nf, zv_refF nf, ite_self, Option.bind_some]
    have e1 : 0 < nb → nI nb - 1 = nI (nb - 1) := fun _ => zi_sub (b := 1) (by omega)
    have eM0 : f_Mo_lookAtText g (nI k) = f_Mo_lookAtText_56 (zv_ru 10 k g) (nI k) 0 := by
      have e28 : f_Mo_lookAtText_28 g (nI k) 1 = f_Mo_lookAtText_56 (zv_ru 10 k g) (nI k) 0 := by
        unfold f_Mo_lookAtText_28
        rw [show f_Mo_rule g 1 10 (nI k) = some (zv_ru 10 k g) from zv_rule1 (φ := 10) (by decide) J2 hk, Option.bind_some, if_neg nj]
      unfold f_Mo_lookAtText f_Mo_lookAtText_23
      rw [B2]
      by_cases z : nb = 0
      · rw [if_pos (nb0.mpr z)]; exact e28
      · rw [if_neg (mt nb0.mp z), e1 (by omega), if_pos (zi_in (by omega) (by omega)), nI_clamp (show nb - 1 < 2147483648 by omega), if_neg (fun y => q ⟨by omega, y⟩)]; exact e28
    have b0 : ((zv_ru 10 k g).1 68 33) = nI nb := B2
    have eM1 : f_Mo_lookAtText_56 (zv_ru 10 k g) (nI k) 0 = f_Mo_lookAtText_106 (zv_ru 10 k g) (nI k) 0 := by
      unfold f_Mo_lookAtText_56
      obtain ⟨N, hN⟩ : ∃ N, zF = N + 1 := ⟨zF - 1, by omega⟩
      rw [hN]
      show f_Mo_lookAtText_59 (f_Mo_lookAtText_L59 N) (zv_ru 10 k g) (nI k) 0 0 = _
      unfold f_Mo_lookAtText_59
      rw [if_neg nj, ite_self]
    have eM2 : ∃ g', f_Mo_lookAtText_106 (zv_ru 10 k g) (nI k) 0 = some g' ∧ zfr [(68, 55)] [89] [] (zv_ru 10 k g) g' := by
      unfold f_Mo_lookAtText_106 f_Mo_lookAtText_119 f_Mo_lookAtText_144
      rw [if_pos (by decide), zv_rule0, Option.bind_some, b0]
      by_cases z : nb = 0
      · rw [if_pos (nbl.mpr (by omega))]
        exact ⟨_, rfl, zfr_F (by decide) zfr_rfl⟩
      · rw [if_neg (mt nbl.mp (by omega)), e1 (by omega), if_pos (zi_in (by omega) (by omega))]
        exact ⟨_, rfl, zfr_F (by decide) (zfr_M (by decide) zfr_rfl)⟩
    obtain ⟨g', y1, y2⟩ := eM2
    obtain ⟨f1, f2, f3⟩ := yc_mkF (φ := 10) (h := h2) (g := g) (i := i) (k := k) (p := p0) (by decide) (by decide) (by rw [r2.2.1 _ (by decide)]; exact c1) m1
    obtain ⟨⟨φ, p, XX⟩, w1, w2⟩ := f1
    have X2 : zv_X φ p (zv_rf 10 i h2) g' := ⟨XX.1, XX.2.1, XX.2.2.1, XX.2.2.2.1, (y2.1 _ _ (by decide)).trans XX.2.2.2.2.1, (y2.1 _ _ (by decide)).trans XX.2.2.2.2.2⟩
    have xn := zv_Xn X2
    exact ⟨_, g', eC, by rw [eM0, eM1, y1], .inl ⟨⟨⟨φ, p, X2⟩, zfr_trans (zfr_w r2 (by decide) (by decide) (by decide)) w1, zfr_trans w2 (zfr_w y2 (by decide) (by decide) (by decide))⟩, xn.1, xn.2⟩⟩
end
section
/-! The judge: both sides judge a text. -/
/-- the state is kept when places are laid out -/
theorem yh_Ifr {LC LM : List (List Int32)} {nb : Nat} {F : Nat → Nat} {h g h' g' : zs_H} (I : zv_I LC LM nb nb (F nb) F (-1) h g) (a : zfr [(20, 20)] [27] [] h h') (b : zfr [(68, 55)] [89] [] g g') : zv_I LC LM nb nb (F nb) F (-1) h' g' := by
  obtain ⟨HS, HB, HN, HV, HC, HT, HJ, J1, J2⟩ := I
  have e21 : h'.2.1 21 = h.2.1 21 := a.2.1 _ (by decide)
  have e22 : h'.2.1 22 = h.2.1 22 := a.2.1 _ (by decide)
  have e23 : h'.2.1 23 = h.2.1 23 := a.2.1 _ (by decide)
  have e24 : h'.2.1 24 = h.2.1 24 := a.2.1 _ (by decide)
  have e25 : h'.2.1 25 = h.2.1 25 := a.2.1 _ (by decide)
  have e26 : h'.2.1 26 = h.2.1 26 := a.2.1 _ (by decide)
  have e28 : h'.2.1 28 = h.2.1 28 := a.2.1 _ (by decide)
  have e29 : h'.2.1 29 = h.2.1 29 := a.2.1 _ (by decide)
  have e30 : h'.2.1 30 = h.2.1 30 := a.2.1 _ (by decide)
  have e31 : h'.2.1 31 = h.2.1 31 := a.2.1 _ (by decide)
  have e32 : h'.2.1 32 = h.2.1 32 := a.2.1 _ (by decide)
  have e33 : h'.2.1 33 = h.2.1 33 := a.2.1 _ (by decide)
  have e34 : h'.2.1 34 = h.2.1 34 := a.2.1 _ (by decide)
  have e35 : h'.2.1 35 = h.2.1 35 := a.2.1 _ (by decide)
  have e36 : h'.2.1 36 = h.2.1 36 := a.2.1 _ (by decide)
  have e37 : h'.2.1 37 = h.2.1 37 := a.2.1 _ (by decide)
  have e40 : h'.2.1 40 = h.2.1 40 := a.2.1 _ (by decide)
  have g85 : g'.2.1 85 = g.2.1 85 := b.2.1 _ (by decide)
  have g86 : g'.2.1 86 = g.2.1 86 := b.2.1 _ (by decide)
  have g87 : g'.2.1 87 = g.2.1 87 := b.2.1 _ (by decide)
  have g88 : g'.2.1 88 = g.2.1 88 := b.2.1 _ (by decide)
  have g90 : g'.2.1 90 = g.2.1 90 := b.2.1 _ (by decide)
  have g91 : g'.2.1 91 = g.2.1 91 := b.2.1 _ (by decide)
  have g92 : g'.2.1 92 = g.2.1 92 := b.2.1 _ (by decide)
  have g93 : g'.2.1 93 = g.2.1 93 := b.2.1 _ (by decide)
  have g94 : g'.2.1 94 = g.2.1 94 := b.2.1 _ (by decide)
  have g95 : g'.2.1 95 = g.2.1 95 := b.2.1 _ (by decide)
  have g96 : g'.2.1 96 = g.2.1 96 := b.2.1 _ (by decide)
  have g97 : g'.2.1 97 = g.2.1 97 := b.2.1 _ (by decide)
  have g98 : g'.2.1 98 = g.2.1 98 := b.2.1 _ (by decide)
  have g99 : g'.2.1 99 = g.2.1 99 := b.2.1 _ (by decide)
  have f17 : h'.1 20 17 = h.1 20 17 := a.1 _ _ (by decide)
  have f18 : h'.1 20 18 = h.1 20 18 := a.1 _ _ (by decide)
  have f19 : h'.1 20 19 = h.1 20 19 := a.1 _ _ (by decide)
  have j3 : h'.1 38 3 = h.1 38 3 := a.1 _ _ (by decide)
  have j4 : h'.1 38 4 = h.1 38 4 := a.1 _ _ (by decide)
  have k29 : g'.1 68 29 = g.1 68 29 := b.1 _ _ (by decide)
  have k33 : g'.1 68 33 = g.1 68 33 := b.1 _ _ (by decide)
  have k41 : g'.1 68 41 = g.1 68 41 := b.1 _ _ (by decide)
  have k54 : g'.1 68 54 = g.1 68 54 := b.1 _ _ (by decide)
  refine ⟨zv_Sfr HS b (by decide) (by decide) (by decide), ?_, ?_, ?_, ?_, ?_, ?_, j3.trans J1, k29.trans J2⟩
  · unfold zv_B zj_ST at HB ⊢; simp only [e21, e22, e23, e24, e25, e26, e28, e29, e30, e31, e32, e33, e34, e35, e36, e37, e40, g85, g86, g87, g88, g90, g91, g92, g93, g94, g95, g96, g97, g98, g99, f17, f18, f19, j3, j4, k29, k33, k41, k54]; exact HB
  · unfold zv_N at HN ⊢; simp only [e21, e22, e23, e24, e25, e26, e28, e29, e30, e31, e32, e33, e34, e35, e36, e37, e40, g85, g86, g87, g88, g90, g91, g92, g93, g94, g95, g96, g97, g98, g99, f17, f18, f19, j3, j4, k29, k33, k41, k54]; exact HN
  · unfold zv_V zv_Q at HV ⊢; simp only [e21, e22, e23, e24, e25, e26, e28, e29, e30, e31, e32, e33, e34, e35, e36, e37, e40, g85, g86, g87, g88, g90, g91, g92, g93, g94, g95, g96, g97, g98, g99, f17, f18, f19, j3, j4, k29, k33, k41, k54]; exact HV
  · obtain ⟨_, c2, c3, c4⟩ := HC
    refine ⟨.inl rfl, ?_, ?_, ?_⟩
    · simp only [e21, e22, e23, e24, e25, e26, e28, e29, e30, e31, e32, e33, e34, e35, e36, e37, e40, g85, g86, g87, g88, g90, g91, g92, g93, g94, g95, g96, g97, g98, g99, f17, f18, f19, j3, j4, k29, k33, k41, k54]; exact c2
    · simp only [e21, e22, e23, e24, e25, e26, e28, e29, e30, e31, e32, e33, e34, e35, e36, e37, e40, g85, g86, g87, g88, g90, g91, g92, g93, g94, g95, g96, g97, g98, g99, f17, f18, f19, j3, j4, k29, k33, k41, k54]; exact c3
    · simp only [e21, e22, e23, e24, e25, e26, e28, e29, e30, e31, e32, e33, e34, e35, e36, e37, e40, g85, g86, g87, g88, g90, g91, g92, g93, g94, g95, g96, g97, g98, g99, f17, f18, f19, j3, j4, k29, k33, k41, k54]; exact c4
  · unfold zv_T at HT ⊢; simp only [e21, e22, e23, e24, e25, e26, e28, e29, e30, e31, e32, e33, e34, e35, e36, e37, e40, g85, g86, g87, g88, g90, g91, g92, g93, g94, g95, g96, g97, g98, g99, f17, f18, f19, j3, j4, k29, k33, k41, k54]; exact HT
  · simp only [e21, e22, e23, e24, e25, e26, e28, e29, e30, e31, e32, e33, e34, e35, e36, e37, e40, g85, g86, g87, g88, g90, g91, g92, g93, g94, g95, g96, g97, g98, g99, f17, f18, f19, j3, j4, k29, k33, k41, k54]; exact HJ
/-- at first -/
theorem yh_I0 {LC LM : List (List Int32)} {h g : zs_H} (HS : zv_S LC LM g) (H : zj_SB 9 32 h) (ST : zj_ST h) (tk : ∀ c, c < 960 → (h.2.1 40) c = 0) (b1 : (g.1 68 33) = 0) (b2 : (g.1 68 41) = 0) (J1 : (h.1 38 3) = 0) (J2 : (g.1 68 29) = 0) : zv_I LC LM 0 0 ((fun _ => 0) 0) (fun _ => 0) (-1) h g := by
  obtain ⟨h1, h2, h3, _, _, _, _, _, h9, h10, _, _⟩ := H
  refine ⟨HS, ⟨⟨h1, b1, by decide⟩, ⟨h2, b2, by decide⟩, ST, fun b hb => absurd hb (Nat.not_lt_zero b), fun b hb => absurd hb (Nat.not_lt_zero b), fun b hb => absurd hb (Nat.not_lt_zero b), fun b hb => absurd hb (Nat.not_lt_zero b), fun c hc => ?_, fun c q1 q2 => ?_, ?_⟩, ⟨fun v hv => absurd hv (Nat.not_lt_zero v), fun c hc => ?_, fun v _ hv => absurd hv (Nat.not_lt_zero v)⟩, ⟨fun v hv => absurd hv (Nat.not_lt_zero v), fun b v hb => absurd hb (Nat.not_lt_zero b), fun v _ hv => absurd hv (Nat.not_lt_zero v), Nat.le_refl _, fun z => absurd z (Nat.lt_irrefl 0)⟩, ⟨.inl rfl, fun b hb => absurd hb (Nat.not_lt_zero b), fun b _ hb => absurd hb (Nat.not_lt_zero b), fun b hb => absurd hb (Nat.not_lt_zero b)⟩, ⟨fun c hc => .inl (tk c hc), fun p hp hq => ?_⟩, fun z => absurd z (Nat.lt_irrefl 0), J1, J2⟩
  · rw [h9 c hc]
    by_cases z : 41 ≤ c ∧ c < 41 + 9
    · rw [if_pos z]; exact .inr (.inl ⟨z.1, by omega, rfl⟩)
    · rw [if_neg z]; exact .inl rfl
  · rw [h9 c (by omega), if_pos ⟨q1, by omega⟩]
  · rw [h3, if_neg (fun z => absurd z.1 (Nat.lt_irrefl 0))]
  · rcases h10 c hc with z | ⟨v, v1, v2⟩
    · exact .inl z
    · exact .inr ⟨v, by omega, v2, fun z => by omega⟩
  · have hpc : zv_pc p < 960 := by
      unfold zv_pc
      split
      · omega
      · have := hq (by omega); omega
    rw [tk _ hpc]
    constructor
    · intro z; exact absurd z (by decide)
    · rintro (z | ⟨v, _, hv, _⟩)
      · exact absurd z (zc_m1 (show p < 2147483648 by omega))
      · exact absurd hv (Nat.not_lt_zero v)
theorem yh_19 : ∀ (r x N : Nat) (h : zs_H), x + r = 960 → r < N → ∃ h', f_Jd_judge_L19 N h (nI x) = ((f_Jd_visit 400 h' 0 0).bind fun h3 => (some ((h3.1 38 3), h3))) ∧ zfr [] [40] [] h h' ∧ (∀ c, c < x → (h'.2.1 40) c = (h.2.1 40) c) ∧ (∀ c, x ≤ c → c < 960 → (h'.2.1 40) c = 0) := by
  have uL : ∀ (N : Nat) (h : zs_H) (x : Int32), f_Jd_judge_L19 (N + 1) h x = f_Jd_judge_19 (f_Jd_judge_L19 N) h x := fun _ _ _ => rfl
  intro r
  induction r with
  | zero =>
    intro x N h hx hN
    obtain ⟨N, rfl⟩ : ∃ z, N = z + 1 := ⟨N - 1, by omega⟩
    rw [uL]
    unfold f_Jd_judge_19
    rw [if_pos ((zc_le (k := 960) (by decide) (by omega)).mpr (by omega))]
    exact ⟨h, rfl, zfr_rfl, fun _ _ => rfl, fun c q1 q2 => by omega⟩
  | succ r ih =>
    intro x N h hx hN
    obtain ⟨N, rfl⟩ : ∃ z, N = z + 1 := ⟨N - 1, by omega⟩
    rw [uL]
    unfold f_Jd_judge_19
    rw [if_neg (mt (zc_le (k := 960) (by decide) (by omega)).mp (by omega)), if_pos (zi_in (by omega) (by omega)), nI_clamp (show x < 2147483648 by omega), nI_1, show vp_nar .boolean 0 = 0 by decide]
    have f0 : zfr [] [40] [] h (zs_uM h 40 x 0) := zfr_M (by decide) zfr_rfl
    obtain ⟨h', r1, r2, r3, r4⟩ := ih (x + 1) N (zs_uM h 40 x 0) (by omega) (by omega)
    refine ⟨h', r1, zfr_trans f0 r2, fun c hc => (r3 c (by omega)).trans ((yg_uM (h := h) c).trans (if_neg (by omega))), fun c q1 q2 => ?_⟩
    by_cases e : c = x
    · rw [e]; exact (r3 x (by omega)).trans ((yg_uM (h := h) x).trans (if_pos rfl))
    · exact r4 c (by omega) q2
def yh_end (g : zs_H) : Option (Int32 × zs_H) := ((f_Mo_look 500 g 0).bind fun h3 => (if ((h3.1 68 29)) = 0 then f_Mo_judge_125 h3 1 else f_Mo_judge_125 h3 0))
theorem yh_45 {m : Nat} (hm : m ≤ 33500) : ∀ (r x N : Nat) (g : zs_H), x + r = m → (g.1 68 14) = nI m → r < N → ∃ g', f_Mo_judge_L45 N g (nI x) = yh_end g' ∧ zfr [(68, 32)] [100, 101, 102] [] g g' ∧ (∀ j, j < x → (g'.2.1 100) j = (g.2.1 100) j ∧ (g'.2.1 101) j = (g.2.1 101) j ∧ (g'.2.1 102) j = (g.2.1 102) j) ∧ (∀ j, x ≤ j → j < m → (g'.2.1 100) j = -1 ∧ (g'.2.1 101) j = -1 ∧ (g'.2.1 102) j = -1) := by
  have uL : ∀ (N : Nat) (g : zs_H) (x : Int32), f_Mo_judge_L45 (N + 1) g x = f_Mo_judge_45 (f_Mo_judge_L45 N) g x := fun _ _ _ => rfl
  intro r
  induction r with
  | zero =>
    intro x N g hx h1 hN
    obtain ⟨N, rfl⟩ : ∃ z, N = z + 1 := ⟨N - 1, by omega⟩
    rw [uL]
    unfold f_Mo_judge_45
    rw [h1, if_pos ((nI_leI (by omega) (by omega)).mpr (by omega))]
    exact ⟨g, rfl, zfr_rfl, fun _ _ => ⟨rfl, rfl, rfl⟩, fun j q1 q2 => by omega⟩
  | succ r ih =>
    intro x N g hx h1 hN
    obtain ⟨N, rfl⟩ : ∃ z, N = z + 1 := ⟨N - 1, by omega⟩
    have go : ∀ y : Int32, ∃ g', f_Mo_judge_L45 N (zs_uF (zs_uM (zs_uM (zs_uM g 100 x (-1)) 101 x (-1)) 102 x (-1)) 68 32 y) (nI (x + 1)) = yh_end g' ∧ zfr [(68, 32)] [100, 101, 102] [] g g' ∧ (∀ j, j < x → (g'.2.1 100) j = (g.2.1 100) j ∧ (g'.2.1 101) j = (g.2.1 101) j ∧ (g'.2.1 102) j = (g.2.1 102) j) ∧ (∀ j, x ≤ j → j < m → (g'.2.1 100) j = -1 ∧ (g'.2.1 101) j = -1 ∧ (g'.2.1 102) j = -1) := by
      intro y
      have f0 : zfr [(68, 32)] [100, 101, 102] [] g (zs_uF (zs_uM (zs_uM (zs_uM g 100 x (-1)) 101 x (-1)) 102 x (-1)) 68 32 y) := zfr_F (by decide) (zfr_M (by decide) (zfr_M (by decide) (zfr_M (by decide) zfr_rfl)))
      have t0 : ∀ j, (zs_uF (zs_uM (zs_uM (zs_uM g 100 x (-1)) 101 x (-1)) 102 x (-1)) 68 32 y).2.1 100 j = (if j = x then -1 else (g.2.1 100) j) ∧ (zs_uF (zs_uM (zs_uM (zs_uM g 100 x (-1)) 101 x (-1)) 102 x (-1)) 68 32 y).2.1 101 j = (if j = x then -1 else (g.2.1 101) j) ∧ (zs_uF (zs_uM (zs_uM (zs_uM g 100 x (-1)) 101 x (-1)) 102 x (-1)) 68 32 y).2.1 102 j = (if j = x then -1 else (g.2.1 102) j) := fun j => ⟨yg_uM (h := g) j, yg_uM (h := zs_uM g 100 x (-1)) j, yg_uM (h := zs_uM (zs_uM g 100 x (-1)) 101 x (-1)) j⟩
      obtain ⟨g', r1, r2, r3, r4⟩ := ih (x + 1) N _ (by omega) ((f0.1 _ _ (by decide)).trans h1) (by omega)
      refine ⟨g', r1, zfr_trans f0 r2, fun j hj => ?_, fun j q1 q2 => ?_⟩
      · obtain ⟨a1, a2, a3⟩ := r3 j (by omega)
        obtain ⟨b1, b2, b3⟩ := t0 j
        rw [if_neg (by omega)] at b1 b2 b3
        exact ⟨a1.trans b1, a2.trans b2, a3.trans b3⟩
      · by_cases e : j = x
        · obtain ⟨a1, a2, a3⟩ := r3 j (by omega)
          obtain ⟨b1, b2, b3⟩ := t0 j
          rw [if_pos e] at b1 b2 b3
          exact ⟨a1.trans b1, a2.trans b2, a3.trans b3⟩
        · exact r4 j (by omega) q2
    rw [uL]
    unfold f_Mo_judge_45 f_Mo_judge_92 f_Mo_judge_97
    rw [h1, if_neg (mt (nI_leI (by omega) (by omega)).mp (by omega)), if_pos (zi_in (by omega) (by omega)), nI_clamp (show x < 2147483648 by omega), nI_1]
    split
    · exact go _
    · split
      · exact go _
      · exact go _
/-- a text that has been judged -/
def yh_Z (sz : Nat) (LC LM : List (List Int32)) (h g : zs_H) : Prop := ∃ (nb : Nat) (F X K : Nat → Nat), zv_I LC LM nb nb (F nb) F (-1) h g ∧ zv_si (F nb) h ∧ (∀ j, j < nb → (X j ≤ 30000 ∧ (K j = 1 ∨ K j = 2 ∨ K j = 3)) ∧ ((h.2.1 21) (9 + j) = nI (K j) ∧ (h.2.1 26) (9 + j) = nI (X j)) ∧ ((g.2.1 86) j = nI (K j) ∧ (g.2.1 88) j = nI (X j))) ∧ yh_T nb X K h g ∧ (∀ b, b < nb → ∃ Pb Qb : Nat → Prop, (∀ j, Pb j → j < 32784) ∧ yg_K LC LM F sz b Pb Qb h g)
theorem yh_judge {LC LM : List (List Int32)} {t : zt_T} {s m : Nat} {h g : zs_H} (HT : zk_TX LC LM t s m h g) (hcx : zg_cx t) (ty : ∀ i, i < s → (h.2.1 14) i = 0) (n1 : LC.Nodup) (n2 : LC.length < 6000) (n3 : LC.take 75 = zk_K) (g1 : (g.1 68 29) = 0) (g2 : (g.1 68 33) = 0) (g3 : (g.1 68 41) = 0) :
    ∃ φ h' g', f_Jd_judge h = some (nI φ, h') ∧ f_Mo_judge_L45 zF g 0 = some (nI φ, g') ∧ φ < 1000 ∧ zfr zv_cf (13 :: 14 :: 16 :: 17 :: zv_cm) [] h h' ∧ zfr ((68, 31) :: (68, 32) :: zv_mf) zv_mm [] g g' ∧ (¬ φ = 0 → (h'.1 38 3) = nI φ ∧ (g'.1 68 29) = nI φ ∧ (h'.1 38 0) = (g'.1 68 30)) ∧ (φ = 0 → (h'.1 38 3) = 0 ∧ (g'.1 68 29) = 0 ∧ ∃ g5, g' = zs_uF g5 68 31 1 ∧ yh_Z s LC LM h' g5) := by
  have hz := zF_big
  obtain ⟨⟨⟨kd, p, v, l, et, _, okt, dt⟩, u, eu, hu⟩, hc, hsz, hs2, hC, hmd, hm2, hM, nM, nd, nl⟩ := HT
  subst eu
  obtain ⟨⟨hA, _⟩, oku, _⟩ := (show zg_ok (.inner 0 (0, 0) () u .leaf) from okt)
  have du : max (zg_d u + 1) 0 ≤ 187 := dt
  have cu : (if 0 = 37 then 1 else 0) + zg_c u + 0 ≤ 5120 := hc
  rw [if_neg (by decide)] at cu
  obtain ⟨a, P1, P2, z1, z2, ea, _, a2, a3, a4, a5, a6, a7, a8, a9, a10⟩ := zv_hC (show zt_C h (.inner 0 (0, 0) () u .leaf) (fun i => i < s) (nI 0) (nI 0) from hC)
  obtain ⟨b, Q1, Q2, z3, eb, _, b2, b3, b4, b5, b6, b7, b8, b9, b10, b11⟩ := zv_hM (show zt_M LC LM g (.inner 0 (0, 0) () u .leaf) (fun i => i < m) (-1) (nI 0) (nI 0) from hM)
  have ea0 : a = 0 := ((nI_eq (by omega) (by omega)).mp ea).symm
  have eb0 : b = 0 := ((nI_eq (by omega) (by omega)).mp eb).symm
  subst ea0; subst eb0
  obtain ⟨h0, hh0⟩ : ∃ h0, h0 = zs_uF (zs_uF h 38 3 0) 38 12 0 := ⟨_, rfl⟩
  have f0 : zfr [(38, 3), (38, 12)] [] [] h h0 := by rw [hh0]; exact zfr_F (by decide) (zfr_F (by decide) zfr_rfl)
  obtain ⟨h2, f1, SB, ST, ff⟩ := zj_forget (h := h0)
  obtain ⟨h3, l1, l2, _, l4⟩ := yh_19 960 0 zF h2 (by omega) (by omega)
  obtain ⟨g4, k1, k2, _, k4⟩ := yh_45 (m := m) (by omega) m 0 zF g (by omega) hmd (by omega)
  have FC : zfr zv_cf zv_cm [] h h3 := zfr_trans (zfr_w f0 (by decide) (by decide) (by decide)) (zfr_trans (zfr_w ff (by decide) (by decide) (by decide)) (zfr_w l2 (by decide) (by decide) (by decide)))
  have FM : zfr ((68, 31) :: (68, 32) :: zv_mf) zv_mm [] g g4 := zfr_w k2 (by decide) (by decide) (by decide)
  have hA1 : ∀ z, ¬ z ∈ zv_cm → h3.2.1 z = h.2.1 z := fun z hz => FC.2.1 z hz
  have gA1 : ∀ z, ¬ z ∈ zv_mm → g4.2.1 z = g.2.1 z := fun z hz => FM.2.1 z hz
  have J1 : (h3.1 38 3) = 0 := by
    rw [l2.1 _ _ (by decide), ff.1 _ _ (by decide), hh0]; rfl
  have lp : (h3.1 38 12) = 0 := by
    rw [l2.1 _ _ (by decide), ff.1 _ _ (by decide), hh0]; rfl
  have J2 : (g4.1 68 29) = 0 := (k2.1 _ _ (by decide)).trans g1
  have eF : ∀ z, h3.2.1 z = h2.2.1 z ∨ z = 40 := fun z => by
    by_cases q : z = 40
    · exact .inr q
    · exact .inl (l2.2.1 z (by simpa using q))
  have SB3 : zj_SB 9 32 h3 := by
    unfold zj_SB at SB ⊢
    rw [l2.1 _ _ (by decide), l2.1 _ _ (by decide), l2.1 _ _ (by decide), l2.1 _ _ (by decide), l2.2.1 21 (by decide), l2.2.1 23 (by decide), l2.2.1 24 (by decide), l2.2.1 26 (by decide), l2.2.1 28 (by decide), l2.2.1 29 (by decide), l2.2.1 30 (by decide), l2.2.1 31 (by decide), l2.2.1 32 (by decide), l2.2.1 36 (by decide), l2.2.1 37 (by decide)]
    exact SB
  have ST3 : zj_ST h3 := by
    unfold zj_ST at ST ⊢
    rw [l2.2.1 21 (by decide), l2.2.1 23 (by decide), l2.2.1 24 (by decide), l2.2.1 26 (by decide), l2.2.1 28 (by decide), l2.2.1 29 (by decide), l2.2.1 30 (by decide), l2.2.1 31 (by decide), l2.2.1 32 (by decide)]
    exact ST
  have HS : zv_S LC LM g4 := by
    refine ⟨n1, nd, n2, by omega, n3, ?_⟩
    unfold zn_M at nM ⊢
    rw [k2.1 _ _ (by decide), gA1 _ (by decide), gA1 _ (by decide)]
    exact nM
  have I0 := yh_I0 HS SB3 ST3 (fun c hc => l4 c (Nat.zero_le _) hc) ((k2.1 _ _ (by decide)).trans g2) ((k2.1 _ _ (by decide)).trans g3) J1 J2
  have siz : (h3.1 12 6) = nI s := (FC.1 _ _ (by decide)).trans hsz
  have hP : ∀ j, P1 j → j < 32784 ∧ j < s := fun j hj => by have : j < s := (a6 j hj).1; omega
  have hQ : ∀ j, Q1 j → j < 33500 := fun j hj => by have : j < m := (b7 j hj).1; omega
  have hC3 : zt_C h3 u P1 ((h3.2.1 17) 0) z1 := by
    rw [hA1 17 (by decide)]
    exact zt_fr u P1 P1 0 _ z1 (fun i _ => ⟨fun kd k up z hz => by unfold zt_NC at hz ⊢; rw [hA1 13 (by decide), hA1 15 (by decide), hA1 16 (by decide)]; exact hz, by rw [hA1 17 (by decide)], by rw [hA1 18 (by decide)]⟩) (fun i hi => hi) a8
  have hM3 : zt_M LC LM g4 u Q1 (nI 0) ((g4.2.1 76) 0) ((g4.2.1 77) 0) := by
    rw [gA1 76 (by decide), gA1 77 (by decide)]
    exact zt_fr u Q1 Q1 _ _ _ (fun i _ => ⟨fun kd k up z hz => by unfold zt_NM at hz ⊢; rw [gA1 72 (by decide), gA1 73 (by decide), gA1 74 (by decide), gA1 75 (by decide), gA1 77 (by decide)]; exact hz, by rw [gA1 76 (by decide)], by rw [gA1 78 (by decide)]⟩) (fun i hi => hi) b9
  have hsl : zt_sz u ≤ s := Nat.le_trans (zt_sz_le u P1 _ _ _ s a8 (fun j hj => (hP j hj).2)) (zc_cnt_le _ _)
  have hst : 1 + zt_sz u + 0 ≤ s := Nat.le_trans (zt_sz_le (.inner 0 (0, 0) () u .leaf) (fun i => i < s) _ _ _ s hC (fun j hj => hj)) (zc_cnt_le _ _)
  have hln := zv_lnsz u
  have S0 : yh_S LC LM s 0 u P1 Q1 h3 g4 u h3 g4 ((h3.2.1 17) 0) ((g4.2.1 76) 0) := by
    refine ⟨0, fun _ => 0, P1, Q1, z1, (g4.2.1 77) 0, by omega, ⟨hC3, hM3⟩, ⟨fun _ z => z, fun _ z => z⟩, ⟨oku, yc_gA hA, Nat.le_refl _, (zg_cxi (show zg_cx (.inner 0 (0, 0) () u .leaf) from hcx)).1⟩, ⟨I0, fun v hv => absurd hv (Nat.not_lt_zero v), fun b hb => absurd hb (Nat.not_lt_zero b)⟩, by show 0 + zg_c u + zt_ln u ≤ zg_c u + zt_ln u; omega, fun j hj => ?_, lp, ⟨zfr_rfl, zfr_rfl, fun _ _ => ⟨rfl, rfl, rfl, rfl⟩, fun _ _ => ⟨rfl, rfl, rfl⟩⟩, fun b hb => absurd hb (Nat.not_lt_zero b)⟩
    rw [hA1 14 (by decide)]
    exact ty j (hP j hj).2
  have m72 : (g4.2.1 72) 0 = nI 0 := by rw [gA1 72 (by decide)]; exact b3
  have m75 : (g4.2.1 75) 0 = -1 := by rw [gA1 75 (by decide)]; exact b6
  have stp : zv_stp 399 498 0 s (yh_S LC LM s 0 u P1 Q1 h3 g4) (zv_Fb h3 g4) := by
    intro c kv w lc r hh gg x x' S
    have hs3 : 3 ≤ s := by
      cases u with
      | leaf =>
        exfalso
        obtain ⟨nb, _, _, _, _, _, en, _⟩ := S
        have e1 : zt_ln (.inner c kv w lc r) = 1 + zt_ln r := rfl
        have e2 : zt_ln .leaf = 0 := rfl
        omega
      | inner c1 kv1 o1 l1 r1 =>
        have es : zt_sz (.inner c1 kv1 o1 l1 r1) = 1 + zt_sz l1 + zt_sz r1 := rfl
        have key : ∀ r ∈ zg_R, r.1 = 0 → ∀ c ∈ r.2.2.1, (c = 1 ∨ c = 2 ∨ c = 3) := by decide +kernel
        obtain ⟨cs, to, q1, q2, _⟩ := zv_qR (yb_run hA)
        have q3 := key _ q1 rfl c1 q2
        cases l1 with
        | leaf =>
          exfalso
          have hA2 : zg_A c1 0 = true := oku.1.1
          rcases q3 with e | e | e <;> rw [e] at hA2 <;> exact absurd hA2 (by decide)
        | inner c2 kv2 o2 l2 r2 =>
          have es2 : zt_sz (.inner c2 kv2 o2 l2 r2) = 1 + zt_sz l2 + zt_sz r2 := rfl
          omega
    exact yh_step (D := 398) (D' := 496) hP hQ hu (by omega) (by omega) (by omega) hs3 (by omega) siz (by omega) (by omega) (by omega) m75 (by rw [m72]; decide) S
  have hend : ∀ hh gg x x', yh_S LC LM s 0 u P1 Q1 h3 g4 .leaf hh gg x x' → x = -1 ∧ x' = -1 := by
    intro hh gg x x' S
    obtain ⟨_, _, _, _, yy, yy', _, ⟨sC, sM⟩, _⟩ := S
    exact ⟨(show x = -1 ∧ yy = -1 from sC).1, (show x' = -1 ∧ yy' = -1 from sM).1⟩
  have c13 : (h3.2.1 13) 0 = nI 0 := by rw [hA1 13 (by decide)]; exact a3
  have nP0 : ¬ P1 0 := fun z => (a6 0 z).2.1 rfl
  have eJ : ∀ h', f_Jd_visit 400 h3 0 0 = some h' → f_Jd_judge h = some ((h'.1 38 3), h') := by
    intro h' e
    unfold f_Jd_judge
    rw [← hh0, f1, Option.bind_some, show f_Jd_judge_L19 zF h2 0 = _ from l1, e]
    rfl
  have eM1 : ∀ g', f_Mo_look 500 g4 0 = some g' → (g'.1 68 29) = 0 → f_Mo_judge_L45 zF g 0 = some ((g'.1 68 29), zs_uF g' 68 31 1) := by
    intro g' e1 e2
    rw [show f_Mo_judge_L45 zF g 0 = _ from k1]
    unfold yh_end
    rw [e1, Option.bind_some, if_pos e2]
    unfold f_Mo_judge_125 f_Mo_judge_128
    rw [if_pos (.inr rfl)]
    rfl
  have eM0 : ∀ g', f_Mo_look 500 g4 0 = some g' → ¬ (g'.1 68 29) = 0 → f_Mo_judge_L45 zF g 0 = some ((g'.1 68 29), zs_uF g' 68 31 0) := by
    intro g' e1 e2
    rw [show f_Mo_judge_L45 zF g 0 = _ from k1]
    unfold yh_end
    rw [e1, Option.bind_some, if_neg e2]
    unfold f_Mo_judge_125 f_Mo_judge_128
    rw [if_pos (.inl rfl)]
    rfl
  have FC' : zfr zv_cf (13 :: 14 :: 16 :: 17 :: zv_cm) [] h h3 := zfr_w FC (fun _ z => z) (by decide) (by decide)
  have bad : ∀ h' g', f_Jd_visit 400 h3 0 0 = some h' → f_Mo_look 500 g4 0 = some g' → zv_Fb h3 g4 h' g' → ∃ φ h' g', f_Jd_judge h = some (nI φ, h') ∧ f_Mo_judge_L45 zF g 0 = some (nI φ, g') ∧ φ < 1000 ∧ zfr zv_cf (13 :: 14 :: 16 :: 17 :: zv_cm) [] h h' ∧ zfr ((68, 31) :: (68, 32) :: zv_mf) zv_mm [] g g' ∧ (¬ φ = 0 → (h'.1 38 3) = nI φ ∧ (g'.1 68 29) = nI φ ∧ (h'.1 38 0) = (g'.1 68 30)) ∧ (φ = 0 → (h'.1 38 3) = 0 ∧ (g'.1 68 29) = 0 ∧ ∃ g5, g' = zs_uF g5 68 31 1 ∧ yh_Z s LC LM h' g5) := by
    intro h' g' e1 e2 B
    obtain ⟨⟨φ, p, X⟩, x1, x2⟩ := B
    obtain ⟨y1, y2, y3, y4, y5, y6⟩ := id X
    have q1 := eJ h' e1
    have q2 := eM0 g' e2 (zv_Xn X).2
    rw [y3] at q1
    rw [y5] at q2
    exact ⟨φ, h', zs_uF g' 68 31 0, q1, q2, y2, zfr_trans FC' x1, zfr_trans FM (zfr_F (by decide) (zfr_w x2 (by decide) (by decide) (by decide))), fun _ => ⟨y3, y5, y4.trans y6.symm⟩, fun z => by omega⟩
  rcases zv_node (D := 399) (D' := 498) (d := 0) (sz := s) (i := 0) (k := 0) (kd := 0) (l := u) (h := h3) (h1 := h3) (g := g4) (by omega) (by omega) (by omega) (by omega) (by decide) (.inl rfl) (by decide) m72 (zv_ent0 (kd := 0) (by omega) (by decide) c13 (by decide)) stp hend S0 (by omega) with ⟨h', g', e1, e2, B, _, _⟩ | ⟨h5, g5, S, e1, e2⟩
  · exact bad h' g' e1 e2 B
  obtain ⟨nb, F, Pu, Qu, yy, yy', en, _, _, _, ⟨I, si, p0⟩, _, _, lp5, fr, BB⟩ := S
  have J5 : (h5.1 38 3) = 0 := I.2.2.2.2.2.2.2.1
  have K5 : (g5.1 68 29) = 0 := I.2.2.2.2.2.2.2.2
  obtain ⟨X, K, hXK⟩ := yh_XK I
  obtain ⟨h', g', v1, v2, v3⟩ := yh_leave (i := 0) (k := 0) (p0 := 0) I (by omega) (by omega) (by rw [fr.1.2.1 15 (by decide), hA1 15 (by decide)]; exact a4) (by rw [fr.2.1.2.1 73 (by decide), gA1 73 (by decide)]; exact b4 (by decide)) hXK p0
  have w1 : f_Jd_visit 400 h3 0 0 = some h' := by
    rw [show f_Jd_visit 400 h3 0 0 = f_Jd_visit_74 h5 (nI 0) from e1]
    unfold f_Jd_visit_74
    rw [if_pos J5, Option.bind_fun_some, zv_lv0 (by omega) ((fr.2.2.1 0 nP0).1.trans c13), v1]
  have w2 : f_Mo_look 500 g4 0 = some g' := by
    rw [show f_Mo_look 500 g4 0 = _ from e2, Option.bind_fun_some, zv_54B (by decide) K5]
    unfold f_Mo_lookAtBlocks
    simp (config := { decide := true }) only [if_pos (zi_in (show 0 < 2147483648 by omega) (show 0 < 33500 by omega)), nI_clamp (show 0 < 2147483648 by omega), show (g5.2.1 72) 0 = 0 by rw [fr.2.1.2.1 72 (by decide)]; exact m72, if_true, Option.bind_fun_some, v2]
  rcases v3 with ⟨B, _, _⟩ | ⟨T, n4, n5, x1, x2⟩
  · exact bad h' g' w1 w2 ⟨B.1, zfr_trans fr.1 B.2.1, zfr_trans fr.2.1 B.2.2⟩
  · have q1 := eJ h' w1
    have q2 := eM1 g' w2 n5
    rw [n4] at q1
    rw [n5] at q2
    have x2' : zfr zv_mf zv_mm [] g5 g' := zfr_w x2 (by decide) (by decide) (by decide)
    have bf : yg_bf nb (F nb) (fun _ => False) (fun _ => False) h5 g5 h' g' := by
      have A : ∀ z, ¬ z ∈ [27] → h'.2.1 z = h5.2.1 z := fun z hz => x1.2.1 z hz
      have G : ∀ z, ¬ z ∈ [89] → g'.2.1 z = g5.2.1 z := fun z hz => x2.2.1 z hz
      refine ⟨zfr_w x1 (by decide) (by decide) (by decide), x2', fun j _ => ⟨by rw [A _ (by decide)], by rw [A _ (by decide)], by rw [A _ (by decide)], by rw [A _ (by decide)]⟩, fun j _ => ⟨by rw [G _ (by decide)], by rw [G _ (by decide)], by rw [G _ (by decide)]⟩, fun j _ => ⟨by rw [A _ (by decide)], by rw [A _ (by decide)], by rw [A _ (by decide)], by rw [A _ (by decide)], by rw [A _ (by decide)], by rw [A _ (by decide)], by rw [A _ (by decide)], by rw [A _ (by decide)]⟩, fun b _ => ⟨by rw [A _ (by decide)], by rw [A _ (by decide)], by rw [A _ (by decide)], by rw [A _ (by decide)], by rw [G _ (by decide)]⟩⟩
    refine ⟨0, h', zs_uF g' 68 31 1, q1, q2, by decide, zfr_trans FC' (zfr_trans fr.1 (zfr_w x1 (by decide) (by decide) (by decide))), zfr_trans FM (zfr_F (by decide) (zfr_w (zfr_trans fr.2.1 x2') (by decide) (by decide) (by decide))), fun z => absurd rfl z, fun _ => ⟨n4, n5, g', rfl, nb, F, X, K, yh_Ifr I x1 x2, fun v hv hs => ?_, fun j hj => ?_, T, fun b hb => ?_⟩⟩
    · rw [x1.2.1 30 (by decide)]
      rw [x1.2.1 29 (by decide)] at hs
      exact si v hv hs
    · rw [x1.2.1 21 (by decide), x1.2.1 26 (by decide), x2.2.1 86 (by decide), x2.2.1 88 (by decide)]
      exact hXK j hj
    · obtain ⟨Pb, Qb, y1, y2, y3, y4⟩ := BB b hb
      exact ⟨Pb, Qb, fun j hj => (hP j (y1 j hj).1).1, (yg_Kf (fun b hb => (I.2.1.2.2.2.1 b hb).1) (fun _ _ => rfl) hb bf (fun j hj => ⟨(hP j (y1 j hj).1).1, fun z => z⟩) (fun j hj z => z) y4 y3).1⟩
end
section
/-! The judge: a text is read and judged. -/
abbrev yh_n : List (Nat × Nat) := [(0, 2), (0, 3)]
abbrev yh_m : List (Nat × Nat) := [(68, 29), (68, 30), (68, 33), (68, 41), (68, 31), (68, 32)]
theorem zk_TXf {LC LM : List (List Int32)} {t : zt_T} {s m : Nat} {h g h' g' : zs_H} (H : zk_TX LC LM t s m h g) (a : zfr yh_n [] [] h h') (b : zfr yh_m [] [] g g') : zk_TX LC LM t s m h' g' := by
  obtain ⟨x1, x2, x3, x4, x5, x6, x7, x8, x9, x10, x11⟩ := H
  have A : ∀ z, h'.2.1 z = h.2.1 z := fun z => a.2.1 z List.not_mem_nil
  have G : ∀ z, g'.2.1 z = g.2.1 z := fun z => b.2.1 z List.not_mem_nil
  refine ⟨x1, x2, (a.1 _ _ (by decide)).trans x3, x4, ?_, (b.1 _ _ (by decide)).trans x6, x7, ?_, ?_, x10, x11⟩
  · exact zt_fr t _ _ 0 _ _ (fun i _ => ⟨fun kd k up z hz => by unfold zt_NC at hz ⊢; rw [A, A, A]; exact hz, by rw [A], by rw [A]⟩) (fun i hi => hi) x5
  · exact zt_fr t _ _ _ _ _ (fun i _ => ⟨fun kd k up z hz => by unfold zt_NM at hz ⊢; rw [G, G, G, G, G]; exact hz, by rw [G], by rw [G]⟩) (fun i hi => hi) x8
  · unfold zn_M at x9 ⊢
    rw [b.1 _ _ (by decide), G, G]
    exact x9
/-- what a text that is read and judged leaves -/
theorem yh_two {h g : zs_H} {T : Nat → Int32} {n K : Nat} {LC : List (List Int32)} (HS : zq_S h T n K LC) (HX : zl_X g T n) (CX : ∀ h1 t LM s m g1, f_Ps_parse h = some (nI 0, h1) → zk_TX LC LM t s m h1 g1 → zg_cx t) : ∃ φ h1, f_Ps_parse h = some (nI φ, h1) ∧ φ < 1000 ∧ zq_f h h1 ∧
    ((¬ φ = 0 ∧ ∃ g', f_Mo_judge g = some (nI φ, g') ∧ (g'.1 68 30) = (h1.1 19 0) ∧ zfr (yh_m ++ zx_fs2) zx_ms2 [] g g') ∨
     (φ = 0 ∧ ∀ h2, zfr yh_n [] [] h1 h2 → ∃ ψ h3 g', f_Jd_judge h2 = some (nI ψ, h3) ∧ f_Mo_judge g = some (nI ψ, g') ∧ ψ < 1000 ∧ zfr zv_cf (13 :: 14 :: 16 :: 17 :: zv_cm) [] h2 h3 ∧ zfr (yh_m ++ zx_fs2 ++ zv_mf) (zx_ms2 ++ zv_mm) [] g g' ∧ (¬ ψ = 0 → (h3.1 38 0) = (g'.1 68 30)) ∧ (ψ = 0 → ∃ s LM g5, s ≤ 20500 ∧ (h3.1 12 6) = nI s ∧ g' = zs_uF g5 68 31 1 ∧ yh_Z s LC LM h3 g5))) := by
  obtain ⟨φ, h1, g1, e1, e2, hφ, f1, f2, y0, yF⟩ := zk_parse HS HX
  refine ⟨φ, h1, e1, hφ, f1, ?_⟩
  by_cases z : φ = 0
  · right
    refine ⟨z, fun h2 fh => ?_⟩
    obtain ⟨t, LM, s, m, TX⟩ := y0 z
    obtain ⟨g2, hg2⟩ : ∃ g2, g2 = (zs_uF (zs_uF (zs_uF (zs_uF (zs_uF (zs_uF g1 68 29 (nI φ)) 68 30 (g1.1 68 11)) 68 33 0) 68 41 0) 68 31 0) 68 32 0) := ⟨_, rfl⟩
    have fg : zfr yh_m [] [] g1 g2 := by
      rw [hg2]
      exact zfr_F (by decide) (zfr_F (by decide) (zfr_F (by decide) (zfr_F (by decide) (zfr_F (by decide) (zfr_F (by decide) zfr_rfl)))))
    have TX2 := zk_TXf TX fh fg
    have hs : (h2.1 12 6) = nI s ∧ s ≤ 20500 := ⟨TX2.2.2.1, TX2.2.2.2.1⟩
    have ty : ∀ i, i < s → (h2.2.1 14) i = 0 := by
      obtain ⟨s', s1, s2, s3⟩ := ty_parse _ _ e1
      have es : s' = s := (nI_eq (by omega) (by omega)).mp (s1.symm.trans TX.2.2.1)
      intro i hi
      rw [fh.2.1 _ List.not_mem_nil]
      exact s3 i (by omega)
    obtain ⟨_, _, _, _, _, q1, q2, q3, _⟩ := HS
    obtain ⟨ψ, h3, g3, r1, r2, r3, r4, r5, r6, r7⟩ := yh_judge TX2 (CX h1 t LM s m g1 (by rw [e1, z]) TX) ty q1 q3 q2 (by rw [hg2, z]; rfl) (by rw [hg2]; rfl) (by rw [hg2]; rfl)
    have eM : f_Mo_judge g = some (nI ψ, g3) := by
      unfold f_Mo_judge
      rw [e2]
      show (if nI φ = 0 then f_Mo_judge_L45 zF (zs_uF (zs_uF (zs_uF (zs_uF (zs_uF (zs_uF g1 68 29 (nI φ)) 68 30 (g1.1 68 11)) 68 33 0) 68 41 0) 68 31 0) 68 32 0) 0 else _) = _
      rw [if_pos (by rw [z]; rfl), ← hg2]
      exact r2
    refine ⟨ψ, h3, g3, r1, eM, r3, r4, zfr_trans (zfr_w f2 (by decide) (by decide) (by decide)) (zfr_trans (zfr_w fg (by decide) (by decide) (by decide)) (zfr_w r5 (by decide) (by decide) (by decide))), fun q => (r6 q).2.2, fun q => ?_⟩
    obtain ⟨_, _, g5, w1, w2⟩ := r7 q
    exact ⟨s, LM, g5, hs.2, (r4.1 _ _ (by decide)).trans hs.1, w1, w2⟩
  · left
    have eM : f_Mo_judge g = some (nI φ, zs_uF (zs_uF (zs_uF (zs_uF (zs_uF g1 68 29 (nI φ)) 68 30 (g1.1 68 11)) 68 33 0) 68 41 0) 68 31 0) := by
      unfold f_Mo_judge
      rw [e2]
      show (if nI φ = 0 then _ else f_Mo_judge_128 (zs_uF (zs_uF (zs_uF (zs_uF (zs_uF g1 68 29 (nI φ)) 68 30 (g1.1 68 11)) 68 33 0) 68 41 0) 68 31 0)) = _
      rw [if_neg (fun q => by have := (zc_eq (k := 0) (by decide) (by omega)).mp q; omega)]
      rfl
    refine ⟨z, _, eM, (yF z).symm, zfr_F (by decide) (zfr_F (by decide) (zfr_F (by decide) (zfr_F (by decide) (zfr_F (by decide) (zfr_w f2 (by decide) (by decide) (by decide))))))⟩
end
