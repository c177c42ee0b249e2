/-! The judge: a block is visited (from its beginning to its end). -/
theorem zt_szap : ∀ t u : zt_T, zt_sz (zt_ap t u) = zt_sz t + zt_sz u := by
  intro t u
  induction t with
  | leaf => show zt_sz u = 0 + zt_sz u; omega
  | inner kd kv o l r ihl ihr =>
    show 1 + zt_sz l + zt_sz (zt_ap r u) = 1 + zt_sz l + zt_sz r + zt_sz u
    rw [ihr]; omega
theorem yg_ent {h : zs_H} {i kd : Nat} (hi : i < 32784) (hkd : kd = 1 ∨ kd = 2 ∨ kd = 3) (c : (h.2.1 13) i = nI kd) : f_Jd_enter h (nI i) = f_Jd_enterBlock h (nI i) := by
  unfold f_Jd_enter
  rcases hkd with e | e | e <;> subst e
  · simp (config := { decide := true }) only [if_pos (zi_in (show i < 2147483648 by omega) hi), nI_clamp (show i < 2147483648 by omega), show (h.2.1 13) i = 1 from c, if_true, if_false, Option.bind_fun_some]
  · simp (config := { decide := true }) only [if_pos (zi_in (show i < 2147483648 by omega) hi), nI_clamp (show i < 2147483648 by omega), show (h.2.1 13) i = 2 from c, if_true, if_false, Option.bind_fun_some]
  · simp (config := { decide := true }) only [if_pos (zi_in (show i < 2147483648 by omega) hi), nI_clamp (show i < 2147483648 by omega), show (h.2.1 13) i = 3 from c, if_true, if_false, Option.bind_fun_some]
theorem yg_flC {h : zs_H} {D : Nat} {x1 x2 x3 x4 : Int32} (hf : ¬ (h.1 38 3) = 0) : f_Jd_visit_L26 (f_Jd_visit D) zF h x1 x2 x3 x4 = some h := by
  obtain ⟨N, hN⟩ : ∃ N, zF = N + 1 := ⟨zF - 1, by have := zF_big; omega⟩
  rw [hN]
  show f_Jd_visit_26 (f_Jd_visit D) (f_Jd_visit_L26 (f_Jd_visit D) N) h x1 x2 x3 x4 = _
  unfold f_Jd_visit_26 f_Jd_visit_74
  simp only [if_neg hf, ite_self]
theorem yg_flM {g : zs_H} {D : Nat} {x1 x2 x3 : Int32} (hf : ¬ (g.1 68 29) = 0) : f_Mo_lookAlone_L28 (f_Mo_look D) zF g x1 x2 x3 = some g := by
  obtain ⟨N, hN⟩ : ∃ N, zF = N + 1 := ⟨zF - 1, by have := zF_big; omega⟩
  rw [hN]
  show f_Mo_lookAlone_28 (f_Mo_look D) (f_Mo_lookAlone_L28 (f_Mo_look D) N) g x1 x2 x3 = _
  unfold f_Mo_lookAlone_28 f_Mo_lookAlone_54
  simp only [if_neg hf, ite_self]
theorem yg_lv {h : zs_H} {i kd : Nat} (hi : i < 32784) (hkd : kd = 1 ∨ kd = 2 ∨ kd = 3) (c : (h.2.1 13) i = nI kd) : f_Jd_leave h (nI i) = f_Jd_leaveBlock h (nI i) := by
  rcases hkd with e | e | e <;> subst e
  · exact zv_lv1 hi c
  · exact zv_lv2 hi c
  · exact zv_lv3 hi c
/-- the type of a FUNCTION -/
theorem yg_ty {LC LM : List (List Int32)} {h g : zs_H} {l : zt_T} {P Q : Nat → Prop} {x y up x' y' : Int32} (hP : ∀ j, P j → j < 32784) (hQ : ∀ j, Q j → j < 33500) (cC : zt_C h l P x y) (cM : zt_M LC LM g l Q up x' y') (hA : zg_A 1 (zg_run 1 0 l) = true) (ok : zg_ok l) : ∃ i' k' ty, i' < 32784 ∧ k' < 33500 ∧ ty < 3 ∧ x = nI i' ∧ (h.2.1 16) i' = nI ty ∧ x' = nI k' ∧ (g.2.1 74) k' = nI ty := by
  have key : ∀ r ∈ zg_R, r.1 = 1 → r.2.1 = 0 → ∀ c ∈ r.2.2.1, c = 8 := by decide +kernel
  cases l with
  | leaf => exact absurd hA (by decide)
  | inner c kv o lc r =>
    obtain ⟨cs, to, m1, m2, m3⟩ := zv_qR (yb_run hA)
    have e8 := key _ m1 rfl rfl c m2
    subst e8
    obtain ⟨a, _, _, _, _, ea, _, a2, _, _, a5, _⟩ := zv_hC cC
    obtain ⟨b, _, _, _, eb, _, b2, _, _, b5, _⟩ := zv_hM cM
    rcases ok.1.2 with z | ⟨x, x1, x2, _⟩
    · exact absurd z (by decide)
    · exact ⟨a, b, x, hP a a2, hQ b b2, x1, ea, a5.trans x2, eb, (show (g.2.1 74) b = kv.2 from b5).trans x2⟩
theorem yg_blockV {LC LM : List (List Int32)} {nb sz i k t0 d D D' kd : Nat} {F : Nat → Nat} {h g : zs_H} {l : zt_T} {P Q : Nat → Prop} {y0 : Int32} {kv : Int32 × Int32} (I : zv_I LC LM nb nb (F nb) F (-1) h g) (si : zv_si (F nb) h) (hnb : nb < 568) (hN : F nb + 1 + zg_c l ≤ 5900) (hi : i < 32784) (hk : k < 33500) (hPi : ¬ P i) (hQk : ¬ Q k) (hP : ∀ j, P j → j < 32784 ∧ j < sz) (hQ : ∀ j, Q j → j < 33500) (hkd : kd = 1 ∨ kd = 2 ∨ kd = 3) (c0 : (h.2.1 13) i = nI kd) (c1 : (h.2.1 15) i = kv.1) (c2 : (h.2.1 16) i = kv.2) (c4 : ∀ j, P j → (h.2.1 14) j = 0) (cC : zt_C h l P ((h.2.1 17) i) y0) (m0 : (g.2.1 72) k = nI kd) (m1 : (g.2.1 73) k = kv.1) (m2 : zt_nr LC LM kv.2 ((g.2.1 74) k)) (m3 : (g.2.1 75) k = nI t0) (cM : zt_M LC LM g l Q (nI k) ((g.2.1 76) k) ((g.2.1 77) k)) (hA : zg_A kd (zg_run kd 0 l) = true) (ok : zg_ok l) (hdl : zg_d l ≤ 185) (hcx : zg_cx l) (hd0 : d ≤ 50) (hs3 : 3 ≤ sz) (hsz2 : sz ≤ 32784) (hsz : (h.1 12 6) = nI sz) (hD : 4 ≤ D ∧ zg_d l ≤ D) (hD' : 8 ≤ D' ∧ 2 * zg_d l < D') (ht0 : t0 < 33500) (u2 : (g.2.1 75) t0 = -1) (u3 : ¬ (g.2.1 72) t0 = 19) (lp : (h.1 38 12) = 0) :
    ∃ h' g', f_Jd_visit (D + 1) h (nI i) (nI d) = some h' ∧ f_Mo_look (D' + 2) g (nI k) = some g' ∧ ((zv_Fb h g h' g' ∧ ¬ (h'.1 38 3) = 0 ∧ ¬ (g'.1 68 29) = 0) ∨ ∃ F' : Nat → Nat, zv_I LC LM (nb + 1) (nb + 1) (F' (nb + 1)) F' (-1) h' g' ∧ (zv_si (F' (nb + 1)) h' ∧ (h'.2.1 27) (9 + nb) = 0) ∧ (∀ j, j ≤ nb → F' j = F j) ∧ F' (nb + 1) ≤ F nb + 1 + zg_c l ∧ (h'.1 38 12) = 0 ∧ (h'.2.1 22) (9 + nb) = nI i ∧ yg_bf nb (F nb) P Q h g h' g' ∧ yg_K LC LM F' sz nb P Q h' g') := by
  have hz := zF_big
  obtain ⟨c, k', v1, v2, c41, cl, kl, ce⟩ := id m2
  have hc : c < 6000 := Nat.lt_trans cl I.1.2.2.1
  obtain ⟨h1, g1, b1, b2, fC, fM, r⟩ := yg_begin (c := c) (w := (g.2.1 74) k) (p := kv.1) I hnb (by omega) hi hk hkd c0 (c2.trans v1) c1 m0 rfl m1 (by rw [← v1]; exact m2) hc (fun e => yg_ty (fun j hj => (hP j hj).1) hQ cC cM (by rw [← e]; exact hA) ok)
  obtain ⟨e1, e2⟩ := yg_bnode (D := D) (D' := D') (d := d) (by omega) hi hk hkd m0 ((yg_ent hi hkd c0).trans b1) b2
  rcases r with ⟨φ, X⟩ | ⟨⟨o1, o2, o3, o4, o5, o6, I1⟩, ob⟩
  · have xn := zv_Xn X
    exact ⟨h1, g1, by rw [e1]; exact yg_flC xn.1, by rw [e2]; exact yg_flM xn.2, .inl ⟨⟨⟨φ, _, X⟩, zfr_w fC (fun _ z => z) (by decide) (by decide), fM⟩, xn.1, xn.2⟩⟩
  obtain ⟨F1, hF1⟩ : ∃ F1 : Nat → Nat, F1 = (fun j => if j = nb + 1 then (if kd = 1 then F nb + 1 else F nb) else F j) := ⟨_, rfl⟩
  have eF : F1 (nb + 1) = (if kd = 1 then F nb + 1 else F nb) := by rw [hF1]; exact if_pos rfl
  have eF2 : ∀ j, ¬ j = nb + 1 → F1 j = F j := fun j hj => by rw [hF1]; exact if_neg hj
  rw [← hF1, ← eF] at I1
  have hFF : F nb ≤ F1 (nb + 1) ∧ F1 (nb + 1) ≤ F nb + 1 := by rw [eF]; split <;> omega
  obtain ⟨⟨t1, t2, t3⟩, obk, ob1, ob2, opl, yv0, yy1, yy2⟩ := ob
  have fr0 : zv_fr P Q h g h1 g1 := ⟨zfr_w fC (fun _ z => z) (by decide) (by decide), fM, fun j _ => by rw [fC.2.1 _ (by decide)], fun j _ => ⟨by rw [t1], by rw [t2], by rw [t3]⟩⟩
  obtain ⟨kC, kM⟩ := zv_CM fr0 cC cM
  have hA1 : ∀ z, ¬ z ∈ zv_cm → h1.2.1 z = h.2.1 z := fun z hz => fC.2.1 z hz
  have gA1 : ∀ z, ¬ z ∈ zv_mm → g1.2.1 z = g.2.1 z := fun z hz => fM.2.1 z hz
  have siz1 : (h1.1 12 6) = nI sz := (fC.1 _ _ (by decide)).trans hsz
  have si1 : zv_si (F1 (nb + 1)) h1 := by
    intro v hv hs
    by_cases q : v < F nb
    · obtain ⟨w1, w2, w3, _⟩ := ob2 (32 + v) (by omega)
      rw [w3]
      exact si v q (by rw [← w2]; exact hs)
    · have k1 : kd = 1 := by
        rw [eF] at hv
        by_cases z : kd = 1
        · exact z
        · rw [if_neg z] at hv; omega
      rw [eF, if_pos k1] at hv
      have : v = F nb := by omega
      rw [this]
      exact (obk k1).1
  have hln : zt_sz l ≤ sz := Nat.le_trans (zt_sz_le l P _ _ _ sz cC (fun j hj => (hP j hj).2)) (zc_cnt_le _ _)
  have hln2 := zv_lnsz l
  have S0 : yg_S LC LM (nb + 1) nb kd k F1 l P Q y0 ((g1.2.1 77) k) h1 g1 l h1 g1 ((h1.2.1 17) i) ((g1.2.1 76) k) := by
    refine .inl ⟨0, .leaf, P, Q, y0, (g1.2.1 77) k, F1, ⟨rfl, trivial, trivial⟩, ⟨?_, ?_⟩, ⟨fun _ z => z, fun _ z => z⟩, ⟨ok, hA, by omega, Nat.le_refl _⟩, ⟨I1, ⟨fun _ _ => rfl, Nat.le_refl _⟩, ⟨yv0, yy1, by rw [show 8 + (nb + 1) = 9 + nb by omega]; exact yy2⟩, zv_fr0, ⟨⟨rfl, ⟨rfl, rfl, rfl⟩, rfl, rfl⟩, ⟨rfl, rfl⟩, rfl, fun _ _ => rfl⟩, ⟨fun _ _ => ⟨rfl, rfl, rfl, rfl, rfl, rfl, rfl, rfl⟩, fun v h1 h2 => by omega⟩⟩, Nat.le_refl _, fun j hj => by rw [hA1 14 (by decide)]; exact c4 j hj, fun _ => ⟨rfl, rfl⟩⟩
    · rw [hA1 17 (by decide)]; exact kC
    · rw [gA1 76 (by decide), gA1 77 (by decide)]; exact kM
  have stp : zv_stp D D' d sz (yg_S LC LM (nb + 1) nb kd k F1 l P Q y0 ((g1.2.1 77) k) h1 g1) (zv_Fb h1 g1) := by
    intro c kv w lc r h2 g2 x x' S
    exact yg_step (t0 := t0) rfl hkd hP hQ (by omega) (by omega) (by omega) hk hs3 hsz2 siz1 hD hD' si1 ht0 (by rw [gA1 _ (by decide)]; exact m3) (by rw [gA1 _ (by decide)]; exact u2) (by rw [gA1 _ (by decide)]; exact u3) (by rw [gA1 _ (by decide)]; exact m0) (o2.trans lp) o1 S
  have hend : ∀ h2 g2 x x', yg_S LC LM (nb + 1) nb kd k F1 l P Q y0 ((g1.2.1 77) k) h1 g1 .leaf h2 g2 x x' → x = -1 ∧ x' = -1 := by
    intro h2 g2 x x' S
    rcases S with ⟨_, _, _, _, yy, yy', _, _, ⟨sC, sM⟩, _⟩ | ⟨_, q1, q2, _⟩
    · exact ⟨(show x = -1 ∧ yy = -1 from sC).1, (show x' = -1 ∧ yy' = -1 from sM).1⟩
    · exact ⟨q1, q2⟩
  rcases zv_fold (i := i) (k := k) (kd := kd) (by omega) (by omega) stp hend l 0 zF zF h1 g1 _ _ S0 (by omega) (by omega) (by omega) with ⟨h', g', r1, r2, B, n1, n2⟩ | ⟨h2, g2, S, r1, r2⟩
  · exact ⟨h', g', by rw [e1]; exact r1, by rw [e2]; exact r2, .inl ⟨⟨B.1, zfr_trans (zfr_w fC (fun _ z => z) (by decide) (by decide)) B.2.1, zfr_trans fM B.2.2⟩, n1, n2⟩⟩
  rcases S with ⟨st, w, Pu, Qu, yy, yy', F', _, _, _, ⟨_, gA, hst, _⟩, _⟩ | ⟨_, _, _, SB⟩
  · exfalso
    have gA' : zg_A kd st = true := gA
    have q : st = 0 ∨ st = 1 := by omega
    rcases hkd with e | e | e <;> rcases q with q | q <;> rw [e, q] at gA' <;> exact absurd gA' (by decide)
  obtain ⟨w, F', hb, gb, c', kvb, lb, a, b, P1, Q1, ⟨el, sw, okw⟩, ⟨hc', hAb, okb⟩, ⟨AA, hFc⟩, ⟨⟨ha, hbb, ea, eb⟩, ⟨Pa, Qb⟩, P1P, Q1Q⟩, ⟨O, A⟩, ⟨n1, n2, ow, xx⟩, kb, nx, bs⟩ := SB
  obtain ⟨IA, ⟨FA1, FA2⟩, ⟨yv, y1, y2⟩, fr, sk, vn⟩ := AA
  have I2 : zv_I LC LM (nb + 1) nb (F' (nb + 1)) F' (-1) h2 g2 := zv_Ifr IA (zfr_w O.1 (by decide) (by decide) (by decide)) O.2.1
  have noP : ∀ j, ¬ P j → ¬ (P1 j ∨ j = a) := fun j hj z => hj (z.elim (P1P j) (fun e => by rw [e]; exact Pa))
  have noQ : ∀ j, ¬ Q j → ¬ (Q1 j ∨ j = b) := fun j hj z => hj (z.elim (Q1Q j) (fun e => by rw [e]; exact Qb))
  have hA2 : ∀ z, ¬ z ∈ (13 :: 14 :: 16 :: 17 :: zv_cm) → h2.2.1 z = h.2.1 z := fun z hz => ((zfr_w O.1 (by decide) (by decide) (by decide) : zfr zv_cf (13 :: 14 :: 16 :: 17 :: zv_cm) [] hb h2).2.1 z hz).trans (((zfr_w fr.1 (fun _ z => z) (by decide) (by decide) : zfr zv_cf (13 :: 14 :: 16 :: 17 :: zv_cm) [] h1 hb).2.1 z hz).trans ((zfr_w fC (fun _ z => z) (by decide) (by decide) : zfr zv_cf (13 :: 14 :: 16 :: 17 :: zv_cm) [] h h1).2.1 z hz))
  have gA2 : ∀ z, ¬ z ∈ zv_mm → g2.2.1 z = g.2.1 z := fun z hz => ((zfr_w O.2.1 (by decide) (by decide) (by decide) : zfr zv_mf zv_mm [] gb g2).2.1 z hz).trans ((fr.2.1.2.1 z hz).trans (gA1 z hz))
  have same : ∀ j, ¬ P j → (h2.2.1 13) j = (h.2.1 13) j ∧ (h2.2.1 14) j = (h.2.1 14) j ∧ (h2.2.1 16) j = (h.2.1 16) j ∧ (h2.2.1 17) j = (h.2.1 17) j := by
    intro j hj
    obtain ⟨q1, q2, q3, q4⟩ := O.2.2.1 j (noP j hj)
    refine ⟨q1.trans ?_, q2.trans ?_, q3.trans ?_, q4.trans ?_⟩
    · rw [fr.1.2.1 _ (by decide), hA1 _ (by decide)]
    · rw [fr.2.2.1 j hj, hA1 _ (by decide)]
    · rw [fr.1.2.1 _ (by decide), hA1 _ (by decide)]
    · rw [fr.1.2.1 _ (by decide), hA1 _ (by decide)]
  have hM2 : zt_M LC LM g2 l Q (nI k) ((g2.2.1 76) k) ((g2.2.1 77) k) := by
    rw [gA2 76 (by decide), gA2 77 (by decide)]
    refine zt_fr l Q Q _ _ _ (fun i _ => ?_) (fun i hi => hi) cM
    exact ⟨fun kd k up z hz => by unfold zt_NM at hz ⊢; rw [gA2 72 (by decide), gA2 73 (by decide), gA2 74 (by decide), gA2 75 (by decide), gA2 77 (by decide)]; exact hz, by rw [gA2 76 (by decide)], by rw [gA2 78 (by decide)]⟩
  have hbd := yg_body (kv := kvb) (o := ()) hc' hAb okb
  have ez : zt_sz l = zt_sz w + zt_sz (.inner c' kvb () lb .leaf) := by rw [el]; exact zt_szap _ _
  have cw : ∀ p, yg_c p w = 0 := fun p => yg_sd0 p w okw sw
  have ecl : ∀ p, yg_c p l = yg_c p (.inner c' kvb () lb .leaf) := fun p => by rw [el, yg_cap, cw, Nat.zero_add]
  have lb2 : (g2.2.1 77) k = nI b := by rw [gA2 77 (by decide), ← gA1 77 (by decide)]; exact eb.symm
  have vc2 : (h2.2.1 25) (8 + (nb + 1)) = nI yv := by rw [O.1.2.1 _ (by decide)]; exact y2
  obtain ⟨h', g', w1, w2, w3⟩ := yg_leave (l := l) (Q := Q) (kb := b) (kdb := c') (oc := yc_o (.inner c' kvb () lb .leaf)) (yv := yv) (p0 := kv.1) I2 rfl hi hk hbb hkd (by omega) ((same i hPi).1.trans c0) (by rw [hA2 15 (by decide)]; exact c1) (by rw [gA2 72 (by decide)]; exact m0) (by rw [gA2 73 (by decide)]; exact m1) lb2 kb hM2 ok hQ hQk (by omega) (by omega) ow vc2 (by omega) (by rw [ecl, ecl]; exact hbd.1)
  refine ⟨h', g', ?_, ?_, ?_⟩
  · rw [e1, r1]
    unfold f_Jd_visit_74
    rw [if_pos n1, Option.bind_fun_some, yg_lv hi hkd ((same i hPi).1.trans c0), w1]
  · rw [e2, r2, zv_54B (by omega) n2, w2]
  have FC : zfr zv_cf (13 :: 14 :: 16 :: 17 :: zv_cm) [] h h2 := zfr_trans (zfr_w fC (fun _ z => z) (by decide) (by decide)) (zfr_trans (zfr_w fr.1 (fun _ z => z) (by decide) (by decide)) (zfr_w O.1 (by decide) (by decide) (by decide)))
  have FM : zfr zv_mf zv_mm [] g g2 := zfr_trans fM (zfr_trans fr.2.1 (zfr_w O.2.1 (by decide) (by decide) (by decide)))
  rcases w3 with ⟨B, n3, n4⟩ | ⟨I3, x1, x2, x3, x4, x5, x6, x7, x8, x9⟩
  · exact .inl ⟨⟨B.1, zfr_trans FC B.2.1, zfr_trans FM B.2.2⟩, n3, n4⟩
  right
  have hA3 : ∀ z, ¬ z = 26 → h'.2.1 z = h2.2.1 z := fun z hz => x1.2.1 z (by simpa using hz)
  have gA3 : ∀ z, ¬ z ∈ [88, 101, 102] → g'.2.1 z = g2.2.1 z := fun z hz => x3.2.1 z hz
  have v8b : ∀ j, j < 32 + F nb → zv_v8 h hb j := by
    intro j hj
    obtain ⟨a1, a2, a3, a4, a5, a6, a7, a8⟩ := ob2 j hj
    obtain ⟨b1, b2, b3, b4, b5, b6, b7, b8⟩ := vn.1 j (by omega)
    exact ⟨b1.trans a1, b2.trans a2, b3.trans a3, b4.trans a4, b5.trans a5, b6.trans a6, b7.trans a7, b8.trans a8⟩
  have hAb3 : ∀ z, ¬ z = 26 → ¬ z ∈ yc_m → h'.2.1 z = hb.2.1 z := fun z h1 h2 => (hA3 z h1).trans (O.1.2.1 z h2)
  have BF : yg_bf nb (F nb) P Q h g h' g' := by
    refine ⟨zfr_trans FC (zfr_w x1 (by decide) (by decide) (by decide)), zfr_trans FM (zfr_w x3 (by decide) (by decide) (by decide)), fun j hj => ?_, fun j hj => ?_, fun j hj => ?_, fun bq hbq => ?_⟩
    · obtain ⟨q1, q2, q3, q4⟩ := same j hj
      rw [hA3 13 (by decide), hA3 14 (by decide), hA3 16 (by decide), hA3 17 (by decide)]
      exact ⟨q1, q2, q3, q4⟩
    · obtain ⟨q1, q2, q3⟩ := O.2.2.2.1 j (noQ j hj)
      obtain ⟨p1, p2, p3⟩ := fr.2.2.2 j hj
      obtain ⟨s1, s2⟩ := x5 j hj
      refine ⟨?_, ?_, ?_⟩
      · rw [gA3 _ (by decide), q1, p1, t1]
      · rw [s1, q2, p2, t2]
      · rw [s2, q3, p3, t3]
    · obtain ⟨a1, a2, a3, a4, a5, a6, a7, a8⟩ := v8b j hj
      unfold zv_v8 zv_v6
      rw [hAb3 28 (by decide) (by decide), hAb3 29 (by decide) (by decide), hAb3 30 (by decide) (by decide), hAb3 31 (by decide) (by decide), hAb3 32 (by decide) (by decide), hAb3 33 (by decide) (by decide), hAb3 34 (by decide) (by decide), hAb3 35 (by decide) (by decide)]
      exact ⟨a1, a2, a3, a4, a5, a6, a7, a8⟩
    · obtain ⟨p1, p2⟩ := ob1 bq hbq
      obtain ⟨q1, q2, q3⟩ := o5 bq hbq
      obtain ⟨⟨s1, ⟨s2, s2', _⟩, _, _⟩, _, s3, s4⟩ := sk
      refine ⟨?_, ?_, ?_, ?_, ?_⟩
      · rw [hAb3 21 (by decide) (by decide), s1]; exact p1
      · rw [hAb3 22 (by decide) (by decide), s2]; exact q1
      · rw [hAb3 25 (by decide) (by decide), s4 bq (by omega)]; exact q3
      · rw [x2, if_neg (by omega), O.1.2.1 _ (by decide), s2']; exact p2
      · rw [gA3 _ (by decide), O.2.1.2.1 _ (by decide), s3]; exact q2
  have e18 : h'.2.1 18 = h.2.1 18 := BF.1.2.1 _ (by decide)
  have hne : ¬ l = .leaf := by
    rw [el]
    cases w with
    | leaf => exact fun z => by cases z
    | inner => exact fun z => by cases z
  obtain ⟨a', m, z1, z2, z3, z4⟩ := yg_cnC l P _ y0 hne cC (fun j hj => (hP j hj).1)
  have ea' : a' = a := (nI_eq (by omega) (by omega)).mp (z2.symm.trans ea.symm)
  subst ea'
  have e84 : (g'.2.1 84) nb = nI k := by rw [gA3 _ (by decide), O.2.1.2.1 _ (by decide), sk.2.2.1]; exact o4
  have e22 : (h'.2.1 22) (9 + nb) = nI i := by rw [hAb3 22 (by decide) (by decide), sk.1.2.1.1]; exact o3
  have hM3 : zt_M LC LM g' (zt_ap w (.inner c' kvb () lb .leaf)) Q (nI k) ((g2.2.1 76) k) ((g2.2.1 77) k) := by
    rw [← el]
    refine zt_fr l Q Q _ _ _ (fun i _ => ?_) (fun i hi => hi) hM2
    exact ⟨fun kd k up z hz => by unfold zt_NM at hz ⊢; rw [gA3 72 (by decide), gA3 73 (by decide), gA3 74 (by decide), gA3 75 (by decide), gA3 77 (by decide)]; exact hz, by rw [gA3 76 (by decide)], by rw [gA3 78 (by decide)]⟩
  obtain ⟨Qm, qm1, qm2⟩ := yg_Mlast w Q _ _ _ hM3
  rw [lb2] at qm2
  refine ⟨F', I3, ⟨fun v hv hs => ?_, by rw [hAb3 27 (by decide) (by decide), sk.1.2.1.2.2]; exact opl⟩, fun j hj => (FA1 j (by omega)).trans (eF2 j (by omega)), by omega, ?_, e22, BF, F', i, k, c', kvb, lb, a', b, yv, m, fun j _ => rfl, ⟨hi, hk, e22, e84⟩, ⟨by rw [gA3 _ (by decide)]; exact lb2, hbb, by rw [gA3 _ (by decide)]; exact kb, Qm, fun j z => hQ j (qm1 j z), qm2⟩, ⟨hc', hAb, okb, ?_, (zg_cxi (zg_cxa w _ (by rw [← el]; exact hcx))).1, xx⟩, ⟨ha, ⟨by omega, by
    have q := Nat.le_trans (zt_sz_le l P _ _ _ sz cC (fun j hj => (hP j hj).2)) (zc_cnt_le _ _)
    rw [ez] at q
    have q2 : zt_sz (.inner c' kvb () lb .leaf) = 1 + zt_sz lb + 0 := rfl
    omega⟩, ?_⟩, ?_, ⟨⟨y1, fun q3 => ?_⟩, ?_, ?_⟩, ?_, ?_, fun v hv1 hv2 => ?_, by rw [hA3 15 (by decide), hA2 15 (by decide), gA3 73 (by decide), gA2 73 (by decide), c1, m1]⟩
  · rw [hAb3 30 (by decide) (by decide)]
    rw [hAb3 29 (by decide) (by decide)] at hs
    by_cases q : v < F1 (nb + 1)
    · obtain ⟨_, p2, p3, _⟩ := vn.1 (32 + v) (by omega)
      rw [p3]
      exact si1 v q (by rw [← p2]; exact hs)
    · exact (vn.2 v (by omega) hv).2.1 hs
  · exact (x1.1 _ _ List.not_mem_nil).trans (O.2.2.2.2.1.trans (sk.2.1.2.trans (o2.trans lp)))
  · have : ∀ t u : zt_T, zg_d u ≤ zg_d (zt_ap t u) := by
      intro t u
      induction t with
      | leaf => exact Nat.le_refl _
      | inner kd kv o l r _ ihr => exact Nat.le_trans ihr (Nat.le_trans (Nat.le_max_right _ _) (zg_d1 (kd := kd) (k := kv) (v := o) (l := l) (r := zt_ap r u)))
    have q := this w (.inner c' kvb () lb .leaf)
    rw [← el] at q
    have q2 : max (zg_d lb + 1) 0 ≤ zg_d (.inner c' kvb () lb .leaf) := zg_d1 (r := .leaf)
    omega
  · rw [e18, (BF.2.2.1 i hPi).2.2.2]; exact z4
  · rw [nx, bs] at A
    refine yb_Ff (h := h2) (g := g2) ⟨fun j hj => ⟨(hP j hj).1, by rw [hA3 _ (by decide)], by rw [hA3 _ (by decide)], by rw [hA3 _ (by decide)], by rw [hA3 _ (by decide)], by rw [hA3 _ (by decide)]⟩, fun j hj => ⟨by rw [gA3 _ (by decide)], fun q1 q2 => x6 j q1 q2, fun q1 => x7 j q1, by rw [gA3 _ (by decide)], by rw [gA3 _ (by decide)], by rw [gA3 _ (by decide)]⟩, fun j _ => ⟨by rw [hA3 _ (by decide)], by rw [hA3 _ (by decide)], by rw [hA3 _ (by decide)], by rw [hA3 _ (by decide)], by rw [hA3 _ (by decide)]⟩, fun bq _ => by rw [hA3 _ (by decide)], fun bq hbq => (I2.2.1.2.2.2.1 bq (by omega)).2⟩ _ _ _ _ _ (yb_Fm (fun j z => z.elim (P1P j) (fun e => by rw [e]; exact Pa)) (fun j z => z.elim (Q1Q j) (fun e => by rw [e]; exact Qb)) _ _ _ _ _ A)
  · rw [hA3 _ (by decide)] at q3
    obtain ⟨xo, _, xo1, _, xo2⟩ := I2.2.2.2.2.1.2.2.1 nb (by omega) (by omega)
    have := xo2 q3
    have e5 : nI xo = nI yv := xo1.symm.trans (by rw [show 9 + nb = 8 + (nb + 1) by omega]; exact vc2)
    have : xo = yv := (nI_eq (by omega) (by omega)).mp e5
    omega
  · rw [hA3 _ (by decide), show 9 + nb = 8 + (nb + 1) by omega]; exact vc2
  · rw [x2, if_pos (by omega)]
  · have hM3 : zt_M LC LM g' (zt_ap w (.inner c' kvb () lb .leaf)) Q (nI k) ((g2.2.1 76) k) ((g2.2.1 77) k) := by
      rw [← el]
      refine zt_fr l Q Q _ _ _ (fun i _ => ?_) (fun i hi => hi) hM2
      exact ⟨fun kd k up z hz => by unfold zt_NM at hz ⊢; rw [gA3 72 (by decide), gA3 73 (by decide), gA3 74 (by decide), gA3 75 (by decide), gA3 77 (by decide)]; exact hz, by rw [gA3 76 (by decide)], by rw [gA3 78 (by decide)]⟩
    rw [el] at x8
    have := yg_Glast w Q yv _ _ _ hM3 x8
    rw [cw, lb2] at this
    exact this
  · have hM3 : zt_M LC LM g' (zt_ap w (.inner c' kvb () lb .leaf)) Q (nI k) ((g2.2.1 76) k) ((g2.2.1 77) k) := by
      rw [← el]
      refine zt_fr l Q Q _ _ _ (fun i _ => ?_) (fun i hi => hi) hM2
      exact ⟨fun kd k up z hz => by unfold zt_NM at hz ⊢; rw [gA3 72 (by decide), gA3 73 (by decide), gA3 74 (by decide), gA3 75 (by decide), gA3 77 (by decide)]; exact hz, by rw [gA3 76 (by decide)], by rw [gA3 78 (by decide)]⟩
    rw [ecl] at x9
    rw [el] at x9
    have := yg_Glast w Q (yv + yg_c 0 (.inner c' kvb () lb .leaf)) _ _ _ hM3 x9
    rw [cw, lb2] at this
    exact this
  · rw [FA1 nb (by omega), eF2 nb (by omega)] at hv1 ⊢
    rw [hAb3 29 (by decide) (by decide), hAb3 30 (by decide) (by decide)]
    have ek : (h'.2.1 21) (9 + nb) = nI kd := by rw [hAb3 21 (by decide) (by decide), sk.1.1]; exact o6
    rw [ek]
    by_cases q : v < F1 (nb + 1)
    · have k1 : kd = 1 := by
        rw [eF] at q
        by_cases z : kd = 1
        · exact z
        · rw [if_neg z] at q; omega
      rw [eF, if_pos k1] at q
      have ev : v = F nb := by omega
      obtain ⟨_, p2, p3, _⟩ := vn.1 (32 + v) (by rw [eF, if_pos k1]; omega)
      rw [p2, p3, ev, (obk k1).2, (obk k1).1, k1]
      exact ⟨⟨fun _ => ⟨rfl, rfl⟩, fun _ => rfl⟩, fun _ => .inl rfl, fun u u1 u2 => absurd u2 (by omega), fun z => absurd z (by decide)⟩
    · refine ⟨⟨fun z => absurd z (vn.2 v (by omega) hv2).1, fun z => ?_⟩, fun z => (vn.2 v (by omega) hv2).2.2.1 (by rw [show 8 + (nb + 1) = 9 + nb by omega, o6]; exact z), zv_lvf (h := hb) (fun u _ => ⟨by rw [hAb3 30 (by decide) (by decide)], by rw [hAb3 31 (by decide) (by decide)], by rw [hAb3 32 (by decide) (by decide)], by rw [hAb3 33 (by decide) (by decide)], by rw [hAb3 34 (by decide) (by decide)], by rw [hAb3 35 (by decide) (by decide)]⟩) (by
        have L := (vn.2 v (by omega) hv2).2.2.2
        rw [Nat.add_sub_cancel, eF2 nb (by omega), show 8 + (nb + 1) = 9 + nb by omega, o6] at L
        exact L)⟩
      have k1 : kd = 1 := (zc_eq (k := 1) (by decide) (by omega)).mp z.1
      rw [eF, if_pos k1] at q
      omega
