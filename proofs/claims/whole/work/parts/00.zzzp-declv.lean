/-! The judge: a declaration is visited. -/
theorem zv_nm1 {l : zt_T} (h : zg_A 5 (zg_run 5 0 l) = true) : 1 ≤ zv_nm l := by
  cases l with
  | leaf => exact absurd h (by decide)
  | inner c kv o lc r =>
    have n1 : ¬ zg_q 5 0 c = 99 := fun z => by
      have : zg_run 5 0 (.inner c kv o lc r) = 99 := by show zg_run 5 (zg_q 5 0 c) r = 99; rw [z]; exact zv_q99 5 r
      rw [this, zv_A99] at h
      exact absurd h (by decide)
    rcases zv_q5 n1 with ⟨e, _⟩ | ⟨_, e, _⟩ | ⟨_, e, _⟩ | ⟨_, e, _⟩
    · subst e; show 1 ≤ 1 + zv_nm r; omega
    · omega
    · omega
    · omega
/-- old variables stay; new ones that are no VAR are simple -/
def zv_vn (a : Nat) (kd : Int32) (n m : Nat) (h h' : zs_H) : Prop := (∀ j, j < 32 + n → zv_v8 h h' j) ∧ (∀ v, n ≤ v → v < m → ¬ (h'.2.1 29) (32 + v) = 3 ∧ (((h'.2.1 29) (32 + v) = 1 ∨ (h'.2.1 29) (32 + v) = 2) → (h'.2.1 30) (32 + v) = -1) ∧ (kd = 1 → (h'.2.1 30) (32 + v) = -1 ∨ (h'.2.1 30) (32 + v) = -2) ∧ zv_lv a kd v h')
theorem zv_vnt {a0 : Nat} {kd : Int32} {n m m' : Nat} {h h1 h' : zs_H} (a : zv_vn a0 kd n m h h1) (b : zv_vn a0 kd m m' h1 h') (hnm : n ≤ m) : zv_vn a0 kd n m' h h' := by
  refine ⟨fun j hj => ?_, fun v h1 h2 => ?_⟩
  · obtain ⟨a1, a2, a3⟩ := a.1 j hj
    obtain ⟨b1, b2, b3⟩ := b.1 j (by omega)
    exact ⟨b1.trans a1, b2.trans a2, zv_v6t a3 b3⟩
  · by_cases e : v < m
    · obtain ⟨b1, b2, b3, _⟩ := b.1 (32 + v) (by omega)
      rw [b3, b2]
      obtain ⟨q1, q2, q3, q4⟩ := a.2 v h1 e
      exact ⟨q1, q2, q3, zv_lvf (fun u u2 => (b.1 (32 + u) (by omega)).2.2) q4⟩
    · exact b.2 v (by omega) h2
theorem zv_declV {LC LM : List (List Int32)} {nb nf s sz i k k4 d D D' yv : Nat} {F : Nat → Nat} {l : zt_T} {P Q : Nat → Prop} {h g : zs_H} {y y' p0 : Int32} (I : zv_I LC LM nb nf (F nb) F (-1) h g) (hbo : nf + 1 = nb) (hd : d + 1 < 240) (hN : F nb + zv_nm l ≤ 5900) (hs : s < 3) (hi : i < 32784) (hk : k < 33500) (hk4 : k4 < 33500) (hP : ∀ j, P j → j < 32784) (hQ : ∀ j, Q j → j < 33500) (hsz : (h.1 12 6) = nI sz) (hs3 : 3 ≤ sz) (hsz2 : sz < 100000) (hln : zt_ln l ≤ sz) (c0 : (h.2.1 13) i = 5) (c1 : (h.2.1 15) i = p0) (c2 : (h.1 38 5) = nI s) (m0 : (g.2.1 72) k = 5) (m1 : (g.2.1 73) k = p0) (m2 : (g.2.1 75) k = nI k4) (m3 : (g.2.1 74) k4 = nI s) (hC : zt_C h l P ((h.2.1 17) i) y) (hM : zt_M LC LM g l Q (nI k) ((g.2.1 76) k) y') (hA : zg_A 5 (zg_run 5 0 l) = true) (hok : zg_ok l) (hty : ∀ j, P j → (h.2.1 14) j = 0) (hy : (h.2.1 25) (8 + nb) = nI yv) (hy2 : yv ≤ 4096) :
    ∃ h' g', f_Jd_visit (D + 3) h (nI i) (nI d) = some h' ∧ f_Mo_look (D' + 6) g (nI k) = some g' ∧ ((zv_Fb h g h' g' ∧ ¬ (h'.1 38 3) = 0 ∧ ¬ (g'.1 68 29) = 0) ∨ (∃ F', (∀ j, ¬ j = nb → F' j = F j) ∧ F' nb = F nb + zv_nm l ∧ zv_I LC LM nb nf (F' nb) F' (-1) h' g' ∧ (∃ y, y ≤ 4096 ∧ (h'.2.1 25) (8 + nb) = nI y) ∧ ∃ h1 h2 g2, h1 = zs_uF h 38 6 (nI (32 + F nb)) ∧ zv_fr P Q h1 g h2 g2 ∧ zv_dk h1 g h2 g2 ∧ zv_SE Q LC LM nb nf F' h2 g2 h' g' ∧ zv_vn (F (nb - 1)) ((h.2.1 21) (8 + nb)) (F nb) (F' nb) h h')) := by
  have hb : 0 < nb := by omega
  have V1 : (h.1 20 18) = nI (32 + F nb) := I.2.1.2.1.1
  obtain ⟨h1, hh1⟩ : ∃ h1, h1 = zs_uF h 38 6 (nI (32 + F nb)) := ⟨_, rfl⟩
  have f01 : zfr [(38, 6)] [] [] h h1 := by rw [hh1]; exact zfr_F (by decide) zfr_rfl
  have A1 : ∀ z, h1.2.1 z = h.2.1 z := fun z => f01.2.1 z List.not_mem_nil
  have hen : f_Jd_enter h (nI i) = some h1 := by
    unfold f_Jd_enter
    simp (config := { decide := true }) only [if_pos (zi_in (show i < 2147483648 by omega) hi), nI_clamp (show i < 2147483648 by omega), c0, if_false, if_true, V1, hh1]
  have I1 : zv_I LC LM nb nf (F nb) F (-1) h1 g := zv_Ifr I (zfr_w f01 (by decide) (by decide) (by decide)) zfr_rfl
  have fd : (h1.1 38 6) = nI (32 + F nb) := by rw [hh1]; rfl
  have sec : (h1.1 38 5) = nI s := (f01.1 _ _ (by decide)).trans c2
  have siz : (h1.1 12 6) = nI sz := (f01.1 _ _ (by decide)).trans hsz
  have hC1 : zt_C h1 l P ((h1.2.1 17) i) y := by
    rw [A1]
    exact zt_fr l P P 0 _ y (fun i _ => ⟨fun kd k up z hz => by unfold zt_NC at hz ⊢; rw [A1, A1, A1]; exact hz, by rw [A1], by rw [A1]⟩) (fun i hi => hi) hC
  have S0 : zv_SD LC LM nb nf (F nb) k F l P Q h1 g l h1 g ((h1.2.1 17) i) ((g.2.1 76) k) := by
    refine ⟨0, P, Q, y, y', F, -1, ⟨hC1, hM⟩, ⟨fun _ z => z, fun _ z => z⟩, ⟨hok, fun z => ?_, by omega, fun _ => rfl, fun z => by omega⟩, I1, ⟨fun _ _ => rfl, rfl⟩, fun j hj => by rw [A1]; exact hty j hj, zv_fr0, ⟨⟨rfl, ⟨rfl, rfl, rfl⟩, rfl, rfl, rfl⟩, ⟨rfl, rfl, rfl, rfl⟩, rfl, zv_vo0 (n := 32 + F nb) ((f01.1 _ _ (by decide)).trans V1) (by omega)⟩, .inl ⟨by omega, rfl, rfl⟩, fun z => z, fun z => by omega, fun _ => rfl⟩
    rw [z, zv_A99] at hA
    exact absurd hA (by decide)
  have stp : zv_stp (D + 2) (D' + 4) d sz (zv_SD LC LM nb nf (F nb) k F l P Q h1 g) (zv_Fb h1 g) := by
    intro c kv w lc r h g x x' S
    have n1 : ∃ st, ¬ zg_q 5 st c = 99 := by
      obtain ⟨st, _, _, _, _, _, _, _, _, ⟨_, s4, _⟩, _⟩ := S
      exact ⟨st, fun z => s4 (by show zg_run 5 (zg_q 5 st c) r = 99; rw [z]; exact zv_q99 5 r)⟩
    obtain ⟨st, n1⟩ := n1
    rcases zv_q5 n1 with ⟨e, _⟩ | ⟨e, _⟩ | ⟨e, _⟩ | ⟨e, _⟩
    · subst e; exact zv_sName (D := D + 1) (D' := D' + 2) hP hQ hb (by omega) hN hs hk hk4 sec siz m0 m2 m3 S
    · subst e; exact zv_sPlace (D := D + 1) (D' := D' + 2) hP hQ hb (by omega) hk fd siz S
    · rcases e with e | e | e
      · subst e; exact zv_sType (D := D + 1) (D' := D' + 2) hP hQ (by omega) siz S
      · subst e; exact zv_sArr (D := D) (D' := D') hP hQ hb hd siz hs3 hsz2 S
      · subst e; exact zv_sBtype (D := D + 1) (D' := D' + 2) hP hQ hb (by omega) siz S
    · exact zv_sConst (D := D + 1) (D' := D' + 2) e hP hQ (by omega) siz S
  have hend : ∀ h' g' x x', zv_SD LC LM nb nf (F nb) k F l P Q h1 g .leaf h' g' x x' → x = -1 ∧ x' = -1 := by
    intro h' g' x x' S
    obtain ⟨_, _, _, yy, yy', _, _, ⟨sC, sM⟩, _⟩ := S
    exact ⟨(show x = -1 ∧ yy = -1 from sC).1, (show x' = -1 ∧ yy' = -1 from sM).1⟩
  rcases zv_node (D := D + 2) (D' := D' + 4) (kd := 5) (by omega) hsz2 hi hk (by decide) (by decide) (by decide) m0 hen stp hend S0 hln with ⟨h', g', e1, e2, ⟨X, x1, x2⟩, e4, e5⟩ | ⟨h', g', S, e1, e2⟩
  · exact ⟨h', g', e1, e2, .inl ⟨⟨X, zfr_trans (zfr_w f01 (by decide) (by decide) (by decide)) x1, x2⟩, e4, e5⟩⟩
  · obtain ⟨st, Pu, Qu, yy, yy', F', q, _, _, ⟨_, _, _, _, _⟩, I', ⟨s8, s9⟩, _, s11, s12, s13, s14, _, _⟩ := S
    have s9' : F' nb = F nb + zv_nm l := s9
    have hpl : q = zv_plc l ∧ (q = -1 ∨ ∃ p, p < 1536 ∧ (768 ≤ p → p % 256 < 64) ∧ q = nI p ∧ F' nb = F nb + 1 ∧ (h1.2.1 21) (8 + nb) = 3) := by
      rcases s13 with ⟨_, z1, z2⟩ | ⟨_, _, z1, z2⟩
      · exact ⟨z1.trans (show -1 = zv_plc l from z2.symm), .inl z1⟩
      · exact ⟨z1, z2⟩
    clear s13
    have J1 : (h'.1 38 3) = 0 := I'.2.2.2.2.2.2.2.1
    have J2 : (g'.1 68 29) = 0 := I'.2.2.2.2.2.2.2.2
    have gT : ∀ z, ¬ z ∈ zv_mm → g'.2.1 z = g.2.1 z := fun z hz => s11.2.1.2.1 z hz
    have hT : ∀ z, ¬ z ∈ (14 :: zv_cm) → h'.2.1 z = h1.2.1 z := fun z hz => s11.1.2.1 z hz
    obtain ⟨cC, cM⟩ := zv_CM s11 hC1 hM
    have hn1 := zv_nm1 hA
    obtain ⟨pl, cn, cm, it, kt, f, ic, km, kc, v, kvt, lt, DP, d2, d3, d4, d5, d6⟩ := zv_scanD (h := h') (g := g') (i := i) (k := k) ((s11.1.1 _ _ (by decide)).trans siz) hsz2 hi hk hA hok (by rw [hT 17 (by decide)]; exact cC) (by rw [gT 76 (by decide)]; exact cM) hP hQ hln
    have Ph := d6 _ (s14 trivial)
    obtain ⟨t, of, t1, TY⟩ := zv_mkTY (h1 := h1) I' hb hP hQ s12.1.2.2.2.1 s12.1.1 DP Ph
    obtain ⟨⟨D1, D2, D3⟩, ⟨D4, D5, D6, D7⟩, _, _, D8, D9, D10, D11, D12, D13⟩ := DP
    have eC : f_Jd_visit (D + 2 + 1) h (nI i) (nI d) = f_Jd_judgeDeclaration_89 h' (nI i) (nI it) pl := by
      rw [e1]
      unfold f_Jd_visit_74
      rw [if_pos J1, Option.bind_fun_some, zv_lv5 hi (by rw [hT 13 (by decide), A1]; exact c0), d2]
    have eM : f_Mo_look (D' + 4 + 2) g (nI k) = zv_tlM g' k (nI (zv_nm l)) pl kt cm := by
      rw [e2, Option.bind_fun_some, zv_54B (by decide) J2, ← d3]
      unfold f_Mo_lookAtBlocks
      simp (config := { decide := true }) only [if_pos (zi_in (show k < 2147483648 by omega) hk), nI_clamp (show k < 2147483648 by omega), show (g'.2.1 72) k = 5 by rw [gT 72 (by decide)]; exact m0, if_false, if_true, Option.bind_fun_some]
    obtain ⟨h2, g2, r1, r2, r3, r4, r5⟩ := zv_decl (p0 := p0) (y := yv) (s := s) (k4 := k4) I' hbo (show F nb < F' nb by omega) hi hk hk4 D1 D2 t1 hs (by rw [hT 15 (by decide), A1]; exact c1) D4 D8 (s12.2.1.2.2.1.trans sec) (s12.2.1.2.2.2.trans fd) (by rw [gT 73 (by decide)]; exact m1) D5 (by rw [gT 75 (by decide)]; exact m2) (by rw [gT 74 (by decide)]; exact m3) TY D9 D10 D11 D13 (pl := pl) (by
        rw [d5, hpl.1]
        rcases hpl.2 with z | ⟨p, z1, z2, z3, z4, z5⟩
        · exact .inl ⟨hpl.1 ▸ z, hpl.1 ▸ z⟩
        · exact .inr ⟨p, z1, z2, hpl.1 ▸ z3, hpl.1 ▸ z3, z4, by rw [s12.1.1]; exact z5⟩) (by rw [s12.1.2.2.1, A1]; exact hy) hy2 (by rw [show F' nb - F nb = zv_nm l by omega]; exact d4)
    rw [show F' nb - F nb = zv_nm l by omega] at r2
    refine ⟨h2, g2, eC.trans r1, eM.trans r2, ?_⟩
    rcases r5 with ⟨φ, X⟩ | ⟨SE, ⟨inst, ⟨ii, ij⟩, so⟩, hyy⟩
    · have xn := zv_Xn X
      exact .inl ⟨⟨⟨φ, _, X⟩, zfr_trans (zfr_w f01 (by decide) (by decide) (by decide)) (zfr_trans (zfr_w s11.1 (fun _ z => z) (by decide) (by decide)) (zfr_w r3 (fun _ z => z) (by decide) (by decide))), zfr_trans s11.2.1 r4⟩, xn.1, xn.2⟩
    · refine .inr ⟨F', s8, s9', SE.1, hyy, h1, h', g', hh1, s11, s12, SE, fun j hj => ?_, fun v v1 v2 => ?_⟩
      · obtain ⟨n, m, o1, o2, o3, o4, o5, o6⟩ := s12.2.2.2
        have en : n = 32 + F nb := by rw [show (h1.1 20 18) = nI (32 + F nb) from (f01.1 _ _ (by decide)).trans V1] at o1; exact ((nI_eq (by omega) (by omega)).mp o1).symm
        obtain ⟨a1, a2, a3⟩ := o5 j (by omega)
        have b3 := so.1 j (by omega)
        have q1 := SE.2.1
        have c3 := zv_v6t a3 b3
        refine ⟨?_, ?_, ?_, ?_, ?_, ?_, ?_, ?_⟩
        · rw [q1.2.1 _ (by decide), a1, A1]
        · rw [q1.2.1 _ (by decide), a2, A1]
        · rw [c3.1, A1]
        · rw [c3.2.1, A1]
        · rw [c3.2.2.1, A1]
        · rw [c3.2.2.2.1, A1]
        · rw [c3.2.2.2.2.1, A1]
        · rw [c3.2.2.2.2.2, A1]
      · obtain ⟨n, m, o1, o2, o3, o4, o5, o6⟩ := s12.2.2.2
        have en : n = 32 + F nb := by rw [show (h1.1 20 18) = nI (32 + F nb) from (f01.1 _ _ (by decide)).trans V1] at o1; exact ((nI_eq (by omega) (by omega)).mp o1).symm
        have em : m = 32 + F' nb := by rw [I'.2.1.2.1.1] at o2; exact ((nI_eq (by have := I'.2.1.2.1.2.2; omega) (by omega)).mp o2).symm
        have e := o6 (32 + v) (by omega) (by omega)
        have so2 := so.2 v v1 v2
        refine ⟨?_, fun v3 => ?_, fun k1 => ?_, ?_⟩
        · rw [SE.2.1.2.1 _ (by decide), e, sec]
          intro z
          have := (zc_eq (k := 3) (by decide) (by omega)).mp z
          omega
        · rcases ii with z | z
          · rw [SE.2.1.2.1 _ (by decide), e, sec, z] at v3
            exact absurd v3 (by decide)
          · rw [so2.1]; exact z
        · rw [so2.1]
          rcases ij with z | z
          · exact absurd (by rw [A1]; exact k1) (Ph.2.2 z)
          · exact z
        · have := so2.2
          rw [s8 (nb - 1) (by omega), s12.1.1, A1] at this
          exact this
