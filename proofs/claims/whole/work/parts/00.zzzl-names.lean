/-! The judge: the walk through a declaration: its state, and the names. -/
def zv_SD (LC LM : List (List Int32)) (nb nf ns k : Nat) (F : Nat → Nat) (l : zt_T) (P Q : Nat → Prop) (h1 g1 : zs_H) (u : zt_T) (h g : zs_H) (x x' : Int32) : Prop :=
  ∃ (st : Nat) (Pu Qu : Nat → Prop) (yy yy' : Int32) (F' : Nat → Nat) (q : Int32),
  (zt_C h u Pu x yy ∧ zt_M LC LM g u Qu (nI k) x' yy') ∧ ((∀ j, Pu j → P j) ∧ (∀ j, Qu j → Q j)) ∧ (zg_ok u ∧ ¬ zg_run 5 st u = 99 ∧ st ≤ 4 ∧ (st = 0 → F' nb = ns) ∧ (1 ≤ st → ns < F' nb)) ∧ zv_I LC LM nb nf ns F' q h g ∧ ((∀ j, ¬ j = nb → F' j = F j) ∧ F' nb + zv_nm u = ns + zv_nm l) ∧ (∀ j, Pu j → (h.2.1 14) j = 0) ∧ zv_fr P Q h1 g1 h g ∧ zv_dk h1 g1 h g ∧
  ((st ≤ 1 ∧ q = -1 ∧ zv_plc l = zv_plc u) ∨ (2 ≤ st ∧ zv_plc u = -1 ∧ q = zv_plc l ∧ (q = -1 ∨ ∃ p, p < 1536 ∧ (768 ≤ p → p % 256 < 64) ∧ q = nI p ∧ F' nb = ns + 1 ∧ (h1.2.1 21) (8 + nb) = 3))) ∧ (zv_tyok (zv_Ph nb h1) u → zv_tyok (zv_Ph nb h1) l) ∧
  (st = 1 → ∃ k6, k6 < 33500 ∧ (g1.2.1 76) k = nI k6 ∧ (F' nb = ns + 1 → (g1.2.1 78) k6 = x') ∧ (¬ F' nb = ns + 1 → ∃ b2, b2 < 33500 ∧ (g1.2.1 78) k6 = nI b2 ∧ (g1.2.1 72) b2 = 6)) ∧ (st = 0 → x' = (g1.2.1 76) k)
/-- a fault in a walk -/
def zv_Fb (h1 g1 h g : zs_H) : Prop := (∃ φ p, zv_X φ p h g) ∧ zfr zv_cf (13 :: 14 :: 16 :: 17 :: zv_cm) [] h1 h ∧ zfr zv_mf zv_mm [] g1 g
theorem zv_Xn {φ : Nat} {p : Int32} {h g : zs_H} (X : zv_X φ p h g) : ¬ (h.1 38 3) = 0 ∧ ¬ (g.1 68 29) = 0 := by
  obtain ⟨a, b, c, _, d, _⟩ := X
  rw [c, d]
  exact ⟨fun z => by have := (zc_eq (k := 0) (by decide) (by omega)).mp z; omega, fun z => by have := (zc_eq (k := 0) (by decide) (by omega)).mp z; omega⟩
theorem zv_sName {LC LM : List (List Int32)} {nb nf ns s sz k k4 d D D' : Nat} {F : Nat → Nat} {l : zt_T} {P Q : Nat → Prop} {h1 g1 : zs_H} (hP : ∀ j, P j → j < 32784) (hQ : ∀ j, Q j → j < 33500) (hb : 0 < nb) (hd : d < 240) (hN : ns + zv_nm l ≤ 5900) (hs : s < 3) (hk : k < 33500) (hk4 : k4 < 33500) (hsec : (h1.1 38 5) = nI s) (hsz : (h1.1 12 6) = nI sz) (m0 : (g1.2.1 72) k = 5) (m1 : (g1.2.1 75) k = nI k4) (m2 : (g1.2.1 74) k4 = nI s)
    {kv : Int32 × Int32} {o : Unit} {lc r : zt_T} {h g : zs_H} {x x' : Int32} (S : zv_SD LC LM nb nf ns k F l P Q h1 g1 (.inner 37 kv o lc r) h g x x') :
    ∃ a b, x = nI a ∧ a < 32784 ∧ x' = nI b ∧ b < 33500 ∧ (h.1 38 3) = 0 ∧ (g.1 68 29) = 0 ∧ (h.1 12 6) = nI sz ∧ ∃ h' g', f_Jd_visit (D + 1) h (nI a) (nI (d + 1)) = some h' ∧ f_Mo_look (D' + 2) g (nI b) = some g' ∧ ((zv_Fb h1 g1 h' g' ∧ ¬ (h'.1 38 3) = 0 ∧ ¬ (g'.1 68 29) = 0) ∨ zv_SD LC LM nb nf ns k F l P Q h1 g1 r h' g' ((h'.2.1 18) a) ((g'.2.1 78) b)) := by
  obtain ⟨st, Pu, Qu, yy, yy', F', q, ⟨sC, sM⟩, ⟨s1, s2⟩, ⟨s3, s4, s5, s6, s7⟩, I, ⟨s8, s9⟩, s10, s11, s12, s13, s14, s15, s16⟩ := S
  have s4' : ¬ zg_run 5 (zg_q 5 st 37) r = 99 := s4
  have h4 : ¬ zg_q 5 st 37 = 99 := fun z => s4' (by rw [z]; exact zv_q99 5 r)
  have hst : st ≤ 1 ∧ zg_q 5 st 37 = 1 := by
    rcases zv_q5 h4 with ⟨_, e, e'⟩ | ⟨e, _⟩ | ⟨e, _⟩ | ⟨e, _⟩
    · exact ⟨e, e'⟩
    · omega
    · omega
    · omega
  rw [hst.2] at s4'
  have en : zv_nm (.inner 37 kv o lc r) = 1 + zv_nm r := rfl
  rw [en] at s9
  have hq : q = -1 ∧ zv_plc l = zv_plc r := by
    rcases s13 with ⟨_, e1, e2⟩ | ⟨e, _⟩
    · exact ⟨e1, e2⟩
    · omega
  obtain ⟨hq1, hq2⟩ := hq
  subst hq1
  obtain ⟨a, P1, P2, z1, z2, ea, a1, a2, a3, a4, a5, a6, a7, a8, a9, a10⟩ := zv_hC sC
  obtain ⟨b, Q1, Q2, z3, eb, b1, b2, b3, b4, b5, b6, b7, b8, b9, b10, b11⟩ := zv_hM sM
  have el : lc = .leaf := zv_nolf (kd := 37) (by decide +kernel) s3.1.1
  subst el
  have c9 : (h.2.1 17) a = -1 := (show (h.2.1 17) a = -1 ∧ z1 = -1 from a8).1
  have m9 : (g.2.1 76) b = -1 := (show (g.2.1 76) b = -1 ∧ (g.2.1 77) b = -1 from b9).1
  rw [if_pos (by decide)] at b5
  obtain ⟨c, kk, w1, w2, w3, w4, w5, w6⟩ := id b5
  have hLC : LC.length < 6000 := I.1.2.2.1
  have ha := hP a (s1 a a2)
  have hbb := hQ b (s2 b b2)
  have J1 : (h.1 38 3) = 0 := I.2.2.2.2.2.2.2.1
  have J2 : (g.1 68 29) = 0 := I.2.2.2.2.2.2.2.2
  have gT : ∀ z, ¬ z ∈ zv_mm → g.2.1 z = g1.2.1 z := fun z hz => s11.2.1.2.1 z hz
  have hsz' : (h.1 12 6) = nI sz := (s11.1.1 _ _ (by decide)).trans hsz
  rw [w1] at b5
  obtain ⟨h', g', v1, v2, v3, v4, v5⟩ := zv_vName (D := D) (D' := D') (d := d + 1) I (by omega) hb (by omega) ha hbb hk hk4 b5 (by omega) hs a3 c9 (a5.trans w1) a4 (s12.2.1.2.2.1.trans hsec) b3 m9 rfl (b4 (by decide)) b6 (by rw [gT 75 (by decide)]; exact m1) (by rw [gT 74 (by decide)]; exact m2) (by rw [gT 72 (by decide)]; exact m0)
  refine ⟨a, b, ea, ha, eb, hbb, J1, J2, hsz', h', g', v1, v2, ?_⟩
  rcases v5 with ⟨φ, X⟩ | ⟨I', f1, f2⟩
  · left
    have xn := zv_Xn X
    exact ⟨⟨⟨φ, _, X⟩, zfr_trans (zfr_w s11.1 (fun _ z => z) (by decide) (by decide)) (zfr_w v3 (fun _ z => z) (by decide) (by decide)), zfr_trans s11.2.1 v4⟩, xn.1, xn.2⟩
  · right
    have fr : zv_fr P Q h g h' g' := ⟨zfr_w f1 (by decide) (by decide) (by decide), zfr_w f2 (by decide) (by decide) (by decide), fun j _ => by rw [f1.2.1 _ (by decide)], fun j _ => ⟨by rw [f2.2.1 _ (by decide)], by rw [f2.2.1 _ (by decide)], by rw [f2.2.1 _ (by decide)]⟩⟩
    obtain ⟨cC, cM⟩ := zv_CM fr a9 b10
    obtain ⟨⟨k1, k2, k3, k4', k5⟩, ⟨k6, k7, k8, k9⟩, k10, k11⟩ := s12
    have nx : (h'.2.1 18) a = (h.2.1 18) a := by rw [f1.2.1 _ (by decide)]
    have nb' : (g'.2.1 78) b = (g.2.1 78) b := by rw [f2.2.1 _ (by decide)]
    refine ⟨1, P2, Q2, z2, z3, _, -1, ⟨by rw [nx]; exact cC, by rw [nb']; exact cM⟩, ⟨fun j hj => s1 j (a7 j hj).1, fun j hj => s2 j (b8 j hj).1⟩, ⟨s3.2.2, s4', by omega, fun z => by omega, fun _ => ?_⟩, I', ⟨fun j hj => ?_, ?_⟩, fun j hj => ?_, zv_frt s11 fr (fun _ z => z) (fun _ z => z), ⟨⟨?_, ?_, ?_, ?_, ?_⟩, ⟨?_, ?_, ?_, ?_⟩, ?_, ?_⟩, .inl ⟨by omega, rfl, hq2⟩, fun z => s14 ⟨fun e => by omega, z⟩, fun _ => ?_, fun z => by omega⟩
    · show ns < (if nb = nb then F' nb + 1 else F' nb)
      rw [if_pos rfl]
      have := I.2.2.2.1.2.2.2.1
      omega
    · show (if j = nb then F' nb + 1 else F' j) = F j
      rw [if_neg hj]; exact s8 j hj
    · show (if nb = nb then F' nb + 1 else F' nb) + zv_nm r = ns + zv_nm l
      rw [if_pos rfl]; omega
    · rw [f1.2.1 _ (by decide)]; exact s10 j (a7 j hj).1
    · exact (f1.2.1 _ (by decide)).trans k1
    · exact ⟨(f1.2.1 _ (by decide)).trans k2.1, (f1.2.1 _ (by decide)).trans k2.2.1, (f1.2.1 _ (by decide)).trans k2.2.2⟩
    · exact (f1.2.1 _ (by decide)).trans k3
    · exact (f1.2.1 _ (by decide)).trans k4'
    · exact (f1.2.1 _ (by decide)).trans k5
    · exact (f1.1 _ _ (by decide)).trans k6
    · exact (f1.1 _ _ (by decide)).trans k7
    · exact (f1.1 _ _ (by decide)).trans k8
    · exact (f1.1 _ _ (by decide)).trans k9
    · exact (f2.2.1 _ (by decide)).trans k10
    · have ev := (zv_leaf (D := D) (D' := D') (d := d + 1) (kd := 37) (km := 6) (by omega) ha hbb (by decide) (by decide) (by decide) (by decide) a3 c9 (by decide) (by decide) (by decide) b3 m9 J1).1
      rw [ev, zv_lv37 ha a3] at v1
      exact zv_von (b := 8 + nb) (nv := 32 + F' nb) (ci := c) k11 ha (by rw [I.2.1.1.1]; exact congrArg nI (by omega)) (by have := I.2.1.1.2.2; omega) I.2.1.2.1.1 (by omega) (by omega) (a5.trans w1) k8 J1 I'.2.2.2.2.2.2.2.1 v1
    · have eb1 : (g.2.1 78) b = (g1.2.1 78) b := by rw [gT 78 (by decide)]
      have ek1 : (g1.2.1 72) b = 6 := by rw [← gT 72 (by decide)]; exact b3
      show ∃ k6, k6 < 33500 ∧ (g1.2.1 76) k = nI k6 ∧ ((if nb = nb then F' nb + 1 else F' nb) = ns + 1 → (g1.2.1 78) k6 = (g'.2.1 78) b) ∧ (¬ (if nb = nb then F' nb + 1 else F' nb) = ns + 1 → ∃ b2, b2 < 33500 ∧ (g1.2.1 78) k6 = nI b2 ∧ (g1.2.1 72) b2 = 6)
      rw [if_pos rfl, nb', eb1]
      by_cases e0 : st = 0
      · have := s6 e0
        exact ⟨b, hbb, by rw [← s16 e0]; exact eb, fun _ => rfl, fun z => by omega⟩
      · have e1 : st = 1 := by omega
        obtain ⟨k6, y1, y2, y3, y4⟩ := s15 e1
        have := s7 (by omega)
        refine ⟨k6, y1, y2, fun z => by omega, fun _ => ?_⟩
        by_cases e2 : F' nb = ns + 1
        · exact ⟨b, hbb, (y3 e2).trans eb, ek1⟩
        · exact y4 e2
