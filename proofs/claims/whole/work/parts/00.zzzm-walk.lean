/-! The judge: the walk through a declaration: place, type without children, constant. -/
section ZVW
variable {LC LM : List (List Int32)} {nb nf ns sz k d D D' : Nat} {F : Nat → Nat} {l : zt_T} {P Q : Nat → Prop} {h1 g1 : zs_H} {kv : Int32 × Int32} {o : Unit} {lc r : zt_T} {h g : zs_H} {x x' : Int32}
theorem zv_sPlace (hP : ∀ j, P j → j < 32784) (hQ : ∀ j, Q j → j < 33500) (hb : 0 < nb) (hd : d < 240) (hk : k < 33500) (hfd : (h1.1 38 6) = nI (32 + ns)) (hsz : (h1.1 12 6) = nI sz)
    (S : zv_SD LC LM nb nf ns k F l P Q h1 g1 (.inner 7 kv o lc r) h g x x') :
    ∃ a b, x = nI a ∧ a < 32784 ∧ x' = nI b ∧ b < 33500 ∧ (h.1 38 3) = 0 ∧ (g.1 68 29) = 0 ∧ (h.1 12 6) = nI sz ∧ ∃ h' g', f_Jd_visit (D + 1) h (nI a) (nI (d + 1)) = some h' ∧ f_Mo_look (D' + 2) g (nI b) = some g' ∧ ((zv_Fb h1 g1 h' g' ∧ ¬ (h'.1 38 3) = 0 ∧ ¬ (g'.1 68 29) = 0) ∨ zv_SD LC LM nb nf ns k F l P Q h1 g1 r h' g' ((h'.2.1 18) a) ((g'.2.1 78) b)) := by
  obtain ⟨st, Pu, Qu, yy, yy', F', q, ⟨sC, sM⟩, ⟨s1, s2⟩, ⟨s3, s4, s5, s6, s7⟩, I, ⟨s8, s9⟩, s10, s11, s12, s13, s14, s15, s16⟩ := S
  have s4' : ¬ zg_run 5 (zg_q 5 st 7) r = 99 := s4
  have h4 : ¬ zg_q 5 st 7 = 99 := fun z => s4' (by rw [z]; exact zv_q99 5 r)
  have hst : st = 1 ∧ zg_q 5 st 7 = 2 := by
    rcases zv_q5 h4 with ⟨e, _⟩ | ⟨_, e, e'⟩ | ⟨e, _⟩ | ⟨e, _⟩
    · omega
    · exact ⟨e, e'⟩
    · omega
    · omega
  rw [hst.2] at s4'
  have en : zv_nm (.inner 7 kv o lc r) = zv_nm r := by show 0 + zv_nm r = _; omega
  rw [en] at s9
  have hq : q = -1 ∧ zv_plc l = kv.2 := by
    rcases s13 with ⟨_, e1, e2⟩ | ⟨e, _⟩
    · exact ⟨e1, e2⟩
    · omega
  obtain ⟨hq1, hq2⟩ := hq
  subst hq1
  obtain ⟨a, P1, P2, z1, z2, ea, a1, a2, a3, a4, a5, a6, a7, a8, a9, a10⟩ := zv_hC sC
  obtain ⟨b, Q1, Q2, z3, eb, b1, b2, b3, b4, b5, b6, b7, b8, b9, b10, b11⟩ := zv_hM sM
  have el : lc = .leaf := zv_nolf (kd := 7) (by decide +kernel) s3.1.1
  subst el
  have c9 : (h.2.1 17) a = -1 := (show (h.2.1 17) a = -1 ∧ z1 = -1 from a8).1
  have m9 : (g.2.1 76) b = -1 := (show (g.2.1 76) b = -1 ∧ (g.2.1 77) b = -1 from b9).1
  rw [if_neg (by decide)] at b5
  obtain ⟨p, p1, p2, p3⟩ : ∃ p, p < 1536 ∧ kv.2 = nI p ∧ (768 ≤ p → p % 256 < 64) := by
    rcases s3.1.2 with e | ⟨p, p1, p2, p3⟩
    · exact absurd e (by decide)
    · exact ⟨p, p1, p2, p3 rfl⟩
  have ha := hP a (s1 a a2)
  have hbb := hQ b (s2 b b2)
  have J1 : (h.1 38 3) = 0 := I.2.2.2.2.2.2.2.1
  have J2 : (g.1 68 29) = 0 := I.2.2.2.2.2.2.2.2
  have gT : ∀ z, ¬ z ∈ zv_mm → g.2.1 z = g1.2.1 z := fun z hz => s11.2.1.2.1 z hz
  have hsz' : (h.1 12 6) = nI sz := (s11.1.1 _ _ (by decide)).trans hsz
  obtain ⟨k6, y1, y2, y3, y4⟩ := s15 hst.1
  have hns := s7 (by omega)
  have hbes : (g.2.1 78) k6 = nI b ↔ F' nb = ns + 1 := by
    rw [gT 78 (by decide)]
    by_cases e : F' nb = ns + 1
    · exact ⟨fun _ => e, fun _ => (y3 e).trans eb⟩
    · refine ⟨fun z => ?_, fun z => absurd z e⟩
      obtain ⟨b2', w1, w2, w3⟩ := y4 e
      rw [w2] at z
      have eq := (nI_eq (by omega) (by omega)).mp z
      rw [eq, ← gT 72 (by decide), b3] at w3
      exact absurd w3 (by decide)
  obtain ⟨h', v1, g', v2, v3, v4, v5⟩ := zv_vPlace (D := D) (D' := D') (d := d + 1) (k5 := k) (k6 := k6) (x := p) I (by omega) hb ha hbb hk y1 p1 p3 a3 c9 (a5.trans p2) a4 (s12.2.1.2.2.2.trans hfd) b3 m9 (b5.trans p2) (b4 (by decide)) b6 (by rw [gT 76 (by decide)]; exact y2) hbes hns
  refine ⟨a, b, ea, ha, eb, hbb, J1, J2, hsz', h', g', v1, v2, ?_⟩
  rcases v5 with ⟨φ, X⟩ | ⟨f1, f2, f3, f4, I'⟩
  · left
    have xn := zv_Xn X
    exact ⟨⟨⟨φ, _, X⟩, zfr_trans (zfr_w s11.1 (fun _ z => z) (by decide) (by decide)) (zfr_w v3 (fun _ z => z) (by decide) (by decide)), zfr_trans s11.2.1 v4⟩, xn.1, xn.2⟩
  · right
    subst f2
    have fT : zfr [] [40] [] h h' := by rw [f1]; exact zfr_M (by decide) zfr_rfl
    have fr : zv_fr P Q h g' h' g' := ⟨zfr_w fT (by decide) (by decide) (by decide), zfr_rfl, fun j _ => by rw [fT.2.1 _ (by decide)], fun j _ => ⟨rfl, rfl, rfl⟩⟩
    obtain ⟨cC, cM⟩ := zv_CM fr a9 b10
    obtain ⟨⟨k1, k2, k3, k4', k5⟩, ⟨k6', k7, k8, k9⟩, k10, k11⟩ := s12
    have nx : (h'.2.1 18) a = (h.2.1 18) a := by rw [fT.2.1 _ (by decide)]
    refine ⟨2, P2, Q2, z2, z3, F', nI p, ⟨by rw [nx]; exact cC, cM⟩, ⟨fun j hj => s1 j (a7 j hj).1, fun j hj => s2 j (b8 j hj).1⟩, ⟨s3.2.2, s4', by omega, fun z => by omega, fun _ => hns⟩, I', ⟨s8, s9⟩, fun j hj => by rw [fT.2.1 _ (by decide)]; exact s10 j (a7 j hj).1, zv_frt s11 fr (fun _ z => z) (fun _ z => z), ⟨⟨?_, ?_, ?_, ?_, ?_⟩, ⟨?_, ?_, ?_, ?_⟩, k10, zv_vof k11 fT (by decide) (by decide)⟩, .inr ⟨by omega, zv_plc0 r 2 (by omega) (by omega) s4', by rw [hq2, p2], .inr ⟨p, p1, p3, rfl, f4, by rw [← k1]; exact f3⟩⟩, fun z => s14 ⟨fun e => by omega, z⟩, fun z => by omega, fun z => by omega⟩
    · exact (fT.2.1 _ (by decide)).trans k1
    · exact ⟨(fT.2.1 _ (by decide)).trans k2.1, (fT.2.1 _ (by decide)).trans k2.2.1, (fT.2.1 _ (by decide)).trans k2.2.2⟩
    · exact (fT.2.1 _ (by decide)).trans k3
    · exact (fT.2.1 _ (by decide)).trans k4'
    · exact (fT.2.1 _ (by decide)).trans k5
    · exact (fT.1 _ _ (by decide)).trans k6'
    · exact (fT.1 _ _ (by decide)).trans k7
    · exact (fT.1 _ _ (by decide)).trans k8
    · exact (fT.1 _ _ (by decide)).trans k9
/-- what comes behind a type, or a constant, that kept the tables -/
theorem zv_sNext {c st' a b : Nat} {Pu Qu P1 P2 Q1 Q2 : Nat → Prop} {z2 z3 q : Int32} {F' : Nat → Nat} {h' g' : zs_H} (s1 : ∀ j, Pu j → P j) (s2 : ∀ j, Qu j → Q j) (s3 : zg_ok r) (hst : 3 ≤ st' ∧ st' ≤ 4) (s4 : ¬ zg_run 5 st' r = 99) (I : zv_I LC LM nb nf ns F' q h g) (s8 : ∀ j, ¬ j = nb → F' j = F j) (s9 : F' nb + zv_nm r = ns + zv_nm l) (s7 : ns < F' nb) (s10 : ∀ j, Pu j → (h.2.1 14) j = 0) (s11 : zv_fr P Q h1 g1 h g) (s12 : zv_dk h1 g1 h g) (hpl : q = zv_plc l ∧ (q = -1 ∨ ∃ p, p < 1536 ∧ (768 ≤ p → p % 256 < 64) ∧ q = nI p ∧ F' nb = ns + 1 ∧ (h1.2.1 21) (8 + nb) = 3)) (hty : zv_tyok (zv_Ph nb h1) r → zv_tyok (zv_Ph nb h1) l)
    (aP : ∀ j, P2 j → Pu j ∧ ¬ j = a ∧ ¬ P1 j) (bP : ∀ j, Q2 j → Qu j) (cC : zt_C h r P2 ((h.2.1 18) a) z2) (cM : zt_M LC LM g r Q2 (nI k) ((g.2.1 78) b) z3) (I' : zv_I LC LM nb nf ns F' q h' g') (f1 : zfr [] [14] [] h h') (f2 : zfr [] [100] [] g g') (t1 : ∀ j, ¬ j = a → ¬ P1 j → (h'.2.1 14) j = (h.2.1 14) j) (t2 : ∀ j, ¬ Q j → (g'.2.1 100) j = (g.2.1 100) j) (hPa : ∀ j, j = a ∨ P1 j → P j) :
    zv_SD LC LM nb nf ns k F l P Q h1 g1 r h' g' ((h'.2.1 18) a) ((g'.2.1 78) b) := by
  have fr : zv_fr P Q h g h' g' := ⟨zfr_w f1 (by decide) (by decide) (by decide), zfr_w f2 (by decide) (by decide) (by decide), fun j hj => t1 j (fun z => hj (hPa j (.inl z))) (fun z => hj (hPa j (.inr z))), fun j hj => ⟨t2 j hj, by rw [f2.2.1 _ (by decide)], by rw [f2.2.1 _ (by decide)]⟩⟩
  obtain ⟨dC, dM⟩ := zv_CM fr cC cM
  obtain ⟨⟨k1, k2, k3, k4', k5⟩, ⟨k6', k7, k8, k9⟩, k10, k11⟩ := s12
  have nx : (h'.2.1 18) a = (h.2.1 18) a := by rw [f1.2.1 _ (by decide)]
  have nb' : (g'.2.1 78) b = (g.2.1 78) b := by rw [f2.2.1 _ (by decide)]
  refine ⟨st', P2, Q2, z2, z3, F', q, ⟨by rw [nx]; exact dC, by rw [nb']; exact dM⟩, ⟨fun j hj => s1 j (aP j hj).1, fun j hj => s2 j (bP j hj)⟩, ⟨s3, s4, hst.2, fun z => by omega, fun _ => s7⟩, I', ⟨s8, s9⟩, fun j hj => (t1 j (aP j hj).2.1 (aP j hj).2.2).trans (s10 j (aP j hj).1), zv_frt s11 fr (fun _ z => z) (fun _ z => z), ⟨⟨?_, ?_, ?_, ?_, ?_⟩, ⟨?_, ?_, ?_, ?_⟩, ?_, ?_⟩, .inr ⟨by omega, zv_plc0 r st' (by omega) (by omega) s4, hpl.1, hpl.2⟩, hty, fun z => by omega, fun z => by omega⟩
  · exact (f1.2.1 _ (by decide)).trans k1
  · exact ⟨(f1.2.1 _ (by decide)).trans k2.1, (f1.2.1 _ (by decide)).trans k2.2.1, (f1.2.1 _ (by decide)).trans k2.2.2⟩
  · exact (f1.2.1 _ (by decide)).trans k3
  · exact (f1.2.1 _ (by decide)).trans k4'
  · exact (f1.2.1 _ (by decide)).trans k5
  · exact (f1.1 _ _ (by decide)).trans k6'
  · exact (f1.1 _ _ (by decide)).trans k7
  · exact (f1.1 _ _ (by decide)).trans k8
  · exact (f1.1 _ _ (by decide)).trans k9
  · exact (f2.2.1 _ (by decide)).trans k10
  · exact zv_vof k11 f1 (by decide) (by decide)
end ZVW
