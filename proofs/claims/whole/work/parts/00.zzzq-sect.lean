/-! The judge: the walk through a section. -/
theorem zv_lnsz : ∀ u : zt_T, zt_ln u ≤ zt_sz u := by
  intro u
  induction u with
  | leaf => exact Nat.le_refl _
  | inner c k v l r ihl ihr => show 1 + zt_ln r ≤ 1 + zt_sz l + zt_sz r; omega
theorem zv_nmc : ∀ u : zt_T, zv_nm u ≤ zg_c u := by
  intro u
  induction u with
  | leaf => exact Nat.le_refl _
  | inner c k v l r ihl ihr => show (if c = 37 then 1 else 0) + zv_nm r ≤ (if c = 37 then 1 else 0) + zg_c l + zg_c r; omega
theorem zv_q4 {st c : Nat} (h : ¬ zg_q 4 st c = 99) : c = 5 ∧ st = 0 ∧ zg_q 4 st c = 0 := by
  obtain ⟨cs, to, h1, h2, h3⟩ := zv_qR h
  have key : ∀ r ∈ zg_R, r.1 = 4 → r.2 ∈ [(0, [5], 0)] := by decide +kernel
  have m := key _ h1 rfl
  simp only [List.mem_cons, List.not_mem_nil, or_false, Prod.mk.injEq] at m
  rw [h3]
  obtain ⟨e1, e2, e3⟩ := m
  subst e2
  simp only [List.mem_cons, List.not_mem_nil, or_false] at h2
  exact ⟨h2, e1, e3⟩
/-- what stays all through a section -/
def zv_sk (nb : Nat) (h1 g1 h g : zs_H) : Prop := (h.2.1 21 = h1.2.1 21 ∧ (h.2.1 22 = h1.2.1 22 ∧ h.2.1 26 = h1.2.1 26 ∧ h.2.1 27 = h1.2.1 27) ∧ h.2.1 36 = h1.2.1 36 ∧ h.2.1 39 = h1.2.1 39) ∧ ((h.1 38 10) = (h1.1 38 10) ∧ (h.1 38 12) = (h1.1 38 12) ∧ (h.1 38 5) = (h1.1 38 5)) ∧ g.2.1 84 = g1.2.1 84 ∧ ∀ b, b < nb - 1 → (h.2.1 25) (9 + b) = (h1.2.1 25) (9 + b)
def zv_SS (LC LM : List (List Int32)) (nb nf k : Nat) (F : Nat → Nat) (l : zt_T) (P Q : Nat → Prop) (h1 g1 : zs_H) (u : zt_T) (h g : zs_H) (x x' : Int32) : Prop :=
  ∃ (Pu Qu : Nat → Prop) (yy yy' : Int32) (F' : Nat → Nat),
  (zt_C h u Pu x yy ∧ zt_M LC LM g u Qu (nI k) x' yy') ∧ ((∀ j, Pu j → P j) ∧ (∀ j, Qu j → Q j)) ∧ (zg_ok u ∧ ¬ zg_run 4 0 u = 99) ∧ zv_I LC LM nb nf (F' nb) F' (-1) h g ∧ ((∀ j, ¬ j = nb → F' j = F j) ∧ F' nb + zg_c u ≤ F nb + zg_c l) ∧ (∀ j, Pu j → (h.2.1 14) j = 0) ∧ (∃ y, y ≤ 4096 ∧ (h.2.1 25) (8 + nb) = nI y) ∧ zv_fr P Q h1 g1 h g ∧ zv_sk nb h1 g1 h g ∧ zv_vn (F (nb - 1)) ((h1.2.1 21) (8 + nb)) (F nb) (F' nb) h1 h ∧ F nb ≤ F' nb
theorem zv_sDecl {LC LM : List (List Int32)} {nb nf s sz k d D D' c : Nat} {F : Nat → Nat} {l : zt_T} {P Q : Nat → Prop} {h1 g1 : zs_H} {kv : Int32 × Int32} {o : Unit} {lc r : zt_T} {h g : zs_H} {x x' : Int32} (hbo : nf + 1 = nb) (hP : ∀ j, P j → j < 32784 ∧ j < sz) (hQ : ∀ j, Q j → j < 33500) (hd : d + 2 < 240) (hN : F nb + zg_c l ≤ 5900) (hs : s < 3) (hk : k < 33500) (hs3 : 3 ≤ sz) (hsz2 : sz < 100000) (hsec : (h1.1 38 5) = nI s) (hsz : (h1.1 12 6) = nI sz) (m2 : (g1.2.1 74) k = nI s)
    (S : zv_SS LC LM nb nf k F l P Q h1 g1 (.inner c kv o lc r) h g x x') : zv_res (D + 3) (D' + 6) d sz h1 g1 (zv_SS LC LM nb nf k F l P Q h1 g1 r) h g x x' := by
  obtain ⟨Pu, Qu, yy, yy', F', ⟨sC, sM⟩, ⟨s1, s2⟩, ⟨s3, s4⟩, I, ⟨s8, s9⟩, s10, ⟨yv, y1, y2⟩, s11, s12, s13, s14⟩ := S
  have s4' : ¬ zg_run 4 (zg_q 4 0 c) r = 99 := s4
  have h4 : ¬ zg_q 4 0 c = 99 := fun z => s4' (by rw [z]; exact zv_q99 4 r)
  obtain ⟨e5, _, e0⟩ := zv_q4 h4
  rw [e0] at s4'
  subst e5
  have ec : zg_c (.inner 5 kv o lc r) = zg_c lc + zg_c r := by show 0 + zg_c lc + zg_c r = _; omega
  rw [ec] at s9
  obtain ⟨a, P1, P2, z1, z2, ea, a1, a2, a3, a4, a5, a6, a7, a8, a9, a10⟩ := zv_hC sC
  obtain ⟨b, Q1, Q2, z3, eb, b1, b2, b3, b4, b5, b6, b7, b8, b9, b10, b11⟩ := zv_hM sM
  have ha := hP a (s1 a a2)
  have hbb := hQ b (s2 b b2)
  have J1 : (h.1 38 3) = 0 := I.2.2.2.2.2.2.2.1
  have J2 : (g.1 68 29) = 0 := I.2.2.2.2.2.2.2.2
  have gT : ∀ z, ¬ z ∈ zv_mm → g.2.1 z = g1.2.1 z := fun z hz => s11.2.1.2.1 z hz
  have hsz' : (h.1 12 6) = nI sz := (s11.1.1 _ _ (by decide)).trans hsz
  have hP1 : ∀ j, P1 j → P j := fun j hj => s1 j (a6 j hj).1
  have hQ1 : ∀ j, Q1 j → Q j := fun j hj => s2 j (b7 j hj).1
  have hln : zt_ln lc ≤ sz := Nat.le_trans (zv_lnsz lc) (Nat.le_trans (zt_sz_le lc P1 _ _ _ sz a8 (fun j hj => (hP j (hP1 j hj)).2)) (zc_cnt_le _ _))
  have hnc := zv_nmc lc
  obtain ⟨h', g', v1, v2, v3⟩ := zv_declV (D := D) (D' := D') (d := d + 1) (s := s) (sz := sz) (k4 := k) (P := P1) (Q := Q1) I hbo (by omega) (by omega) hs ha.1 hbb hk (fun j hj => (hP j (hP1 j hj)).1) (fun j hj => hQ j (hQ1 j hj)) hsz' hs3 hsz2 hln a3 a4 (s12.2.1.2.2.trans hsec) b3 (b4 (by decide)) b6 (by rw [gT 74 (by decide)]; exact m2) a8 b9 s3.1.1 s3.2.1 (fun j hj => s10 j (a6 j hj).1) y2 y1
  refine ⟨a, b, ea, ha.1, eb, hbb, J1, J2, hsz', h', g', v1, v2, ?_⟩
  rcases v3 with ⟨⟨X, f1, f2⟩, n1, n2⟩ | ⟨F'', w1, w2, I', w4, hx, h2, g2, ehx, fr2, dk2, SE, vn⟩
  · exact .inl ⟨⟨X, zfr_trans (zfr_w s11.1 (fun _ z => z) (by decide) (by decide)) f1, zfr_trans s11.2.1 f2⟩, n1, n2⟩
  · right
    obtain ⟨_, q1, q2, q3, q4⟩ := SE
    have f0 : zfr [(38, 6)] [] [] h hx := by rw [ehx]; exact zfr_F (by decide) zfr_rfl
    have A0 : ∀ z, hx.2.1 z = h.2.1 z := fun z => f0.2.1 z List.not_mem_nil
    have fr : zv_fr P Q h g h' g' := by
      refine ⟨zfr_trans (zfr_w f0 (by decide) (by decide) (by decide)) (zfr_trans fr2.1 (zfr_w q1 (by decide) (by decide) (by decide))), zfr_trans fr2.2.1 (zfr_w q2 (by decide) (by decide) (by decide)), fun j hj => ?_, fun j hj => ⟨?_, ?_, ?_⟩⟩
      · rw [q1.2.1 _ (by decide), fr2.2.2.1 j (fun z => hj (hP1 j z)), A0]
      · rw [q2.2.1 _ (by decide)]; exact (fr2.2.2.2 j (fun z => hj (hQ1 j z))).1
      · rw [q4 j (fun z => hj (hQ1 j z))]; exact (fr2.2.2.2 j (fun z => hj (hQ1 j z))).2.1
      · rw [q2.2.1 _ (by decide)]; exact (fr2.2.2.2 j (fun z => hj (hQ1 j z))).2.2
    obtain ⟨cC, cM⟩ := zv_CM fr a9 b10
    have nx : (h'.2.1 18) a = (h.2.1 18) a := by rw [fr.1.2.1 _ (by decide)]
    have nb' : (g'.2.1 78) b = (g.2.1 78) b := by rw [fr.2.1.2.1 _ (by decide)]
    obtain ⟨⟨k1, k2, k3, k4, k5⟩, ⟨k6, k7, k8, _⟩, k10, _⟩ := dk2
    obtain ⟨⟨j1, j2, j3, j4⟩, ⟨j5, j6, j7⟩, j8, j9⟩ := s12
    have ty : ∀ j, P2 j → (h'.2.1 14) j = 0 := fun j hj => by
      rw [q1.2.1 _ (by decide), fr2.2.2.1 j (fun z => (a6 j z).2.2 hj), A0]; exact s10 j (a7 j hj).1
    refine ⟨P2, Q2, z2, z3, F'', ⟨by rw [nx]; exact cC, by rw [nb']; exact cM⟩, ⟨fun j hj => s1 j (a7 j hj).1, fun j hj => s2 j (b8 j hj).1⟩, ⟨s3.2.2, s4'⟩, I', ⟨fun j hj => (w1 j hj).trans (s8 j hj), by omega⟩, ty, w4, zv_frt s11 fr (fun _ z => z) (fun _ z => z), ⟨⟨?_, ?_, ?_, ?_⟩, ⟨?_, ?_, ?_⟩, ?_, fun bb hbb => ?_⟩, zv_vnt s13 (by rw [j1, s8 (nb - 1) (by omega)] at vn; exact vn) s14, by omega⟩
    · rw [q1.2.1 _ (by decide), k1, A0]; exact j1
    · exact ⟨by rw [q1.2.1 _ (by decide), k2.1, A0]; exact j2.1, by rw [q1.2.1 _ (by decide), k2.2.1, A0]; exact j2.2.1, by rw [q1.2.1 _ (by decide), k2.2.2, A0]; exact j2.2.2⟩
    · rw [q1.2.1 _ (by decide), k4, A0]; exact j3
    · rw [q1.2.1 _ (by decide), k5, A0]; exact j4
    · rw [q1.1 _ _ List.not_mem_nil, k6, f0.1 _ _ (by decide)]; exact j5
    · rw [q1.1 _ _ List.not_mem_nil, k7, f0.1 _ _ (by decide)]; exact j6
    · rw [q1.1 _ _ List.not_mem_nil, k8, f0.1 _ _ (by decide)]; exact j7
    · rw [q2.2.1 _ (by decide), k10]; exact j8
    · rw [q3 bb hbb, k3, A0]; exact j9 bb hbb
