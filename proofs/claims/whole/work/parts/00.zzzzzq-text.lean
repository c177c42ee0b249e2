/-! The judge: the walk through a text. -/
theorem yh_mono {F : Nat → Nat} {nb : Nat} (h : ∀ b, b < nb → F b ≤ F (b + 1)) : ∀ (m i : Nat), i + m ≤ nb → F i ≤ F (i + m) := by
  intro m
  induction m with
  | zero => intro i _; exact Nat.le_refl _
  | succ m ih => intro i hi; exact Nat.le_trans (ih i (by omega)) (h (i + m) (by omega))
theorem yg_Km {LC LM : List (List Int32)} {F : Nat → Nat} {sz b : Nat} {P Q P' Q' : Nat → Prop} {h g : zs_H} (hP : ∀ j, P j → P' j) (hQ : ∀ j, Q j → Q' j) (K : yg_K LC LM F sz b P Q h g) : yg_K LC LM F sz b P' Q' h g := by
  obtain ⟨Fb, i, k, c, kv, lb, a, bn, y, m, k1, k2, k3, k4, k5, k6, k7, k8, k9, k10⟩ := K
  exact ⟨Fb, i, k, c, kv, lb, a, bn, y, m, k1, k2, k3, k4, k5, yb_Fm hP hQ _ _ _ _ _ k6, k7, yg_Gf hQ rfl rfl rfl (fun j _ => ⟨fun _ _ => rfl, fun _ _ => rfl, fun _ _ => rfl⟩) _ _ _ k8, yg_Gf hQ rfl rfl rfl (fun j _ => ⟨fun _ _ => rfl, fun _ _ => rfl, fun _ _ => rfl⟩) _ _ _ k9, k10⟩
/-- a block's node is one of these -/
def yh_nd (b : Nat) (P : Nat → Prop) (h : zs_H) : Prop := ∃ i, i < 32784 ∧ (h.2.1 22) (9 + b) = nI i ∧ P i
theorem yg_Kf {LC LM : List (List Int32)} {F F' : Nat → Nat} {nb sz b : Nat} {P Q P1 Q1 : Nat → Prop} {h g h' g' : zs_H} (hF : ∀ bq, bq < nb → F bq ≤ F (bq + 1)) (hF' : ∀ j, j ≤ nb → F' j = F j) (hb : b < nb) (B : yg_bf nb (F nb) P1 Q1 h g h' g') (hP : ∀ j, P j → j < 32784 ∧ ¬ P1 j) (hQ : ∀ j, Q j → ¬ Q1 j) (N : yh_nd b P h) (K : yg_K LC LM F sz b P Q h g) : yg_K LC LM F' sz b P Q h' g' ∧ yh_nd b P h' := by
  obtain ⟨Fb, i, k, c, kv, lb, a, bn, y, m, k1, ⟨i1, i2, i3, i4⟩, ⟨l1, l2, l3, Qm, q01, q02⟩, k4, ⟨a1, a2, a3⟩, k6, ⟨y1, y2, y3⟩, k8, k9, k10, k11⟩ := K
  obtain ⟨B1, B2, B3, B4, B5, B6⟩ := B
  obtain ⟨i', n1, n2, n3⟩ := N
  have e : i' = i := (nI_eq (by omega) (by omega)).mp (n2.symm.trans i3)
  subst e
  obtain ⟨q1, q2, q3, q4, q5⟩ := B6 b hb
  have hm := yh_mono hF
  have gA : ∀ z, ¬ z ∈ zv_mm → g'.2.1 z = g.2.1 z := fun z hz => B2.2.1 z hz
  have e18 : h'.2.1 18 = h.2.1 18 := B1.2.1 _ (by decide)
  have hFb : Fb (b + 1) ≤ F nb := by
    rw [k1 _ (Nat.le_refl _)]
    have := hm (nb - (b + 1)) (b + 1) (by omega)
    rwa [show b + 1 + (nb - (b + 1)) = nb by omega] at this
  refine ⟨⟨Fb, i', k, c, kv, lb, a, bn, y, m, fun j hj => (k1 j hj).trans (hF' j (by omega)).symm, ⟨i1, i2, q2.trans i3, q5.trans i4⟩, ⟨by rw [gA _ (by decide)]; exact l1, l2, by rw [gA _ (by decide)]; exact l3, Qm, q01, zt_fr _ Qm Qm _ _ _ (fun i _ => ⟨fun kd k up z hz => by unfold zt_NM at hz ⊢; rw [gA 72 (by decide), gA 73 (by decide), gA 74 (by decide), gA 75 (by decide), gA 77 (by decide)]; exact hz, by rw [gA 76 (by decide)], by rw [gA 78 (by decide)]⟩) (fun i hi => hi) q02⟩, k4, ⟨a1, a2, by rw [e18, (B3 i' (hP i' n3).2).2.2.2]; exact a3⟩, ?_, ⟨⟨y1.1, fun z => y1.2 (by rw [← q1]; exact z)⟩, q3.trans y2, q4.trans y3⟩, ?_, ?_, fun v v1 v2 => ?_, by rw [B1.2.1 15 (by decide), gA 73 (by decide)]; exact k11⟩, i', n1, q2.trans n2, n3⟩
  · refine yb_Ff (h := h) (g := g) ⟨fun j hj => ?_, fun j hj => ?_, fun j hj => ?_, fun bq hbq => (B6 bq (by omega)).1, fun bq hbq => ?_⟩ _ _ _ _ _ k6
    · obtain ⟨s1, s2, s3, s4⟩ := B3 j (hP j hj).2
      exact ⟨(hP j hj).1, s1, s2, s3, s4, by rw [e18]⟩
    · obtain ⟨s1, s2, s3⟩ := B4 j (hQ j hj)
      exact ⟨s1, fun _ _ => s2, fun _ => s3, by rw [gA _ (by decide)], by rw [gA _ (by decide)], by rw [gA _ (by decide)]⟩
    · obtain ⟨v1, v2, v3, v4, v5, _⟩ := B5 j (by omega)
      exact ⟨v1, v2, v5, v3, v4⟩
    · rw [k1 _ (by omega), k1 _ (by omega)]
      have := hm (b - bq) (bq + 1) (by omega)
      rwa [show bq + 1 + (b - bq) = b + 1 by omega] at this
  · exact yg_Gf (fun _ z => z) (gA _ (by decide)) (gA _ (by decide)) (gA _ (by decide)) (fun j hj => ⟨fun _ _ => (B4 j (hQ j hj)).2.1, fun _ _ => (B4 j (hQ j hj)).2.2, fun _ _ => (B4 j (hQ j hj)).2.1⟩) _ _ _ k8
  · exact yg_Gf (fun _ z => z) (gA _ (by decide)) (gA _ (by decide)) (gA _ (by decide)) (fun j hj => ⟨fun _ _ => (B4 j (hQ j hj)).2.1, fun _ _ => (B4 j (hQ j hj)).2.2, fun _ _ => (B4 j (hQ j hj)).2.1⟩) _ _ _ k9
  · rw [hF' b (by omega)] at v1 ⊢
    rw [hF' (b + 1) (by omega)] at v2
    rw [k1 _ (Nat.le_refl _)] at hFb
    obtain ⟨_, e2, e3, _⟩ := B5 (32 + v) (by omega)
    rw [e2, e3, q1]
    obtain ⟨z1, z2, z3⟩ := k10 v v1 v2
    exact ⟨z1, z2, zv_lvf (fun u u2 => (B5 (32 + u) (by omega)).2.2) z3⟩
/-- what stays in the whole walk -/
def yh_fr (P Q : Nat → Prop) (h g h' g' : zs_H) : Prop := zfr zv_cf (13 :: 14 :: 16 :: 17 :: zv_cm) [] h h' ∧ zfr zv_mf zv_mm [] g g' ∧ (∀ j, ¬ P j → (h'.2.1 13) j = (h.2.1 13) j ∧ (h'.2.1 14) j = (h.2.1 14) j ∧ (h'.2.1 16) j = (h.2.1 16) j ∧ (h'.2.1 17) j = (h.2.1 17) j) ∧ (∀ j, ¬ Q j → (g'.2.1 100) j = (g.2.1 100) j ∧ (g'.2.1 101) j = (g.2.1 101) j ∧ (g'.2.1 102) j = (g.2.1 102) j)
/-- all blocks up to here -/
def yh_B (LC LM : List (List Int32)) (F : Nat → Nat) (sz nb : Nat) (P Q Pu Qu : Nat → Prop) (h g : zs_H) : Prop := ∀ b, b < nb → ∃ Pb Qb : Nat → Prop, (∀ j, Pb j → P j ∧ ¬ Pu j) ∧ (∀ j, Qb j → Q j ∧ ¬ Qu j) ∧ yg_K LC LM F sz b Pb Qb h g ∧ yh_nd b Pb h
def yh_S (LC LM : List (List Int32)) (sz t0 : Nat) (l : zt_T) (P Q : Nat → Prop) (h1 g1 : zs_H) (u : zt_T) (h g : zs_H) (x x' : Int32) : Prop :=
  ∃ (nb : Nat) (F : Nat → Nat) (Pu Qu : Nat → Prop) (yy yy' : Int32), nb + zt_ln u = zt_ln l ∧ (zt_C h u Pu x yy ∧ zt_M LC LM g u Qu (nI t0) x' yy') ∧ ((∀ j, Pu j → P j) ∧ (∀ j, Qu j → Q j)) ∧ (zg_ok u ∧ ¬ zg_run 0 0 u = 99 ∧ zg_d u ≤ zg_d l ∧ zg_cx u) ∧ (zv_I LC LM nb nb (F nb) F (-1) h g ∧ zv_si (F nb) h ∧ ∀ b, b < nb → (h.2.1 21) (9 + b) = 3 → (h.2.1 27) (9 + b) = 0) ∧ F nb + zg_c u + zt_ln u ≤ zg_c l + zt_ln l ∧ (∀ j, Pu j → (h.2.1 14) j = 0) ∧ (h.1 38 12) = 0 ∧ yh_fr P Q h1 g1 h g ∧ yh_B LC LM F sz nb P Q Pu Qu h g
theorem yh_step {LC LM : List (List Int32)} {sz t0 d D D' c : Nat} {l : zt_T} {P Q : Nat → Prop} {h1 g1 h g : zs_H} {x x' : Int32} {kv : Int32 × Int32} {o : Unit} {lc r : zt_T} (hP : ∀ j, P j → j < 32784 ∧ j < sz) (hQ : ∀ j, Q j → j < 33500) (hl : zt_ln l ≤ 568) (hc : zg_c l ≤ 5120) (hdl : zg_d l ≤ 186) (hd0 : d ≤ 49) (hs3 : 3 ≤ sz) (hsz2 : sz ≤ 32784) (hsz : (h1.1 12 6) = nI sz) (hD : 188 ≤ D) (hD' : 376 ≤ D') (ht0 : t0 < 33500) (u2 : (g1.2.1 75) t0 = -1) (u3 : ¬ (g1.2.1 72) t0 = 19)
    (S : yh_S LC LM sz t0 l P Q h1 g1 (.inner c kv o lc r) h g x x') : zv_res (D + 1) (D' + 2) d sz h1 g1 (yh_S LC LM sz t0 l P Q h1 g1 r) h g x x' := by
  obtain ⟨nb, F, Pu, Qu, yy, yy', en, ⟨sC, sM⟩, ⟨p1, p2⟩, ⟨⟨⟨hA, hv⟩, okl, okr⟩, gr, zd, zx⟩, ⟨I, si, _⟩, nc, ty, lp, fr, BB⟩ := S
  have key : ∀ r ∈ zg_R, r.1 = 0 → ∀ c ∈ r.2.2.1, (c = 1 ∨ c = 2 ∨ c = 3) := by decide +kernel
  have key2 : ∀ r ∈ zg_R, r.1 = 0 → r.2.2.2 = 0 := by decide +kernel
  have hq : ¬ zg_q 0 0 c = 99 := fun z => gr (by show zg_run 0 (zg_q 0 0 c) r = 99; rw [z]; exact zv_q99 0 r)
  obtain ⟨cs, to, g1', g2', g3'⟩ := zv_qR hq
  have hkd := key _ g1' rfl c g2'
  have gr' : ¬ zg_run 0 0 r = 99 := by
    have e0 : to = 0 := key2 _ g1' rfl
    intro z
    exact gr (by show zg_run 0 (zg_q 0 0 c) r = 99; rw [g3', e0]; exact z)
  have el : zt_ln (.inner c kv o lc r) = 1 + zt_ln r := rfl
  have ec : zg_c (.inner c kv o lc r) = (if c = 37 then 1 else 0) + zg_c lc + zg_c r := rfl
  have ed : max (zg_d lc + 1) (zg_d r) ≤ zg_d l := Nat.le_trans zg_d1 zd
  have J1 : (h.1 38 3) = 0 := I.2.2.2.2.2.2.2.1
  have J2 : (g.1 68 29) = 0 := I.2.2.2.2.2.2.2.2
  have siz : (h.1 12 6) = nI sz := (fr.1.1 _ _ (by decide)).trans hsz
  obtain ⟨a, P1, P2, z1, z2, ea, _, a2, a3, a4, a5, a6, a7, a8, a9, a10⟩ := zv_hC sC
  obtain ⟨b, Q1, Q2, z3, eb, _, b2, b3, b4, b5, b6, b7, b8, b9, b10, b11⟩ := zv_hM sM
  have ha := (hP a (p1 a a2)).1
  have hb := hQ b (p2 b b2)
  have gk : ∀ z, ¬ z ∈ zv_mm → g.2.1 z = g1.2.1 z := fun z hz => fr.2.1.2.1 z hz
  have ekm : zt_km c = c := by rcases hkd with e | e | e <;> rw [e] <;> rfl
  have enk : zt_nk c = true := by rcases hkd with e | e | e <;> rw [e] <;> rfl
  rw [if_pos enk] at b5
  rw [ekm] at b3
  obtain ⟨h', g', r1, r2, r3⟩ := yg_blockV (D := D) (D' := D') (d := d + 1) (t0 := t0) (sz := sz) (P := P1) (Q := Q1) I si (by omega) (by omega) ha hb (fun z => (a6 a z).2.1 rfl) (fun z => (b7 b z).2.1 rfl) (fun j hj => hP j (p1 j (a6 j hj).1)) (fun j hj => hQ j (p2 j (b7 j hj).1)) hkd a3 a4 a5 (fun j hj => ty j (a6 j hj).1) a8 b3 (b4 (by omega)) b5 b6 b9 hA okl (by omega) (zg_cxi zx).1 (by omega) hs3 hsz2 siz ⟨by omega, by omega⟩ ⟨by omega, by omega⟩ ht0 (by rw [gk _ (by decide)]; exact u2) (by rw [gk _ (by decide)]; exact u3) lp
  refine ⟨a, b, ea, ha, eb, hb, J1, J2, siz, h', g', r1, r2, ?_⟩
  rcases r3 with ⟨B, n1, n2⟩ | ⟨F', I', ⟨si', pl0⟩, fF, nF, lp', nd', bf, K⟩
  · exact .inl ⟨⟨B.1, zfr_trans fr.1 B.2.1, zfr_trans fr.2.1 B.2.2⟩, n1, n2⟩
  · right
    have e18 : h'.2.1 18 = h.2.1 18 := bf.1.2.1 _ (by decide)
    have e15 : h'.2.1 15 = h.2.1 15 := bf.1.2.1 _ (by decide)
    have gA : ∀ z, ¬ z ∈ zv_mm → g'.2.1 z = g.2.1 z := fun z hz => bf.2.1.2.1 z hz
    have nP2 : ∀ j, P2 j → ¬ P1 j := fun j hj z => (a6 j z).2.2 hj
    refine ⟨nb + 1, F', P2, Q2, z2, z3, by omega, ⟨?_, ?_⟩, ⟨fun j hj => p1 j (a7 j hj).1, fun j hj => p2 j (b8 j hj).1⟩, ⟨okr, gr', by omega, (zg_cxi zx).2⟩, ⟨I', si', fun b hb k3 => by
      obtain ⟨kd, _, e1, _, e2⟩ := I'.2.1.2.2.2.2.1 b hb
      have e3 : kd = 3 := by
        rw [e1] at k3
        have : kd < 4 := by omega
        exact (zc_eq (k := 3) (by decide) (by omega)).mp k3
      have : b = nb := by have := e2 e3; omega
      rw [this]; exact pl0⟩, ?_, fun j hj => ?_, lp', ⟨zfr_trans fr.1 bf.1, zfr_trans fr.2.1 bf.2.1, fun j hj => ?_, fun j hj => ?_⟩, fun bq hbq => ?_⟩
    · rw [e18]
      refine zt_fr r P2 P2 0 _ z2 (fun i hi => ?_) (fun i hi => hi) a9
      obtain ⟨s1, s2, s3, s4⟩ := bf.2.2.1 i (nP2 i hi)
      exact ⟨fun kd k up z hz => by unfold zt_NC at hz ⊢; rw [s1, s3, e15]; exact hz, s4, by rw [e18]⟩
    · rw [gA 78 (by decide)]
      refine zt_fr r Q2 Q2 _ _ z3 (fun i _ => ?_) (fun i hi => hi) b10
      exact ⟨fun kd k up z hz => by unfold zt_NM at hz ⊢; rw [gA 72 (by decide), gA 73 (by decide), gA 74 (by decide), gA 75 (by decide), gA 77 (by decide)]; exact hz, by rw [gA 76 (by decide)], by rw [gA 78 (by decide)]⟩
    · rw [ec] at nc; omega
    · rw [(bf.2.2.1 j (nP2 j hj)).2.1]; exact ty j (a7 j hj).1
    · obtain ⟨s1, s2, s3, s4⟩ := bf.2.2.1 j (fun z => hj (p1 j (a6 j z).1))
      obtain ⟨v1, v2, v3, v4⟩ := fr.2.2.1 j hj
      exact ⟨s1.trans v1, s2.trans v2, s3.trans v3, s4.trans v4⟩
    · obtain ⟨s1, s2, s3⟩ := bf.2.2.2.1 j (fun z => hj (p2 j (b7 j z).1))
      obtain ⟨v1, v2, v3⟩ := fr.2.2.2 j hj
      exact ⟨s1.trans v1, s2.trans v2, s3.trans v3⟩
    · by_cases e : bq = nb
      · subst e
        have K' : yg_K LC LM F' sz bq (fun j => P1 j ∨ j = a) Q1 h' g' := yg_Km (fun j z => .inl z) (fun j z => z) K
        refine ⟨fun j => P1 j ∨ j = a, Q1, fun j z => ?_, fun j z => ⟨p2 j (b7 j z).1, (b7 j z).2.2⟩, K', ?_⟩
        · rcases z with z | z
          · exact ⟨p1 j (a6 j z).1, (a6 j z).2.2⟩
          · rw [z]; exact ⟨p1 a a2, fun q => (a7 a q).2 rfl⟩
        · exact ⟨a, ha, nd', .inr rfl⟩
      · obtain ⟨Pb, Qb, w1, w2, w3, w4⟩ := BB bq (by omega)
        obtain ⟨K', N'⟩ := yg_Kf (fun b hb => (I.2.1.2.2.2.1 b hb).1) fF (show bq < nb by omega) bf (fun j hj => ⟨(hP j (w1 j hj).1).1, fun z => (w1 j hj).2 (a6 j z).1⟩) (fun j hj z => (w2 j hj).2 (b7 j z).1) w4 w3
        exact ⟨Pb, Qb, fun j hj => ⟨(w1 j hj).1, fun z => (w1 j hj).2 (a7 j z).1⟩, fun j hj => ⟨(w2 j hj).1, fun z => (w2 j hj).2 (b8 j z).1⟩, K', N'⟩
