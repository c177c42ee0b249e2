/-! The judge: rungs: the walks through a row's cells and a rung's rows. -/
/-- the row here, and whether another one comes behind it -/
def yr_rw (h g : zs_H) (up : Nat) : Prop := ∃ ri, ri < 32784 ∧ (h.1 38 9) = nI ri ∧ ((h.2.1 18) ri = -1 ↔ (g.2.1 78) up < 0)
theorem yr_rwf {P Q : Nat → Prop} {h g h' g' : zs_H} {up : Nat} (H : yr_rw h g up) (O : yc_out P Q h g h' g') (e : (h'.1 38 9) = (h.1 38 9)) : yr_rw h' g' up := by
  obtain ⟨ri, r1, r2, r3⟩ := H
  exact ⟨ri, r1, e.trans r2, by rw [O.1.2.1 _ (by decide), O.2.1.2.1 _ (by decide)]; exact r3⟩
/-- both sides agree on whether another one comes behind -/
theorem yr_sib {LC LM : List (List Int32)} {h g : zs_H} {r : zt_T} {P Q : Nat → Prop} {x y x' y' up : Int32} (C : zt_C h r P x y) (M : zt_M LC LM g r Q up x' y') : x = -1 ↔ x' < 0 := by
  cases r with
  | leaf =>
    have e1 : x = -1 := (show x = -1 ∧ y = -1 from C).1
    have e2 : x' = -1 := (show x' = -1 ∧ y' = -1 from M).1
    rw [e1, e2]; decide
  | inner c kv o l r =>
    obtain ⟨a, _, _, _, _, ea, ha, _⟩ := zv_hC C
    obtain ⟨b, _, _, _, eb, hb, _⟩ := zv_hM M
    rw [ea, eb]
    exact ⟨fun z => absurd z (zc_m1 (by omega)), fun z => absurd z (zv_neg (show b < 2147483648 by omega)).2⟩
/-- visited in a row, in a rung -/
def yr_VN (kd : Nat) (kv : Int32 × Int32) (l : zt_T) : Prop := ∀ (LC LM : List (List Int32)) (nb nf sz : Nat) (F : Nat → Nat) (h g : zs_H) (i k up d D D' oc : Nat) (P Q : Nat → Prop) (y : Int32), yb_cx LC LM nb nf sz F h g → yb_nd LC LM h g kd kv l i k up P Q y → up < 33500 → yc_L LC LM h g up d → ((h.2.1 18) i = -1 ↔ (g.2.1 78) k < 0) → yr_rw h g up → (∀ j, P j → j < sz) → (h.1 38 10) = nI oc → d + zg_d l ≤ 239 → zg_d l < D → 2 * zg_d l + 2 < D' →
  ∃ h' g', f_Jd_visit D h (nI i) (nI d) = some h' ∧ f_Mo_look D' g (nI k) = some g' ∧ ((zv_Fb h g h' g' ∧ ¬ (h'.1 38 3) = 0 ∧ ¬ (g'.1 68 29) = 0) ∨ (yc_ok F (nb - 1) kd kv l i k P Q h g h' g' ∧ (h'.1 38 3) = 0 ∧ (g'.1 68 29) = 0 ∧ (h'.1 38 10) = nI (oc + yc_o (.inner kd kv () l .leaf)) ∧ (h'.1 38 9) = (h.1 38 9) ∧ (kd = 28 → (h.2.1 18) i = -1)))
def yr_Ph : zt_T → Prop
  | .leaf => True
  | .inner kd kv _ l r => yr_VN kd kv l ∧ yr_Ph r
def yr_St (LC LM : List (List Int32)) (nb : Nat) (F : Nat → Nat) (i k oc : Nat) (l : zt_T) (P Q : Nat → Prop) (h1 g1 : zs_H) (u : zt_T) (h g : zs_H) (x x' : Int32) : Prop :=
  ∃ (w : zt_T) (Pw Qw Pu Qu : Nat → Prop) (yu yu' : Int32), l = zt_ap w u ∧ (zt_C h u Pu x yu ∧ zt_M LC LM g u Qu (nI k) x' yu') ∧ ((∀ j, Pu j → P j) ∧ (∀ j, Qu j → Q j) ∧ (∀ j, Pw j → P j ∧ ¬ Pu j) ∧ (∀ j, Qw j → Q j ∧ ¬ Qu j)) ∧ yb_F F (nb - 1) h g Pw Qw w ((h1.2.1 17) i) ((g1.2.1 76) k) x x' ∧ (∀ j, Pu j → (h.2.1 14) j = 0) ∧ yc_out P Q h1 g1 h g ∧ yr_Ph u ∧ (zg_d u ≤ zg_d l ∧ (h.1 38 3) = 0 ∧ (g.1 68 29) = 0) ∧ (h.1 38 10) = nI (oc + yc_o w) ∧ (h.1 38 9) = (h1.1 38 9) ∧ zg_cl w ∧ (¬ u = .leaf → zg_n8 w)
section YR
variable {LC LM : List (List Int32)} {nb nf sz : Nat} {F : Nat → Nat} {h1 g1 h g h' g' : zs_H} {P Q : Nat → Prop}
theorem yr_step {i k d D D' c oc : Nat} {l lc r : zt_T} {kv : Int32 × Int32} {o : Unit} {x x' : Int32} (C : yb_cx LC LM nb nf sz F h1 g1) (LL : yc_L LC LM h1 g1 k (d + 1)) (hk : k < 33500) (hP : ∀ j, P j → j < 32784) (hPs : ∀ j, P j → j < sz) (hQ : ∀ j, Q j → j < 33500) (RW : yr_rw h1 g1 k) (hd : d + zg_d l ≤ 239) (hD : zg_d l ≤ D) (hD' : 2 * zg_d l < D') (S : yr_St LC LM nb F i k oc l P Q h1 g1 (.inner c kv o lc r) h g x x') :
    zv_res D D' d sz h1 g1 (yr_St LC LM nb F i k oc l P Q h1 g1 r) h g x x' := by
  obtain ⟨w, Pw, Qw, Pu, Qu, yu, yu', e0, ⟨sC, sM⟩, ⟨p1, p2, p3, p4⟩, A, ty, O, ⟨VN, Ph⟩, ⟨zd, J1, J2⟩, ow, rw, _, n8⟩ := S
  have C2 : yb_cx LC LM nb nf sz F h g := yc_cxf C O.1 O.2.1
  have zd' : max (zg_d lc + 1) (zg_d r) ≤ zg_d l := Nat.le_trans zg_d1 zd
  obtain ⟨a, P1, P2, z1, z2, ea, a1, a2, a3, a4, a5, a6, a7, a8, a9, a10⟩ := zv_hC sC
  obtain ⟨b, Q1, Q2, z3, eb, b1, b2, b3, b4, b5, b6, b7, b8, b9, b10, b11⟩ := zv_hM sM
  have ha := hP a (p1 a a2)
  have hbb := hQ b (p2 b b2)
  have nd : yb_nd LC LM h g c kv lc a b k P1 Q1 z1 := ⟨⟨ha, hbb, fun z => (a6 a z).2.1 rfl, fun z => (b7 b z).2.1 rfl, fun j hj => hP j (p1 j (a6 j hj).1), fun j hj => hQ j (p2 j (b7 j hj).1)⟩, ⟨a3, a4, a5, ty a a2, fun j hj => ty j (a6 j hj).1⟩, a8, ⟨b3, b4, b5, b6⟩, b9⟩
  -- both kinds of children
  have V : ∃ h' g', f_Jd_visit D h (nI a) (nI (d + 1)) = some h' ∧ f_Mo_look D' g (nI b) = some g' ∧ ((zv_Fb h g h' g' ∧ ¬ (h'.1 38 3) = 0 ∧ ¬ (g'.1 68 29) = 0) ∨ (yc_ok F (nb - 1) c kv lc a b P1 Q1 h g h' g' ∧ (h'.1 38 3) = 0 ∧ (g'.1 68 29) = 0 ∧ (h'.1 38 10) = nI (oc + yc_o w + yc_o (.inner c kv () lc .leaf)) ∧ (h'.1 38 9) = (h.1 38 9) ∧ (c = 28 → (h.2.1 18) a = -1))) := by
    obtain ⟨h', g', v1, v2, v3⟩ := VN LC LM nb nf sz F h g a b k (d + 1) D D' (oc + yc_o w) P1 Q1 z1 C2 nd hk (yc_Lf LL (by omega) O) (yr_sib a9 b10) (yr_rwf RW O rw) (fun j hj => hPs j (p1 j (a6 j hj).1)) ow (by omega) (by omega) (by omega)
    exact ⟨h', g', v1, v2, v3⟩
  obtain ⟨h', g', v1, v2, v3⟩ := V
  refine ⟨a, b, ea, ha, eb, hbb, J1, J2, C2.2.2.2.1, h', g', v1, v2, ?_⟩
  rcases v3 with ⟨⟨X, f1, f2⟩, n1, n2⟩ | ⟨⟨O2, B⟩, n1, n2, ow', rw', c8⟩
  · exact .inl ⟨⟨X, zfr_trans (zfr_w O.1 (by decide) (by decide) (by decide)) f1, zfr_trans (zfr_w O.2.1 (by decide) (by decide) (by decide)) f2⟩, n1, n2⟩
  · right
    have nx : (h'.2.1 18) a = (h.2.1 18) a := by rw [O2.1.2.1 _ (by decide)]
    have nb' : (g'.2.1 78) b = (g.2.1 78) b := by rw [O2.2.1.2.1 _ (by decide)]
    refine ⟨zt_ap w (.inner c kv o lc .leaf), fun j => Pw j ∨ (P1 j ∨ j = a), fun j => Qw j ∨ (Q1 j ∨ j = b), P2, Q2, z2, z3, ?_, ⟨?_, ?_⟩, ⟨fun j hj => p1 j (a7 j hj).1, fun j hj => p2 j (b8 j hj).1, fun j hj => ?_, fun j hj => ?_⟩, ?_, fun j hj => ?_, ?_, Ph, ⟨by omega, n1, n2⟩, ?_, rw'.trans rw, zg_clap w (n8 (fun z => (by cases z))) c kv o lc, fun hr => zg_n8ap w (n8 (fun z => (by cases z))) c kv o lc (fun z => ?_)⟩
    · rw [zt_ap_as]; exact e0
    · rw [nx]
      exact yc_keepC O2 (fun j hj z => z.elim (fun z => (a6 j z).2.2 hj) (fun z => (a7 j hj).2 z)) a9
    · rw [nb']
      exact yb_keepM O2.2.1 b10
    · rcases hj with z | z | z
      · exact ⟨(p3 j z).1, fun u => (p3 j z).2 (a7 j u).1⟩
      · exact ⟨p1 j (a6 j z).1, (a6 j z).2.2⟩
      · exact ⟨by rw [z]; exact p1 a a2, fun u => (a7 j u).2 z⟩
    · rcases hj with z | z | z
      · exact ⟨(p4 j z).1, fun u => (p4 j z).2 (b8 j u).1⟩
      · exact ⟨p2 j (b7 j z).1, (b7 j z).2.2⟩
      · exact ⟨by rw [z]; exact p2 b b2, fun u => (b8 j u).2 z⟩
    · have A' := yc_keep C2 O2 (fun j hj => ⟨hP j (p3 j hj).1, fun z => (p3 j hj).2 (z.elim (fun z => (a6 j z).1) (fun z => by rw [z]; exact a2))⟩) (fun j hj z => (p4 j hj).2 (z.elim (fun z => (b7 j z).1) (fun z => by rw [z]; exact b2))) A
      refine yb_ap w _ _ _ _ _ _ _ (yb_Fm (fun _ z => .inl z) (fun _ z => .inl z) _ _ _ _ _ A') ?_
      rw [ea, eb]
      exact yb_Fm (fun _ z => .inr z) (fun _ z => .inr z) _ _ _ _ _ B
    · obtain ⟨t1, t2, _⟩ := O2.2.2.1 j (fun z => z.elim (fun z => (a6 j z).2.2 hj) (fun z => (a7 j hj).2 z))
      rw [t2]; exact ty j (a7 j hj).1
    · exact yc_outm (yc_outt O O2) (fun j z => z.elim id (fun z => z.elim (fun z => p1 j (a6 j z).1) (fun z => by rw [z]; exact p1 a a2))) (fun j z => z.elim id (fun z => z.elim (fun z => p2 j (b7 j z).1) (fun z => by rw [z]; exact p2 b b2)))
    · rw [ow', yc_oap]
      exact congrArg nI (Nat.add_assoc oc (yc_o w) (yc_o (.inner c kv () lc .leaf)))
    · have q := c8 z
      cases r with
      | leaf => exact hr rfl
      | inner c2 kv2 o2 lc2 r2 =>
        obtain ⟨a', _, _, _, _, ea', _, a2', _⟩ := zv_hC a9
        have := hP a' (p1 a' (a7 a' a2').1)
        rw [q] at ea'
        exact absurd ea'.symm (zc_m1 (by omega))

theorem yr_kids {i k up d D D' kd oc : Nat} {kv : Int32 × Int32} {l : zt_T} {y : Int32} (hen : f_Jd_enter h (nI i) = some h1) (C : yb_cx LC LM nb nf sz F h1 g) (nd : yb_nd LC LM h1 g kd kv l i k up P Q y) (hkd : zt_km kd = kd ∧ 4 ≤ kd ∧ kd < 100 ∧ ¬ kd = 5 ∧ ¬ kd = 33 ∧ ¬ kd = 35) (LL : yc_L LC LM h1 g k (d + 1)) (RW : yr_rw h1 g k) (Ph : yr_Ph l) (hPs : ∀ j, P j → j < sz) (ow : (h1.1 38 10) = nI oc) (hd : d + zg_d l ≤ 239) (hD : zg_d l ≤ D) (hD' : 2 * zg_d l < D') :
    (∃ h' g', f_Jd_visit (D + 1) h (nI i) (nI d) = some h' ∧ f_Mo_look (D' + 2) g (nI k) = some g' ∧ zv_Fb h1 g h' g' ∧ ¬ (h'.1 38 3) = 0 ∧ ¬ (g'.1 68 29) = 0) ∨
    (∃ h2 g2, f_Jd_visit (D + 1) h (nI i) (nI d) = f_Jd_leave h2 (nI i) ∧ f_Mo_look (D' + 2) g (nI k) = f_Mo_lookAlone_54 g2 (nI k) (nI kd) ∧ yc_out P Q h1 g h2 g2 ∧ yb_F F (nb - 1) h2 g2 P Q l ((h1.2.1 17) i) ((g.2.1 76) k) (-1) (-1) ∧ (h2.1 38 3) = 0 ∧ (g2.1 68 29) = 0 ∧ (h2.1 38 10) = nI (oc + yc_o l) ∧ (h2.1 38 9) = (h1.1 38 9) ∧ zg_cl l) := by
  have hz := zF_big
  obtain ⟨⟨hi, hk, hPi, hQk, hP, hQ⟩, ⟨c0, c1, c2, c3, c4⟩, cC, ⟨m0, m1, m2, m3⟩, cM⟩ := id nd
  obtain ⟨k1, k2, k3, k4, k5, k6⟩ := hkd
  have hln := yb_ln nd hPs
  rw [k1] at m0
  have J1 : (h1.1 38 3) = 0 := C.1.2.2.2.2.2.2.2.1
  have J2 : (g.1 68 29) = 0 := C.1.2.2.2.2.2.2.2.2
  have hsz : sz < 100000 := by have := C.2.2.2.2; omega
  have eC := zv_vC (D := D) (d := d) (h := h) (i := i) (by omega) hi hen
  have eM := (zv_lM (D' := D') (g := g) (k := k) (kd := kd) hk k3 k6 m0).trans (zv_aM (D' := D') (g := g) (k := k) (kd := kd) hk k3 (.inr k2) m0)
  have S0 : yr_St LC LM nb F i k oc l P Q h1 g l h1 g ((h1.2.1 17) i) ((g.2.1 76) k) := ⟨.leaf, fun _ => False, fun _ => False, P, Q, y, (g.2.1 77) k, rfl, ⟨cC, cM⟩, ⟨fun _ z => z, fun _ z => z, fun _ z => z.elim, fun _ z => z.elim⟩, ⟨rfl, rfl⟩, c4, yc_out0, Ph, ⟨Nat.le_refl _, J1, J2⟩, ow, rfl, trivial, fun _ => trivial⟩
  have stp : zv_stp D D' d sz (yr_St LC LM nb F i k oc l P Q h1 g) (zv_Fb h1 g) := by
    intro c kv w lc r h' g' x x' S
    exact yr_step C LL hk hP hPs hQ RW hd hD hD' S
  have hend : ∀ h' g' x x', yr_St LC LM nb F i k oc l P Q h1 g .leaf h' g' x x' → x = -1 ∧ x' = -1 := by
    intro h' g' x x' S
    obtain ⟨_, _, _, _, _, yu, yu', _, ⟨sC, sM⟩, _⟩ := S
    exact ⟨(show x = -1 ∧ yu = -1 from sC).1, (show x' = -1 ∧ yu' = -1 from sM).1⟩
  rcases zv_fold (i := i) (k := k) (kd := kd) (d := d) (by omega) hsz stp hend l 0 zF zF h1 g _ _ S0 (by omega) (by omega) (by omega) with ⟨h', g', a1, a2, a3, a4, a5⟩ | ⟨h', g', a1, a2, a3⟩
  · exact .inl ⟨h', g', by rw [eC, a1], by rw [eM, a2], a3, a4, a5⟩
  · right
    obtain ⟨w, Pw, Qw, Pu, Qu, yu, yu', e0, _, ⟨_, _, p3, p4⟩, A, _, O, _, ⟨_, n1, n2⟩, ow', rw', cl, _⟩ := a1
    rw [zt_ap_leaf] at e0
    subst e0
    refine ⟨h', g', ?_, by rw [eM, a3], O, yb_Fm (fun j z => (p3 j z).1) (fun j z => (p4 j z).1) _ _ _ _ _ A, n1, n2, ow', rw', cl⟩
    rw [eC, a2]
    unfold f_Jd_visit_74
    rw [if_pos n1, Option.bind_fun_some]
end YR
/-- visited in a row, in a rung -/
def ys_VN (kd : Nat) (kv : Int32 × Int32) (l : zt_T) : Prop := ∀ (LC LM : List (List Int32)) (nb nf sz : Nat) (F : Nat → Nat) (h g : zs_H) (i k up d D D' oc : Nat) (P Q : Nat → Prop) (y : Int32), yb_cx LC LM nb nf sz F h g → yb_nd LC LM h g kd kv l i k up P Q y → up < 33500 → yc_L LC LM h g up d → ((h.2.1 18) i = -1 ↔ (g.2.1 78) k < 0) → (∀ j, P j → j < sz) → (h.1 38 10) = nI oc → d + zg_d l ≤ 239 → zg_d l < D → 2 * zg_d l + 2 < D' →
  ∃ h' g', f_Jd_visit D h (nI i) (nI d) = some h' ∧ f_Mo_look D' g (nI k) = some g' ∧ ((zv_Fb h g h' g' ∧ ¬ (h'.1 38 3) = 0 ∧ ¬ (g'.1 68 29) = 0) ∨ (yc_ok F (nb - 1) kd kv l i k P Q h g h' g' ∧ (h'.1 38 3) = 0 ∧ (g'.1 68 29) = 0 ∧ (h'.1 38 10) = nI (oc + yc_o (.inner kd kv () l .leaf)) ∧ zg_cl l))
def ys_Ph : zt_T → Prop
  | .leaf => True
  | .inner kd kv _ l r => ys_VN kd kv l ∧ ys_Ph r
def ys_St (LC LM : List (List Int32)) (nb : Nat) (F : Nat → Nat) (i k oc : Nat) (l : zt_T) (P Q : Nat → Prop) (h1 g1 : zs_H) (u : zt_T) (h g : zs_H) (x x' : Int32) : Prop :=
  ∃ (w : zt_T) (Pw Qw Pu Qu : Nat → Prop) (yu yu' : Int32), l = zt_ap w u ∧ (zt_C h u Pu x yu ∧ zt_M LC LM g u Qu (nI k) x' yu') ∧ ((∀ j, Pu j → P j) ∧ (∀ j, Qu j → Q j) ∧ (∀ j, Pw j → P j ∧ ¬ Pu j) ∧ (∀ j, Qw j → Q j ∧ ¬ Qu j)) ∧ yb_F F (nb - 1) h g Pw Qw w ((h1.2.1 17) i) ((g1.2.1 76) k) x x' ∧ (∀ j, Pu j → (h.2.1 14) j = 0) ∧ yc_out P Q h1 g1 h g ∧ ys_Ph u ∧ (zg_d u ≤ zg_d l ∧ (h.1 38 3) = 0 ∧ (g.1 68 29) = 0) ∧ (h.1 38 10) = nI (oc + yc_o w) ∧ zg_rc w
section YS
variable {LC LM : List (List Int32)} {nb nf sz : Nat} {F : Nat → Nat} {h1 g1 h g h' g' : zs_H} {P Q : Nat → Prop}
theorem ys_step {i k d D D' c oc : Nat} {l lc r : zt_T} {kv : Int32 × Int32} {o : Unit} {x x' : Int32} (C : yb_cx LC LM nb nf sz F h1 g1) (LL : yc_L LC LM h1 g1 k (d + 1)) (hk : k < 33500) (hP : ∀ j, P j → j < 32784) (hPs : ∀ j, P j → j < sz) (hQ : ∀ j, Q j → j < 33500) (hd : d + zg_d l ≤ 239) (hD : zg_d l ≤ D) (hD' : 2 * zg_d l < D') (S : ys_St LC LM nb F i k oc l P Q h1 g1 (.inner c kv o lc r) h g x x') :
    zv_res D D' d sz h1 g1 (ys_St LC LM nb F i k oc l P Q h1 g1 r) h g x x' := by
  obtain ⟨w, Pw, Qw, Pu, Qu, yu, yu', e0, ⟨sC, sM⟩, ⟨p1, p2, p3, p4⟩, A, ty, O, ⟨VN, Ph⟩, ⟨zd, J1, J2⟩, ow, rc⟩ := S
  have C2 : yb_cx LC LM nb nf sz F h g := yc_cxf C O.1 O.2.1
  have zd' : max (zg_d lc + 1) (zg_d r) ≤ zg_d l := Nat.le_trans zg_d1 zd
  obtain ⟨a, P1, P2, z1, z2, ea, a1, a2, a3, a4, a5, a6, a7, a8, a9, a10⟩ := zv_hC sC
  obtain ⟨b, Q1, Q2, z3, eb, b1, b2, b3, b4, b5, b6, b7, b8, b9, b10, b11⟩ := zv_hM sM
  have ha := hP a (p1 a a2)
  have hbb := hQ b (p2 b b2)
  have nd : yb_nd LC LM h g c kv lc a b k P1 Q1 z1 := ⟨⟨ha, hbb, fun z => (a6 a z).2.1 rfl, fun z => (b7 b z).2.1 rfl, fun j hj => hP j (p1 j (a6 j hj).1), fun j hj => hQ j (p2 j (b7 j hj).1)⟩, ⟨a3, a4, a5, ty a a2, fun j hj => ty j (a6 j hj).1⟩, a8, ⟨b3, b4, b5, b6⟩, b9⟩
  -- both kinds of children
  have V : ∃ h' g', f_Jd_visit D h (nI a) (nI (d + 1)) = some h' ∧ f_Mo_look D' g (nI b) = some g' ∧ ((zv_Fb h g h' g' ∧ ¬ (h'.1 38 3) = 0 ∧ ¬ (g'.1 68 29) = 0) ∨ (yc_ok F (nb - 1) c kv lc a b P1 Q1 h g h' g' ∧ (h'.1 38 3) = 0 ∧ (g'.1 68 29) = 0 ∧ (h'.1 38 10) = nI (oc + yc_o w + yc_o (.inner c kv () lc .leaf)) ∧ zg_cl lc)) := by
    obtain ⟨h', g', v1, v2, v3⟩ := VN LC LM nb nf sz F h g a b k (d + 1) D D' (oc + yc_o w) P1 Q1 z1 C2 nd hk (yc_Lf LL (by omega) O) (yr_sib a9 b10) (fun j hj => hPs j (p1 j (a6 j hj).1)) ow (by omega) (by omega) (by omega)
    exact ⟨h', g', v1, v2, v3⟩
  obtain ⟨h', g', v1, v2, v3⟩ := V
  refine ⟨a, b, ea, ha, eb, hbb, J1, J2, C2.2.2.2.1, h', g', v1, v2, ?_⟩
  rcases v3 with ⟨⟨X, f1, f2⟩, n1, n2⟩ | ⟨⟨O2, B⟩, n1, n2, ow', cl⟩
  · exact .inl ⟨⟨X, zfr_trans (zfr_w O.1 (by decide) (by decide) (by decide)) f1, zfr_trans (zfr_w O.2.1 (by decide) (by decide) (by decide)) f2⟩, n1, n2⟩
  · right
    have nx : (h'.2.1 18) a = (h.2.1 18) a := by rw [O2.1.2.1 _ (by decide)]
    have nb' : (g'.2.1 78) b = (g.2.1 78) b := by rw [O2.2.1.2.1 _ (by decide)]
    refine ⟨zt_ap w (.inner c kv o lc .leaf), fun j => Pw j ∨ (P1 j ∨ j = a), fun j => Qw j ∨ (Q1 j ∨ j = b), P2, Q2, z2, z3, ?_, ⟨?_, ?_⟩, ⟨fun j hj => p1 j (a7 j hj).1, fun j hj => p2 j (b8 j hj).1, fun j hj => ?_, fun j hj => ?_⟩, ?_, fun j hj => ?_, ?_, Ph, ⟨by omega, n1, n2⟩, ?_, zg_rcap _ _ rc ⟨cl, trivial⟩⟩
    · rw [zt_ap_as]; exact e0
    · rw [nx]
      exact yc_keepC O2 (fun j hj z => z.elim (fun z => (a6 j z).2.2 hj) (fun z => (a7 j hj).2 z)) a9
    · rw [nb']
      exact yb_keepM O2.2.1 b10
    · rcases hj with z | z | z
      · exact ⟨(p3 j z).1, fun u => (p3 j z).2 (a7 j u).1⟩
      · exact ⟨p1 j (a6 j z).1, (a6 j z).2.2⟩
      · exact ⟨by rw [z]; exact p1 a a2, fun u => (a7 j u).2 z⟩
    · rcases hj with z | z | z
      · exact ⟨(p4 j z).1, fun u => (p4 j z).2 (b8 j u).1⟩
      · exact ⟨p2 j (b7 j z).1, (b7 j z).2.2⟩
      · exact ⟨by rw [z]; exact p2 b b2, fun u => (b8 j u).2 z⟩
    · have A' := yc_keep C2 O2 (fun j hj => ⟨hP j (p3 j hj).1, fun z => (p3 j hj).2 (z.elim (fun z => (a6 j z).1) (fun z => by rw [z]; exact a2))⟩) (fun j hj z => (p4 j hj).2 (z.elim (fun z => (b7 j z).1) (fun z => by rw [z]; exact b2))) A
      refine yb_ap w _ _ _ _ _ _ _ (yb_Fm (fun _ z => .inl z) (fun _ z => .inl z) _ _ _ _ _ A') ?_
      rw [ea, eb]
      exact yb_Fm (fun _ z => .inr z) (fun _ z => .inr z) _ _ _ _ _ B
    · obtain ⟨t1, t2, _⟩ := O2.2.2.1 j (fun z => z.elim (fun z => (a6 j z).2.2 hj) (fun z => (a7 j hj).2 z))
      rw [t2]; exact ty j (a7 j hj).1
    · exact yc_outm (yc_outt O O2) (fun j z => z.elim id (fun z => z.elim (fun z => p1 j (a6 j z).1) (fun z => by rw [z]; exact p1 a a2))) (fun j z => z.elim id (fun z => z.elim (fun z => p2 j (b7 j z).1) (fun z => by rw [z]; exact p2 b b2)))
    · rw [ow', yc_oap]
      exact congrArg nI (Nat.add_assoc oc (yc_o w) (yc_o (.inner c kv () lc .leaf)))

theorem ys_kids {i k up d D D' kd oc : Nat} {kv : Int32 × Int32} {l : zt_T} {y : Int32} (hen : f_Jd_enter h (nI i) = some h1) (C : yb_cx LC LM nb nf sz F h1 g) (nd : yb_nd LC LM h1 g kd kv l i k up P Q y) (hkd : zt_km kd = kd ∧ 4 ≤ kd ∧ kd < 100 ∧ ¬ kd = 5 ∧ ¬ kd = 33 ∧ ¬ kd = 35) (LL : yc_L LC LM h1 g k (d + 1)) (Ph : ys_Ph l) (hPs : ∀ j, P j → j < sz) (ow : (h1.1 38 10) = nI oc) (hd : d + zg_d l ≤ 239) (hD : zg_d l ≤ D) (hD' : 2 * zg_d l < D') :
    (∃ h' g', f_Jd_visit (D + 1) h (nI i) (nI d) = some h' ∧ f_Mo_look (D' + 2) g (nI k) = some g' ∧ zv_Fb h1 g h' g' ∧ ¬ (h'.1 38 3) = 0 ∧ ¬ (g'.1 68 29) = 0) ∨
    (∃ h2 g2, f_Jd_visit (D + 1) h (nI i) (nI d) = f_Jd_leave h2 (nI i) ∧ f_Mo_look (D' + 2) g (nI k) = f_Mo_lookAlone_54 g2 (nI k) (nI kd) ∧ yc_out P Q h1 g h2 g2 ∧ yb_F F (nb - 1) h2 g2 P Q l ((h1.2.1 17) i) ((g.2.1 76) k) (-1) (-1) ∧ (h2.1 38 3) = 0 ∧ (g2.1 68 29) = 0 ∧ (h2.1 38 10) = nI (oc + yc_o l) ∧ zg_rc l) := by
  have hz := zF_big
  obtain ⟨⟨hi, hk, hPi, hQk, hP, hQ⟩, ⟨c0, c1, c2, c3, c4⟩, cC, ⟨m0, m1, m2, m3⟩, cM⟩ := id nd
  obtain ⟨k1, k2, k3, k4, k5, k6⟩ := hkd
  have hln := yb_ln nd hPs
  rw [k1] at m0
  have J1 : (h1.1 38 3) = 0 := C.1.2.2.2.2.2.2.2.1
  have J2 : (g.1 68 29) = 0 := C.1.2.2.2.2.2.2.2.2
  have hsz : sz < 100000 := by have := C.2.2.2.2; omega
  have eC := zv_vC (D := D) (d := d) (h := h) (i := i) (by omega) hi hen
  have eM := (zv_lM (D' := D') (g := g) (k := k) (kd := kd) hk k3 k6 m0).trans (zv_aM (D' := D') (g := g) (k := k) (kd := kd) hk k3 (.inr k2) m0)
  have S0 : ys_St LC LM nb F i k oc l P Q h1 g l h1 g ((h1.2.1 17) i) ((g.2.1 76) k) := ⟨.leaf, fun _ => False, fun _ => False, P, Q, y, (g.2.1 77) k, rfl, ⟨cC, cM⟩, ⟨fun _ z => z, fun _ z => z, fun _ z => z.elim, fun _ z => z.elim⟩, ⟨rfl, rfl⟩, c4, yc_out0, Ph, ⟨Nat.le_refl _, J1, J2⟩, ow, trivial⟩
  have stp : zv_stp D D' d sz (ys_St LC LM nb F i k oc l P Q h1 g) (zv_Fb h1 g) := by
    intro c kv w lc r h' g' x x' S
    exact ys_step C LL hk hP hPs hQ hd hD hD' S
  have hend : ∀ h' g' x x', ys_St LC LM nb F i k oc l P Q h1 g .leaf h' g' x x' → x = -1 ∧ x' = -1 := by
    intro h' g' x x' S
    obtain ⟨_, _, _, _, _, yu, yu', _, ⟨sC, sM⟩, _⟩ := S
    exact ⟨(show x = -1 ∧ yu = -1 from sC).1, (show x' = -1 ∧ yu' = -1 from sM).1⟩
  rcases zv_fold (i := i) (k := k) (kd := kd) (d := d) (by omega) hsz stp hend l 0 zF zF h1 g _ _ S0 (by omega) (by omega) (by omega) with ⟨h', g', a1, a2, a3, a4, a5⟩ | ⟨h', g', a1, a2, a3⟩
  · exact .inl ⟨h', g', by rw [eC, a1], by rw [eM, a2], a3, a4, a5⟩
  · right
    obtain ⟨w, Pw, Qw, Pu, Qu, yu, yu', e0, _, ⟨_, _, p3, p4⟩, A, _, O, _, ⟨_, n1, n2⟩, ow', rc⟩ := a1
    rw [zt_ap_leaf] at e0
    subst e0
    refine ⟨h', g', ?_, by rw [eM, a3], O, yb_Fm (fun j z => (p3 j z).1) (fun j z => (p4 j z).1) _ _ _ _ _ A, n1, n2, ow', rc⟩
    rw [eC, a2]
    unfold f_Jd_visit_74
    rw [if_pos n1, Option.bind_fun_some]
end YS
