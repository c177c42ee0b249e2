/-! The judge: the walk through a block. -/
def yg_sk (nb : Nat) (h1 g1 h g : zs_H) : Prop := (h.2.1 21 = h1.2.1 21 ∧ (h.2.1 22 = h1.2.1 22 ∧ h.2.1 26 = h1.2.1 26 ∧ h.2.1 27 = h1.2.1 27) ∧ h.2.1 36 = h1.2.1 36 ∧ h.2.1 39 = h1.2.1 39) ∧ ((h.1 38 10) = (h1.1 38 10) ∧ (h.1 38 12) = (h1.1 38 12)) ∧ g.2.1 84 = g1.2.1 84 ∧ ∀ b, b < nb - 1 → (h.2.1 25) (9 + b) = (h1.2.1 25) (9 + b)
theorem yg_skt {nb : Nat} {h1 g1 h g h' g' : zs_H} (a : yg_sk nb h1 g1 h g) (b : yg_sk nb h g h' g') : yg_sk nb h1 g1 h' g' := by
  obtain ⟨⟨a1, a2, a3, a4⟩, ⟨a5, a6⟩, a7, a8⟩ := a
  obtain ⟨⟨b1, b2, b3, b4⟩, ⟨b5, b6⟩, b7, b8⟩ := b
  exact ⟨⟨b1.trans a1, ⟨b2.1.trans a2.1, b2.2.1.trans a2.2.1, b2.2.2.trans a2.2.2⟩, b3.trans a3, b4.trans a4⟩, ⟨b5.trans a5, b6.trans a6⟩, b7.trans a7, fun b hb => (b8 b hb).trans (a8 b hb)⟩
/-- what holds up to the body -/
def yg_A (LC LM : List (List Int32)) (nb nf : Nat) (F : Nat → Nat) (P Q : Nat → Prop) (h1 g1 : zs_H) (F' : Nat → Nat) (h g : zs_H) : Prop := zv_I LC LM nb nf (F' nb) F' (-1) h g ∧ ((∀ j, ¬ j = nb → F' j = F j) ∧ F nb ≤ F' nb) ∧ (∃ y, y ≤ 4096 ∧ (h.2.1 25) (8 + nb) = nI y) ∧ zv_fr P Q h1 g1 h g ∧ yg_sk nb h1 g1 h g ∧ zv_vn (F (nb - 1)) ((h1.2.1 21) (8 + nb)) (F nb) (F' nb) h1 h
/-- before the body -/
def yg_SA (LC LM : List (List Int32)) (nb nf kd k : Nat) (F : Nat → Nat) (l : zt_T) (P Q : Nat → Prop) (y0 y0' : Int32) (h1 g1 : zs_H) (u : zt_T) (h g : zs_H) (x x' : Int32) : Prop :=
  ∃ (st : Nat) (w : zt_T) (Pu Qu : Nat → Prop) (yy yy' : Int32) (F' : Nat → Nat), (l = zt_ap w u ∧ yg_sd w ∧ zg_ok w) ∧ (zt_C h u Pu x yy ∧ zt_M LC LM g u Qu (nI k) x' yy') ∧ ((∀ j, Pu j → P j) ∧ (∀ j, Qu j → Q j)) ∧ (zg_ok u ∧ zg_A kd (zg_run kd st u) = true ∧ st ≤ 1 ∧ zg_d u ≤ zg_d l) ∧ yg_A LC LM nb nf F P Q h1 g1 F' h g ∧ F' nb + zg_c u ≤ F nb + zg_c l ∧ (∀ j, Pu j → (h.2.1 14) j = 0) ∧ (¬ u = .leaf → yy = y0 ∧ yy' = y0')
/-- behind the body -/
def yg_SB (LC LM : List (List Int32)) (nb nf : Nat) (F : Nat → Nat) (l : zt_T) (P Q : Nat → Prop) (y0 y0' : Int32) (h1 g1 : zs_H) (h g : zs_H) : Prop :=
  ∃ (w : zt_T) (F' : Nat → Nat) (hb gb : zs_H) (c : Nat) (kv : Int32 × Int32) (lb : zt_T) (a b : Nat) (P1 Q1 : Nat → Prop), (l = zt_ap w (.inner c kv () lb .leaf) ∧ yg_sd w ∧ zg_ok w) ∧ ((c = 11 ∨ c = 22) ∧ zg_A c (zg_run c 0 lb) = true ∧ zg_ok lb) ∧ (yg_A LC LM nb nf F P Q h1 g1 F' hb gb ∧ F' nb ≤ F nb + zg_c l) ∧ ((a < 32784 ∧ b < 33500 ∧ nI a = y0 ∧ nI b = y0') ∧ (P a ∧ Q b) ∧ (∀ j, P1 j → P j) ∧ (∀ j, Q1 j → Q j)) ∧ yc_ok F' (nb - 1) c kv lb a b P1 Q1 hb gb h g ∧ ((h.1 38 3) = 0 ∧ (g.1 68 29) = 0 ∧ (h.1 38 10) = nI (yc_o (.inner c kv () lb .leaf)) ∧ zg_x (.inner c kv () lb .leaf) = 0 ∧ zg_ru (.inner c kv () lb .leaf)) ∧ ((g.2.1 72) b = nI c ∧ (h.2.1 18) a = -1 ∧ (g.2.1 78) b = -1)
def yg_S (LC LM : List (List Int32)) (nb nf kd k : Nat) (F : Nat → Nat) (l : zt_T) (P Q : Nat → Prop) (y0 y0' : Int32) (h1 g1 : zs_H) (u : zt_T) (h g : zs_H) (x x' : Int32) : Prop := yg_SA LC LM nb nf kd k F l P Q y0 y0' h1 g1 u h g x x' ∨ (u = .leaf ∧ x = -1 ∧ x' = -1 ∧ yg_SB LC LM nb nf F l P Q y0 y0' h1 g1 h g)
theorem yg_Gn {N : Nat → Nat → Int32 × Int32 → Int32 → Int32 → Prop} {A B : Nat → Int32} : ∀ {t : zt_T} {P : Nat → Prop} {up x y : Int32}, ¬ t = .leaf → zt_G N A B t P up x y → ¬ y = -1 := by
  intro t
  cases t with
  | leaf => intro _ _ _ _ h; exact absurd rfl h
  | inner c kv o l r =>
    intro P up x y _ ⟨i, P1, P2, z1, z2, _, hi, hx, _, _, _, _, _, hy⟩ z
    rw [hy] at z
    split at z
    · rw [hx] at z; exact zc_m1 (show i < 2147483648 by omega) z
    · rename_i q; exact q z
/-- the rows of a block -/
theorem yg_row {kd st c : Nat} {kv : Int32 × Int32} {o : Unit} {lc r : zt_T} (hkd : kd = 1 ∨ kd = 2 ∨ kd = 3) (hst : st ≤ 1) (h : zg_A kd (zg_run kd st (.inner c kv o lc r)) = true) : ((c = 8 ∨ c = 4) ∧ ∃ st', st' ≤ 1 ∧ zg_A kd (zg_run kd st' r) = true) ∨ ((c = 11 ∨ c = 22) ∧ r = .leaf) := by
  have key : ∀ r ∈ zg_R, (r.1 = 1 ∨ r.1 = 2 ∨ r.1 = 3) → r.2.1 ≤ 1 → ∀ c ∈ r.2.2.1, ((c = 8 ∨ c = 4) ∧ r.2.2.2 ≤ 1) ∨ ((c = 11 ∨ c = 22) ∧ r.2.2.2 = 2) := by decide +kernel
  have key2 : ∀ r ∈ zg_R, (r.1 = 1 ∨ r.1 = 2 ∨ r.1 = 3) → ¬ r.2.1 = 2 := by decide +kernel
  obtain ⟨cs, to, m1, m2, m3⟩ := zv_qR (yb_run h)
  have h' : zg_A kd (zg_run kd to r) = true := by
    have : zg_run kd st (.inner c kv o lc r) = zg_run kd to r := by show zg_run kd (zg_q kd st c) r = _; rw [m3]
    rw [← this]; exact h
  rcases key _ m1 hkd hst c m2 with ⟨z1, z2⟩ | ⟨z1, z2⟩
  · exact .inl ⟨z1, to, z2, h'⟩
  · right
    refine ⟨z1, ?_⟩
    cases r with
    | leaf => rfl
    | inner c2 kv2 o2 lc2 r2 =>
      exfalso
      obtain ⟨cs, to', m1, _, _⟩ := zv_qR (yb_run h')
      exact key2 _ m1 hkd z2
section YGB
variable {LC LM : List (List Int32)} {nb nf kd k sz d D D' : Nat} {F : Nat → Nat} {l : zt_T} {P Q : Nat → Prop} {y0 y0' : Int32} {h1 g1 h g : zs_H} {x x' : Int32}
theorem yg_step {c t0 : Nat} {kv : Int32 × Int32} {o : Unit} {lc r : zt_T} (hbo : nf + 1 = nb) (hkd : kd = 1 ∨ kd = 2 ∨ kd = 3) (hP : ∀ j, P j → j < 32784 ∧ j < sz) (hQ : ∀ j, Q j → j < 33500) (hd0 : d ≤ 100) (hd : d + 1 + zg_d l ≤ 239) (hN : F nb + zg_c l ≤ 5900) (hk : k < 33500) (hs3 : 3 ≤ sz) (hsz2 : sz ≤ 32784) (hsz : (h1.1 12 6) = nI sz) (hD : 4 ≤ D ∧ zg_d l ≤ D) (hD' : 8 ≤ D' ∧ 2 * zg_d l < D') (si : zv_si (F nb) h1) (ht0 : t0 < 33500) (u1 : (g1.2.1 75) k = nI t0) (u2 : (g1.2.1 75) t0 = -1) (u3 : ¬ (g1.2.1 72) t0 = 19) (u4 : (g1.2.1 72) k = nI kd) (lp : (h1.1 38 12) = 0) (ow : (h1.1 38 10) = 0)
    (S : yg_S LC LM nb nf kd k F l P Q y0 y0' h1 g1 (.inner c kv o lc r) h g x x') : zv_res D D' d sz h1 g1 (yg_S LC LM nb nf kd k F l P Q y0 y0' h1 g1 r) h g x x' := by
  replace S : yg_SA LC LM nb nf kd k F l P Q y0 y0' h1 g1 (.inner c kv o lc r) h g x x' := by
    rcases S with S | ⟨z, _⟩
    · exact S
    · cases z
  obtain ⟨st, w, Pu, Qu, yy, yy', F', ⟨el, sw, okw⟩, ⟨sC, sM⟩, ⟨p1, p2⟩, ⟨⟨⟨hA, hv⟩, okl, okr⟩, gA, hst, zd⟩, AA, nc, ty, ey⟩ := S
  obtain ⟨I, ⟨F1, F2⟩, ⟨yv, y1, y2⟩, fr, sk, vn⟩ := AA
  have zd' : max (zg_d lc + 1) (zg_d r) ≤ zg_d l := Nat.le_trans zg_d1 zd
  have nc' : F' nb + ((if c = 37 then 1 else 0) + zg_c lc + zg_c r) ≤ F nb + zg_c l := nc
  have J1 : (h.1 38 3) = 0 := I.2.2.2.2.2.2.2.1
  have J2 : (g.1 68 29) = 0 := I.2.2.2.2.2.2.2.2
  have siz : (h.1 12 6) = nI sz := (fr.1.1 _ _ (by decide)).trans hsz
  obtain ⟨a, P1, P2, z1, z2, ea, _, a2, a3, a4, a5, a7, a8, a9'', a9, a10⟩ := zv_hC sC
  obtain ⟨b, Q1, Q2, z3, eb, _, b2, b3, b4, b5, b6, b7, b8, b9, b10, b11⟩ := zv_hM sM
  have ha := (hP a (p1 a a2)).1
  have hb := hQ b (p2 b b2)
  have eyr : ¬ r = .leaf → z2 = y0 ∧ z3 = y0' := by
    intro hr
    obtain ⟨q1, q2⟩ := ey (fun z => by cases z)
    rw [if_neg (yg_Gn hr a9)] at a10
    rw [if_neg (yg_Gn hr b10)] at b11
    exact ⟨a10.symm.trans q1, b11.symm.trans q2⟩
  have fbk : ∀ h' g', zv_Fb h g h' g' → zv_Fb h1 g1 h' g' := fun h' g' B => ⟨B.1, zfr_trans (zfr_w fr.1 (fun _ z => z) (by decide) (by decide)) B.2.1, zfr_trans fr.2.1 B.2.2⟩
  have elw : l = zt_ap (zt_ap w (.inner c kv o lc .leaf)) r := by rw [el, zt_ap_as]; rfl
  refine ⟨a, b, ea, ha, eb, hb, J1, J2, siz, ?_⟩
  rcases yg_row hkd hst gA with ⟨hc, st', hst', gA'⟩ | ⟨hc, er⟩
  · -- how the walk goes on
    have okw' : yg_sd (zt_ap w (.inner c kv o lc .leaf)) ∧ zg_ok (zt_ap w (.inner c kv o lc .leaf)) := by
      refine ⟨?_, zg_ok_ap _ _ okw ⟨⟨hA, hv⟩, okl, trivial⟩⟩
      have : ∀ t : zt_T, yg_sd t → yg_sd (zt_ap t (.inner c kv o lc .leaf)) := by
        intro t
        induction t with
        | leaf => intro _; exact ⟨by rcases hc with e | e <;> rw [e] <;> decide, trivial⟩
        | inner kd2 kv2 o2 l2 r2 _ ihr => intro q; exact ⟨q.1, ihr q.2⟩
      exact this w sw
    have go : ∀ (h' g' : zs_H) (F'' : Nat → Nat), yg_A LC LM nb nf F P Q h1 g1 F'' h' g' → F'' nb ≤ F' nb + zg_c lc → zv_fr P1 (fun j => Q1 j ∨ j = b) h g h' g' → yg_S LC LM nb nf kd k F l P Q y0 y0' h1 g1 r h' g' ((h'.2.1 18) a) ((g'.2.1 78) b) := by
      intro h' g' F'' AA' nn f'
      obtain ⟨k1, k2⟩ := zv_CM f' a9 b10
      refine .inl ⟨st', _, P2, Q2, z2, z3, F'', ⟨elw, okw'⟩, ⟨?_, ?_⟩, ⟨fun j z => p1 j (a8 j z).1, fun j z => p2 j (b8 j z).1⟩, ⟨okr, gA', hst', by omega⟩, AA', by omega, fun j z => ?_, eyr⟩
      · rw [f'.1.2.1 18 (by decide)]; exact k1
      · rw [f'.2.1.2.1 78 (by decide)]; exact k2
      · rw [f'.2.2.1 j (fun q => (a7 j q).2.2 z)]; exact ty j (a8 j z).1
    rcases hc with hc | hc <;> subst hc
    · -- the type of a FUNCTION
      have e0 : lc = .leaf := zv_nolf (kd := 8) (by decide +kernel) hA
      subst e0
      obtain ⟨D, rfl⟩ : ∃ z, D = z + 1 := ⟨D - 1, by omega⟩
      obtain ⟨D', rfl⟩ : ∃ z, D' = z + 2 := ⟨D' - 2, by omega⟩
      obtain ⟨r1, r2⟩ := zv_vType (D := D) (D' := D') (d := d + 1) (by omega) ha hb J1 J2 a3 (show (h.2.1 17) a = -1 ∧ z1 = -1 from a9'').1 b3 (show (g.2.1 76) b = -1 ∧ _ from b9).1 (show (g.2.1 74) b = kv.2 from b5)
      refine ⟨h, _, r1, r2, .inr ?_⟩
      have f' : zv_fr P1 (fun j => Q1 j ∨ j = b) h g h (zs_uM g 100 b kv.2) := ⟨zfr_rfl, zfr_M (by decide) zfr_rfl, fun _ _ => rfl, fun j hj => ⟨(yg_uM (h := g) j).trans (if_neg fun z => hj (.inr z)), rfl, rfl⟩⟩
      exact go _ _ F' ⟨zv_Ifr I zfr_rfl (zfr_M (by decide) zfr_rfl), ⟨F1, F2⟩, ⟨yv, y1, y2⟩, zv_frt fr (zv_frt f' zv_fr0 (fun j z => p1 j (a7 j z).1) (fun j z => by rcases z with z | z; exact p2 j (b7 j z).1; exact z ▸ p2 b b2)) (fun _ z => z) (fun _ z => z), yg_skt sk ⟨⟨rfl, ⟨rfl, rfl, rfl⟩, rfl, rfl⟩, ⟨rfl, rfl⟩, rfl, fun _ _ => rfl⟩, vn⟩ (Nat.le_add_right _ _) f'
    · -- a section
      obtain ⟨D, rfl⟩ : ∃ z, D = z + 4 := ⟨D - 4, by omega⟩
      obtain ⟨D', rfl⟩ : ∃ z, D' = z + 8 := ⟨D' - 8, by omega⟩
      obtain ⟨s, s1, s2⟩ : ∃ s, s < 3 ∧ kv.2 = nI s := by
        rcases hv with z | ⟨x, x1, x2, _⟩
        · exact absurd z (by decide)
        · exact ⟨x, x1, x2⟩
      obtain ⟨h', g', r1, r2, r3⟩ := zv_sectV (D := D) (D' := D') (d := d + 1) (p0 := kv.1) I hbo (by omega) (by omega) s1 ha hb (fun j hj => hP j (p1 j (a7 j hj).1)) (fun j hj => hQ j (p2 j (b7 j hj).1)) siz hs3 (by omega) a3 a4 (a5.trans s2) b3 (b4 (by decide)) ((show (g.2.1 74) b = kv.2 from b5).trans s2) a9'' b9 hA okl (fun j hj => ty j (a7 j hj).1) y2 y1
      refine ⟨h', g', r1, r2, ?_⟩
      rcases r3 with ⟨B, e4, e5⟩ | ⟨F'', hx, t1, t2, t3, t4, t5, t6, t7, t8, t9⟩
      · exact .inl ⟨fbk _ _ B, e4, e5⟩
      · right
        subst t5
        have f' : zv_fr P1 (fun j => Q1 j ∨ j = b) h g h' g' := ⟨zfr_trans (zfr_F (by decide) zfr_rfl) t6.1, t6.2.1, fun j hj => t6.2.2.1 j hj, fun j hj => t6.2.2.2 j (fun z => hj (.inl z))⟩
        obtain ⟨⟨k1, k2, k3, k4⟩, ⟨k5, k6, _⟩, k7, k8⟩ := t7
        refine go h' g' F'' ⟨t3, ⟨fun j hj => (t1 j hj).trans (F1 j hj), Nat.le_trans F2 t9⟩, t4, zv_frt fr (zv_frt f' zv_fr0 (fun j z => p1 j (a7 j z).1) (fun j z => by rcases z with z | z; exact p2 j (b7 j z).1; exact z ▸ p2 b b2)) (fun _ z => z) (fun _ z => z), yg_skt sk ⟨⟨k1, k2, k3, k4⟩, ⟨k5, k6⟩, k7, k8⟩, zv_vnt vn (by
          have e : ((zs_uF h 38 5 (nI s)).2.1 21) (8 + nb) = (h1.2.1 21) (8 + nb) := by rw [← sk.1.1]; rfl
          rw [e, F1 (nb - 1) (by omega)] at t8; exact t8) F2⟩ t2 f'
  · -- the body
    subst er
    have C : yb_cx LC LM nb nf sz F' h g := by
      refine ⟨I, fun v hv hs => ?_, by omega, siz, hsz2⟩
      by_cases q : v < F nb
      · obtain ⟨v1, v2, v3, _⟩ := vn.1 (32 + v) (by omega)
        rw [v3]
        exact si v q (by rw [← v2]; exact hs)
      · exact (vn.2 v (by omega) hv).2.1 hs
    have ekm : zt_km c = c := by rcases hc with e | e <;> rw [e] <;> rfl
    have nd : yb_nd LC LM h g c kv lc a b k P1 Q1 z1 := ⟨⟨ha, hb, fun z => (a7 a z).2.1 rfl, fun z => (b7 b z).2.1 rfl, fun j hj => (hP j (p1 j (a7 j hj).1)).1, fun j hj => hQ j (p2 j (b7 j hj).1)⟩, ⟨a3, a4, a5, ty a a2, fun j hj => ty j (a7 j hj).1⟩, a9'', ⟨b3, b4, b5, b6⟩, b9⟩
    have gk : ∀ z, ¬ z ∈ zv_mm → g.2.1 z = g1.2.1 z := fun z hz => fr.2.1.2.1 z hz
    have LL : yc_L LC LM h g k (d + 1) := by
      refine ⟨1, [], by omega, ⟨hk, t0, [], by rw [gk _ (by decide)]; exact u1, ⟨ht0, by rw [gk _ (by decide)]; exact u2, ?_⟩, ?_⟩, by rw [sk.2.1.2]; exact lp, Nat.zero_le _, fun j hj => absurd hj (Nat.not_lt_zero j)⟩
      · rw [if_neg (by rw [gk _ (by decide)]; exact u3)]
      · rw [if_neg (by rw [gk _ (by decide), u4]; intro z; have := (zc_eq (k := 19) (by decide) (by omega)).mp z; omega)]
    have ow' : (h.1 38 10) = nI 0 := sk.2.1.1.trans ow
    obtain ⟨h', g', r1, r2, r3⟩ := yc_body (kv := kv) hc hA okl LC LM nb nf sz F' h g a b k (d + 1) D D' 0 P1 Q1 z1 C nd hk LL (fun j hj => (hP j (p1 j (a7 j hj).1)).2) ow' (by omega) (by omega) (by omega)
    refine ⟨h', g', r1, r2, ?_⟩
    rcases r3 with ⟨B, e4, e5⟩ | ⟨ok, e4, e5, e6, e7, e8⟩
    · exact .inl ⟨fbk _ _ B, e4, e5⟩
    · right
      have nx : (h'.2.1 18) a = -1 := by rw [ok.1.1.2.1 _ (by decide)]; exact (show (h.2.1 18) a = -1 ∧ z2 = -1 from a9).1
      have bs : (g'.2.1 78) b = -1 := by rw [ok.1.2.1.2.1 _ (by decide)]; exact (show (g.2.1 78) b = -1 ∧ z3 = -1 from b10).1
      obtain ⟨q1, q2⟩ := ey (fun z => by cases z)
      rw [if_pos (show (h.2.1 18) a = -1 ∧ z2 = -1 from a9).2, ea] at a10
      rw [if_pos (show (g.2.1 78) b = -1 ∧ z3 = -1 from b10).2, eb] at b11
      rw [Nat.zero_add] at e6
      exact .inr ⟨rfl, nx, bs, w, F', h, g, c, kv, lc, a, b, P1, Q1, ⟨el, sw, okw⟩, ⟨hc, hA, okl⟩, ⟨⟨I, ⟨F1, F2⟩, ⟨yv, y1, y2⟩, fr, sk, vn⟩, by omega⟩, ⟨⟨ha, hb, a10.symm.trans q1, b11.symm.trans q2⟩, ⟨p1 a a2, p2 b b2⟩, fun j hj => p1 j (a7 j hj).1, fun j hj => p2 j (b7 j hj).1⟩, ok, ⟨e4, e5, e6, e7 (by rw [sk.2.1.2]; exact lp), e8⟩, by rw [ok.1.2.1.2.1 _ (by decide), b3, ekm], nx, bs⟩
end YGB
