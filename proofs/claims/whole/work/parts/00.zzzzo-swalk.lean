/-! The judge: statements: what is given, what comes out; the children one after the other. -/
abbrev yc_f : List (Nat × Nat) := [(38, 7), (38, 8), (38, 9), (38, 10), (38, 12)]
abbrev yc_m : List Nat := [13, 14, 16, 17, 39]
abbrev yc_g : List Nat := [100, 101, 102]
/-- how many cells a body has of its own -/
def yc_o : zt_T → Nat
  | .leaf => 0
  | .inner kd kv _ l r => (if kd = 16 ∨ kd = 19 then 1 else if kd = 22 then 156 else if kd = 25 ∧ 2 ≤ kv.2 then 1 else 0) + yc_o l + yc_o r
theorem yc_oap : ∀ t u, yc_o (zt_ap t u) = yc_o t + yc_o u := by
  intro t u
  induction t with
  | leaf => show yc_o u = 0 + yc_o u; omega
  | inner kd kv o l r ihl ihr =>
    show (if kd = 16 ∨ kd = 19 then 1 else if kd = 22 then 156 else if kd = 25 ∧ 2 ≤ kv.2 then 1 else 0) + yc_o l + yc_o (zt_ap r u) = (if kd = 16 ∨ kd = 19 then 1 else if kd = 22 then 156 else if kd = 25 ∧ 2 ≤ kv.2 then 1 else 0) + yc_o l + yc_o r + yc_o u
    rw [ihr]; omega
theorem yc_oE : ∀ t, zg_ok t → yb_top t → yc_o t = 0 := by
  intro t
  induction t with
  | leaf => intro _ _; rfl
  | inner kd kv o l r ihl ihr =>
    intro ⟨⟨hA, hv⟩, okl, okr⟩ ⟨hE, tr⟩
    show (if kd = 16 ∨ kd = 19 then 1 else if kd = 22 then 156 else if kd = 25 ∧ 2 ≤ kv.2 then 1 else 0) + yc_o l + yc_o r = 0
    have cs : kd = 6 ∨ kd = 30 ∨ kd = 31 ∨ kd = 32 ∨ kd = 33 ∨ kd = 34 ∨ kd = 35 ∨ kd = 36 := by
      simp only [yb_E, List.mem_cons, List.not_mem_nil, or_false] at hE
      exact hE
    have hl : yc_o l = 0 := by
      rcases cs with e | e | e | e | e | e | e | e <;> subst e
      · rw [zv_nolf (kd := 6) (by decide +kernel) hA]; rfl
      · rw [zv_nolf (kd := 30) (by decide +kernel) hA]; rfl
      · rw [zv_nolf (kd := 31) (by decide +kernel) hA]; rfl
      · obtain ⟨c, kvc, o', lc, el, hc⟩ := yb_g1 (.inl rfl) hA
        exact ihl okl (by rw [el]; exact ⟨hc, trivial⟩)
      · obtain ⟨kvf, o', el⟩ := yb_g33 okl hA
        rw [el]; rfl
      · exact ihl okl (yb_g34 hA)
      · obtain ⟨c, kvc, o', lc, c2, kv2, o2, lc2, el, hc, hc2⟩ := yb_g2 hA
        exact ihl okl (by rw [el]; exact ⟨hc, hc2, trivial⟩)
      · obtain ⟨c, kvc, o', lc, el, hc⟩ := yb_g1 (.inr rfl) hA
        exact ihl okl (by rw [el]; exact ⟨hc, trivial⟩)
    rw [hl, ihr okr tr, if_neg (by omega), if_neg (by omega), if_neg (by omega)]
def yc_out (P Q : Nat → Prop) (h1 g1 h g : zs_H) : Prop := zfr yc_f yc_m [] h1 h ∧ zfr [] yc_g [] g1 g ∧ (∀ j, ¬ P j → (h.2.1 13) j = (h1.2.1 13) j ∧ (h.2.1 14) j = (h1.2.1 14) j ∧ (h.2.1 16) j = (h1.2.1 16) j ∧ (h.2.1 17) j = (h1.2.1 17) j) ∧ (∀ j, ¬ Q j → (g.2.1 100) j = (g1.2.1 100) j ∧ (g.2.1 101) j = (g1.2.1 101) j ∧ (g.2.1 102) j = (g1.2.1 102) j) ∧ (h.1 38 12) = (h1.1 38 12) ∧ (∀ n j, (h1.1 38 12) = nI n → n < 1000 → j < n → (h.2.1 39) j = (h1.2.1 39) j)
theorem yc_out0 {P Q : Nat → Prop} {h g : zs_H} : yc_out P Q h g h g := ⟨zfr_rfl, zfr_rfl, fun _ _ => ⟨rfl, rfl, rfl, rfl⟩, fun _ _ => ⟨rfl, rfl, rfl⟩, rfl, fun _ _ _ _ _ => rfl⟩
theorem yc_outb {P Q : Nat → Prop} {h1 g1 h g : zs_H} (a : yb_out P Q h1 g1 h g) : yc_out P Q h1 g1 h g := ⟨zfr_w a.1 (by decide) (by decide) (by decide), a.2.1, a.2.2.1, a.2.2.2, a.1.1 _ _ List.not_mem_nil, fun _ _ _ _ _ => by rw [a.1.2.1 _ (by decide)]⟩
theorem yc_outt {P Q P' Q' : Nat → Prop} {h1 g1 h2 g2 h g : zs_H} (a : yc_out P' Q' h1 g1 h2 g2) (b : yc_out P Q h2 g2 h g) : yc_out (fun j => P' j ∨ P j) (fun j => Q' j ∨ Q j) h1 g1 h g := by
  obtain ⟨a1, a2, a3, a4, a5, a6⟩ := a
  obtain ⟨b1, b2, b3, b4, b5, b6⟩ := b
  refine ⟨zfr_trans a1 b1, zfr_trans a2 b2, fun j hj => ?_, fun j hj => ?_, b5.trans a5, fun n j h1 h2 h3 => (b6 n j (a5.trans h1) h2 h3).trans (a6 n j h1 h2 h3)⟩
  · obtain ⟨x1, x2, x3, x4⟩ := a3 j (fun z => hj (.inl z))
    obtain ⟨y1, y2, y3, y4⟩ := b3 j (fun z => hj (.inr z))
    exact ⟨y1.trans x1, y2.trans x2, y3.trans x3, y4.trans x4⟩
  · obtain ⟨x1, x2, x3⟩ := a4 j (fun z => hj (.inl z))
    obtain ⟨y1, y2, y3⟩ := b4 j (fun z => hj (.inr z))
    exact ⟨y1.trans x1, y2.trans x2, y3.trans x3⟩
theorem yc_outm {P Q P' Q' : Nat → Prop} {h1 g1 h g : zs_H} (a : yc_out P Q h1 g1 h g) (hP : ∀ j, P j → P' j) (hQ : ∀ j, Q j → Q' j) : yc_out P' Q' h1 g1 h g := ⟨a.1, a.2.1, fun j hj => a.2.2.1 j (fun z => hj (hP j z)), fun j hj => a.2.2.2.1 j (fun z => hj (hQ j z)), a.2.2.2.2⟩
section YCO
variable {LC LM : List (List Int32)} {nb nf sz : Nat} {F : Nat → Nat} {h1 g1 h g h' g' : zs_H} {P Q : Nat → Prop}
theorem yc_cxf (C : yb_cx LC LM nb nf sz F h1 g1) (f1 : zfr yc_f yc_m [] h1 h) (f2 : zfr [] yc_g [] g1 g) : yb_cx LC LM nb nf sz F h g := by
  obtain ⟨I, si, hb, hs, hs2⟩ := C
  refine ⟨zv_Ifr I (zfr_w f1 (by decide) (by decide) (by decide)) (zfr_w f2 (by decide) (by decide) (by decide)), fun v hv hh => ?_, hb, (f1.1 _ _ (by decide)).trans hs, hs2⟩
  rw [f1.2.1 _ (by decide)] at hh ⊢
  exact si v hv hh
theorem yc_Lf {p d : Nat} (L : yc_L LC LM h g p d) (hd : d < 1000) (O : yc_out P Q h g h' g') : yc_L LC LM h' g' p d := by
  obtain ⟨m, L, l1, l2, l3, l4, l5⟩ := L
  refine ⟨m, L, l1, yc_Af l2 (O.2.1.2.1 _ (by decide)) (O.2.1.2.1 _ (by decide)) (O.2.1.2.1 _ (by decide)), O.2.2.2.2.1.trans l3, l4, fun j hj => ?_⟩
  rw [O.2.2.2.2.2 L.length (L.length - 1 - j) l3 (by omega) (by omega)]
  exact l5 j hj
theorem yc_keep {Pw Qw P1 Q1 : Nat → Prop} (C : yb_cx LC LM nb nf sz F h g) (O : yc_out P1 Q1 h g h' g') (hP : ∀ j, Pw j → j < 32784 ∧ ¬ P1 j) (hQ : ∀ j, Qw j → ¬ Q1 j) {t : zt_T} {x x' e e' : Int32} (A : yb_F F (nb - 1) h g Pw Qw t x x' e e') : yb_F F (nb - 1) h' g' Pw Qw t x x' e e' := by
  obtain ⟨f1, f2, o1, o2, _⟩ := O
  refine yb_Ff ⟨fun j hj => ?_, fun j hj => ?_, fun j _ => ⟨?_, ?_, ?_, ?_, ?_⟩, fun b _ => ?_, yb_bF C⟩ _ _ _ _ _ A
  · obtain ⟨a1, a2, a3, a4⟩ := o1 j (hP j hj).2
    exact ⟨(hP j hj).1, a1, a2, a3, a4, by rw [f1.2.1 _ (by decide)]⟩
  · obtain ⟨a1, a2, a3⟩ := o2 j (hQ j hj)
    exact ⟨a1, fun _ _ => a2, fun _ => a3, by rw [f2.2.1 _ (by decide)], by rw [f2.2.1 _ (by decide)], by rw [f2.2.1 _ (by decide)]⟩
  · rw [f1.2.1 _ (by decide)]
  · rw [f1.2.1 _ (by decide)]
  · rw [f1.2.1 _ (by decide)]
  · rw [f1.2.1 _ (by decide)]
  · rw [f1.2.1 _ (by decide)]
  · rw [f1.2.1 _ (by decide)]
theorem yc_keepC {Pu P1 Q1 : Nat → Prop} (O : yc_out P1 Q1 h g h' g') (hP : ∀ j, Pu j → ¬ P1 j) {t : zt_T} {x y : Int32} (A : zt_C h t Pu x y) : zt_C h' t Pu x y := by
  obtain ⟨f1, f2, o1, o2, _⟩ := O
  refine zt_fr t Pu Pu 0 x y (fun i hi => ?_) (fun i hi => hi) A
  obtain ⟨a1, a2, a3, a4⟩ := o1 i (hP i hi)
  exact ⟨fun kd k up z hz => by unfold zt_NC at hz ⊢; rw [a1, a3, f1.2.1 15 (by decide)]; exact hz, a4, by rw [f1.2.1 _ (by decide)]⟩
end YCO
/-- EXITs that are in no loop here -/
def zg_x : zt_T → Nat
  | .leaf => 0
  | .inner kd _ _ l r => (if kd = 20 then 1 else if kd = 11 ∨ kd = 15 ∨ kd = 16 ∨ kd = 17 then zg_x l else 0) + zg_x r
theorem zg_xap : ∀ t u, zg_x (zt_ap t u) = zg_x t + zg_x u := by
  intro t u
  induction t with
  | leaf => show zg_x u = 0 + zg_x u; omega
  | inner kd kv o l r _ ihr =>
    show (if kd = 20 then 1 else if kd = 11 ∨ kd = 15 ∨ kd = 16 ∨ kd = 17 then zg_x l else 0) + zg_x (zt_ap r u) = (if kd = 20 then 1 else if kd = 11 ∨ kd = 15 ∨ kd = 16 ∨ kd = 17 then zg_x l else 0) + zg_x r + zg_x u
    rw [ihr, Nat.add_assoc]
theorem zg_xl {kd : Nat} {kv : Int32 × Int32} {o : Unit} {l : zt_T} (h : ¬ kd = 20) (e : zg_x l = 0) : zg_x (.inner kd kv o l .leaf) = 0 := by
  show (if kd = 20 then 1 else if kd = 11 ∨ kd = 15 ∨ kd = 16 ∨ kd = 17 then zg_x l else 0) + 0 = 0
  rw [if_neg h, e, ite_self]
theorem zg_xE {kd : Nat} {kv : Int32 × Int32} {o : Unit} {l : zt_T} (h : kd ∈ yb_E) : zg_x (.inner kd kv o l .leaf) = 0 := by
  have ce : ∀ z, z ∈ yb_E → (¬ z = 20 ∧ ¬ (z = 11 ∨ z = 15 ∨ z = 16 ∨ z = 17)) := by decide
  obtain ⟨q1, q2⟩ := ce kd h
  show (if kd = 20 then 1 else if kd = 11 ∨ kd = 15 ∨ kd = 16 ∨ kd = 17 then zg_x l else 0) + 0 = 0
  rw [if_neg q1, if_neg q2]
/-- how many cells a row has -/
def yl_n : zt_T → Nat
  | .leaf => 0
  | .inner kd _ _ _ r => (if kd = 29 then 0 else 1) + yl_n r
def yl_ns : zt_T → List Nat
  | .leaf => []
  | .inner _ _ _ l r => yl_n l :: yl_ns r
/-- no coil in a row; a coil at its end alone -/
def zg_n8 : zt_T → Prop
  | .leaf => True
  | .inner kd _ _ _ r => ¬ kd = 28 ∧ zg_n8 r
def zg_cl : zt_T → Prop
  | .leaf => True
  | .inner kd _ _ _ r => (kd = 28 → r = .leaf) ∧ zg_cl r
def zg_rc : zt_T → Prop
  | .leaf => True
  | .inner _ _ _ l r => zg_cl l ∧ zg_rc r
theorem zg_clap : ∀ w : zt_T, zg_n8 w → ∀ (c : Nat) (kv : Int32 × Int32) (o : Unit) (lc : zt_T), zg_cl (zt_ap w (.inner c kv o lc .leaf)) := by
  intro w
  induction w with
  | leaf => intro _ c kv o lc; exact ⟨fun _ => rfl, trivial⟩
  | inner kd k v l r _ ihr => intro ⟨h1, h2⟩ c kv o lc; exact ⟨fun z => absurd z h1, ihr h2 c kv o lc⟩
theorem zg_n8ap : ∀ w : zt_T, zg_n8 w → ∀ (c : Nat) (kv : Int32 × Int32) (o : Unit) (lc : zt_T), ¬ c = 28 → zg_n8 (zt_ap w (.inner c kv o lc .leaf)) := by
  intro w
  induction w with
  | leaf => intro _ c kv o lc h; exact ⟨h, trivial⟩
  | inner kd k v l r _ ihr => intro ⟨h1, h2⟩ c kv o lc h; exact ⟨h1, ihr h2 c kv o lc h⟩
theorem zg_rcap : ∀ w u : zt_T, zg_rc w → zg_rc u → zg_rc (zt_ap w u) := by
  intro w
  induction w with
  | leaf => intro u _ h; exact h
  | inner kd k v l r _ ihr => intro u ⟨h1, h2⟩ h; exact ⟨h1, ihr u h2 h⟩
/-- the form of a rung -/
def zg_ro (l : zt_T) : Prop := zg_rc l ∧ zt_ln l ≤ 12 ∧ ∃ n0, n0 ≤ 12 ∧ ∀ n, n ∈ yl_ns l → n = n0
def zg_ru : zt_T → Prop
  | .leaf => True
  | .inner kd _ _ l r => (if kd = 23 then zg_ro l else if kd = 22 then zg_ru l else True) ∧ zg_ru r
theorem zg_ruE {kd : Nat} {kv : Int32 × Int32} {o : Unit} {l : zt_T} (h1 : ¬ kd = 23) (h2 : ¬ kd = 22) : zg_ru (.inner kd kv o l .leaf) := by
  refine ⟨?_, trivial⟩
  rw [if_neg h1, if_neg h2]
  trivial
theorem zg_ruap : ∀ w u : zt_T, zg_ru w → zg_ru u → zg_ru (zt_ap w u) := by
  intro w
  induction w with
  | leaf => intro u _ h; exact h
  | inner kd k v l r _ ihr => intro u ⟨h1, h2⟩ h; exact ⟨h1, ihr u h2 h⟩
/-- the own cells are counted; no EXIT without a loop; all rungs have their form -/
def yc_ow (h h' : zs_H) (oc : Nat) (t : zt_T) : Prop := (h'.1 38 10) = nI (oc + yc_o t) ∧ ((h.1 38 12) = 0 → zg_x t = 0) ∧ zg_ru t
def yc_ok (F : Nat → Nat) (bb kd : Nat) (kv : Int32 × Int32) (l : zt_T) (i k : Nat) (P Q : Nat → Prop) (h g h' g' : zs_H) : Prop := yc_out (fun j => P j ∨ j = i) (fun j => Q j ∨ j = k) h g h' g' ∧ yb_F F bb h' g' (fun j => P j ∨ j = i) (fun j => Q j ∨ j = k) (.inner kd kv () l .leaf) (nI i) (nI k) ((h'.2.1 18) i) ((g'.2.1 78) k)
/-- this statement can be visited, wherever it stands -/
def yc_VN (kd : Nat) (kv : Int32 × Int32) (l : zt_T) : Prop := ∀ (LC LM : List (List Int32)) (nb nf sz : Nat) (F : Nat → Nat) (h g : zs_H) (i k up d D D' oc : Nat) (P Q : Nat → Prop) (y : Int32), yb_cx LC LM nb nf sz F h g → yb_nd LC LM h g kd kv l i k up P Q y → up < 33500 → yc_L LC LM h g up d → (∀ j, P j → j < sz) → (h.1 38 10) = nI oc → d + zg_d l ≤ 239 → zg_d l < D → 2 * zg_d l + 2 < D' →
  ∃ h' g', f_Jd_visit D h (nI i) (nI d) = some h' ∧ f_Mo_look D' g (nI k) = some g' ∧ ((zv_Fb h g h' g' ∧ ¬ (h'.1 38 3) = 0 ∧ ¬ (g'.1 68 29) = 0) ∨ (yc_ok F (nb - 1) kd kv l i k P Q h g h' g' ∧ (h'.1 38 3) = 0 ∧ (g'.1 68 29) = 0 ∧ yc_ow h h' oc (.inner kd kv () l .leaf)))
/-- all trees of a forest can be visited -/
def yc_Ph : zt_T → Prop
  | .leaf => True
  | .inner kd kv _ l r => ((kd ∈ yb_E ∧ yb_VN kd kv l ∧ yc_o l = 0) ∨ yc_VN kd kv l) ∧ yc_Ph r
/-- the state of the walk through the children -/
def yc_St (LC LM : List (List Int32)) (nb : Nat) (F : Nat → Nat) (i k oc : Nat) (l : zt_T) (P Q : Nat → Prop) (h1 g1 : zs_H) (u : zt_T) (h g : zs_H) (x x' : Int32) : Prop :=
  ∃ (w : zt_T) (Pw Qw Pu Qu : Nat → Prop) (yu yu' : Int32), l = zt_ap w u ∧ (zt_C h u Pu x yu ∧ zt_M LC LM g u Qu (nI k) x' yu') ∧ ((∀ j, Pu j → P j) ∧ (∀ j, Qu j → Q j) ∧ (∀ j, Pw j → P j ∧ ¬ Pu j) ∧ (∀ j, Qw j → Q j ∧ ¬ Qu j)) ∧ yb_F F (nb - 1) h g Pw Qw w ((h1.2.1 17) i) ((g1.2.1 76) k) x x' ∧ (∀ j, Pu j → (h.2.1 14) j = 0) ∧ yc_out P Q h1 g1 h g ∧ yc_Ph u ∧ (zg_d u ≤ zg_d l ∧ (h.1 38 3) = 0 ∧ (g.1 68 29) = 0) ∧ yc_ow h1 h oc w
section YCS
variable {LC LM : List (List Int32)} {nb nf sz : Nat} {F : Nat → Nat} {h1 g1 h g h' g' : zs_H} {P Q : Nat → Prop}
theorem yc_step {i k ku d D D' c oc : Nat} {l lc r : zt_T} {kv : Int32 × Int32} {o : Unit} {x x' : Int32} (C : yb_cx LC LM nb nf sz F h1 g1) (LL : yc_L LC LM h1 g1 k (d + 1)) (hk : k < 33500) (hP : ∀ j, P j → j < 32784) (hPs : ∀ j, P j → j < sz) (hQ : ∀ j, Q j → j < 33500) (m1 : (g1.2.1 72) k = nI ku) (hku : ku < 100) (h5 : ¬ ku = 5) (h33 : ¬ ku = 33) (hd : d + zg_d l ≤ 239) (hD : zg_d l ≤ D) (hD' : 2 * zg_d l < D') (S : yc_St LC LM nb F i k oc l P Q h1 g1 (.inner c kv o lc r) h g x x') :
    zv_res D D' d sz h1 g1 (yc_St LC LM nb F i k oc l P Q h1 g1 r) h g x x' := by
  obtain ⟨w, Pw, Qw, Pu, Qu, yu, yu', e0, ⟨sC, sM⟩, ⟨p1, p2, p3, p4⟩, A, ty, O, ⟨VN, Ph⟩, ⟨zd, J1, J2⟩, ow⟩ := S
  have C2 : yb_cx LC LM nb nf sz F h g := yc_cxf C O.1 O.2.1
  have zd' : max (zg_d lc + 1) (zg_d r) ≤ zg_d l := Nat.le_trans zg_d1 zd
  obtain ⟨a, P1, P2, z1, z2, ea, a1, a2, a3, a4, a5, a6, a7, a8, a9, a10⟩ := zv_hC sC
  obtain ⟨b, Q1, Q2, z3, eb, b1, b2, b3, b4, b5, b6, b7, b8, b9, b10, b11⟩ := zv_hM sM
  have ha := hP a (p1 a a2)
  have hbb := hQ b (p2 b b2)
  have nd : yb_nd LC LM h g c kv lc a b k P1 Q1 z1 := ⟨⟨ha, hbb, fun z => (a6 a z).2.1 rfl, fun z => (b7 b z).2.1 rfl, fun j hj => hP j (p1 j (a6 j hj).1), fun j hj => hQ j (p2 j (b7 j hj).1)⟩, ⟨a3, a4, a5, ty a a2, fun j hj => ty j (a6 j hj).1⟩, a8, ⟨b3, b4, b5, b6⟩, b9⟩
  -- both kinds of children
  have V : ∃ h' g', f_Jd_visit D h (nI a) (nI (d + 1)) = some h' ∧ f_Mo_look D' g (nI b) = some g' ∧ ((zv_Fb h g h' g' ∧ ¬ (h'.1 38 3) = 0 ∧ ¬ (g'.1 68 29) = 0) ∨ (yc_ok F (nb - 1) c kv lc a b P1 Q1 h g h' g' ∧ (h'.1 38 3) = 0 ∧ (g'.1 68 29) = 0 ∧ yc_ow h h' (oc + yc_o w) (.inner c kv () lc .leaf))) := by
    rcases VN with ⟨cE, VN, zo⟩ | VN
    · obtain ⟨D', rfl⟩ : ∃ z, D' = z + 1 := ⟨D' - 1, by omega⟩
      obtain ⟨h', g', v1, v2, v3⟩ := VN LC LM nb nf sz F h g a b k ku (d + 1) D D' P1 Q1 z1 C2 nd hk (by rw [O.2.1.2.1 _ (by decide)]; exact m1) hku h5 h33 (fun j hj => hPs j (p1 j (a6 j hj).1)) (by omega) (by omega) (by omega)
      refine ⟨h', g', v1, yb_lk1 hbb (fun z => (b7 b z).2.1 rfl) (by omega) v2, ?_⟩
      rcases v3 with v3 | ⟨⟨O2, B⟩, n1, n2⟩
      · exact .inl v3
      · have ce : ∀ z, z ∈ yb_E → (¬ z = 16 ∧ ¬ z = 19 ∧ ¬ z = 22 ∧ ¬ z = 25) := by decide
        obtain ⟨q1, q2, q3, q4⟩ := ce c cE
        have ez : yc_o (.inner c kv () lc .leaf) = 0 := by
          show (if c = 16 ∨ c = 19 then 1 else if c = 22 then 156 else if c = 25 ∧ 2 ≤ kv.2 then 1 else 0) + yc_o lc + 0 = 0
          rw [zo, if_neg (by omega), if_neg q3, if_neg (fun z => q4 z.1)]
        exact .inr ⟨⟨yc_outb O2, B⟩, n1, n2, by rw [O2.1.1 _ _ List.not_mem_nil, ow.1, ez]; rfl, fun _ => zg_xE cE, zg_ruE (fun z => by rw [z] at cE; exact absurd cE (by decide)) q3⟩
    · obtain ⟨h', g', v1, v2, v3⟩ := VN LC LM nb nf sz F h g a b k (d + 1) D D' (oc + yc_o w) P1 Q1 z1 C2 nd hk (yc_Lf LL (by omega) O) (fun j hj => hPs j (p1 j (a6 j hj).1)) ow.1 (by omega) (by omega) (by omega)
      exact ⟨h', g', v1, v2, v3⟩
  obtain ⟨h', g', v1, v2, v3⟩ := V
  refine ⟨a, b, ea, ha, eb, hbb, J1, J2, C2.2.2.2.1, h', g', v1, v2, ?_⟩
  rcases v3 with ⟨⟨X, f1, f2⟩, n1, n2⟩ | ⟨⟨O2, B⟩, n1, n2, ow'⟩
  · exact .inl ⟨⟨X, zfr_trans (zfr_w O.1 (by decide) (by decide) (by decide)) f1, zfr_trans (zfr_w O.2.1 (by decide) (by decide) (by decide)) f2⟩, n1, n2⟩
  · right
    have nx : (h'.2.1 18) a = (h.2.1 18) a := by rw [O2.1.2.1 _ (by decide)]
    have nb' : (g'.2.1 78) b = (g.2.1 78) b := by rw [O2.2.1.2.1 _ (by decide)]
    refine ⟨zt_ap w (.inner c kv o lc .leaf), fun j => Pw j ∨ (P1 j ∨ j = a), fun j => Qw j ∨ (Q1 j ∨ j = b), P2, Q2, z2, z3, ?_, ⟨?_, ?_⟩, ⟨fun j hj => p1 j (a7 j hj).1, fun j hj => p2 j (b8 j hj).1, fun j hj => ?_, fun j hj => ?_⟩, ?_, fun j hj => ?_, ?_, Ph, ⟨by omega, n1, n2⟩, ?_⟩
    · rw [zt_ap_as]; exact e0
    · rw [nx]
      exact yc_keepC O2 (fun j hj z => z.elim (fun z => (a6 j z).2.2 hj) (fun z => (a7 j hj).2 z)) a9
    · rw [nb']
      exact yb_keepM O2.2.1 b10
    · rcases hj with z | z | z
      · exact ⟨(p3 j z).1, fun u => (p3 j z).2 (a7 j u).1⟩
      · exact ⟨p1 j (a6 j z).1, (a6 j z).2.2⟩
      · exact ⟨by rw [z]; exact p1 a a2, fun u => (a7 j u).2 z⟩
    · rcases hj with z | z | z
      · exact ⟨(p4 j z).1, fun u => (p4 j z).2 (b8 j u).1⟩
      · exact ⟨p2 j (b7 j z).1, (b7 j z).2.2⟩
      · exact ⟨by rw [z]; exact p2 b b2, fun u => (b8 j u).2 z⟩
    · have A' := yc_keep C2 O2 (fun j hj => ⟨hP j (p3 j hj).1, fun z => (p3 j hj).2 (z.elim (fun z => (a6 j z).1) (fun z => by rw [z]; exact a2))⟩) (fun j hj z => (p4 j hj).2 (z.elim (fun z => (b7 j z).1) (fun z => by rw [z]; exact b2))) A
      refine yb_ap w _ _ _ _ _ _ _ (yb_Fm (fun _ z => .inl z) (fun _ z => .inl z) _ _ _ _ _ A') ?_
      rw [ea, eb]
      exact yb_Fm (fun _ z => .inr z) (fun _ z => .inr z) _ _ _ _ _ B
    · obtain ⟨t1, t2, _⟩ := O2.2.2.1 j (fun z => z.elim (fun z => (a6 j z).2.2 hj) (fun z => (a7 j hj).2 z))
      rw [t2]; exact ty j (a7 j hj).1
    · exact yc_outm (yc_outt O O2) (fun j z => z.elim id (fun z => z.elim (fun z => p1 j (a6 j z).1) (fun z => by rw [z]; exact p1 a a2))) (fun j z => z.elim id (fun z => z.elim (fun z => p2 j (b7 j z).1) (fun z => by rw [z]; exact p2 b b2)))
    · refine ⟨?_, fun z => ?_, zg_ruap _ _ ow.2.2 ow'.2.2⟩
      · rw [ow'.1, yc_oap]
        exact congrArg nI (Nat.add_assoc oc (yc_o w) (yc_o (.inner c kv () lc .leaf)))
      · rw [zg_xap, ow.2.1 z, ow'.2.1 (O.2.2.2.2.1.trans z)]
/-- the children of a statement -/
theorem yc_kids {i k up d D D' kd oc : Nat} {kv : Int32 × Int32} {l : zt_T} {y : Int32} (hen : f_Jd_enter h (nI i) = some h1) (C : yb_cx LC LM nb nf sz F h1 g) (nd : yb_nd LC LM h1 g kd kv l i k up P Q y) (hkd : zt_km kd = kd ∧ 4 ≤ kd ∧ kd < 100 ∧ ¬ kd = 5 ∧ ¬ kd = 33 ∧ ¬ kd = 35) (LL : yc_L LC LM h1 g k (d + 1)) (Ph : yc_Ph l) (hPs : ∀ j, P j → j < sz) (ow : (h1.1 38 10) = nI oc) (hd : d + zg_d l ≤ 239) (hD : zg_d l ≤ D) (hD' : 2 * zg_d l < D') :
    (∃ h' g', f_Jd_visit (D + 1) h (nI i) (nI d) = some h' ∧ f_Mo_look (D' + 2) g (nI k) = some g' ∧ zv_Fb h1 g h' g' ∧ ¬ (h'.1 38 3) = 0 ∧ ¬ (g'.1 68 29) = 0) ∨
    (∃ h2 g2, f_Jd_visit (D + 1) h (nI i) (nI d) = f_Jd_leave h2 (nI i) ∧ f_Mo_look (D' + 2) g (nI k) = f_Mo_lookAlone_54 g2 (nI k) (nI kd) ∧ yc_out P Q h1 g h2 g2 ∧ yb_F F (nb - 1) h2 g2 P Q l ((h1.2.1 17) i) ((g.2.1 76) k) (-1) (-1) ∧ (h2.1 38 3) = 0 ∧ (g2.1 68 29) = 0 ∧ yc_ow h1 h2 oc l) := by
  have hz := zF_big
  obtain ⟨⟨hi, hk, hPi, hQk, hP, hQ⟩, ⟨c0, c1, c2, c3, c4⟩, cC, ⟨m0, m1, m2, m3⟩, cM⟩ := id nd
  obtain ⟨k1, k2, k3, k4, k5, k6⟩ := hkd
  have hln := yb_ln nd hPs
  rw [k1] at m0
  have J1 : (h1.1 38 3) = 0 := C.1.2.2.2.2.2.2.2.1
  have J2 : (g.1 68 29) = 0 := C.1.2.2.2.2.2.2.2.2
  have hsz : sz < 100000 := by have := C.2.2.2.2; omega
  have eC := zv_vC (D := D) (d := d) (h := h) (i := i) (by omega) hi hen
  have eM := (zv_lM (D' := D') (g := g) (k := k) (kd := kd) hk k3 k6 m0).trans (zv_aM (D' := D') (g := g) (k := k) (kd := kd) hk k3 (.inr k2) m0)
  have S0 : yc_St LC LM nb F i k oc l P Q h1 g l h1 g ((h1.2.1 17) i) ((g.2.1 76) k) := ⟨.leaf, fun _ => False, fun _ => False, P, Q, y, (g.2.1 77) k, rfl, ⟨cC, cM⟩, ⟨fun _ z => z, fun _ z => z, fun _ z => z.elim, fun _ z => z.elim⟩, ⟨rfl, rfl⟩, c4, yc_out0, Ph, ⟨Nat.le_refl _, J1, J2⟩, ow, fun _ => rfl, trivial⟩
  have stp : zv_stp D D' d sz (yc_St LC LM nb F i k oc l P Q h1 g) (zv_Fb h1 g) := by
    intro c kv w lc r h' g' x x' S
    exact yc_step C LL hk hP hPs hQ m0 k3 k4 k5 hd hD hD' S
  have hend : ∀ h' g' x x', yc_St LC LM nb F i k oc l P Q h1 g .leaf h' g' x x' → x = -1 ∧ x' = -1 := by
    intro h' g' x x' S
    obtain ⟨_, _, _, _, _, yu, yu', _, ⟨sC, sM⟩, _⟩ := S
    exact ⟨(show x = -1 ∧ yu = -1 from sC).1, (show x' = -1 ∧ yu' = -1 from sM).1⟩
  rcases zv_fold (i := i) (k := k) (kd := kd) (d := d) (by omega) hsz stp hend l 0 zF zF h1 g _ _ S0 (by omega) (by omega) (by omega) with ⟨h', g', a1, a2, a3, a4, a5⟩ | ⟨h', g', a1, a2, a3⟩
  · exact .inl ⟨h', g', by rw [eC, a1], by rw [eM, a2], a3, a4, a5⟩
  · right
    obtain ⟨w, Pw, Qw, Pu, Qu, yu, yu', e0, _, ⟨_, _, p3, p4⟩, A, _, O, _, ⟨_, n1, n2⟩, ow'⟩ := a1
    rw [zt_ap_leaf] at e0
    subst e0
    refine ⟨h', g', ?_, by rw [eM, a3], O, yb_Fm (fun j z => (p3 j z).1) (fun j z => (p4 j z).1) _ _ _ _ _ A, n1, n2, ow'⟩
    rw [eC, a2]
    unfold f_Jd_visit_74
    rw [if_pos n1, Option.bind_fun_some]
end YCS
