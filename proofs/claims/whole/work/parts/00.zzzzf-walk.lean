/-! The judge: an expression is visited: what is given, what comes out; its children one after the other. -/
def yb_cx (LC LM : List (List Int32)) (nb nf sz : Nat) (F : Nat → Nat) (h g : zs_H) : Prop := zv_I LC LM nb nf (F nb) F (-1) h g ∧ zv_si (F nb) h ∧ 0 < nb ∧ (h.1 12 6) = nI sz ∧ sz ≤ 32784
/-- a node with what is below it, on both sides -/
def yb_nd (LC LM : List (List Int32)) (h g : zs_H) (kd : Nat) (kv : Int32 × Int32) (l : zt_T) (i k up : Nat) (P Q : Nat → Prop) (y : Int32) : Prop := (i < 32784 ∧ k < 33500 ∧ ¬ P i ∧ ¬ Q k ∧ (∀ j, P j → j < 32784) ∧ (∀ j, Q j → j < 33500)) ∧ ((h.2.1 13) i = nI kd ∧ (h.2.1 15) i = kv.1 ∧ (h.2.1 16) i = kv.2 ∧ (h.2.1 14) i = 0 ∧ ∀ j, P j → (h.2.1 14) j = 0) ∧ zt_C h l P ((h.2.1 17) i) y ∧ ((g.2.1 72) k = nI (zt_km kd) ∧ (¬ kd = 11 → (g.2.1 73) k = kv.1) ∧ (if zt_nk kd = true then zt_nr LC LM kv.2 ((g.2.1 74) k) else (g.2.1 74) k = kv.2) ∧ (g.2.1 75) k = nI up) ∧ zt_M LC LM g l Q (nI k) ((g.2.1 76) k) ((g.2.1 77) k)
/-- nothing else has been written -/
def yb_out (P Q : Nat → Prop) (h1 g1 h g : zs_H) : Prop := zfr [] [13, 14, 16, 17] [] h1 h ∧ zfr [] [100, 101, 102] [] g1 g ∧ (∀ j, ¬ P j → (h.2.1 13) j = (h1.2.1 13) j ∧ (h.2.1 14) j = (h1.2.1 14) j ∧ (h.2.1 16) j = (h1.2.1 16) j ∧ (h.2.1 17) j = (h1.2.1 17) j) ∧ (∀ j, ¬ Q j → (g.2.1 100) j = (g1.2.1 100) j ∧ (g.2.1 101) j = (g1.2.1 101) j ∧ (g.2.1 102) j = (g1.2.1 102) j)
theorem yb_out0 {P Q : Nat → Prop} {h g : zs_H} : yb_out P Q h g h g := ⟨zfr_rfl, zfr_rfl, fun _ _ => ⟨rfl, rfl, rfl, rfl⟩, fun _ _ => ⟨rfl, rfl, rfl⟩⟩
theorem yb_outt {P Q P' Q' : Nat → Prop} {h1 g1 h2 g2 h g : zs_H} (a : yb_out P' Q' h1 g1 h2 g2) (b : yb_out P Q h2 g2 h g) : yb_out (fun j => P' j ∨ P j) (fun j => Q' j ∨ Q j) h1 g1 h g := by
  obtain ⟨a1, a2, a3, a4⟩ := a
  obtain ⟨b1, b2, b3, b4⟩ := b
  refine ⟨zfr_trans a1 b1, zfr_trans a2 b2, fun j hj => ?_, fun j hj => ?_⟩
  · obtain ⟨x1, x2, x3, x4⟩ := a3 j (fun z => hj (.inl z))
    obtain ⟨y1, y2, y3, y4⟩ := b3 j (fun z => hj (.inr z))
    exact ⟨y1.trans x1, y2.trans x2, y3.trans x3, y4.trans x4⟩
  · obtain ⟨x1, x2, x3⟩ := a4 j (fun z => hj (.inl z))
    obtain ⟨y1, y2, y3⟩ := b4 j (fun z => hj (.inr z))
    exact ⟨y1.trans x1, y2.trans x2, y3.trans x3⟩
theorem yb_outm {P Q P' Q' : Nat → Prop} {h1 g1 h g : zs_H} (a : yb_out P Q h1 g1 h g) (hP : ∀ j, P j → P' j) (hQ : ∀ j, Q j → Q' j) : yb_out P' Q' h1 g1 h g := ⟨a.1, a.2.1, fun j hj => a.2.2.1 j (fun z => hj (hP j z)), fun j hj => a.2.2.2 j (fun z => hj (hQ j z))⟩
def yb_ok (F : Nat → Nat) (bb kd : Nat) (kv : Int32 × Int32) (l : zt_T) (i k : Nat) (P Q : Nat → Prop) (h g h' g' : zs_H) : Prop := yb_out (fun j => P j ∨ j = i) (fun j => Q j ∨ j = k) h g h' g' ∧ yb_F F bb h' g' (fun j => P j ∨ j = i) (fun j => Q j ∨ j = k) (.inner kd kv () l .leaf) (nI i) (nI k) ((h'.2.1 18) i) ((g'.2.1 78) k)
/-- this node can be visited, wherever it stands -/
def yb_VN (kd : Nat) (kv : Int32 × Int32) (l : zt_T) : Prop := ∀ (LC LM : List (List Int32)) (nb nf sz : Nat) (F : Nat → Nat) (h g : zs_H) (i k up ku d D D' : Nat) (P Q : Nat → Prop) (y : Int32), yb_cx LC LM nb nf sz F h g → yb_nd LC LM h g kd kv l i k up P Q y → up < 33500 → (g.2.1 72) up = nI ku → ku < 100 → ¬ ku = 5 → ¬ ku = 33 → (∀ j, P j → j < sz) → d + zg_d l ≤ 240 → zg_d l < D → 2 * zg_d l + 1 < D' →
  ∃ h' g', f_Jd_visit D h (nI i) (nI d) = some h' ∧ yb_lk D' Q (zg_d l) g k g' ∧ ((zv_Fb h g h' g' ∧ ¬ (h'.1 38 3) = 0 ∧ ¬ (g'.1 68 29) = 0) ∨ (yb_ok F (nb - 1) kd kv l i k P Q h g h' g' ∧ (h'.1 38 3) = 0 ∧ (g'.1 68 29) = 0))
abbrev yb_E : List Nat := [6, 30, 31, 32, 33, 34, 35, 36]
/-- all trees of a forest can be visited -/
def yb_Ph : zt_T → Prop
  | .leaf => True
  | .inner kd kv _ l r => (kd ∈ yb_E ∧ yb_VN kd kv l) ∧ yb_Ph r
section YBW
variable {LC LM : List (List Int32)} {nb nf sz : Nat} {F : Nat → Nat} {h1 g1 h g h' g' : zs_H} {P Q : Nat → Prop}
theorem yb_cxf (C : yb_cx LC LM nb nf sz F h1 g1) (f1 : zfr [] [13, 14, 16, 17] [] h1 h) (f2 : zfr [] [100, 101, 102] [] g1 g) : yb_cx LC LM nb nf sz F h g := by
  obtain ⟨I, si, hb, hs, hs2⟩ := C
  refine ⟨zv_Ifr I (zfr_w f1 (by decide) (by decide) (by decide)) (zfr_w f2 (by decide) (by decide) (by decide)), fun v hv hh => ?_, hb, (f1.1 _ _ List.not_mem_nil).trans hs, hs2⟩
  rw [f1.2.1 _ (by decide)] at hh ⊢
  exact si v hv hh
theorem yb_bF (C : yb_cx LC LM nb nf sz F h g) : ∀ b, b < nb - 1 → F (b + 1) ≤ F (nb - 1 + 1) := by
  intro b hb
  obtain ⟨I, _, hb0, _⟩ := C
  rw [show nb - 1 + 1 = nb by omega]
  exact (I.2.1.2.2.2.1 b (by omega)).2
/-- annotations outlast what is written elsewhere -/
theorem yb_keep {Pw Qw P1 Q1 : Nat → Prop} (C : yb_cx LC LM nb nf sz F h g) (O : yb_out P1 Q1 h g h' g') (hP : ∀ j, Pw j → j < 32784 ∧ ¬ P1 j) (hQ : ∀ j, Qw j → ¬ Q1 j) {t : zt_T} {x x' e e' : Int32} (A : yb_F F (nb - 1) h g Pw Qw t x x' e e') : yb_F F (nb - 1) h' g' Pw Qw t x x' e e' := by
  obtain ⟨f1, f2, o1, o2⟩ := O
  refine yb_Ff ⟨fun j hj => ?_, fun j hj => ?_, fun j _ => ⟨?_, ?_, ?_, ?_, ?_⟩, fun b _ => ?_, yb_bF C⟩ _ _ _ _ _ A
  · obtain ⟨a1, a2, a3, a4⟩ := o1 j (hP j hj).2
    exact ⟨(hP j hj).1, a1, a2, a3, a4, by rw [f1.2.1 _ (by decide)]⟩
  · obtain ⟨a1, a2, a3⟩ := o2 j (hQ j hj)
    exact ⟨a1, fun _ _ => a2, fun _ => a3, by rw [f2.2.1 _ (by decide)], by rw [f2.2.1 _ (by decide)], by rw [f2.2.1 _ (by decide)]⟩
  · rw [f1.2.1 _ (by decide)]
  · rw [f1.2.1 _ (by decide)]
  · rw [f1.2.1 _ (by decide)]
  · rw [f1.2.1 _ (by decide)]
  · rw [f1.2.1 _ (by decide)]
  · rw [f1.2.1 _ (by decide)]
theorem yb_keepC {Pu P1 Q1 : Nat → Prop} (O : yb_out P1 Q1 h g h' g') (hP : ∀ j, Pu j → ¬ P1 j) {t : zt_T} {x y : Int32} (A : zt_C h t Pu x y) : zt_C h' t Pu x y := by
  obtain ⟨f1, f2, o1, o2⟩ := O
  refine zt_fr t Pu Pu 0 x y (fun i hi => ?_) (fun i hi => hi) A
  obtain ⟨a1, a2, a3, a4⟩ := o1 i (hP i hi)
  exact ⟨fun kd k up z hz => by unfold zt_NC at hz ⊢; rw [a1, a3, f1.2.1 15 (by decide)]; exact hz, a4, by rw [f1.2.1 _ (by decide)]⟩
theorem yb_keepM {Qu : Nat → Prop} (f2 : zfr [] [100, 101, 102] [] g g') {t : zt_T} {up x y : Int32} (A : zt_M LC LM g t Qu up x y) : zt_M LC LM g' t Qu up x y := by
  have E : ∀ z, ¬ z ∈ [100, 101, 102] → g'.2.1 z = g.2.1 z := fun z hz => f2.2.1 z hz
  refine zt_fr t Qu Qu up x y (fun i hi => ⟨fun kd k up z hz => ?_, by rw [E _ (by decide)], by rw [E _ (by decide)]⟩) (fun i hi => hi) A
  unfold zt_NM at hz ⊢
  rw [E 72 (by decide), E 73 (by decide), E 74 (by decide), E 75 (by decide), E 77 (by decide)]
  exact hz
/-- the state of the walk through the children -/
def yb_St (LC LM : List (List Int32)) (nb : Nat) (F : Nat → Nat) (i k : Nat) (l : zt_T) (P Q : Nat → Prop) (h1 g1 : zs_H) (u : zt_T) (h g : zs_H) (x x' : Int32) : Prop :=
  ∃ (w : zt_T) (Pw Qw Pu Qu : Nat → Prop) (yu yu' : Int32), l = zt_ap w u ∧ (zt_C h u Pu x yu ∧ zt_M LC LM g u Qu (nI k) x' yu') ∧ ((∀ j, Pu j → P j) ∧ (∀ j, Qu j → Q j) ∧ (∀ j, Pw j → P j ∧ ¬ Pu j) ∧ (∀ j, Qw j → Q j ∧ ¬ Qu j)) ∧ yb_F F (nb - 1) h g Pw Qw w ((h1.2.1 17) i) ((g1.2.1 76) k) x x' ∧ (∀ j, Pu j → (h.2.1 14) j = 0) ∧ yb_out P Q h1 g1 h g ∧ yb_Ph u ∧ (zg_d u ≤ zg_d l ∧ (h.1 38 3) = 0 ∧ (g.1 68 29) = 0)
theorem yb_step {i k ku d D D' c : Nat} {l lc r : zt_T} {kv : Int32 × Int32} {o : Unit} {x x' : Int32} (C : yb_cx LC LM nb nf sz F h1 g1) (hk : k < 33500) (hP : ∀ j, P j → j < 32784) (hPs : ∀ j, P j → j < sz) (hQ : ∀ j, Q j → j < 33500) (m1 : (g1.2.1 72) k = nI ku) (hku : ku < 100) (h5 : ¬ ku = 5) (h33 : ¬ ku = 33) (hd : d + zg_d l ≤ 240) (hD : zg_d l ≤ D) (hD' : 2 * zg_d l ≤ D') (S : yb_St LC LM nb F i k l P Q h1 g1 (.inner c kv o lc r) h g x x') :
    zv_res D (D' + 1) d sz h1 g1 (yb_St LC LM nb F i k l P Q h1 g1 r) h g x x' := by
  obtain ⟨w, Pw, Qw, Pu, Qu, yu, yu', e0, ⟨sC, sM⟩, ⟨p1, p2, p3, p4⟩, A, ty, O, ⟨⟨cE, VN⟩, Ph⟩, zd, J1, J2⟩ := S
  have C2 : yb_cx LC LM nb nf sz F h g := yb_cxf C O.1 O.2.1
  have zd' : max (zg_d lc + 1) (zg_d r) ≤ zg_d l := Nat.le_trans zg_d1 zd
  obtain ⟨a, P1, P2, z1, z2, ea, a1, a2, a3, a4, a5, a6, a7, a8, a9, a10⟩ := zv_hC sC
  obtain ⟨b, Q1, Q2, z3, eb, b1, b2, b3, b4, b5, b6, b7, b8, b9, b10, b11⟩ := zv_hM sM
  have ha := hP a (p1 a a2)
  have hbb := hQ b (p2 b b2)
  have nd : yb_nd LC LM h g c kv lc a b k P1 Q1 z1 := ⟨⟨ha, hbb, fun z => (a6 a z).2.1 rfl, fun z => (b7 b z).2.1 rfl, fun j hj => hP j (p1 j (a6 j hj).1), fun j hj => hQ j (p2 j (b7 j hj).1)⟩, ⟨a3, a4, a5, ty a a2, fun j hj => ty j (a6 j hj).1⟩, a8, ⟨b3, b4, b5, b6⟩, b9⟩
  obtain ⟨h', g', v1, v2, v3⟩ := VN LC LM nb nf sz F h g a b k ku (d + 1) D D' P1 Q1 z1 C2 nd hk (by rw [O.2.1.2.1 _ (by decide)]; exact m1) hku h5 h33 (fun j hj => hPs j (p1 j (a6 j hj).1)) (by omega) (by omega) (by omega)
  refine ⟨a, b, ea, ha, eb, hbb, J1, J2, C2.2.2.2.1, h', g', v1, yb_lk1 hbb (fun z => (b7 b z).2.1 rfl) (by omega) v2, ?_⟩
  rcases v3 with ⟨⟨X, f1, f2⟩, n1, n2⟩ | ⟨⟨O2, B⟩, n1, n2⟩
  · exact .inl ⟨⟨X, zfr_trans (zfr_w O.1 (by decide) (by decide) (by decide)) f1, zfr_trans (zfr_w O.2.1 (by decide) (by decide) (by decide)) f2⟩, n1, n2⟩
  · right
    have nx : (h'.2.1 18) a = (h.2.1 18) a := by rw [O2.1.2.1 _ (by decide)]
    have nb' : (g'.2.1 78) b = (g.2.1 78) b := by rw [O2.2.1.2.1 _ (by decide)]
    refine ⟨zt_ap w (.inner c kv o lc .leaf), fun j => Pw j ∨ (P1 j ∨ j = a), fun j => Qw j ∨ (Q1 j ∨ j = b), P2, Q2, z2, z3, ?_, ⟨?_, ?_⟩, ⟨fun j hj => p1 j (a7 j hj).1, fun j hj => p2 j (b8 j hj).1, fun j hj => ?_, fun j hj => ?_⟩, ?_, fun j hj => ?_, ?_, Ph, by omega, n1, n2⟩
    · rw [zt_ap_as]; exact e0
    · rw [nx]
      exact yb_keepC O2 (fun j hj z => z.elim (fun z => (a6 j z).2.2 hj) (fun z => (a7 j hj).2 z)) a9
    · rw [nb']
      exact yb_keepM O2.2.1 b10
    · rcases hj with z | z | z
      · exact ⟨(p3 j z).1, fun u => (p3 j z).2 (a7 j u).1⟩
      · exact ⟨p1 j (a6 j z).1, (a6 j z).2.2⟩
      · exact ⟨by rw [z]; exact p1 a a2, fun u => (a7 j u).2 z⟩
    · rcases hj with z | z | z
      · exact ⟨(p4 j z).1, fun u => (p4 j z).2 (b8 j u).1⟩
      · exact ⟨p2 j (b7 j z).1, (b7 j z).2.2⟩
      · exact ⟨by rw [z]; exact p2 b b2, fun u => (b8 j u).2 z⟩
    · have A' := yb_keep C2 O2 (fun j hj => ⟨hP j (p3 j hj).1, fun z => (p3 j hj).2 (z.elim (fun z => (a6 j z).1) (fun z => by rw [z]; exact a2))⟩) (fun j hj z => (p4 j hj).2 (z.elim (fun z => (b7 j z).1) (fun z => by rw [z]; exact b2))) A
      refine yb_ap w _ _ _ _ _ _ _ (yb_Fm (fun _ z => .inl z) (fun _ z => .inl z) _ _ _ _ _ A') ?_
      rw [ea, eb]
      exact yb_Fm (fun _ z => .inr z) (fun _ z => .inr z) _ _ _ _ _ B
    · obtain ⟨t1, t2, _⟩ := O2.2.2.1 j (fun z => z.elim (fun z => (a6 j z).2.2 hj) (fun z => (a7 j hj).2 z))
      rw [t2]; exact ty j (a7 j hj).1
    · refine yb_outm (yb_outt O O2) (fun j z => z.elim id (fun z => z.elim (fun z => p1 j (a6 j z).1) (fun z => by rw [z]; exact p1 a a2))) (fun j z => z.elim id (fun z => z.elim (fun z => p2 j (b7 j z).1) (fun z => by rw [z]; exact p2 b b2)))
end YBW
