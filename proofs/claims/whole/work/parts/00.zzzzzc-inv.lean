/-! The judge: an invocation is visited (20, 21). -/
theorem zt_lnap : ∀ t u : zt_T, zt_ln (zt_ap t u) = zt_ln t + zt_ln u := by
  intro t u
  induction t with
  | leaf => show zt_ln u = 0 + zt_ln u; omega
  | inner kd kv o l r ihl ihr =>
    show 1 + zt_ln (zt_ap r u) = 1 + zt_ln r + zt_ln u
    rw [ihr]; omega
def yp_Ph : zt_T → Prop
  | .leaf => True
  | .inner kd _ _ l r => (kd = 14 ∧ ∃ ce kve oe le, l = .inner ce kve oe le .leaf ∧ ce ∈ yb_E ∧ yb_VN ce kve le) ∧ yp_Ph r
def yp_St (LC LM : List (List Int32)) (nb : Nat) (F : Nat → Nat) (i k u B : Nat) (wk : Int32) (l : zt_T) (P Q : Nat → Prop) (h1 g1 : zs_H) (uu : zt_T) (h g : zs_H) (x x' : Int32) : Prop :=
  ∃ (w : zt_T) (Pw Qw Pu Qu : Nat → Prop) (yu yu' : Int32), l = zt_ap w uu ∧ (zt_C h uu Pu x yu ∧ zt_M LC LM g uu Qu (nI k) x' yu') ∧ ((∀ j, Pu j → P j) ∧ (∀ j, Qu j → Q j) ∧ (∀ j, Pw j → P j ∧ ¬ Pu j) ∧ (∀ j, Qw j → Q j ∧ ¬ Qu j)) ∧ yb_F F (nb - 1) h g Pw Qw w ((h1.2.1 17) i) ((g1.2.1 76) k) x x' ∧ (∀ j, Pu j → (h.2.1 14) j = 0) ∧ yb_out P Q h1 g1 h g ∧ yp_Ph uu ∧ (zg_d uu ≤ zg_d l ∧ (h.1 38 3) = 0 ∧ (g.1 68 29) = 0) ∧ (yp_O wk h1 g1 ∨ (yp_I nb F u B wk h1 g1 ∧ ¬ yp_O wk h1 g1 ∧ ∀ xx, xx < 300000000 → (h1.2.1 32) (32 + u) = nI xx → yp_s LC LM F (nb - 1) B xx h g Pw Qw w ((h1.2.1 17) i) ((g1.2.1 76) k) x x'))
section YPC
variable {LC LM : List (List Int32)} {nb nf sz : Nat} {F : Nat → Nat} {h1 g1 h g : zs_H} {P Q : Nat → Prop} {u B : Nat} {wk : Int32}
theorem yp_step {i k d D D' c : Nat} {l lc r : zt_T} {kv : Int32 × Int32} {o : Unit} {x x' : Int32} (C : yb_cx LC LM nb nf sz F h1 g1) (hk : k < 33500) (mk : (g1.2.1 74) k = wk) (fp : (h1.1 38 8) = (h1.2.1 17) i) (hP : ∀ j, P j → j < 32784) (hPs : ∀ j, P j → j < sz) (hQ : ∀ j, Q j → j < 33500) (hPi : ¬ P i) (hls : zt_ln l ≤ sz) (hd : d + zg_d l ≤ 239) (hD : zg_d l ≤ D + 1) (hD' : 2 * zg_d l < D' + 2) (S : yp_St LC LM nb F i k u B wk l P Q h1 g1 (.inner c kv o lc r) h g x x') :
    zv_res (D + 1) (D' + 2) d sz h1 g1 (yp_St LC LM nb F i k u B wk l P Q h1 g1 r) h g x x' := by
  obtain ⟨w, Pw, Qw, Pu, Qu, yu, yu', e0, ⟨sC, sM⟩, ⟨p1, p2, p3, p4⟩, A, ty, O, ⟨⟨e14, ce, kve, oe, le, hlc, hE, VN⟩, Ph⟩, ⟨zd, J1, J2⟩, io⟩ := S
  subst e14
  have C2 : yb_cx LC LM nb nf sz F h g := yb_cxf C O.1 O.2.1
  have zd' : max (zg_d lc + 1) (zg_d r) ≤ zg_d l := Nat.le_trans zg_d1 zd
  obtain ⟨a, P1, P2, z1, z2, ea, a1, a2, a3, a4, a5, a6, a7, a8, a9, a10⟩ := zv_hC sC
  obtain ⟨b, Q1, Q2, z3, eb, b1, b2, b3, b4, b5, b6, b7, b8, b9, b10, b11⟩ := zv_hM sM
  have ha := hP a (p1 a a2)
  have hbb := hQ b (p2 b b2)
  have nd : yb_nd LC LM h g 14 kv lc a b k P1 Q1 z1 := ⟨⟨ha, hbb, fun z => (a6 a z).2.1 rfl, fun z => (b7 b z).2.1 rfl, fun j hj => hP j (p1 j (a6 j hj).1), fun j hj => hQ j (p2 j (b7 j hj).1)⟩, ⟨a3, a4, a5, ty a a2, fun j hj => ty j (a6 j hj).1⟩, a8, ⟨b3, b4, b5, b6⟩, b9⟩
  have b5' := b5
  rw [if_pos (by decide)] at b5'
  obtain ⟨c0, hc0, ec, _⟩ := yb_nr C2 b5'
  have hlw : zt_ln w < sz := by
    have : zt_ln l = zt_ln w + zt_ln (.inner 14 kv o lc r) := by rw [e0, zt_lnap]
    have h1 : zt_ln (.inner 14 kv o lc r) = 1 + zt_ln r := rfl
    omega
  have ge : ∀ z, ¬ z ∈ [100, 101, 102] → g.2.1 z = g1.2.1 z := fun z hz => O.2.1.2.1 z hz
  have ch : (h.2.1 17) i = (h1.2.1 17) i := (O.2.2.1 i hPi).2.2.2
  obtain ⟨h', g', v1, v2, v3⟩ := yp_par (u := u) (B := B) (wk := wk) (w := w) (Pw := Pw) (Qw := Qw) (x := (h1.2.1 17) i) (x' := (g1.2.1 76) k) (c0 := c0) (d := d + 1) (D := D) (D' := D') C2 nd hlc hE VN hk (by rw [ge _ (by decide)]; exact mk) (by rw [ge _ (by decide)]) ((O.1.1 _ _ List.not_mem_nil).trans fp) (fun j hj => hPs j (p1 j (a6 j hj).1)) (hPs a (p1 a a2)) (by omega) (by omega) (by omega) hc0 ec hlw (fun j hj => ⟨fun z => (p3 j hj).2 (by rw [z]; exact a2), fun z => (p3 j hj).2 (a6 j z).1⟩) (fun j hj => ⟨fun z => (p4 j hj).2 (by rw [z]; exact b2), fun z => (p4 j hj).2 (b7 j z).1⟩) (by
    rcases io with z | ⟨q1, q2, q3⟩
    · exact .inl (yp_Of O z)
    · refine .inr ⟨yp_If O q1, fun xx hx hxx => ?_⟩
      rw [← ea, ← eb]
      exact q3 xx hx (by rw [← O.1.2.1 _ (by decide)]; exact hxx))
  refine ⟨a, b, ea, ha, eb, hbb, J1, J2, C2.2.2.2.1, h', g', v1, v2, ?_⟩
  rcases v3 with ⟨⟨X, f1, f2⟩, n1, n2⟩ | ⟨⟨O2, Bk⟩, n1, n2, ss⟩
  · exact .inl ⟨⟨X, zfr_trans (zfr_w O.1 (by decide) (by decide) (by decide)) f1, zfr_trans (zfr_w O.2.1 (by decide) (by decide) (by decide)) f2⟩, n1, n2⟩
  · right
    have nx : (h'.2.1 18) a = (h.2.1 18) a := by rw [O2.1.2.1 _ (by decide)]
    have nb' : (g'.2.1 78) b = (g.2.1 78) b := by rw [O2.2.1.2.1 _ (by decide)]
    refine ⟨zt_ap w (.inner 14 kv o lc .leaf), fun j => Pw j ∨ (P1 j ∨ j = a), fun j => Qw j ∨ (Q1 j ∨ j = b), P2, Q2, z2, z3, ?_, ⟨?_, ?_⟩, ⟨fun j hj => p1 j (a7 j hj).1, fun j hj => p2 j (b8 j hj).1, fun j hj => ?_, fun j hj => ?_⟩, ?_, fun j hj => ?_, ?_, Ph, ⟨by omega, n1, n2⟩, ?_⟩
    · rw [zt_ap_as]; exact e0
    · rw [nx]
      exact yb_keepC O2 (fun j hj z => z.elim (fun z => (a6 j z).2.2 hj) (fun z => (a7 j hj).2 z)) a9
    · rw [nb']
      exact yb_keepM O2.2.1 b10
    · rcases hj with z | z | z
      · exact ⟨(p3 j z).1, fun u => (p3 j z).2 (a7 j u).1⟩
      · exact ⟨p1 j (a6 j z).1, (a6 j z).2.2⟩
      · exact ⟨by rw [z]; exact p1 a a2, fun u => (a7 j u).2 z⟩
    · rcases hj with z | z | z
      · exact ⟨(p4 j z).1, fun u => (p4 j z).2 (b8 j u).1⟩
      · exact ⟨p2 j (b7 j z).1, (b7 j z).2.2⟩
      · exact ⟨by rw [z]; exact p2 b b2, fun u => (b8 j u).2 z⟩
    · have A' := yb_keep C2 O2 (fun j hj => ⟨hP j (p3 j hj).1, fun z => (p3 j hj).2 (z.elim (fun z => (a6 j z).1) (fun z => by rw [z]; exact a2))⟩) (fun j hj z => (p4 j hj).2 (z.elim (fun z => (b7 j z).1) (fun z => by rw [z]; exact b2))) A
      refine yb_ap w _ _ _ _ _ _ _ (yb_Fm (fun _ z => .inl z) (fun _ z => .inl z) _ _ _ _ _ A') ?_
      rw [ea, eb]
      exact yb_Fm (fun _ z => .inr z) (fun _ z => .inr z) _ _ _ _ _ Bk
    · obtain ⟨t1, t2, _⟩ := O2.2.2.1 j (fun z => z.elim (fun z => (a6 j z).2.2 hj) (fun z => (a7 j hj).2 z))
      rw [t2]; exact ty j (a7 j hj).1
    · exact yb_outm (yb_outt O O2) (fun j z => z.elim id (fun z => z.elim (fun z => p1 j (a6 j z).1) (fun z => by rw [z]; exact p1 a a2))) (fun j z => z.elim id (fun z => z.elim (fun z => p2 j (b7 j z).1) (fun z => by rw [z]; exact p2 b b2)))
    · rcases io with z | ⟨q1, q2, q3⟩
      · exact .inl z
      · have nO : ¬ yp_O wk h g := fun z => by
          obtain ⟨z1, _⟩ := z
          have := (yp_If O q1).2.2.1
          rw [this] at z1
          exact zc_m1 (by have := C.1.2.1.2.1.2.2; have := q1.2.1; omega) z1
        exact .inr ⟨q1, q2, fun xx hx hxx => ss (yp_If O q1) nO xx hx (by rw [O.1.2.1 _ (by decide)]; exact hxx)⟩
end YPC
