/-! The judge: an expression is visited: calls. -/
section YBJ
variable {LC LM : List (List Int32)} {nb nf sz : Nat} {F : Nat → Nat} {h g h2 g2 h' g' : zs_H} {P Q : Nat → Prop} {i k bb : Nat}
/-- the nodes of a forest, one after the other -/
theorem yb_mem {t : zt_T} {x x' : Int32} (A : yb_F F bb h g P Q t x x' (-1) (-1)) : x = -1 ∨ ∃ b, b < 32784 ∧ x = nI b ∧ P b ∧ ∃ t2 x2, yb_F F bb h g P Q t2 ((h.2.1 18) b) x2 (-1) (-1) := by
  cases t with
  | leaf => exact .inl A.1
  | inner kd kv o l r =>
    obtain ⟨a, ka, xl, ⟨a1, a2, a3⟩, _, _, _, B⟩ := A
    exact .inr ⟨a, a2, a3, a1, r, _, B⟩
theorem yb_mem3 {t : zt_T} {x x' x5 x6 : Int32} {a : Nat} (A : yb_F F bb h g P Q t x x' (-1) (-1)) (ea : x = nI a) (ha : a < 32784) (e5 : x5 = (h.2.1 18) a) (e6 : x6 = (if x5 = -1 then -1 else (h.2.1 18) x5.toNatClampNeg)) : yb_3 h P x a x5 x6 := by
  rcases yb_mem A with z | ⟨b, b1, b2, b3, t2, x2, B⟩
  · rw [ea] at z; exact absurd z (zc_m1 (by omega))
  · have eb : b = a := by rw [ea] at b2; exact ((nI_eq (by omega) (by omega)).mp b2).symm
    subst eb
    rw [← e5] at B
    refine ⟨ea, b3, e5, e6, ?_⟩
    rcases yb_mem B with z | ⟨c, c1, c2, c3, t3, x3, D⟩
    · exact ⟨.inl z, .inl (by rw [e6, if_pos z])⟩
    · have n5 : ¬ x5 = -1 := by rw [c2]; exact zc_m1 (by omega)
      have e6' : x6 = (h.2.1 18) c := by rw [e6, if_neg n5, c2, nI_clamp (show c < 2147483648 by omega)]
      refine ⟨.inr ⟨c, c1, c2, c3⟩, ?_⟩
      rw [← e6'] at D
      rcases yb_mem D with z | ⟨d, d1, d2, d3, _⟩
      · exact .inl z
      · exact .inr ⟨d, d1, d2, d3⟩
/-- the last one of three -/
theorem yb_last3 {l : zt_T} {up x y : Int32} {t1 t2 t3 : Nat} (hQ : ∀ j, Q j → j < 33500) (M : zt_M LC LM g l Q up x y) (A : ya_M g [t1, t2, t3] x) : ∃ kc, kc < 33500 ∧ y = nI kc ∧ (g.2.1 100) kc = nI t3 := by
  obtain ⟨k1, a1, a2, a3, _, k2, b1, b2, b3, _, k3, c1, c2, c3, _, c5⟩ := A
  have n1 : ¬ x = -1 := by rw [a2]; exact zc_m1 (by omega)
  have n2 : ¬ (g.2.1 78) k1 = -1 := by rw [b2]; exact zc_m1 (by omega)
  have n3 : ¬ (g.2.1 78) k2 = -1 := by rw [c2]; exact zc_m1 (by omega)
  have c5' : (g.2.1 78) k3 = -1 := c5
  cases l with
  | leaf => exact absurd (show x = -1 ∧ y = -1 from M).1 n1
  | inner c kv o lc r =>
    obtain ⟨d, Q1, Q2, z2, e1, e2, e3, _, _, _, _, _, e8, _, e10, e11⟩ := zv_hM M
    have hd1 : d = k1 := by rw [a2] at e1; exact ((nI_eq (by omega) (by omega)).mp e1).symm
    subst hd1
    cases r with
    | leaf => exact absurd (show (g.2.1 78) d = -1 ∧ z2 = -1 from e10).1 n2
    | inner c' kv' o' lc' r' =>
      obtain ⟨d', Q3, Q4, z3, f1, f2, f3, _, _, _, _, _, f8, _, f10, f11⟩ := zv_hM e10
      have hd2 : d' = k2 := by rw [b2] at f1; exact ((nI_eq (by omega) (by omega)).mp f1).symm
      subst hd2
      cases r' with
      | leaf => exact absurd (show (g.2.1 78) d' = -1 ∧ z3 = -1 from f10).1 n3
      | inner c'' kv'' o'' lc'' r'' =>
        obtain ⟨d'', Q5, Q6, z4, g1, g2, g3, _, _, _, _, _, g8, _, g10, g11⟩ := zv_hM f10
        have hd3 : d'' = k3 := by rw [c2] at g1; exact ((nI_eq (by omega) (by omega)).mp g1).symm
        subst hd3
        rw [c5'] at g10
        rcases zt_last r'' Q6 up _ _ g10 with ⟨_, _, w⟩ | ⟨i1, _, _, w1, w2, _⟩
        · rw [w, if_pos rfl] at g11
          have y3 : z3 = nI d'' := g11.trans c2
          rw [y3, if_neg (zc_m1 (by omega))] at f11
          rw [f11, if_neg (zc_m1 (by omega))] at e11
          exact ⟨d'', c1, e11, c3⟩
        · exact absurd w2.symm (zc_m1 (by omega))
end YBJ
section YBJ2
variable {LC LM : List (List Int32)} {nb nf sz : Nat} {F : Nat → Nat} {h g h2 g2 h' g' : zs_H} {P Q : Nat → Prop} {i k bb : Nat}
theorem yb_Wfr (C2 : yb_cx LC LM nb nf sz F h2 g2) (hPi : ¬ P i) (hQk : ¬ Q k) (hP : ∀ j, P j → j < 32784) (W : yb_out (fun j => j = i) (fun j => j = k) h2 g2 h' g') : yb_fr F (nb - 1) P Q h2 g2 h' g' := by
  refine ⟨fun j hj => ?_, fun j hj => ?_, fun j _ => ⟨?_, ?_, ?_, ?_, ?_⟩, fun b _ => ?_, yb_bF C2⟩
  · obtain ⟨w1, w2, w3, w4⟩ := W.2.2.1 j (fun z => hPi (by rw [← z]; exact hj))
    exact ⟨hP j hj, w1, w2, w3, w4, by rw [W.1.2.1 _ (by decide)]⟩
  · obtain ⟨w1, w2, w3⟩ := W.2.2.2 j (fun z => hQk (by rw [← z]; exact hj))
    exact ⟨w1, fun _ _ => w2, fun _ => w3, by rw [W.2.1.2.1 _ (by decide)], by rw [W.2.1.2.1 _ (by decide)], by rw [W.2.1.2.1 _ (by decide)]⟩
  · rw [W.1.2.1 _ (by decide)]
  · rw [W.1.2.1 _ (by decide)]
  · rw [W.1.2.1 _ (by decide)]
  · rw [W.1.2.1 _ (by decide)]
  · rw [W.1.2.1 _ (by decide)]
  · rw [W.1.2.1 _ (by decide)]
theorem yb_fitP : ∀ (ws : List Nat) (t : zt_T) (x x' : Int32), yb_F F bb h g P Q t x x' (-1) (-1) → ya_fit h ws x → yb_fit h P ws x := by
  intro ws
  induction ws with
  | nil => intro t x x' _ _; trivial
  | cons w ws ih =>
    intro t x x' A ⟨a, a1, a2, a3, a4⟩
    rcases yb_mem A with z | ⟨b, b1, b2, b3, t2, x2, B⟩
    · rw [a1] at z; exact absurd z (zc_m1 (by omega))
    · have eb : b = a := by rw [a1] at b2; exact ((nI_eq (by omega) (by omega)).mp b2).symm
      subst eb
      exact ⟨b, a1, a2, b3, a3, ih t2 _ x2 B a4⟩
end YBJ2
/-- a call -/
theorem yb_VN34 {kv : Int32 × Int32} {l : zt_T} (hA : zg_A 34 (zg_run 34 0 l) = true) (Ph : yb_Ph l) : yb_VN 34 kv l := by
  intro LC LM nb nf sz F h g i k up ku d D D' P Q y C nd hup mu hku h5 h33 hPs hd hD hD'
  obtain ⟨D, rfl⟩ : ∃ z, D = z + 1 := ⟨D - 1, by omega⟩
  obtain ⟨D', rfl⟩ : ∃ z, D' = z + 2 := ⟨D' - 2, by omega⟩
  obtain ⟨⟨hi, hk, hPi, hQk, hP, hQ⟩, ⟨c0, c1, c2, c3, c4⟩, cC, ⟨m0, m1, m2, m3⟩, cM⟩ := id nd
  rcases yb_kids (D := D) (D' := D') C nd (.inr (.inl rfl)) Ph hPs hd (by omega) (by omega) with ⟨h', g', e1, e2, e3, e4, e5⟩ | ⟨h2, g2, e1, e2, O, A, n1, n2⟩
  · exact ⟨h', g', e1, yb_lk0 hk (km := 34) (by decide) (by decide) m0 e2, .inl ⟨e3, e4, e5⟩⟩
  · rw [if_pos (by decide)] at m2
    obtain ⟨c, hc, ec, hw⟩ := yb_nr C m2
    have C2 := yb_cxf C O.1 O.2.1
    obtain ⟨i1, i2, i3, i4⟩ := O.2.2.1 i hPi
    have ge : ∀ z, ¬ z ∈ [100, 101, 102] → g2.2.1 z = g.2.1 z := fun z hz => O.2.1.2.1 z hz
    have he : ∀ z, ¬ z ∈ [13, 14, 16, 17] → h2.2.1 z = h.2.1 z := fun z hz => O.1.2.1 z hz
    have hb := C.2.2.1
    have hB3 : nb ≤ 568 := C.1.2.1.1.2.2
    obtain ⟨ts, l1, l2, l3⟩ := yb_chain (i0 := i) (fun j hj z => hPi (by rw [← z]; exact hj)) l _ _ (yb_top38 l (yb_g34 hA)) A
    have hln := yb_ln nd hPs
    have hsz2 := C.2.2.2.2
    have l2' : ya_C h2 i ts ((h2.2.1 17) i) := by rw [i4]; exact l2
    have l3' : ya_M g2 ts ((g2.2.1 76) k) := by rw [ge _ (by decide)]; exact l3
    have ck : (h2.2.1 13) i = 34 := i1.trans c0
    have mk : (g2.2.1 72) k = 34 := by rw [ge _ (by decide)]; exact m0
    have cp : (h2.2.1 15) i = kv.1 := by rw [he _ (by decide)]; exact c1
    have mp : (g2.2.1 73) k = kv.1 := by rw [ge _ (by decide)]; exact m1 (by decide)
    have mv : (g2.2.1 74) k = (g.2.1 74) k := by rw [ge _ (by decide)]
    by_cases hcF : 50 ≤ c ∧ c < 60
    · obtain ⟨h', g', v1, v2, v3⟩ := zv_stdE (p := kv.1) (sz := sz) C2.1 hb hi hk hc hw C2.2.2.2.1 (by omega) (by omega) hcF (i3.trans (c2.trans ec)) cp l2' mk mv mp l3' (fun t1 t2 t3 et => by
        rw [et] at l3'
        have := yb_last3 hQ (yb_keepM O.2.1 cM) (by rw [← ge 76 (by decide)]; exact l3')
        rw [ge 77 (by decide)]
        exact this)
      refine ⟨h', g', by rw [e1, zv_lv34 hi ck, v1], yb_lk0 hk (km := 34) (by decide) (by decide) m0 (by rw [e2, v2]), ?_⟩
      rcases v3 with ⟨X, f1, f2⟩ | ⟨s, ty, a, x5, x6, s1, s2, s3, s4, ⟨p1, p2, p3, p4, p5, p6⟩, eg, v3⟩
      · obtain ⟨φ, p, X⟩ := X
        have xn := zv_Xn X
        exact .inl ⟨⟨⟨φ, p, X⟩, zfr_trans (zfr_w O.1 (by decide) (by decide) (by decide)) f1, zfr_trans (zfr_w O.2.1 (by decide) (by decide) (by decide)) f2⟩, xn.1, xn.2⟩
      · right
        have tyM : (g'.2.1 100) k = nI ty := by rw [eg, zu_MM, if_pos ⟨rfl, rfl⟩]
        have meM : (g'.2.1 102) k = nI (100 + s) := by rw [eg, zu_MM, if_neg (fun z => absurd z.1 (by decide)), zu_MM, if_pos ⟨rfl, rfl⟩]
        have ec' : kv.2 = nI (50 + s) := by rw [s1]; exact ec
        rw [i4] at p1
        have hy3 : yb_3 h2 P ((h.2.1 17) i) a x5 x6 := yb_mem3 A p1 p2 p4 p5
        have W2 : yb_out (fun j => j = i) (fun j => j = k) h2 g2 (ya_h2 h2 i s ty) g' := by
          rw [eg]
          exact yb_W5 _ (yb_W7 _ (yb_W1 _ (yb_W2 _ (yb_W3 _ yb_out0))))
        -- the arguments stay
        have stay : ∀ W : yb_out (fun j => j = i) (fun j => j = k) h2 g2 h' g', yb_3 h' P ((h.2.1 17) i) a x5 x6 ∧ ((ya_con h' (nI a) ∧ ya_con h' x5 ∧ ya_con h' x6) ↔ (ya_con h2 (nI a) ∧ ya_con h2 x5 ∧ ya_con h2 x6)) ∧ (h'.2.1 16) a = (h2.2.1 16) a ∧ ya_val h' x5 = ya_val h2 x5 ∧ ya_val h' x6 = ya_val h2 x6 := by
          intro W
          have fr : yb_fr F (nb - 1) P Q h2 g2 h' g' := by
            refine ⟨fun j hj => ?_, fun j hj => ?_, fun j _ => ⟨?_, ?_, ?_, ?_, ?_⟩, fun b _ => ?_, yb_bF C2⟩
            · obtain ⟨w1, w2, w3, w4⟩ := W.2.2.1 j (fun z => hPi (by rw [← z]; exact hj))
              exact ⟨hP j hj, w1, w2, w3, w4, by rw [W.1.2.1 _ (by decide)]⟩
            · obtain ⟨w1, w2, w3⟩ := W.2.2.2 j (fun z => hQk (by rw [← z]; exact hj))
              exact ⟨w1, fun _ _ => w2, fun _ => w3, by rw [W.2.1.2.1 _ (by decide)], by rw [W.2.1.2.1 _ (by decide)], by rw [W.2.1.2.1 _ (by decide)]⟩
            · rw [W.1.2.1 _ (by decide)]
            · rw [W.1.2.1 _ (by decide)]
            · rw [W.1.2.1 _ (by decide)]
            · rw [W.1.2.1 _ (by decide)]
            · rw [W.1.2.1 _ (by decide)]
            · rw [W.1.2.1 _ (by decide)]
          obtain ⟨y1, y2, y3, y4, y5, y6⟩ := hy3
          have ca := yb_conf fr (x := nI a) (.inr ⟨a, p2, rfl, y2⟩)
          have c5 := yb_conf fr y5
          have c6 := yb_conf fr y6
          refine ⟨⟨y1, y2, by rw [(fr.1 a y2).2.2.2.2.2]; exact y3, by rw [W.1.2.1 _ (by decide)]; exact y4, y5, y6⟩, ?_, (fr.1 a y2).2.2.2.1, c5.2, c6.2⟩
          rw [ca.1, c5.1, c6.1]
        rcases v3 with ⟨v, x1, x2, x3⟩ | ⟨x1, x3⟩
        · have W : yb_out (fun j => j = i) (fun j => j = k) h2 g2 h' g' := by rw [x3]; exact yb_foW W2
          obtain ⟨w1, w2, w3, w4, w5⟩ := stay W
          refine ⟨yb_fin C nd O A W ?_, (W.1.1 _ _ List.not_mem_nil).trans n1, (W.2.1.1 _ _ List.not_mem_nil).trans n2⟩
          refine .inr ⟨ty, s3, ?_, tyM, .inr (.inr (.inr (.inr (.inr (.inl ⟨rfl, s, a, x5, x6, s2, ec', ⟨by omega, fun q => ((W.2.2.1 a p3).2.1).trans (p6.1 q), yb_stf (yb_Wfr C2 hPi hQk hP W) hy3.2.2.2.2.1 hy3.2.2.2.2.2 p6.2⟩, meM, w1, .inl ⟨w2.mpr x1, ?_, ?_⟩⟩)))))⟩
          · rw [x3, yb_foK.2.2]
            unfold ya_h2
            rw [zu_MM, if_pos ⟨rfl, rfl⟩]
          · rw [x3]; exact yb_foK.1
          · rw [w3, w4, w5, x2, x3, yb_foK.2.1]
        · have W : yb_out (fun j => j = i) (fun j => j = k) h2 g2 h' g' := by rw [x3]; exact W2
          obtain ⟨w1, w2, w3, w4, w5⟩ := stay W
          refine ⟨yb_fin C nd O A W ?_, (W.1.1 _ _ List.not_mem_nil).trans n1, (W.2.1.1 _ _ List.not_mem_nil).trans n2⟩
          refine .inr ⟨ty, s3, ?_, tyM, .inr (.inr (.inr (.inr (.inr (.inl ⟨rfl, s, a, x5, x6, s2, ec', ⟨by omega, fun q => ((W.2.2.1 a p3).2.1).trans (p6.1 q), yb_stf (yb_Wfr C2 hPi hQk hP W) hy3.2.2.2.2.1 hy3.2.2.2.2.2 p6.2⟩, meM, w1, .inr ⟨mt w2.mp x1, ?_, ?_, ?_⟩⟩)))))⟩
          · rw [x3]; unfold ya_h2; rw [zu_MM, if_pos ⟨rfl, rfl⟩]
          · rw [x3]; unfold ya_h2; rw [zu_MM, if_neg (fun z => absurd z.1 (by decide)), zu_MM, if_neg (fun z => absurd z.1 (by decide)), zu_MM, if_pos ⟨rfl, rfl⟩]
          · rw [x3]; unfold ya_h2; rw [zu_MM, if_neg (fun z => absurd z.1 (by decide)), zu_MM, if_pos ⟨rfl, rfl⟩]
          · rw [x3]; unfold ya_h2; rw [zu_MM, if_neg (fun z => absurd z.1 (by decide)), zu_MM, if_neg (fun z => absurd z.1 (by decide)), zu_MM, if_neg (fun z => absurd z.1 (by decide))]; exact i4
    · obtain ⟨h', g', v1, v2, v3⟩ := zv_ownE (p := kv.1) (sz := sz) C2.1 C2.2.1 hb hi hk hc hw C2.2.2.2.1 (by omega) (by omega) hcF (i3.trans (c2.trans ec)) cp l2' mk mv mp l3'
      refine ⟨h', g', by rw [e1, zv_lv34 hi ck, v1], yb_lk0 hk (km := 34) (by decide) (by decide) m0 (by rw [e2, v2]), ?_⟩
      rcases v3 with ⟨X, f1, f2⟩ | ⟨b, ty, b1, b2, ⟨b3, b3a, b3b, b3c⟩, b4, x1, x2, b5, b6⟩
      · obtain ⟨φ, p, X⟩ := X
        have xn := zv_Xn X
        exact .inl ⟨⟨⟨φ, p, X⟩, zfr_trans (zfr_w O.1 (by decide) (by decide) (by decide)) f1, zfr_trans (zfr_w O.2.1 (by decide) (by decide) (by decide)) f2⟩, xn.1, xn.2⟩
      · right
        have W : yb_out (fun j => j = i) (fun j => j = k) h2 g2 h' g' := by
          rw [x1, x2]
          exact yb_W5 _ (yb_W7 _ (yb_W1 _ (yb_W2 _ yb_out0)))
        refine ⟨yb_fin C nd O A W ?_, (W.1.1 _ _ List.not_mem_nil).trans n1, (W.2.1.1 _ _ List.not_mem_nil).trans n2⟩
        refine .inr ⟨ty, b2, ?_, ?_, .inr (.inr (.inr (.inr (.inl ⟨rfl, ?_, ?_, b, b1, ?_, ?_, ?_, ?_, ?_⟩))))⟩
        · rw [x1, zu_MM, if_pos ⟨rfl, rfl⟩]
        · rw [x2, zu_MM, if_pos ⟨rfl, rfl⟩]
        · rw [x1, zu_MM, if_neg (fun z => absurd z.1 (by decide)), zu_MM, if_neg (fun z => absurd z.1 (by decide))]; exact ck
        · rw [x1, zu_MM, if_neg (fun z => absurd z.1 (by decide)), zu_MM, if_neg (fun z => absurd z.1 (by decide))]; exact i4
        · rw [x1, zu_MM, if_neg (fun z => absurd z.1 (by decide)), zu_MM, if_pos ⟨rfl, rfl⟩]
        · rw [x2, zu_MM, if_neg (fun z => absurd z.1 (by decide)), zu_MM, if_pos ⟨rfl, rfl⟩]
        · rw [← l1, b4, yb_ilf _ _ (fun j _ _ => by rw [W.1.2.1 _ (by decide)])]
        · rw [W.1.2.1 _ (by decide)]; exact b3
        · have eil : zv_il h' (F (b + 1) - F b) (F b) = zv_il h2 (F (b + 1) - F b) (F b) := yb_ilf _ _ (fun j _ _ => by rw [W.1.2.1 _ (by decide)])
          have bF := yb_bF C2 b b1
          refine ⟨(C2.1.2.1.2.2.2.1 b (by omega)).1, c, ec, hc, hcF, b3a, by rw [W.1.2.1 _ (by decide)]; exact b3b, ?_⟩
          rw [eil]
          rw [i4] at b3c
          refine yb_fitf (yb_Wfr C2 hPi hQk hP W) _ _ (fun w hw => ?_) (yb_fitP _ l _ _ A b3c)
          obtain ⟨_, w2, _⟩ := zv_ilm h2 _ _ _ hw
          omega
