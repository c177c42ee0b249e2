/-! Both readers in step: operands in brackets. -/
theorem zo_up {LC LM : List (List Int32)} {g : zs_H} {kd a : Nat} {p v up y : Int32} {l : zt_T} {P : Nat → Prop} (ha : a < 40000) (H : zt_M LC LM g (zt_n kd p v l) P up (nI a) y) : zt_M LC LM (zs_uM g 75 a (-1)) (zt_n kd p v l) P (-1) (nI a) (nI a) := by
  obtain ⟨x1, x2, x3, x4, x5, P1, x6, x7⟩ := zo_root ha H
  have key : ∀ i, (zs_uM g 75 a (-1)).2.1 75 i = if i = a then -1 else (g.2.1 75) i := fun i => by simp [zu_MM]
  have k2 : ∀ k i, ¬ k = 75 → (zs_uM g 75 a (-1)).2.1 k i = g.2.1 k i := fun k i hk => by simp [zu_MM, hk]
  refine zo_mk (P1 := P1) ha ?_ (by rw [key, if_pos rfl]) (by rw [k2 _ _ (by decide)]; exact x3) x4 x6 ?_
  · unfold zt_Nf at x1 ⊢
    rw [k2 _ _ (by decide), k2 _ _ (by decide), k2 _ _ (by decide)]; exact x1
  · rw [k2 _ _ (by decide), k2 _ _ (by decide)]
    refine zo_Mk (List.prefix_refl _) (fun i hi => ?_) x7
    exact ⟨k2 _ _ (by decide), k2 _ _ (by decide), k2 _ _ (by decide), by rw [key, if_neg (x6 i hi).2], k2 _ _ (by decide), k2 _ _ (by decide), k2 _ _ (by decide)⟩
theorem zt_rt {LC LM : List (List Int32)} {g : zs_H} {kd : Nat} {p v up x y : Int32} {l : zt_T} {P : Nat → Prop} (H : zt_M LC LM g (zt_n kd p v l) P up x y) : ∃ a, a < 40000 ∧ P a ∧ x = nI a := by
  obtain ⟨i, P1, P2, z1, z2, q1, q2, q3, _⟩ := H
  exact ⟨i, q2, q1, q3⟩
section ZR
variable {h0 g0 h g : zs_H} {T : Nat → Int32} {n K : Nat} {LC LM : List (List Int32)} {j d s m o q : Nat}
theorem zk_brk {D D' : Nat} (EP : d < 60 → zk_EP h0 g0 T n K LC (d + 1)) (H : zk_L h0 g0 T n K LC h g LM j d s m o q) (ho : o ≤ d) (hq : q ≤ d + 1) (hq1 : 1 ≤ q) (hD : 3 * (60 - d) + 3 ≤ D) (hD' : 4 * (60 - d) + 2 ≤ D') (hs : s ≤ 2 * j + 12) (hm : m ≤ 2 * j + 12) (ht : (h.1 19 5) = 40) : zk_G h0 g0 T n K LC m 20900 (o + 1) (zk_X h0 g0 T n K LC LM j d s m o q 0 0 h g) ((f_Ps_deepen h).bind fun h7 => ((f_Ps_take h7 40).bind fun h9 => (zd_B (f_Ps_expression D h9 0) fun v11 h12 => ((f_Ps_take h12 41).bind fun h14 => (some (v11, (zs_uF h14 19 7 ((h14.1 19 7) - 1)))))))) (g_Mo_bracket (f_Mo_expression D') g) := by
  have bK := zk_bK H
  have x3 := (zk_dd H).2.2.1
  obtain ⟨D, rfl⟩ : ∃ z, D = z + 2 := ⟨D - 2, by omega⟩
  obtain ⟨D', rfl⟩ : ∃ z, D' = z + 1 := ⟨D' - 1, by omega⟩
  unfold g_Mo_bracket
  obtain ⟨g1, e1, L1, qN⟩ := zk_mnode H (kd := 99) (kn := 99) ((g.1 68 7)) 0 (by omega) rfl
  rw [e1, zo_B]
  obtain ⟨h2, g2, e3, e4, R⟩ := zk_deep L1
  rw [e3, e4, Option.bind_some, Option.bind_some]
  rcases R with ⟨hd, L2, f1, f2⟩ | ⟨φ, w, z1, z2⟩
  · have tk2 : (h2.1 19 5) = 40 := by rw [L2.2.2.2.1.2.2.1, ← H.2.2.2.1.2.2.1]; exact ht
    obtain ⟨h3, g3, e5, e6, f3, f4, R⟩ := zk_step L2 (zk_notE L2 (by rw [tk2]; decide))
    rw [tk2] at e5
    rw [e5, zk_nx2 L2, e6, Option.bind_some, Option.bind_some]
    rcases R with ⟨LM3, hp, L3⟩ | ⟨φ, w, z1, z2⟩
    · obtain ⟨x, h4, g4, e7, e8, R⟩ := EP hd (D := D + 2) (D' := D' + 1) (b := m) L3 (Nat.le_refl _) (by omega) (by omega) hq1 (by omega) (by omega) (by omega) (by omega) (by omega)
      rw [e7, e8, zo_B, Option.bind_some]
      rcases R with ⟨t, LM4, j4, d4, s4, m4, a, ⟨r0, r0c⟩, r1, r2, ⟨r3, r4, r5, r6, r7, r8⟩, ⟨r9, r9a, r9b⟩, r10, r11, r12, r13⟩ | ⟨vx, φ, w, m', w1, w2, z1, z2⟩
      · have b4 := zk_bK r2
        have vx : zq_v x := ⟨a, by omega, r9⟩
        obtain ⟨h5, g5, e9, e10, R⟩ := zk_wantS r2 (c := 41) (k := 41) (by decide) (by decide)
        rw [show f_Ps_take h4 41 = some h5 from e9, show f_Mo_wantSign g4 41 = some g5 from e10, Option.bind_some, Option.bind_some]
        have bad : ∀ φ w, zq_Z h0 T n K LC φ w h5 → zx_B g0 T n φ w m4 o g5 → zk_G h0 g0 T n K LC m 20900 (o + 1) (zk_X h0 g0 T n K LC LM j d s m o q 0 0 h g) (some (x, (zs_uF h5 19 7 ((h5.1 19 7) - 1)))) (if (g5.1 68 10) = 0 then (if zd_in (nI m) 33500 then ((f_Mo_keep (zs_uF g5 68 12 ((g5.1 68 12) - 1)) (g5.2.1 76 (nI m).toNatClampNeg)).bind fun h15 => (if zd_in (nI m) 33500 then (if zd_in (h15.2.1 76 (nI m).toNatClampNeg) 33500 then (some (zs_uM h15 75 (h15.2.1 76 (nI m).toNatClampNeg).toNatClampNeg (-1))) else none) else none)) else none) else (some (zs_uF g5 68 12 ((g5.1 68 12) - 1)))) := by
          intro φ w z1 z2
          refine zk_Gf (φ := φ) (w := w) ?_ ?_
          · repeat' first
              | with_reducible exact zw_some.mpr ⟨by assumption, by assumption⟩
              | with_reducible exact zw_some.mpr ⟨by assumption, zz_open (by assumption)⟩
              | (rw [zw_B]; with_reducible refine zw_mono (zz_expression (by assumption)) ?_; rintro _ ⟨_, _⟩)
              | (rw [zw_B]; with_reducible refine zw_mono (zz_operand (by assumption)) ?_; rintro _ ⟨_, _⟩)
              | (rw [zw_bind]; with_reducible refine zw_mono (zz_take (by assumption)) ?_; intro _ _)
              | (rw [zw_B]; with_reducible refine zw_mono (zz_constant (by assumption)) ?_; rintro _ ⟨_, _⟩)
              | (rw [zw_B]; with_reducible refine zw_mono (zz_simpleType (by assumption)) ?_; rintro _ ⟨_, _⟩)
              | (rw [zw_B]; with_reducible refine zw_mono (zz_type (by assumption)) ?_; rintro _ ⟨_, _⟩)
              | (rw [zw_B]; with_reducible refine zw_mono (zz_whole (by assumption)) ?_; rintro _ ⟨_, _⟩)
              | (rw [zw_B]; with_reducible refine zw_mono (zz_add (by assumption)) ?_; rintro _ ⟨_, _⟩)
              | (rw [zw_B]; with_reducible refine zw_mono (zz_hang (by assumption) (by assumption) (by first | assumption | exact zq_vl_n | exact zq_vl_v (by assumption)) (by assumption)) ?_; rintro _ ⟨_, _⟩)
              | rw [if_pos (zq_at (by assumption))]
              | rw [zz_isCell (by assumption), if_pos rfl]
              | rw [if_neg (zq_ne (by assumption) (by decide) (by decide))]
          · repeat' first
              | (with_reducible refine zw_some.mpr ⟨_, ⟨?_, ?_⟩, by assumption⟩ <;> omega)
              | (with_reducible refine zw_some.mpr ⟨_, ⟨?_, ?_⟩, zx_Om (by assumption) ?_⟩ <;> omega)
              | (with_reducible refine zw_some.mpr ⟨_, ⟨?_, ?_⟩, zx_Om (zx_uF (by assumption) (Or.inl rfl)) ?_⟩ <;> omega)
              | (rw [zw_bind]; with_reducible refine zw_mono (zxw_next2 (by assumption)) ?_; intro _ _)
              | (rw [zw_bind]; with_reducible refine zw_mono (zx_open (by assumption)) ?_; intro _ _)
              | (rw [zw_bind]; with_reducible refine zw_mono (zxw_expression (by assumption)) ?_; intro _ _)
              | (rw [zw_bind]; with_reducible refine zw_mono (zxw_operand (by assumption)) ?_; intro _ _)
              | (rw [zw_bind]; with_reducible refine zw_mono (zxb_keep (by assumption) (by omega)) ?_; intro _ _)
              | (rw [zw_B]; with_reducible refine zw_mono (zxb_node (by assumption) (by omega) rfl) ?_; rintro _ ⟨e1, _⟩; try rw [e1])
              | (rw [zw_bind]; with_reducible refine zw_mono (zxw_wantSign (by assumption)) ?_; intro _ _)
              | (rw [zw_bind]; with_reducible refine zw_mono (zxw_wantWord (by assumption)) ?_; intro _ _)
              | (rw [zw_bind]; with_reducible refine zw_mono (zxw_want (by assumption)) ?_; intro _ _)
              | (rw [zw_bind]; with_reducible refine zw_mono (zx_next (by assumption)) ?_; intro _ _)
              | (rw [zw_bind]; with_reducible refine zw_mono (zxb_constant (by assumption) (by omega) (by omega)) ?_; intro _ _)
              | (rw [zw_bind]; with_reducible refine zw_mono (zxw_simple (by assumption) (by omega) (by omega)) ?_; rintro _ ⟨_, _, _, _⟩)
              | (rw [zw_B]; with_reducible refine zw_mono (zxb_add (by assumption) (by omega) rfl (by omega)) ?_; rintro _ ⟨e1, _⟩; try rw [e1])
              | rw [zx_isSign (by assumption), if_pos rfl]
              | rw [zx_isWord (by assumption), if_pos rfl]
              | rw [if_neg (zx_ne (by assumption))]
              | rw [if_neg (zx_pos (by assumption))]
              | rw [if_pos (show (0 : Int32) ≤ 0 by decide)]
        rcases R with ⟨φ, w, z1, z2⟩ | ⟨_, ⟨f5, f6, LM5, hp5, L5⟩ | ⟨φ, w, z1, z2⟩⟩
        · exact bad φ w z1 z2
        · obtain ⟨y1, y2, y3, y4, y5, y6, y7⟩ := zk_dd L5
          have m2 := L5.2.2.2.2.2.2.1
          rw [if_pos m2, if_pos (zi_in (by omega) (by omega))]
          have ec : (nI m).toNatClampNeg = m := nI_clamp (by omega)
          have ed : (g5.1 68 12) - 1 = nI (d4 - 1) := by
            rw [y2, show (1 : Int32) = nI 1 from rfl, zi_sub (by omega)]
          have ed' : (h5.1 19 7) - 1 = nI (d4 - 1) := by
            rw [y1, show (1 : Int32) = nI 1 from rfl, zi_sub (by omega)]
          rw [ed, ed']
          have fo : zfr [(19, 7)] [] [] h5 (zs_uF h5 19 7 (nI (d4 - 1))) := zfr_F (by decide) zfr_rfl
          have fd : zfr [(68, 12)] [] [] g5 (zs_uF g5 68 12 (nI (d4 - 1))) := zfr_F (by decide) zfr_rfl
          have L6 : zk_L h0 g0 T n K LC (zs_uF h5 19 7 (nI (d4 - 1))) (zs_uF g5 68 12 (nI (d4 - 1))) LM5 (j4 + 1) (d4 - 1) s4 m4 o q := zk_hg L5 fo (zfr_w fd (by decide) (by decide) (by decide)) rfl rfl (by omega) y4 y5 y6 y7
          -- what is below the bracket
          have kN := zx_ka_N qN
          obtain ⟨q1, q2, q3, q4, q5, q6, q7, q8, q9⟩ := qN
          have ka13 : zx_ka (m + 1) g1 g3 := zx_ka_t (zx_ka_f f2) (zx_ka_l f4) (Nat.le_refl _)
          obtain ⟨_, _, _, _, i5, i6, _⟩ := ka13 m (by omega)
          obtain ⟨c1, c2⟩ := r12 (fun _ => False) .leaf (fun i z => z.elim) ⟨by rw [i5, q6, if_pos rfl], by rw [i6, q7, if_pos rfl]⟩
          obtain ⟨kd, p, v, l, et, t1, t2, t3⟩ := r0
          rw [et] at c2
          obtain ⟨a', ha', hP', ef⟩ := zt_rt c2
          have hPa : m + 1 ≤ a' ∧ a' < m4 := hP'.elim (fun z => z.elim) (fun z => z)
          rw [ef] at c2
          have ka45 : zx_ka m4 g4 g5 := zx_ka_l f6
          have ef5 : (g5.2.1 76) m = nI a' := by rw [(ka45 m (by omega)).2.2.2.2.1]; exact ef
          obtain ⟨g7, e11, L7, e12, e13, e14⟩ := zk_keep L6 (by omega) (nI a')
          rw [show g5.2.1 76 (nI m).toNatClampNeg = nI a' by rw [ec]; exact ef5, e11, Option.bind_some, if_pos (zi_in (by omega) (by omega))]
          have eA : ∀ k, ¬ k = 81 → g7.2.1 k = g5.2.1 k := fun k hk => by rw [e14.2.1 _ (by simpa using hk)]; exact fd.2.1 k List.not_mem_nil
          rw [show g7.2.1 76 (nI m).toNatClampNeg = nI a' by rw [ec, eA 76 (by decide)]; exact ef5, if_pos (zi_in (by omega) (by omega)), show (nI a').toNatClampNeg = a' from nI_clamp (by omega)]
          have f8 : zfr [] [75] [] g7 (zs_uM g7 75 a' (-1)) := zfr_M (by decide) zfr_rfl
          have z7 := zk_dd L7
          have L8 : zk_L h0 g0 T n K LC (zs_uF h5 19 7 (nI (d4 - 1))) (zs_uM g7 75 a' (-1)) LM5 (j4 + 1) (d4 - 1) s4 m4 (o + 1) q := zk_mf L7 (zfr_w f8 (by decide) (by decide) (by decide)) z7.2.2.2.1 z7.2.2.2.2.1
          have ka57 : zx_ka m4 g5 g7 := fun i _ => ⟨congrFun (eA _ (by decide)) i, congrFun (eA _ (by decide)) i, congrFun (eA _ (by decide)) i, congrFun (eA _ (by decide)) i, congrFun (eA _ (by decide)) i, congrFun (eA _ (by decide)) i, congrFun (eA _ (by decide)) i⟩
          have ka8 : zx_ka (m + 1) g7 (zs_uM g7 75 a' (-1)) := fun i hi => ⟨congrFun (f8.2.1 _ (by decide)) i, congrFun (f8.2.1 _ (by decide)) i, congrFun (f8.2.1 _ (by decide)) i, by rw [show (zs_uM g7 75 a' (-1)).2.1 75 i = if i = a' then -1 else (g7.2.1 75) i by simp [zu_MM], if_neg (by omega)], congrFun (f8.2.1 _ (by decide)) i, congrFun (f8.2.1 _ (by decide)) i, congrFun (f8.2.1 _ (by decide)) i⟩
          have M5 := zt_Mk hp5 (zx_ka_t ka45 ka57 (Nat.le_refl _)) (fun i hi => (hi.elim (fun z => z.elim) (fun z => z.2) : i < m4)) c2
          have k5 := zq_kp_f (s := s4) f5
          have k6 := zq_kp_f (s := s4) fo
          refine ⟨x, _, _, rfl, rfl, Or.inl ⟨t, LM5, j4 + 1, d4 - 1, s4, m4, a, ⟨⟨kd, p, v, l, et, t1, t2, by omega⟩, r0c⟩, hp.trans (r1.trans hp5), L8, by omega, ⟨r9, by omega, r9b⟩, ?_, ?_, ?_, ?_, ?_⟩⟩
          · exact zt_Ck k6 (fun i hi => hi.2) (zt_Ck k5 (fun i hi => hi.2) r10)
          · exact zq_kp_t (zq_kp_t (zq_kp_t (zq_kp_t (zq_kp_f (s := s) f1) (zq_kp_f (s := s) f3) (Nat.le_refl _)) r11 (by omega)) k5 (by omega)) k6 (by omega)
          · refine ⟨rfl, a', kd, p, v, l, et, by omega, by omega, ?_, ?_⟩
            · rw [f8.2.1 _ (by decide)]; exact e12
            · rw [et]
              exact zt_Mm (fun i hi => hi.elim (fun z => z.elim) (fun z => by omega)) (zo_up ha' M5)
          · exact zx_ka_t (zx_ka_t (zx_ka_t (zx_ka_t (zx_ka_t kN ka13 (by omega)) (zx_kp_ka (m := m) c1 (Nat.le_refl m)) (Nat.le_refl m)) ka45 (by omega)) ka57 (by omega)) ka8 (by omega)
          · have a1 : zo_fr o g g3 := zo_fr_t (zo_fr_t (zo_fr_f q9 (by decide) (by decide) (by decide)) (zo_fr_f f2 (by decide) (by decide) (by decide)) (Nat.le_refl o)) (zo_fr_f f4 (by decide) (by decide) (by decide)) (Nat.le_refl o)
            have a2 : zo_fr o g3 (zs_uF g5 68 12 (nI (d4 - 1))) := zo_fr_t (zo_fr_t r13 (zo_fr_f f6 (by decide) (by decide) (by decide)) (Nat.le_refl o)) (zo_fr_f fd (by decide) (by decide) (by decide)) (Nat.le_refl o)
            exact zo_fr_t (zo_fr_t (zo_fr_t a1 a2 (Nat.le_refl o)) e13 (Nat.le_refl o)) (zo_fr_f f8 (by decide) (by decide) (by decide)) (Nat.le_refl o)
        · exact bad φ w z1 z2
      · refine zk_Gf (φ := φ) (w := w) ?_ ?_
        · repeat' first
            | with_reducible exact zw_some.mpr ⟨by assumption, by assumption⟩
            | with_reducible exact zw_some.mpr ⟨by assumption, zz_open (by assumption)⟩
            | (rw [zw_B]; with_reducible refine zw_mono (zz_expression (by assumption)) ?_; rintro _ ⟨_, _⟩)
            | (rw [zw_B]; with_reducible refine zw_mono (zz_operand (by assumption)) ?_; rintro _ ⟨_, _⟩)
            | (rw [zw_bind]; with_reducible refine zw_mono (zz_take (by assumption)) ?_; intro _ _)
            | (rw [zw_B]; with_reducible refine zw_mono (zz_constant (by assumption)) ?_; rintro _ ⟨_, _⟩)
            | (rw [zw_B]; with_reducible refine zw_mono (zz_simpleType (by assumption)) ?_; rintro _ ⟨_, _⟩)
            | (rw [zw_B]; with_reducible refine zw_mono (zz_type (by assumption)) ?_; rintro _ ⟨_, _⟩)
            | (rw [zw_B]; with_reducible refine zw_mono (zz_whole (by assumption)) ?_; rintro _ ⟨_, _⟩)
            | (rw [zw_B]; with_reducible refine zw_mono (zz_add (by assumption)) ?_; rintro _ ⟨_, _⟩)
            | (rw [zw_B]; with_reducible refine zw_mono (zz_hang (by assumption) (by assumption) (by first | assumption | exact zq_vl_n | exact zq_vl_v (by assumption)) (by assumption)) ?_; rintro _ ⟨_, _⟩)
            | rw [if_pos (zq_at (by assumption))]
            | rw [zz_isCell (by assumption), if_pos rfl]
            | rw [if_neg (zq_ne (by assumption) (by decide) (by decide))]
        · repeat' first
            | (with_reducible refine zw_some.mpr ⟨_, ⟨?_, ?_⟩, by assumption⟩ <;> omega)
            | (with_reducible refine zw_some.mpr ⟨_, ⟨?_, ?_⟩, zx_Om (by assumption) ?_⟩ <;> omega)
            | (with_reducible refine zw_some.mpr ⟨_, ⟨?_, ?_⟩, zx_Om (zx_uF (by assumption) (Or.inl rfl)) ?_⟩ <;> omega)
            | (rw [zw_bind]; with_reducible refine zw_mono (zxw_next2 (by assumption)) ?_; intro _ _)
            | (rw [zw_bind]; with_reducible refine zw_mono (zx_open (by assumption)) ?_; intro _ _)
            | (rw [zw_bind]; with_reducible refine zw_mono (zxw_expression (by assumption)) ?_; intro _ _)
            | (rw [zw_bind]; with_reducible refine zw_mono (zxw_operand (by assumption)) ?_; intro _ _)
            | (rw [zw_bind]; with_reducible refine zw_mono (zxb_keep (by assumption) (by omega)) ?_; intro _ _)
            | (rw [zw_B]; with_reducible refine zw_mono (zxb_node (by assumption) (by omega) rfl) ?_; rintro _ ⟨e1, _⟩; try rw [e1])
            | (rw [zw_bind]; with_reducible refine zw_mono (zxw_wantSign (by assumption)) ?_; intro _ _)
            | (rw [zw_bind]; with_reducible refine zw_mono (zxw_wantWord (by assumption)) ?_; intro _ _)
            | (rw [zw_bind]; with_reducible refine zw_mono (zxw_want (by assumption)) ?_; intro _ _)
            | (rw [zw_bind]; with_reducible refine zw_mono (zx_next (by assumption)) ?_; intro _ _)
            | (rw [zw_bind]; with_reducible refine zw_mono (zxb_constant (by assumption) (by omega) (by omega)) ?_; intro _ _)
            | (rw [zw_bind]; with_reducible refine zw_mono (zxw_simple (by assumption) (by omega) (by omega)) ?_; rintro _ ⟨_, _, _, _⟩)
            | (rw [zw_B]; with_reducible refine zw_mono (zxb_add (by assumption) (by omega) rfl (by omega)) ?_; rintro _ ⟨e1, _⟩; try rw [e1])
            | rw [zx_isSign (by assumption), if_pos rfl]
            | rw [zx_isWord (by assumption), if_pos rfl]
            | rw [if_neg (zx_ne (by assumption))]
            | rw [if_neg (zx_pos (by assumption))]
            | rw [if_pos (show (0 : Int32) ≤ 0 by decide)]
    · refine zk_Gf (φ := φ) (w := w) ?_ ?_
      · repeat' first
          | with_reducible exact zw_some.mpr ⟨by assumption, by assumption⟩
          | with_reducible exact zw_some.mpr ⟨by assumption, zz_open (by assumption)⟩
          | (rw [zw_B]; with_reducible refine zw_mono (zz_expression (by assumption)) ?_; rintro _ ⟨_, _⟩)
          | (rw [zw_B]; with_reducible refine zw_mono (zz_operand (by assumption)) ?_; rintro _ ⟨_, _⟩)
          | (rw [zw_bind]; with_reducible refine zw_mono (zz_take (by assumption)) ?_; intro _ _)
          | (rw [zw_B]; with_reducible refine zw_mono (zz_constant (by assumption)) ?_; rintro _ ⟨_, _⟩)
          | (rw [zw_B]; with_reducible refine zw_mono (zz_simpleType (by assumption)) ?_; rintro _ ⟨_, _⟩)
          | (rw [zw_B]; with_reducible refine zw_mono (zz_type (by assumption)) ?_; rintro _ ⟨_, _⟩)
          | (rw [zw_B]; with_reducible refine zw_mono (zz_whole (by assumption)) ?_; rintro _ ⟨_, _⟩)
          | (rw [zw_B]; with_reducible refine zw_mono (zz_add (by assumption)) ?_; rintro _ ⟨_, _⟩)
          | (rw [zw_B]; with_reducible refine zw_mono (zz_hang (by assumption) (by assumption) (by first | assumption | exact zq_vl_n | exact zq_vl_v (by assumption)) (by assumption)) ?_; rintro _ ⟨_, _⟩)
          | rw [if_pos (zq_at (by assumption))]
          | rw [zz_isCell (by assumption), if_pos rfl]
          | rw [if_neg (zq_ne (by assumption) (by decide) (by decide))]
      · repeat' first
          | (with_reducible refine zw_some.mpr ⟨_, ⟨?_, ?_⟩, by assumption⟩ <;> omega)
          | (with_reducible refine zw_some.mpr ⟨_, ⟨?_, ?_⟩, zx_Om (by assumption) ?_⟩ <;> omega)
          | (with_reducible refine zw_some.mpr ⟨_, ⟨?_, ?_⟩, zx_Om (zx_uF (by assumption) (Or.inl rfl)) ?_⟩ <;> omega)
          | (rw [zw_bind]; with_reducible refine zw_mono (zxw_next2 (by assumption)) ?_; intro _ _)
          | (rw [zw_bind]; with_reducible refine zw_mono (zx_open (by assumption)) ?_; intro _ _)
          | (rw [zw_bind]; with_reducible refine zw_mono (zxw_expression (by assumption)) ?_; intro _ _)
          | (rw [zw_bind]; with_reducible refine zw_mono (zxw_operand (by assumption)) ?_; intro _ _)
          | (rw [zw_bind]; with_reducible refine zw_mono (zxb_keep (by assumption) (by omega)) ?_; intro _ _)
          | (rw [zw_B]; with_reducible refine zw_mono (zxb_node (by assumption) (by omega) rfl) ?_; rintro _ ⟨e1, _⟩; try rw [e1])
          | (rw [zw_bind]; with_reducible refine zw_mono (zxw_wantSign (by assumption)) ?_; intro _ _)
          | (rw [zw_bind]; with_reducible refine zw_mono (zxw_wantWord (by assumption)) ?_; intro _ _)
          | (rw [zw_bind]; with_reducible refine zw_mono (zxw_want (by assumption)) ?_; intro _ _)
          | (rw [zw_bind]; with_reducible refine zw_mono (zx_next (by assumption)) ?_; intro _ _)
          | (rw [zw_bind]; with_reducible refine zw_mono (zxb_constant (by assumption) (by omega) (by omega)) ?_; intro _ _)
          | (rw [zw_bind]; with_reducible refine zw_mono (zxw_simple (by assumption) (by omega) (by omega)) ?_; rintro _ ⟨_, _, _, _⟩)
          | (rw [zw_B]; with_reducible refine zw_mono (zxb_add (by assumption) (by omega) rfl (by omega)) ?_; rintro _ ⟨e1, _⟩; try rw [e1])
          | rw [zx_isSign (by assumption), if_pos rfl]
          | rw [zx_isWord (by assumption), if_pos rfl]
          | rw [if_neg (zx_ne (by assumption))]
          | rw [if_neg (zx_pos (by assumption))]
          | rw [if_pos (show (0 : Int32) ≤ 0 by decide)]
  · refine zk_Gf (φ := φ) (w := w) ?_ ?_
    · repeat' first
        | with_reducible exact zw_some.mpr ⟨by assumption, by assumption⟩
        | with_reducible exact zw_some.mpr ⟨by assumption, zz_open (by assumption)⟩
        | (rw [zw_B]; with_reducible refine zw_mono (zz_expression (by assumption)) ?_; rintro _ ⟨_, _⟩)
        | (rw [zw_B]; with_reducible refine zw_mono (zz_operand (by assumption)) ?_; rintro _ ⟨_, _⟩)
        | (rw [zw_bind]; with_reducible refine zw_mono (zz_take (by assumption)) ?_; intro _ _)
        | (rw [zw_B]; with_reducible refine zw_mono (zz_constant (by assumption)) ?_; rintro _ ⟨_, _⟩)
        | (rw [zw_B]; with_reducible refine zw_mono (zz_simpleType (by assumption)) ?_; rintro _ ⟨_, _⟩)
        | (rw [zw_B]; with_reducible refine zw_mono (zz_type (by assumption)) ?_; rintro _ ⟨_, _⟩)
        | (rw [zw_B]; with_reducible refine zw_mono (zz_whole (by assumption)) ?_; rintro _ ⟨_, _⟩)
        | (rw [zw_B]; with_reducible refine zw_mono (zz_add (by assumption)) ?_; rintro _ ⟨_, _⟩)
        | (rw [zw_B]; with_reducible refine zw_mono (zz_hang (by assumption) (by assumption) (by first | assumption | exact zq_vl_n | exact zq_vl_v (by assumption)) (by assumption)) ?_; rintro _ ⟨_, _⟩)
        | rw [if_pos (zq_at (by assumption))]
        | rw [zz_isCell (by assumption), if_pos rfl]
        | rw [if_neg (zq_ne (by assumption) (by decide) (by decide))]
    · repeat' first
        | (with_reducible refine zw_some.mpr ⟨_, ⟨?_, ?_⟩, by assumption⟩ <;> omega)
        | (with_reducible refine zw_some.mpr ⟨_, ⟨?_, ?_⟩, zx_Om (by assumption) ?_⟩ <;> omega)
        | (with_reducible refine zw_some.mpr ⟨_, ⟨?_, ?_⟩, zx_Om (zx_uF (by assumption) (Or.inl rfl)) ?_⟩ <;> omega)
        | (rw [zw_bind]; with_reducible refine zw_mono (zxw_next2 (by assumption)) ?_; intro _ _)
        | (rw [zw_bind]; with_reducible refine zw_mono (zx_open (by assumption)) ?_; intro _ _)
        | (rw [zw_bind]; with_reducible refine zw_mono (zxw_expression (by assumption)) ?_; intro _ _)
        | (rw [zw_bind]; with_reducible refine zw_mono (zxw_operand (by assumption)) ?_; intro _ _)
        | (rw [zw_bind]; with_reducible refine zw_mono (zxb_keep (by assumption) (by omega)) ?_; intro _ _)
        | (rw [zw_B]; with_reducible refine zw_mono (zxb_node (by assumption) (by omega) rfl) ?_; rintro _ ⟨e1, _⟩; try rw [e1])
        | (rw [zw_bind]; with_reducible refine zw_mono (zxw_wantSign (by assumption)) ?_; intro _ _)
        | (rw [zw_bind]; with_reducible refine zw_mono (zxw_wantWord (by assumption)) ?_; intro _ _)
        | (rw [zw_bind]; with_reducible refine zw_mono (zxw_want (by assumption)) ?_; intro _ _)
        | (rw [zw_bind]; with_reducible refine zw_mono (zx_next (by assumption)) ?_; intro _ _)
        | (rw [zw_bind]; with_reducible refine zw_mono (zxb_constant (by assumption) (by omega) (by omega)) ?_; intro _ _)
        | (rw [zw_bind]; with_reducible refine zw_mono (zxw_simple (by assumption) (by omega) (by omega)) ?_; rintro _ ⟨_, _, _, _⟩)
        | (rw [zw_B]; with_reducible refine zw_mono (zxb_add (by assumption) (by omega) rfl (by omega)) ?_; rintro _ ⟨e1, _⟩; try rw [e1])
        | rw [zx_isSign (by assumption), if_pos rfl]
        | rw [zx_isWord (by assumption), if_pos rfl]
        | rw [if_neg (zx_ne (by assumption))]
        | rw [if_neg (zx_pos (by assumption))]
        | rw [if_pos (show (0 : Int32) ≤ 0 by decide)]
end ZR
