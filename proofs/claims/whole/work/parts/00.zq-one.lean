/-! Both readers in step: operands without a name. -/
theorem zq_hang_o {h h5 : zs_H} {x1 x2 x3 v x : Int32} (e : f_Tr_hang (zs_uF h 19 7 v) x1 x2 x3 = some (x, h5)) : ∃ h6, f_Tr_hang h x1 x2 x3 = some (x, h6) ∧ (h6.1 19 7) = (h.1 19 7) ∧ zs_uF h6 19 7 v = h5 := by
  unfold f_Tr_hang at e ⊢
  by_cases c : x2 = -1
  · rw [if_pos c] at e ⊢
    by_cases c2 : zd_in x1 32784
    · rw [if_pos c2] at e ⊢
      cases e
      exact ⟨_, rfl, rfl, rfl⟩
    · rw [if_neg c2] at e; cases e
  · rw [if_neg c] at e ⊢
    by_cases c2 : zd_in x2 32784
    · rw [if_pos c2] at e ⊢
      cases e
      exact ⟨_, rfl, rfl, rfl⟩
    · rw [if_neg c2] at e; cases e
theorem zk_Yc {s m o : Nat} {LM : List (List Int32)} {h g h' : zs_H} (a : zq_kp s h h') : zk_Y s m o LM h g LM h' g := ⟨a, fun _ _ => ⟨rfl, rfl, rfl, rfl, rfl, rfl, rfl⟩, fun _ _ => ⟨rfl, rfl, rfl⟩, List.prefix_refl _⟩
section ZQm
variable {g0 g : zs_H} {T : Nat → Int32} {n φ w m O : Nat}
theorem zxw_next2 (H : zx_B g0 T n φ w m O g) : zw (f_Mo_next2 g) (zx_B g0 T n φ w m O) := by rw [zx_next2 H, zw_some]; exact H
theorem zxw_expression {d : Nat} {x : Int32} (H : zx_B g0 T n φ w m O g) : zw (f_Mo_expression (d + 1) g x) (zx_B g0 T n φ w m O) := by rw [zxb_expression H, zw_some]; exact H
theorem zxw_operand {d : Nat} (H : zx_B g0 T n φ w m O g) : zw (f_Mo_operand (d + 1) g) (zx_B g0 T n φ w m O) := by rw [zxb_operand H, zw_some]; exact H
end ZQm
section ZQ
variable {h0 g0 h g : zs_H} {T : Nat → Int32} {n K : Nat} {LC LM : List (List Int32)} {j d s m o q : Nat}
theorem zk_nx2 (H : zk_L h0 g0 T n K LC h g LM j d s m o q) : f_Mo_next2 g = f_Mo_next g := by
  unfold f_Mo_next2
  rw [if_pos (H.2.2.2.2.2.2.1)]
  cases f_Mo_next g <;> rfl
/-- a number, TRUE or FALSE -/
theorem zk_olf {kd : Nat} {kc v2 w2 x : Int32} {X : zs_H → Int32} (H : zk_L h0 g0 T n K LC h g LM j d s m o q) (ho : o ≤ d) (hs : s ≤ 2 * j + 12) (hm : m ≤ 2 * j + 12) (hk : kd < 100) (hkc : kc = nI kd) (hkm : zt_km kd = kd) (hnk : zt_nk kd = false) (hS : kd ∈ zg_E) (h37 : ¬ kd = 37) (ha : zg_A kd 0 = true) (hv : zg_v kd v2) (hw : w2 = v2) (hx : (h.1 19 5) = x) (h6 : ¬ x = 6) (hX : ∀ h3, (h3.1 19 5) = (h.1 19 5) → X h3 = x) : zk_G h0 g0 T n K LC m 20900 (o + 1) (zk_X h0 g0 T n K LC LM j d s m o q 0 0 h g) (zd_B (f_Tr_add h kc ((h.1 19 6)) v2) fun v2 h3 => ((f_Ps_take h3 (X h3)).bind fun h5 => (some (v2, h5)))) (zd_B (f_Mo_node g kc ((g.1 68 7)) w2) fun v2 h3 => ((f_Mo_keep h3 v2).bind fun h5 => ((f_Mo_next h5).bind fun h7 => (some h7)))) := by
  have bK := zk_bK H
  have x3 := (zk_dd H).2.2.1
  have m4 := H.2.2.2.2.2.2.2.2.1
  obtain ⟨h1, e1, L1, qA⟩ := zk_cadd H (kd := kd) (kv := kc) (v := v2) (by omega) (by omega) hkc
  have qA' := qA
  obtain ⟨a1, a2, a3, a4, a5, a6, a7⟩ := qA'
  obtain ⟨g1, e2, J1⟩ := zk_J1 (D := 0) (LM := LM) (h := h) (g := g) (kd := kd) (km := kc) (p := nI (zl_at T n j).2.1) (v := v2) (w := w2) (j := j) (d := d) L1 (zk_Yc (zq_kp_A qA)) (Nat.le_refl j) (Nat.le_refl d) ⟨by rw [a2, if_pos rfl], by rw [a3, if_pos rfl], by rw [a4, if_pos rfl], by rw [a6, if_pos rfl], by rw [a5, if_pos rfl]⟩ (by omega) (by omega) (by rw [hkm]; exact hkc) (by rw [if_neg (by rw [hnk]; decide)]; exact hw)
  obtain ⟨g2, e3, L2, fin⟩ := zk_Jk J1 (by omega) ha hv hS h37
  have etk : (h1.1 19 5) = (h.1 19 5) := a7.1 _ _ (by decide)
  rw [e1, zo_B, m4, e2, zo_B, e3, Option.bind_some, hX h1 etk]
  have v0 : zq_v (nI s) := ⟨s, by omega, rfl⟩
  obtain ⟨h3, g3, e4, e5, f3, f4, R⟩ := zk_step L2 (zk_notE L2 (by rw [etk, hx]; exact h6))
  rw [etk, hx] at e4
  rw [e4, e5]
  rcases R with ⟨LM3, hp, L3⟩ | ⟨φ, w, z1, z2⟩
  · exact ⟨nI s, h3, g3, rfl, rfl, Or.inl (fin (zk_Yk ⟨f3, f4⟩ hp) L3 (by omega) (by omega) (by omega) (Nat.le_refl d) (by omega))⟩
  · exact ⟨nI s, h3, g3, rfl, rfl, Or.inr ⟨v0, φ, w, m + 1, by omega, by omega, z1, z2⟩⟩
/-- - and NOT -/
theorem zk_one {D D' c : Nat} (OP : d < 60 → zk_OP h0 g0 T n K LC (d + 1)) (H : zk_L h0 g0 T n K LC h g LM j d s m o q) (ho : o ≤ d) (hq : q ≤ d + 1) (hq1 : 1 ≤ q) (hD : 3 * (60 - d) + 3 ≤ D) (hD' : 4 * (60 - d) + 3 ≤ D') (hs : s ≤ 2 * j + 12) (hm : m ≤ 2 * j + 12) (hc : c < 2) (h6 : ¬ (h.1 19 5) = 6) : zk_G h0 g0 T n K LC m 20900 (o + 1) (zk_X h0 g0 T n K LC LM j d s m o q 0 0 h g) (f_Ps_operand_88 (f_Ps_operand D) h (nI c) ((h.1 19 6)) 36) (f_Mo_operand_46 (f_Mo_operand D') g (nI c) ((g.1 68 7)) 36) := by
  have bK := zk_bK H
  have x3 := (zk_dd H).2.2.1
  have m4 := H.2.2.2.2.2.2.2.2.1
  obtain ⟨D, rfl⟩ : ∃ z, D = z + 1 := ⟨D - 1, by omega⟩
  obtain ⟨D', rfl⟩ : ∃ z, D' = z + 1 := ⟨D' - 1, by omega⟩
  have v0 : zq_v (nI s) := ⟨s, by omega, rfl⟩
  obtain ⟨h1, e1, L1, qA⟩ := zk_cadd H (kd := 36) (kv := 36) (v := nI c) (by omega) (by omega) rfl
  have qA' := qA
  obtain ⟨a1, a2, a3, a4, a5, a6, a7⟩ := qA'
  obtain ⟨g1, e2, J1⟩ := zk_J1 (D := 0) (LM := LM) (h := h) (g := g) (kd := 36) (km := 36) (p := nI (zl_at T n j).2.1) (v := nI c) (w := nI c) (j := j) (d := d) L1 (zk_Yc (zq_kp_A qA)) (Nat.le_refl j) (Nat.le_refl d) ⟨by rw [a2, if_pos rfl], by rw [a3, if_pos rfl], by rw [a4, if_pos rfl], by rw [a6, if_pos rfl], by rw [a5, if_pos rfl]⟩ (by omega) (by omega) rfl (by rw [if_neg (by decide)])
  unfold f_Ps_operand_88 f_Mo_operand_46
  rw [e1, zo_B, m4, e2, zo_B]
  obtain ⟨h2, g2, e3, e4, R⟩ := zk_deep J1.1
  rw [e3, e4, Option.bind_some, Option.bind_some]
  rcases R with ⟨hd, L2, f1, f2⟩ | ⟨φ, w, z1, z2⟩
  · have J2 := zk_Jt J1 (zk_Yo f1 f2) (by omega) (Nat.le_refl j) L2
    obtain ⟨h3, g3, e5, e6, f3, f4, R⟩ := zk_step L2 (zk_notE L2 (by rw [L2.2.2.2.1.2.2.1, ← H.2.2.2.1.2.2.1]; exact h6))
    rw [e5, zk_nx2 L2, e6, Option.bind_some, Option.bind_some]
    rcases R with ⟨LM3, hp, L3⟩ | ⟨φ, w, z1, z2⟩
    · have J3 := zk_Jt J2 (zk_Yk ⟨f3, f4⟩ hp) (by omega) (by omega) L3
      obtain ⟨x, h4, g4, e7, e8, R⟩ := OP hd (D := D + 1) (D' := D' + 1) L3 (Nat.le_refl _) (by omega) (by omega) hq1 (by omega) (by omega) (by omega) (by omega)
      rw [e7, e8, zo_B, Option.bind_some]
      rcases R with ⟨t, LM4, j4, d4, s4, m4', a, ⟨r0, r0c⟩, r1, r2, ⟨r3, r4, r5, r6, r7, r8⟩, ⟨r9, r9a, r9b⟩, r10, r11, r12, r13, r14⟩ | ⟨vx, φ, w, m', w1, w2, z1, z2⟩
      · obtain ⟨_, a', kd, pp, vv, l, et, ha', ha2, hpt, hM⟩ := r12
        obtain ⟨y1, y2, y3, y4, y5, y6, y7⟩ := zk_dd r2
        have b4 := zk_bK r2
        have m2 := r2.2.2.2.2.2.2.1
        rw [if_pos m2]
        have eo : (g4.1 68 25) - 1 = nI o := by
          rw [y6, show (1 : Int32) = nI 1 from rfl, zi_sub (by omega)]; rfl
        have ed : (g4.1 68 12) - 1 = nI (d4 - 1) := by
          rw [y2, show (1 : Int32) = nI 1 from rfl, zi_sub (by omega)]
        have ed' : (h4.1 19 7) - 1 = nI (d4 - 1) := by
          rw [y1, show (1 : Int32) = nI 1 from rfl, zi_sub (by omega)]
        rw [eo, ed, if_pos (zi_in (by omega) (by omega)), nI_clamp (by omega), hpt]
        have fB : zfr [(68, 12), (68, 25)] [] [] g4 (zs_uF (zs_uF g4 68 12 (nI (d4 - 1))) 68 25 (nI o)) := zfr_F (by decide) (zfr_F (by decide) zfr_rfl)
        obtain ⟨gB, hgB⟩ : ∃ gB, gB = zs_uF (zs_uF g4 68 12 (nI (d4 - 1))) 68 25 (nI o) := ⟨_, rfl⟩
        rw [← hgB] at fB ⊢
        have eA : ∀ k, gB.2.1 k = g4.2.1 k := fun k => fB.2.1 k List.not_mem_nil
        have WB : zx_W gB m4' := by unfold zx_W; rw [eA, eA]; exact y5
        obtain ⟨gC, e9, H1, H2⟩ := zx_hang (g := gB) (m := m4') (a := a') (b := m) (by omega) (by omega) (by omega) WB
        rw [e9, Option.bind_some]
        have fC := H1.2.2.2
        have ap : zx_AP LC LM3 LM4 m (m + 1) m4' t g3 gC := by
          rw [et] at hM ⊢
          exact zx_AP_h r1 (zx_ka_t r13 (zx_ka_f fB) (Nat.le_refl _)) H1 (zt_Mk (List.prefix_refl _) (zx_ka_f (m := m4') fB) (fun i hi => hi.2) hM) (fun i hi => hi) (by omega) (by omega)
        have Lc : zk_L h0 g0 T n K LC (zs_uF h4 19 7 (nI (d4 - 1))) gC LM4 j4 (d4 - 1) s4 m4' o q := by
          refine zk_hg r2 (zfr_F (by decide) zfr_rfl) (zfr_trans (zfr_w fB (by decide) (by decide) (by decide)) (zfr_w fC (by decide) (by decide) (by decide))) rfl ?_ (by omega) ?_ H2 ?_ ?_
          · rw [fC.1 _ _ (by decide), hgB]; rfl
          · rw [fC.1 _ _ (by decide), fB.1 _ _ (by decide)]; exact y4
          · rw [fC.1 _ _ (by decide), hgB]; rfl
          · rw [fC.1 _ _ (by decide), fB.1 _ _ (by decide)]; exact y7
        have fh : zfr [(19, 7)] [] [] h4 (zs_uF h4 19 7 (nI (d4 - 1))) := zfr_F (by decide) zfr_rfl
        obtain ⟨h5, e10, J5⟩ := zk_Jc0 (e' := 2) (D' := (60 - d) + (d4 - 1 - d) + 1) J3 (zg_Tm r0 (fun _ z => z) (by omega)) r0c r1 Lc (by omega) ⟨r9a, r9b⟩ (zt_Ck (zq_kp_f (s := s4) fh) (fun i hi => hi.2) r10) (zq_kp_t r11 (zq_kp_f (s := s4) fh) (by omega)) ap (zo_fr_t (zo_fr_t r14 (zo_fr_f fB (by decide) (by decide) (by decide)) (Nat.le_refl o)) (zo_fr_f fC (by decide) (by decide) (by decide)) (Nat.le_refl o)) (show ∀ c ∈ zg_E, zg_q 36 0 c = 1 by decide) (by omega)
        obtain ⟨h6', e11, e12, e13⟩ := zq_hang_o e10
        rw [r9, e11, zo_B, e12, ed', e13]
        obtain ⟨g6, e14, L6, fin⟩ := zk_Jk J5 (by omega) rfl (Or.inr ⟨c, hc, rfl, fun z => by omega⟩) (by decide) (by decide)
        rw [e14]
        exact ⟨nI s, h5, g6, rfl, rfl, Or.inl (fin zk_Yr L6 (Nat.le_refl _) (by omega) (by omega) (by omega) (by omega))⟩
      · refine zk_Gf (φ := φ) (w := w) ?_ ?_
        · repeat' first
            | with_reducible exact zw_some.mpr ⟨by assumption, by assumption⟩
            | with_reducible exact zw_some.mpr ⟨by assumption, zz_open (by assumption)⟩
            | (rw [zw_B]; with_reducible refine zw_mono (zz_expression (by assumption)) ?_; rintro _ ⟨_, _⟩)
            | (rw [zw_B]; with_reducible refine zw_mono (zz_operand (by assumption)) ?_; rintro _ ⟨_, _⟩)
            | (rw [zw_bind]; with_reducible refine zw_mono (zz_take (by assumption)) ?_; intro _ _)
            | (rw [zw_B]; with_reducible refine zw_mono (zz_constant (by assumption)) ?_; rintro _ ⟨_, _⟩)
            | (rw [zw_B]; with_reducible refine zw_mono (zz_simpleType (by assumption)) ?_; rintro _ ⟨_, _⟩)
            | (rw [zw_B]; with_reducible refine zw_mono (zz_type (by assumption)) ?_; rintro _ ⟨_, _⟩)
            | (rw [zw_B]; with_reducible refine zw_mono (zz_whole (by assumption)) ?_; rintro _ ⟨_, _⟩)
            | (rw [zw_B]; with_reducible refine zw_mono (zz_add (by assumption)) ?_; rintro _ ⟨_, _⟩)
            | (rw [zw_B]; with_reducible refine zw_mono (zz_hang (by assumption) (by assumption) (by first | assumption | exact zq_vl_n | exact zq_vl_v (by assumption)) (by assumption)) ?_; rintro _ ⟨_, _⟩)
            | rw [if_pos (zq_at (by assumption))]
            | rw [zz_isCell (by assumption), if_pos rfl]
            | rw [if_neg (zq_ne (by assumption) (by decide) (by decide))]
        · repeat' first
            | (with_reducible refine zw_some.mpr ⟨_, ⟨?_, ?_⟩, by assumption⟩ <;> omega)
            | (with_reducible refine zw_some.mpr ⟨_, ⟨?_, ?_⟩, zx_Om (by assumption) ?_⟩ <;> omega)
            | (with_reducible refine zw_some.mpr ⟨_, ⟨?_, ?_⟩, zx_Om (zx_uF (by assumption) (Or.inl rfl)) ?_⟩ <;> omega)
            | (rw [zw_bind]; with_reducible refine zw_mono (zxw_next2 (by assumption)) ?_; intro _ _)
            | (rw [zw_bind]; with_reducible refine zw_mono (zx_open (by assumption)) ?_; intro _ _)
            | (rw [zw_bind]; with_reducible refine zw_mono (zxw_expression (by assumption)) ?_; intro _ _)
            | (rw [zw_bind]; with_reducible refine zw_mono (zxw_operand (by assumption)) ?_; intro _ _)
            | (rw [zw_bind]; with_reducible refine zw_mono (zxb_keep (by assumption) (by omega)) ?_; intro _ _)
            | (rw [zw_B]; with_reducible refine zw_mono (zxb_node (by assumption) (by omega) rfl) ?_; rintro _ ⟨e1, _⟩; try rw [e1])
            | (rw [zw_bind]; with_reducible refine zw_mono (zxw_wantSign (by assumption)) ?_; intro _ _)
            | (rw [zw_bind]; with_reducible refine zw_mono (zxw_wantWord (by assumption)) ?_; intro _ _)
            | (rw [zw_bind]; with_reducible refine zw_mono (zxw_want (by assumption)) ?_; intro _ _)
            | (rw [zw_bind]; with_reducible refine zw_mono (zx_next (by assumption)) ?_; intro _ _)
            | (rw [zw_bind]; with_reducible refine zw_mono (zxb_constant (by assumption) (by omega) (by omega)) ?_; intro _ _)
            | (rw [zw_bind]; with_reducible refine zw_mono (zxw_simple (by assumption) (by omega) (by omega)) ?_; rintro _ ⟨_, _, _, _⟩)
            | (rw [zw_B]; with_reducible refine zw_mono (zxb_add (by assumption) (by omega) rfl (by omega)) ?_; rintro _ ⟨e1, _⟩; try rw [e1])
            | rw [zx_isSign (by assumption), if_pos rfl]
            | rw [zx_isWord (by assumption), if_pos rfl]
            | rw [if_neg (zx_ne (by assumption))]
            | rw [if_neg (zx_pos (by assumption))]
            | rw [if_pos (show (0 : Int32) ≤ 0 by decide)]
    · refine zk_Gf (φ := φ) (w := w) ?_ ?_
      · repeat' first
          | with_reducible exact zw_some.mpr ⟨by assumption, by assumption⟩
          | with_reducible exact zw_some.mpr ⟨by assumption, zz_open (by assumption)⟩
          | (rw [zw_B]; with_reducible refine zw_mono (zz_expression (by assumption)) ?_; rintro _ ⟨_, _⟩)
          | (rw [zw_B]; with_reducible refine zw_mono (zz_operand (by assumption)) ?_; rintro _ ⟨_, _⟩)
          | (rw [zw_bind]; with_reducible refine zw_mono (zz_take (by assumption)) ?_; intro _ _)
          | (rw [zw_B]; with_reducible refine zw_mono (zz_constant (by assumption)) ?_; rintro _ ⟨_, _⟩)
          | (rw [zw_B]; with_reducible refine zw_mono (zz_simpleType (by assumption)) ?_; rintro _ ⟨_, _⟩)
          | (rw [zw_B]; with_reducible refine zw_mono (zz_type (by assumption)) ?_; rintro _ ⟨_, _⟩)
          | (rw [zw_B]; with_reducible refine zw_mono (zz_whole (by assumption)) ?_; rintro _ ⟨_, _⟩)
          | (rw [zw_B]; with_reducible refine zw_mono (zz_add (by assumption)) ?_; rintro _ ⟨_, _⟩)
          | (rw [zw_B]; with_reducible refine zw_mono (zz_hang (by assumption) (by assumption) (by first | assumption | exact zq_vl_n | exact zq_vl_v (by assumption)) (by assumption)) ?_; rintro _ ⟨_, _⟩)
          | rw [if_pos (zq_at (by assumption))]
          | rw [zz_isCell (by assumption), if_pos rfl]
          | rw [if_neg (zq_ne (by assumption) (by decide) (by decide))]
      · repeat' first
          | (with_reducible refine zw_some.mpr ⟨_, ⟨?_, ?_⟩, by assumption⟩ <;> omega)
          | (with_reducible refine zw_some.mpr ⟨_, ⟨?_, ?_⟩, zx_Om (by assumption) ?_⟩ <;> omega)
          | (with_reducible refine zw_some.mpr ⟨_, ⟨?_, ?_⟩, zx_Om (zx_uF (by assumption) (Or.inl rfl)) ?_⟩ <;> omega)
          | (rw [zw_bind]; with_reducible refine zw_mono (zxw_next2 (by assumption)) ?_; intro _ _)
          | (rw [zw_bind]; with_reducible refine zw_mono (zx_open (by assumption)) ?_; intro _ _)
          | (rw [zw_bind]; with_reducible refine zw_mono (zxw_expression (by assumption)) ?_; intro _ _)
          | (rw [zw_bind]; with_reducible refine zw_mono (zxw_operand (by assumption)) ?_; intro _ _)
          | (rw [zw_bind]; with_reducible refine zw_mono (zxb_keep (by assumption) (by omega)) ?_; intro _ _)
          | (rw [zw_B]; with_reducible refine zw_mono (zxb_node (by assumption) (by omega) rfl) ?_; rintro _ ⟨e1, _⟩; try rw [e1])
          | (rw [zw_bind]; with_reducible refine zw_mono (zxw_wantSign (by assumption)) ?_; intro _ _)
          | (rw [zw_bind]; with_reducible refine zw_mono (zxw_wantWord (by assumption)) ?_; intro _ _)
          | (rw [zw_bind]; with_reducible refine zw_mono (zxw_want (by assumption)) ?_; intro _ _)
          | (rw [zw_bind]; with_reducible refine zw_mono (zx_next (by assumption)) ?_; intro _ _)
          | (rw [zw_bind]; with_reducible refine zw_mono (zxb_constant (by assumption) (by omega) (by omega)) ?_; intro _ _)
          | (rw [zw_bind]; with_reducible refine zw_mono (zxw_simple (by assumption) (by omega) (by omega)) ?_; rintro _ ⟨_, _, _, _⟩)
          | (rw [zw_B]; with_reducible refine zw_mono (zxb_add (by assumption) (by omega) rfl (by omega)) ?_; rintro _ ⟨e1, _⟩; try rw [e1])
          | rw [zx_isSign (by assumption), if_pos rfl]
          | rw [zx_isWord (by assumption), if_pos rfl]
          | rw [if_neg (zx_ne (by assumption))]
          | rw [if_neg (zx_pos (by assumption))]
          | rw [if_pos (show (0 : Int32) ≤ 0 by decide)]
  · refine zk_Gf (φ := φ) (w := w) ?_ ?_
    · repeat' first
        | with_reducible exact zw_some.mpr ⟨by assumption, by assumption⟩
        | with_reducible exact zw_some.mpr ⟨by assumption, zz_open (by assumption)⟩
        | (rw [zw_B]; with_reducible refine zw_mono (zz_expression (by assumption)) ?_; rintro _ ⟨_, _⟩)
        | (rw [zw_B]; with_reducible refine zw_mono (zz_operand (by assumption)) ?_; rintro _ ⟨_, _⟩)
        | (rw [zw_bind]; with_reducible refine zw_mono (zz_take (by assumption)) ?_; intro _ _)
        | (rw [zw_B]; with_reducible refine zw_mono (zz_constant (by assumption)) ?_; rintro _ ⟨_, _⟩)
        | (rw [zw_B]; with_reducible refine zw_mono (zz_simpleType (by assumption)) ?_; rintro _ ⟨_, _⟩)
        | (rw [zw_B]; with_reducible refine zw_mono (zz_type (by assumption)) ?_; rintro _ ⟨_, _⟩)
        | (rw [zw_B]; with_reducible refine zw_mono (zz_whole (by assumption)) ?_; rintro _ ⟨_, _⟩)
        | (rw [zw_B]; with_reducible refine zw_mono (zz_add (by assumption)) ?_; rintro _ ⟨_, _⟩)
        | (rw [zw_B]; with_reducible refine zw_mono (zz_hang (by assumption) (by assumption) (by first | assumption | exact zq_vl_n | exact zq_vl_v (by assumption)) (by assumption)) ?_; rintro _ ⟨_, _⟩)
        | rw [if_pos (zq_at (by assumption))]
        | rw [zz_isCell (by assumption), if_pos rfl]
        | rw [if_neg (zq_ne (by assumption) (by decide) (by decide))]
    · repeat' first
        | (with_reducible refine zw_some.mpr ⟨_, ⟨?_, ?_⟩, by assumption⟩ <;> omega)
        | (with_reducible refine zw_some.mpr ⟨_, ⟨?_, ?_⟩, zx_Om (by assumption) ?_⟩ <;> omega)
        | (with_reducible refine zw_some.mpr ⟨_, ⟨?_, ?_⟩, zx_Om (zx_uF (by assumption) (Or.inl rfl)) ?_⟩ <;> omega)
        | (rw [zw_bind]; with_reducible refine zw_mono (zxw_next2 (by assumption)) ?_; intro _ _)
        | (rw [zw_bind]; with_reducible refine zw_mono (zx_open (by assumption)) ?_; intro _ _)
        | (rw [zw_bind]; with_reducible refine zw_mono (zxw_expression (by assumption)) ?_; intro _ _)
        | (rw [zw_bind]; with_reducible refine zw_mono (zxw_operand (by assumption)) ?_; intro _ _)
        | (rw [zw_bind]; with_reducible refine zw_mono (zxb_keep (by assumption) (by omega)) ?_; intro _ _)
        | (rw [zw_B]; with_reducible refine zw_mono (zxb_node (by assumption) (by omega) rfl) ?_; rintro _ ⟨e1, _⟩; try rw [e1])
        | (rw [zw_bind]; with_reducible refine zw_mono (zxw_wantSign (by assumption)) ?_; intro _ _)
        | (rw [zw_bind]; with_reducible refine zw_mono (zxw_wantWord (by assumption)) ?_; intro _ _)
        | (rw [zw_bind]; with_reducible refine zw_mono (zxw_want (by assumption)) ?_; intro _ _)
        | (rw [zw_bind]; with_reducible refine zw_mono (zx_next (by assumption)) ?_; intro _ _)
        | (rw [zw_bind]; with_reducible refine zw_mono (zxb_constant (by assumption) (by omega) (by omega)) ?_; intro _ _)
        | (rw [zw_bind]; with_reducible refine zw_mono (zxw_simple (by assumption) (by omega) (by omega)) ?_; rintro _ ⟨_, _, _, _⟩)
        | (rw [zw_B]; with_reducible refine zw_mono (zxb_add (by assumption) (by omega) rfl (by omega)) ?_; rintro _ ⟨e1, _⟩; try rw [e1])
        | rw [zx_isSign (by assumption), if_pos rfl]
        | rw [zx_isWord (by assumption), if_pos rfl]
        | rw [if_neg (zx_ne (by assumption))]
        | rw [if_neg (zx_pos (by assumption))]
        | rw [if_pos (show (0 : Int32) ≤ 0 by decide)]
end ZQ
