section
/-! The machine: the class runs straight code, units. -/
def yR_I (h0 : zs_H) (D e base : Nat) : yW_I := fun h s p => yR_f D h0 h ∧ yR_s h s p e base D
section YRU
variable {X Y : Nat → Nat} {kb : Nat → yK} {pl : Nat → Nat} {tm : Nat → Nat → (Nat → Int32) → Nat → Int32} {U : Nat → Nat → yE → yE × Nat} {B : Nat → Nat} {b e base D lo s0 d2 : Nat} {h0 : zs_H} {S0 : List Int32}
theorem yR_Gt {h h1 h2 : zs_H} {p p1 p2 k1 k2 : Nat} (a : yR_G h p h1 p1 k1) (c : yR_G h1 p1 h2 p2 k2) : yR_G h p h2 p2 (k1 + k2) := fun N t ht => by
  rw [show N + (k1 + k2) = N + k2 + k1 by omega, a (N + k2) t (by omega), c N (t + k1) (by omega), Nat.add_assoc]
theorem yR_GF {h h1 h2 : zs_H} {p p1 k1 k2 o : Nat} (a : yR_G h p h1 p1 k1) (c : yR_Fl h1 p1 o h2 k2) : yR_Fl h p o h2 (k1 + k2) := fun N t ht => by
  rw [show N + 1 + (k1 + k2) = N + 1 + k2 + k1 by omega, a (N + 1 + k2) t (by omega), c N (t + k1) (by omega)]
theorem yR_L (G : yG_h X Y kb pl tm B b base U) (H : yR_h X Y kb pl tm b base U h0) (hl : S0.length + 64 * (b + 1) ≤ 1088) (he : e ≤ 4000) (hD : 0 < D ∧ D + b ≤ 16) : ∀ (L : List yI) (A : List Int32) (p n : Nat) (c : Nat → Int32) (h : zs_H), zfr yR_F yR_M [] h0 h → yR_s h (c, A ++ S0, n) p e base D → (∀ k i, L[k]? = some i → yC_m h0 (p + k) i) → p + L.length ≤ e → (∀ i, i ∈ L → yw_i X Y kb b lo i) → yo_h A.length L = some d2 → A.length ≤ 64 → yH_d A.length L = false → ∃ h' k, 2 * n + k ≤ 2 * (yE_L pl tm U base L (c, A ++ S0, n)).1.2.2 ∧ ((yE_L pl tm U base L (c, A ++ S0, n)).2 = 0 → yR_G h p h' (p + L.length) k ∧ yR_f D h h' ∧ yR_s h' (yE_L pl tm U base L (c, A ++ S0, n)).1 (p + L.length) e base D) ∧ ((yE_L pl tm U base L (c, A ++ S0, n)).2 = 3 ∨ (yE_L pl tm U base L (c, A ++ S0, n)).2 = 4 → yR_Fl h p (yE_L pl tm U base L (c, A ++ S0, n)).2 h' k ∧ yR_J h h' (yE_L pl tm U base L (c, A ++ S0, n))) := by
  intro L
  induction L with
  | nil =>
    intro A p n c h f hs _ _ _ _ _ _
    exact ⟨h, 0, Nat.le_refl _, fun _ => ⟨fun _ _ _ => rfl, yR_f0, hs⟩, fun z => absurd z (show ¬ ((0 : Nat) = 3 ∨ (0 : Nat) = 4) by decide)⟩
  | cons i L ih =>
    intro A p n c h f hs K hp W ed ha hd
    have hp' : p + (L.length + 1) ≤ e := hp
    have Wi := W i (List.mem_cons_self ..)
    have ht : yo_t i.1 ≤ A.length := by
      rcases Nat.lt_or_ge A.length (yo_t i.1) with z | z
      · rw [yo_h, if_neg (by omega)] at ed; cases ed
      · exact z
    rw [yo_h, if_pos ht] at ed
    rw [yH_d, Bool.or_eq_false_iff, decide_eq_false_iff_not] at hd
    have lA : (A ++ S0).length = A.length + S0.length := List.length_append
    obtain ⟨h1, k1, a1, a2, a3⟩ := yR_any (S0 := S0) G H f hs (by omega) he hD (yR_m f (K 0 i rfl)) Wi A rfl ht (by omega) (by omega)
    obtain ⟨o1, o2, o3, _⟩ := yG_1 (tm := tm) G.1 ⟨G.2.1.1, G.2.1.2 b (Nat.le_refl _)⟩ G.2.2.1 G.2.2.2.2.2.1 G.2.2.2.2.2.2 Wi A S0 c n ht
    rw [yE_L]
    by_cases z : (yE_1 pl tm U base i (c, A ++ S0, n)).2 = 0
    · rw [if_pos z]
      obtain ⟨A', b1, b2⟩ := o2 z
      have es : (yE_1 pl tm U base i (c, A ++ S0, n)).1 = ((yE_1 pl tm U base i (c, A ++ S0, n)).1.1, A' ++ S0, (yE_1 pl tm U base i (c, A ++ S0, n)).1.2.2) := by rw [← b1]
      obtain ⟨g1, f1, s1⟩ := a2 z
      rw [es] at s1 ⊢
      rw [← b2] at ed hd
      obtain ⟨h2, k2, d1, d2', d3⟩ := ih A' (p + 1) _ _ h1 (zfr_trans f f1.1) s1 (fun k i' e' => by have := K (k + 1) i' e'; rwa [show p + (k + 1) = p + 1 + k by omega] at this) (by omega) (fun i hi => W i (List.mem_cons_of_mem _ hi)) ed (by omega) hd.2
      refine ⟨h2, k1 + k2, by omega, fun q => ?_, fun q => ?_⟩
      · obtain ⟨g2, f2, s2⟩ := d2' q
        rw [show p + (i :: L).length = p + 1 + L.length by rw [List.length_cons]; omega]
        exact ⟨yR_Gt g1 g2, yR_ft f1 f2, s2⟩
      · exact ⟨yR_GF g1 (d3 q).1, zfr_trans f1.1 (d3 q).2.1, (d3 q).2.2⟩
    · rw [if_neg z]
      exact ⟨h1, k1, a1, fun q => absurd q z, a3⟩
theorem yR_W (Gh : yG_h X Y kb pl tm B b base U) (H : yR_h X Y kb pl tm b base U h0) (hl : S0.length + 64 * (b + 1) ≤ 1088) (he : e ≤ 4000) (hD : 0 < D ∧ D + b ≤ 16) : yW_M X Y kb pl tm b base U (yC_m h0) (yR_I h0 D e base) (yR_J h0) yR_G yR_Fl S0 s0 e := by
  have hx := H.2.1.2
  have D17 : 0 < D ∧ D ≤ 17 := by omega
  have step : ∀ {h h' : zs_H} {p q n : Nat} {c : Nat → Int32} {S : List Int32} {i : yI}, yR_s h (c, S, n) p e base D → p < e → yC_m h p i → i.1 < 19 → 10 ≤ i.1 → f_Mc_move (yR_g h (p + 1) (n + 1)) (nI p) = some (0, h') → yR_G h p h' q 1 := fun {h h' p q n c S i} hs hp m ho hm mv N t ht => by
    rw [yR_go hs hp he D17 m ho (by omega), if_pos hm, mv, yR_zB]
  refine ⟨fun _ _ _ _ _ => rfl, fun h p h1 p1 k1 h2 p2 k2 a c => yR_Gt a c, fun h p h1 p1 k1 o h2 k2 a c => yR_GF a c, ?_, ?_, ?_, ?_, ?_, ?_⟩
  · intro h p i t s ⟨f, hs⟩ m hp hp2 e0 ea ht ht2 es
    obtain ⟨c, S, n⟩ := s
    have m1 := yR_m f.1 m
    have gs := yR_gs hs
    obtain ⟨n1, n2, _, _⟩ := yR_m gs.2.1 m1
    rw [ea] at n2
    refine ⟨zs_uF (yR_g h (p + 1) (n + 1)) 58 18 (nI t), step hs hp2 m1 (by omega) (by omega) ?_, yR_ft f (yR_ft gs.2 ⟨zfr_F (by decide) zfr_rfl, fun _ _ => rfl⟩), gs.1.1, rfl, gs.1.2.2⟩
    unfold f_Mc_move
    rcases e0 with e0 | e0
    · rw [e0] at n1
      rw [if_pos (zi_in (by omega) (by omega)), nI_clamp (n := p) (by omega), n1, n2, if_pos (by decide)]
    · rw [e0] at n1
      rw [if_pos (zi_in (by omega) (by omega)), nI_clamp (n := p) (by omega), n1, n2, if_neg (by decide), if_neg (by decide), if_neg (by decide), if_neg (by decide), if_pos (by decide)]
  · intro h p i s ⟨f, hs⟩ m hp hp2 e0 es
    obtain ⟨c, S, n⟩ := s
    have m1 := yR_m f.1 m
    have gs := yR_gs hs
    obtain ⟨n1, n2, _, _⟩ := yR_m gs.2.1 m1
    refine ⟨zs_uF (yR_g h (p + 1) (n + 1)) 58 18 (nI e), step hs hp2 m1 (by omega) (by omega) ?_, yR_ft f (yR_ft gs.2 ⟨zfr_F (by decide) zfr_rfl, fun _ _ => rfl⟩), gs.1.1, rfl, gs.1.2.2⟩
    unfold f_Mc_move
    rw [e0] at n1
    rw [if_pos (zi_in (by omega) (by omega)), nI_clamp (n := p) (by omega), n1, if_neg (by decide), if_neg (by decide), if_neg (by decide), if_neg (by decide), if_neg (by decide), if_neg (by decide), if_neg (by decide), if_neg (by decide), gs.1.2.2.1]
  · intro h p i t c y n ⟨f, hs⟩ m hp hp2 e0 ea ht ht2
    have m1 := yR_m f.1 m
    have gs := yR_gs hs
    obtain ⟨n1, n2, _, _⟩ := yR_m gs.2.1 m1
    rw [e0] at n1
    rw [ea] at n2
    obtain ⟨h6, t1, t2, t3⟩ := yR_take gs.1 (by omega)
    refine ⟨zs_uF h6 58 18 (nI (if y = 0 then t else p + 1)), step hs hp2 m1 (by omega) (by omega) ?_, yR_ft f (yR_ft gs.2 (yR_ft t3 ⟨zfr_F (by decide) zfr_rfl, fun _ _ => rfl⟩)), t2.1, rfl, t2.2.2⟩
    unfold f_Mc_move f_Mc_move_88
    rw [if_pos (zi_in (by omega) (by omega)), nI_clamp (n := p) (by omega), n1, n2, if_neg (by decide), if_pos (by decide), t1, yR_zB, t2.2.1]
    by_cases z : y = 0
    · rw [if_pos z, if_pos z]
    · rw [if_neg z, if_neg z]
  · intro h p i x N0 s ⟨f, hs⟩ m hp hp2 e0 ea eb ⟨_, hx2⟩ es
    obtain ⟨c, S, n⟩ := s
    have es' : S = S0 := es
    subst es'
    have m1 := yR_m f.1 m
    have gs := yR_gs hs
    have hb : yR_b (yR_g h (p + 1) (n + 1)) p e base D n i c S := ⟨by omega, yR_m gs.2.1 m1, gs.1, by omega⟩
    have e1 : yE_1 pl tm U base i (c, S, n) = ((yE_u c (base + x) (nI N0), S, n + 1), 0) := by
      unfold yE_1
      simp (config := { decide := true }) only [e0, if_false, if_true, ea, eb, nI_clamp (show x < 2147483648 by omega)]
    obtain ⟨v, h', a1, a2, a3⟩ := yR_12 (pl := pl) (tm := tm) (U := U) hb e0 ea (by omega)
    rw [e1] at a3
    obtain ⟨a4, a5⟩ := a3.1 rfl
    rw [if_pos (by omega), a4] at a1
    exact ⟨h', step hs hp2 m1 (by omega) (by omega) a1, yR_ft f (yR_ft gs.2 a2), a5⟩
  · intro h p i t x s ⟨f, hs⟩ m hp hp2 e0 ea eb ht ht2 ⟨_, hx2⟩ es
    obtain ⟨c, S, n⟩ := s
    have m1 := yR_m f.1 m
    have gs := yR_gs hs
    obtain ⟨n1, n2, n3, _⟩ := yR_m gs.2.1 m1
    rw [e0] at n1
    rw [ea] at n2
    rw [eb] at n3
    have mv : f_Mc_move (yR_g h (p + 1) (n + 1)) (nI p) = (if c (base + x) = 0 then some (0, zs_uF (yR_g h (p + 1) (n + 1)) 58 18 (nI t)) else (f_Mc_become (yR_g h (p + 1) (n + 1)) (nI (base + x)) (c (base + x) - 1)).bind fun h => some (0, h)) := by
      unfold f_Mc_move
      rw [if_pos (zi_in (by omega) (by omega)), nI_clamp (n := p) (by omega), n1, n2, n3, gs.1.2.2.2.1, nI_add base x, if_neg (by decide), if_neg (by decide), if_neg (by decide), if_pos (by decide), yR_cell gs.1 (show base + x < 8192 by omega), Option.bind_some]
    show ∃ h', if c (base + x) = 0 then _ else _
    by_cases z : c (base + x) = 0
    · rw [if_pos z] at mv
      refine ⟨zs_uF (yR_g h (p + 1) (n + 1)) 58 18 (nI t), ?_⟩
      rw [if_pos z]
      exact ⟨step hs hp2 m1 (by omega) (by omega) mv, yR_ft f (yR_ft gs.2 ⟨zfr_F (by decide) zfr_rfl, fun _ _ => rfl⟩), gs.1.1, rfl, gs.1.2.2⟩
    · obtain ⟨h', a1, a2, a3⟩ := yR_bec (v := c (base + x) - 1) (x := base + x) gs.1 (by omega)
      rw [if_neg z, a1, Option.bind_some] at mv
      refine ⟨h', ?_⟩
      rw [if_neg z]
      exact ⟨step hs hp2 m1 (by omega) (by omega) mv, yR_ft f (yR_ft gs.2 a3), a2⟩
  · intro L lo d2 h p s ⟨f, hs⟩ K hp hp2 _ W ed hd es
    obtain ⟨c, S, n⟩ := s
    have es' : S = S0 := es
    subst es'
    obtain ⟨h', k, a1, a2, a3⟩ := yR_L Gh H hl he hD L [] p n c h f.1 hs K hp2 W ed (by show 0 ≤ 64; omega) hd
    exact ⟨h', k, a1, fun z => ⟨(a2 z).1, yR_ft f (a2 z).2.1, (a2 z).2.2⟩, fun z => ⟨(a3 z).1, zfr_trans f.1 (a3 z).2.1, (a3 z).2.2⟩⟩
def yR_B (nb : Nat) (T : Nat → ys) (kb : Nat → yK) (pl : Nat → Nat) (tm : Nat → Nat → (Nat → Int32) → Nat → Int32) (h : zs_H) : Prop := yR_t tm h ∧ (∀ u, u < nb → (kb u).1 = 1 → (h.2.1 27) (9 + u) = nI (pl u)) ∧ ((∀ u, u ≤ nb → (h.2.1 46) u = nI (yx_S T u)) ∧ (h.1 41 6) = nI nb) ∧ yx_AC T nb h
theorem yR_Bf {nb : Nat} {T : Nat → ys} {h h' : zs_H} (f : zfr yR_F yR_M [] h h') (H : yR_B nb T kb pl tm h) : yR_B nb T kb pl tm h' := by
  refine ⟨fun k a c g2 f2 => H.1 k a c g2 (zfr_trans f f2), fun u h1 h2 => by rw [f.2.1 _ (by decide)]; exact H.2.1 u h1 h2, ⟨fun u h1 => by rw [f.2.1 _ (by decide)]; exact H.2.2.1.1 u h1, (f.1 _ _ (by decide)).trans H.2.2.1.2⟩, fun u hu k i e => yR_m f (H.2.2.2 u hu k i e)⟩
theorem yR_Us {nb : Nat} {T : Nat → ys} (A : yN_A nb T X Y kb pl tm) : ∀ (b : Nat) (h0 : zs_H), b ≤ nb → yR_B nb T kb pl tm h0 → yR_U X kb pl b (yE_U T pl tm b) h0 := by
  obtain ⟨A1, A2, A3, A4, A5, A6, _, _⟩ := id A
  intro b
  induction b with
  | zero => intro h0 _ _ u base s h p e bs D hu; omega
  | succ b ih =>
    intro h0 hb hB u base s h p e bs D hu f hs hD hl hX dj
    by_cases z : u = b
    · subst z
      have Bh := yR_Bf f hB
      obtain ⟨⟨w1, w2, w3⟩, w4, w5⟩ := A4 u (by omega)
      have hU := yG_Us A1 A2 A3 (fun u hu => (A4 u hu).1) (fun u hu hk => (A5 u hu hk).1)
      have Hg : yG_h X Y kb pl tm (yV_B T u) u base (yE_U T pl tm u) := ⟨by omega, ⟨(A2 u (by omega)).1, fun w hw => (A2 w (by omega)).2⟩, hU u (by omega), yE_Uw A1 A2 A3 (fun u hu => (A4 u hu).1.2.2) u (by omega), A3, fun w hw2 hk => (A5 w (by omega) hk).1, dj⟩
      have hle : yx_S T (u + 1) ≤ yx_S T nb := by
        have := yx_Sm T (nb - (u + 1)) (u + 1)
        rwa [show u + 1 + (nb - (u + 1)) = nb by omega] at this
      have hS : yx_S T (u + 1) = yx_S T u + yz_l (T u) := rfl
      obtain ⟨h1, c1, c2, c3, c4, c5, c6⟩ := yR_bU (b1 := base) hs (by omega) (show u < nb by omega) A1 Bh.2.2.1.2 (Bh.2.2.1.1 u (by omega)) (Bh.2.2.1.1 (u + 1) (by omega))
      have B1 := yR_Bf c3.1 Bh
      have Hn : yR_h X Y kb pl tm u base (yE_U T pl tm u) h1 := ⟨by omega, ⟨(A2 u (by omega)).1, hX⟩, ih h1 (by omega) B1, B1.1, fun w hw hk => ⟨(A5 w (by omega) hk).1, (A5 w (by omega) hk).2, B1.2.1 w (by omega) hk⟩, dj⟩
      have M := yR_W (S0 := s.2.1) (s0 := yx_S T u) (e := yx_S T (u + 1)) (D := D + 1) Hg Hn hl (by omega) (by omega)
      obtain ⟨O, _⟩ := yW_T Hg M (T u) 0 (yx_S T u) 0 0 0 (Y u) h1 s (.inl ⟨rfl, w1⟩) w3 (Nat.le_refl _) (fun k i e => B1.2.2.2 u (by omega) k i e) (Nat.le_refl _) (Nat.le_of_eq hS.symm) (fun z => absurd z (by decide)) (fun _ => w2 _) (fun z => absurd z (by decide)) w4 ⟨yR_f0, c2⟩ rfl
      have n1 := (yG_T Hg (T u) 0 (Y u) (none, none, none) (some 0, none, none) s (.inl ⟨rfl, w1⟩) w3 (Nat.le_refl _) (fun z => absurd z (by decide)) (yF_nM (x := 0) (.inl rfl))).2 0 (w2 0)
      have R4 := hU (u + 1) (by omega) u base s (by omega) dj
      unfold yG_r at R4
      have eU : yE_U T pl tm (u + 1) u base s = ((yE_T pl tm (yE_U T pl tm u) base (T u) s).1, if (yE_T pl tm (yE_U T pl tm u) base (T u) s).2 = 2 then 0 else (yE_T pl tm (yE_U T pl tm u) base (T u) s).2) := by
        rw [yE_U, if_pos rfl]
      rw [eU] at R4 ⊢
      rw [← hS] at O
      generalize yE_T pl tm (yE_U T pl tm u) base (T u) s = r at O R4 n1
      obtain ⟨h2, k, o1, o2, o3, o4, o5⟩ := O
      have r1 : (if r.2 = 2 then 0 else r.2) = 0 ∨ (if r.2 = 2 then 0 else r.2) = 3 ∨ (if r.2 = 2 then 0 else r.2) = 4 := R4.1
      by_cases z3 : r.2 = 3 ∨ r.2 = 4
      · obtain ⟨q1, q2⟩ := o5 z3
        rw [if_neg (show ¬ r.2 = 2 by omega)]
        refine ⟨h1, h2, k, c1, by show _ ≤ 2 * r.1.2.2 + 1; omega, fun z => ?_, fun z => ⟨q1, zfr_trans c3.1 q2.1, q2.2⟩⟩
        have z' : r.2 = 0 := z
        omega
      · have q : yR_G h1 (yx_S T u) h2 (yx_S T (u + 1)) k ∧ yR_I h1 (D + 1) (yx_S T (u + 1)) base h2 r.1 (yx_S T (u + 1)) := by
          by_cases z2 : r.2 = 2
          · exact o4 z2
          · rw [if_neg z2] at r1
            exact o2 (by omega)
        obtain ⟨q1, q2, q3⟩ := q
        obtain ⟨h3, e1, e2, e3⟩ := yR_eT q3 (Nat.le_refl _) (by omega) (by omega) ((q2.2 _ (by omega)).trans c4) ((q2.2 _ (by omega)).trans c5) ((q2.2 _ (by omega)).trans c6)
        have z0 : (if r.2 = 2 then 0 else r.2) = 0 := by
          by_cases z2 : r.2 = 2
          · rw [if_pos z2]
          · rw [if_neg z2] at r1 ⊢; omega
        rw [z0]
        refine ⟨h1, h3, k + 1, c1, by show _ ≤ 2 * r.1.2.2 + 1; omega, fun _ => ⟨yR_Gt (p1 := 0) (fun N t ht => q1 N t ht) (e3 _ _), ?_, e1⟩, fun z => absurd z (show ¬ ((0 : Nat) = 3 ∨ (0 : Nat) = 4) by decide)⟩
        exact yR_ft c3 (yR_ft ⟨q2.1, fun j hj => q2.2 j (by omega)⟩ e2)
    · obtain ⟨h1, h', k, q1, q2, q3, q4⟩ := ih h0 (by omega) hB u base s h p e bs D (by omega) f hs hD hl hX dj
      refine ⟨h1, h', k, q1, ?_⟩
      rw [yE_U, if_neg z]
      exact ⟨q2, q3, q4⟩
end YRU
end
section
/-! The machine: what standard blocks do; the model. -/
def yT_on (x : Int32) : Int32 := if x = 0 then 0 else 1
def yT_pt (x : Int32) : Int32 := if x ≤ 0 then 0 else x
def yT_gr (nw pt e l : Int32) : Int32 := (if pt.toInt64 ≤ e.toInt64 + nw.toInt64 - l.toInt64 then pt.toInt64 else e.toInt64 + nw.toInt64 - l.toInt64).toInt32
/-- the elapsed time of TON, TOF, TP -/
def yT_et (k : Nat) (c0 c2 c3 c4 pt gr : Int32) : Int32 :=
  if k = 0 then (if c0 = 0 ∨ c4 = 0 then 0 else gr)
  else if k = 1 then (if c0 = 0 ∧ c4 = 0 then (if c2 = 0 then c3 else gr) else 0)
  else if ¬ c2 = 0 ∧ gr < pt then gr else if c0 = 0 ∨ c4 = 0 then 0 else if c2 = 0 then c3 else gr
/-- their Q -/
def yT_q (k : Nat) (c0 c2 c3 c4 pt gr : Int32) : Int32 :=
  if k = 0 then (if c0 = 0 ∨ yT_et 0 c0 c2 c3 c4 pt gr < pt then 0 else 1)
  else if k = 1 then (if ¬ c0 = 0 then 1 else if ¬ c4 = 0 then (if 0 < pt then 1 else 0) else if c2 = 0 ∨ pt ≤ gr then 0 else 1)
  else if ¬ c2 = 0 ∧ gr < pt then 1 else if c0 = 0 then 0 else if c4 = 0 then (if pt ≤ 0 then 0 else 1) else 0
def yT_cv (k : Nat) (c0 c1 c2 c4 c5 : Int32) : Int32 :=
  if k = 3 then (if ¬ c1 = 0 then 0 else if ¬ c0 = 0 ∧ c5 = 0 ∧ ¬ 32767 ≤ c4 then c4 + 1 else c4)
  else (if ¬ c1 = 0 then c2 else if ¬ c0 = 0 ∧ c5 = 0 ∧ ¬ c4 ≤ -32768 then c4 - 1 else c4)
/-- what standard block k does -/
def yT_m (nw : Int32) (k p : Nat) (c : Nat → Int32) : Nat → Int32 :=
  if k < 3 then yE_u (yE_u (yE_u (yE_u c (p + 3) (yT_et k (c p) (c (p + 2)) (c (p + 3)) (c (p + 4)) (yT_pt (c (p + 1))) (yT_gr nw (yT_pt (c (p + 1))) (c (p + 3)) (c (p + 5))))) (p + 2) (yT_q k (c p) (c (p + 2)) (c (p + 3)) (c (p + 4)) (yT_pt (c (p + 1))) (yT_gr nw (yT_pt (c (p + 1))) (c (p + 3)) (c (p + 5))))) (p + 4) (yT_on (c p))) (p + 5) nw
  else if k < 5 then yE_u (yE_u (yE_u c (p + 4) (yT_cv k (c p) (c (p + 1)) (c (p + 2)) (c (p + 4)) (c (p + 5)))) (p + 3) (if k = 3 then (if yT_cv k (c p) (c (p + 1)) (c (p + 2)) (c (p + 4)) (c (p + 5)) < c (p + 2) then 0 else 1) else (if 0 < yT_cv k (c p) (c (p + 1)) (c (p + 2)) (c (p + 4)) (c (p + 5)) then 0 else 1))) (p + 5) (yT_on (c p))
  else if k < 7 then yE_u (yE_u c (p + 1) (if k = 5 then (if ¬ c p = 0 ∧ c (p + 2) = 0 then 1 else 0) else (if c p = 0 ∧ ¬ c (p + 2) = 0 then 1 else 0))) (p + 2) (yT_on (c p))
  else yE_u c (p + 2) (if k = 7 then (if ¬ c p = 0 ∨ (c (p + 1) = 0 ∧ ¬ c (p + 2) = 0) then 1 else 0) else (if c (p + 1) = 0 ∧ (¬ c p = 0 ∨ ¬ c (p + 2) = 0) then 1 else 0))
def yT_S (A : Nat) (h0 h : zs_H) (c : Nat → Int32) : Prop := zfr [] [A] [] h0 h ∧ ∀ j, j < 8192 → h.2.1 A j = c j
/-- it ends so -/
def yT_E (A : Nat) (h0 : zs_H) (r : Option zs_H) (c : Nat → Int32) : Prop := ∃ h', r = some h' ∧ yT_S A h0 h' c
section YTM
variable {A p : Nat} {g0 g : zs_H} {c c' : Nat → Int32} {v nw : Int32}
theorem yT_w (H : yT_S A g0 g c) : yT_S A g0 (zs_uM g A p v) (yE_u c p v) := by
  refine ⟨zfr_M (List.mem_singleton.mpr rfl) H.1, fun j hj => zu_MM.trans ?_⟩
  show (if A = A ∧ j = p then v else g.2.1 A j) = if j = p then v else c j
  by_cases z : j = p
  · rw [if_pos ⟨rfl, z⟩, if_pos z]
  · rw [if_neg (fun w => z w.2), if_neg z]; exact H.2 j hj
theorem yT_Ec {r : Option zs_H} (e : ∀ j, j < 8192 → c' j = c j) (H : yT_E A g0 r c) : yT_E A g0 r c' := by
  obtain ⟨h', a1, a2, a3⟩ := H
  exact ⟨h', a1, a2, fun j hj => (a3 j hj).trans (e j hj).symm⟩
theorem yT_aon (H : yT_S 114 g0 g c) {x : Nat} (hx : x < 8192) : f_Mo_on g (nI x) = some (yT_on (c x)) := by
  unfold f_Mo_on yT_on
  rw [if_pos (zi_in (by omega) hx), nI_clamp (by omega), H.2 x hx]
  split <;> rfl
theorem yT_atn (H : yT_S 114 g0 g c) {x : Nat} (hx : x < 8192) : ∃ g', f_Mo_turn g (nI x) v = some g' ∧ yT_S 114 g0 g' (yE_u c x (yT_on v)) := by
  unfold f_Mo_turn f_Mo_turn_14
  rw [if_pos (zi_in (by omega) hx), if_pos (zi_in (by omega) hx), nI_clamp (by omega)]
  have e : (if v = 0 then some (zs_uM g 114 x 0) else some (zs_uM g 114 x 1)) = some (zs_uM g 114 x (yT_on v)) := by
    unfold yT_on
    split <;> rfl
  rw [e]
  exact ⟨_, rfl, yT_w H⟩
theorem yT_oo (x : Int32) : yT_on (yT_on x) = yT_on x := by
  unfold yT_on
  by_cases z : x = 0
  · rw [if_pos z]; decide
  · rw [if_neg z]; decide
theorem yT_o0 {x : Int32} : yT_on x = 0 ↔ x = 0 := by
  unfold yT_on
  by_cases z : x = 0
  · rw [if_pos z]; exact ⟨fun _ => z, fun _ => rfl⟩
  · rw [if_neg z]; exact ⟨fun w => absurd w (by decide), fun w => absurd w z⟩
theorem yT_ad (p k : Nat) : nI p + (OfNat.ofNat k : Int32) = nI (p + k) := zc_ad k p
/-- the end: what was seen, when -/
theorem yT_end {k : Nat} (hk : k < 9) (H : yT_S 114 g0 g c) (hn : (g0.1 68 73) = nw) (hp : p + (zt_2.getD k 0).toNatClampNeg ≤ 8192) (x3 : Int32) : yT_E 114 g0 (f_Mo_timers_687 g (nI k) (nI p) (yT_on x3)) (if k < 3 then yE_u (yE_u c (p + 4) (yT_on x3)) (p + 5) nw else if k < 5 then yE_u c (p + 5) (yT_on x3) else if k < 7 then yE_u c (p + 2) (yT_on x3) else c) := by
  have z6 : ∀ k, k < 5 → (zt_2.getD k 0).toNatClampNeg = 6 := by decide
  have z3 : ∀ k, k < 9 → 3 ≤ (zt_2.getD k 0).toNatClampNeg := by decide
  have q3 := z3 k hk
  have e7 : ((7 : Int32) ≤ nI k) ↔ 7 ≤ k := zc_le (k := 7) (by decide) (by omega)
  have e3 : ((3 : Int32) ≤ nI k) ↔ 3 ≤ k := zc_le (k := 3) (by decide) (by omega)
  have e5 : ((5 : Int32) ≤ nI k) ↔ 5 ≤ k := zc_le (k := 5) (by decide) (by omega)
  unfold f_Mo_timers_687 f_Mo_timers_714 f_Mo_timers_719
  simp only [e7, e3, e5]
  by_cases k7 : 7 ≤ k
  · rw [if_pos k7, if_pos (show 3 ≤ k by omega), if_neg (show ¬ k < 3 by omega), if_neg (show ¬ k < 5 by omega), if_neg (show ¬ k < 7 by omega)]
    exact ⟨g, rfl, H⟩
  rw [if_neg k7]
  by_cases k3 : 3 ≤ k
  · rw [if_pos k3, if_neg (show ¬ k < 3 by omega)]
    by_cases k5 : 5 ≤ k
    · rw [if_pos k5, if_neg (show ¬ k < 5 by omega), if_pos (show k < 7 by omega), show nI p + 2 = nI (p + 2) from zc_ad 2 p]
      obtain ⟨g', a1, a2⟩ := yT_atn (v := yT_on x3) H (x := p + 2) (by omega)
      rw [a1, Option.bind_some, if_pos k3]
      rw [yT_oo] at a2
      exact ⟨g', rfl, a2⟩
    · have := z6 k (by omega)
      rw [if_neg k5, if_pos (show k < 5 by omega), show nI p + 5 = nI (p + 5) from zc_ad 5 p]
      obtain ⟨g', a1, a2⟩ := yT_atn (v := yT_on x3) H (x := p + 5) (by omega)
      rw [a1, Option.bind_some, if_pos k3]
      rw [yT_oo] at a2
      exact ⟨g', rfl, a2⟩
  · have := z6 k (by omega)
    rw [if_neg k3, if_pos (show k < 3 by omega), show nI p + 4 = nI (p + 4) from zc_ad 4 p, show nI p + 5 = nI (p + 5) from zc_ad 5 p]
    obtain ⟨g', a1, a2⟩ := yT_atn (v := yT_on x3) H (x := p + 4) (by omega)
    rw [a1, Option.bind_some, if_neg k3, if_pos (zi_in (by omega) (by omega)), nI_clamp (by omega)]
    rw [yT_oo] at a2
    have en : (g'.1 68 73) = nw := (a2.1.1 _ _ List.not_mem_nil).trans hn
    rw [en]
    exact ⟨_, rfl, yT_w a2⟩
/-- the beginning -/
theorem yT_beg {k : Nat} (hk : k < 9) (H : yT_S 114 g0 g c) (hp : p + (zt_2.getD k 0).toNatClampNeg ≤ 8192) : f_Mo_timers g (nI k) (nI p) = f_Mo_timers_56 g (nI k) (nI p) (yT_on (c p)) (yT_on (c (p + (if k < 3 then 4 else if k < 5 then 5 else 2)))) (yT_pt (c (p + 1))) := by
  have z6 : ∀ k, k < 5 → (zt_2.getD k 0).toNatClampNeg = 6 := by decide
  have z3 : ∀ k, k < 9 → 3 ≤ (zt_2.getD k 0).toNatClampNeg := by decide
  have q3 := z3 k hk
  have e3 : ((3 : Int32) ≤ nI k) ↔ 3 ≤ k := zc_le (k := 3) (by decide) (by omega)
  have e5 : ((5 : Int32) ≤ nI k) ↔ 5 ≤ k := zc_le (k := 5) (by decide) (by omega)
  unfold f_Mo_timers f_Mo_timers_27
  simp only [e3, e5, yT_aon H (show p < 8192 by omega), Option.bind_some, show nI p + 1 = nI (p + 1) from zc_ad 1 p, if_pos (zi_in (show p + 1 < 2147483648 by omega) (show p + 1 < 8192 by omega)), nI_clamp (show p + 1 < 2147483648 by omega), H.2 (p + 1) (by omega)]
  have ept : ∀ (r : Int32 → Option zs_H), (if c (p + 1) ≤ 0 then r 0 else r (c (p + 1))) = r (yT_pt (c (p + 1))) := fun r => by
    unfold yT_pt
    split <;> rfl
  by_cases k3 : 3 ≤ k
  · by_cases k5 : 5 ≤ k
    · rw [if_pos k3, if_pos k5, if_neg (show ¬ k < 3 by omega), if_neg (show ¬ k < 5 by omega), show nI p + 2 = nI (p + 2) from zc_ad 2 p, yT_aon H (show p + 2 < 8192 by omega), Option.bind_some]
      exact ept (fun x => f_Mo_timers_56 g (nI k) (nI p) (yT_on (c p)) (yT_on (c (p + 2))) x)
    · have := z6 k (by omega)
      rw [if_pos k3, if_neg k5, if_neg (show ¬ k < 3 by omega), if_pos (show k < 5 by omega), show nI p + 5 = nI (p + 5) from zc_ad 5 p, yT_aon H (show p + 5 < 8192 by omega), Option.bind_some]
      exact ept (fun x => f_Mo_timers_56 g (nI k) (nI p) (yT_on (c p)) (yT_on (c (p + 5))) x)
  · have := z6 k (by omega)
    rw [if_neg k3, if_pos (show k < 3 by omega), show nI p + 4 = nI (p + 4) from zc_ad 4 p, yT_aon H (show p + 4 < 8192 by omega), Option.bind_some]
    exact ept (fun x => f_Mo_timers_56 g (nI k) (nI p) (yT_on (c p)) (yT_on (c (p + 4))) x)
theorem yT_grM (H : yT_S 114 g0 g c) (hn : (g0.1 68 73) = nw) (hp : p + 5 < 8192) (pt : Int32) : f_Mo_grown g (nI p) pt = some (yT_gr nw pt (c (p + 3)) (c (p + 5))) := by
  have en : (g.1 68 73) = nw := (H.1.1 _ _ List.not_mem_nil).trans hn
  unfold f_Mo_grown f_Mo_grown_39 yT_gr
  rw [show nI p + 3 = nI (p + 3) from zc_ad 3 p, show nI p + 5 = nI (p + 5) from zc_ad 5 p, if_pos (zi_in (by omega) (by omega)), if_pos (zi_in (by omega) (by omega)), nI_clamp (n := p + 3) (by omega), nI_clamp (n := p + 5) (by omega), H.2 (p + 3) (by omega), H.2 (p + 5) (by omega), en]
  split <;> rfl
/-- a turn, then the end -/
theorem yT_te {k x : Nat} (hk : k < 9) (H : yT_S 114 g0 g c) (hn : (g0.1 68 73) = nw) (hp : p + (zt_2.getD k 0).toNatClampNeg ≤ 8192) (hx : x < 8192) (x3 v : Int32) : yT_E 114 g0 ((f_Mo_turn g (nI x) v).bind fun h2 => f_Mo_timers_687 h2 (nI k) (nI p) (yT_on x3)) (if k < 3 then yE_u (yE_u (yE_u c x (yT_on v)) (p + 4) (yT_on x3)) (p + 5) nw else if k < 5 then yE_u (yE_u c x (yT_on v)) (p + 5) (yT_on x3) else if k < 7 then yE_u (yE_u c x (yT_on v)) (p + 2) (yT_on x3) else yE_u c x (yT_on v)) := by
  obtain ⟨g', a1, a2⟩ := yT_atn (v := v) H hx
  rw [a1, Option.bind_some]
  exact yT_end hk a2 hn hp x3
end YTM
end
section
/-! The machine: standard blocks on the model, by kinds. -/
section YTN
variable {p : Nat} {g0 g : zs_H} {c : Nat → Int32} {nw : Int32}
theorem yT_u1 {j : Nat} {v : Int32} : yE_u c j v j = v := if_pos rfl
theorem yT_u2 {j i : Nat} {v : Int32} (h : ¬ i = j) : yE_u c j v i = c i := if_neg h
theorem yT_n0 : yT_on 0 = 0 := rfl
theorem yT_n1 : yT_on 1 = 1 := by decide
theorem yT_131 (H : yT_S 114 g0 g c) (hn : (g0.1 68 73) = nw) (hp : p + 6 ≤ 8192) (x3 pt et : Int32) : yT_E 114 g0 (f_Mo_timers_131 g (nI 0) (nI p) (yT_on x3) pt et (nI (p + 3))) (yE_u (yE_u (yE_u (yE_u c (p + 3) et) (p + 2) (if x3 = 0 ∨ et < pt then 0 else 1)) (p + 4) (yT_on x3)) (p + 5) nw) := by
  have H1 := yT_w (p := p + 3) (v := et) H
  have e3 : (zs_uM g 114 (p + 3) et).2.1 114 (p + 3) = et := (H1.2 (p + 3) (by omega)).trans yT_u1
  unfold f_Mo_timers_131 f_Mo_timers_157 f_Mo_timers_158
  simp only [yT_o0, if_pos (zi_in (show p + 3 < 2147483648 by omega) (show p + 3 < 8192 by omega)), nI_clamp (show p + 3 < 2147483648 by omega), show nI p + 2 = nI (p + 2) from zc_ad 2 p, show nI p + 3 = nI (p + 3) from zc_ad 3 p, e3]
  by_cases z : x3 = 0
  · rw [if_pos z, if_pos (.inl z)]
    exact yT_te (k := 0) (by decide) H1 hn hp (show p + 2 < 8192 by omega) x3 0
  · rw [if_neg z]
    by_cases y : et < pt
    · rw [if_pos y, if_pos (.inr y)]
      exact yT_te (k := 0) (by decide) H1 hn hp (show p + 2 < 8192 by omega) x3 0
    · rw [if_neg y, if_neg (fun w => w.elim z y)]
      exact yT_te (k := 0) (by decide) H1 hn hp (show p + 2 < 8192 by omega) x3 1
theorem yT_M0 (H : yT_S 114 g0 g c) (hn : (g0.1 68 73) = nw) (hp : p + 6 ≤ 8192) : yT_E 114 g0 (f_Mo_timers g (nI 0) (nI p)) (yT_m nw 0 p c) := by
  rw [yT_beg (k := 0) (by decide) H hp]
  unfold f_Mo_timers_56 f_Mo_timers_130
  simp only [yT_o0, if_pos (show (nI 0 : Int32) = 0 from rfl), show nI p + 3 = nI (p + 3) from zc_ad 3 p, yT_grM H hn (show p + 5 < 8192 by omega), Option.bind_some]
  unfold yT_m yT_et yT_q yT_et
  simp only [if_pos (show 0 < 3 by decide), if_pos (show (0 : Nat) = 0 from rfl)]
  by_cases z : c p = 0
  · rw [if_pos z, if_pos (show c p = 0 ∨ c (p + 4) = 0 from .inl z)]
    exact yT_131 H hn hp _ _ _
  · rw [if_neg z]
    by_cases y : c (p + 4) = 0
    · rw [if_pos y, if_pos (show c p = 0 ∨ c (p + 4) = 0 from .inr y)]
      exact yT_131 H hn hp _ _ _
    · rw [if_neg y, if_neg (show ¬ (c p = 0 ∨ c (p + 4) = 0) from fun w => w.elim z y)]
      exact yT_131 H hn hp _ _ _
theorem yT_275 (H : yT_S 114 g0 g c) (hn : (g0.1 68 73) = nw) (hp : p + 6 ≤ 8192) (x3 et : Int32) (v : Int32) : yT_E 114 g0 (f_Mo_timers_275 (zs_uM g 114 (p + 3) et) (nI 1) (nI p) (yT_on x3) v (nI (p + 2))) (yE_u (yE_u (yE_u (yE_u c (p + 3) et) (p + 2) (yT_on v)) (p + 4) (yT_on x3)) (p + 5) nw) := by
  unfold f_Mo_timers_275
  exact yT_te (k := 1) (by decide) (yT_w H) hn hp (show p + 2 < 8192 by omega) x3 v
theorem yT_M1 (H : yT_S 114 g0 g c) (hn : (g0.1 68 73) = nw) (hp : p + 6 ≤ 8192) : yT_E 114 g0 (f_Mo_timers g (nI 1) (nI p)) (yT_m nw 1 p c) := by
  rw [yT_beg (k := 1) (by decide) H hp]
  have e3 : ∀ et, (zs_uM g 114 (p + 3) et).2.1 114 (p + 3) = et := fun et => ((yT_w (p := p + 3) (v := et) H).2 (p + 3) (by omega)).trans yT_u1
  unfold f_Mo_timers_56 f_Mo_timers_187 f_Mo_timers_188 f_Mo_timers_206 f_Mo_timers_233 f_Mo_timers_252 f_Mo_timers_270 f_Mo_timers_274
  simp only [yT_o0, if_neg (show ¬ (nI 1 : Int32) = 0 by decide), if_pos (show (nI 1 : Int32) = 1 from rfl), show nI p + 2 = nI (p + 2) from zc_ad 2 p, show nI p + 3 = nI (p + 3) from zc_ad 3 p, yT_grM H hn (show p + 5 < 8192 by omega), yT_aon H (show p + 2 < 8192 by omega), Option.bind_some, if_pos (zi_in (show p + 3 < 2147483648 by omega) (show p + 3 < 8192 by omega)), nI_clamp (show p + 3 < 2147483648 by omega), H.2 (p + 3) (by omega), e3]
  unfold yT_m yT_et yT_q
  simp only [if_pos (show 1 < 3 by decide), if_neg (show ¬ (1 : Nat) = 0 by decide), if_pos (show (1 : Nat) = 1 from rfl)]
  by_cases z : c p = 0
  · by_cases y : c (p + 4) = 0
    · by_cases w : c (p + 2) = 0
      · simp (config := { decide := true }) only [if_pos z, if_pos y, if_pos w, if_pos (show c p = 0 ∧ c (p + 4) = 0 from ⟨z, y⟩), if_neg (show ¬ ¬ c p = 0 from fun q => q z), if_neg (show ¬ ¬ c (p + 4) = 0 from fun q => q y), if_true]
        rw [if_pos (show c (p + 2) = 0 ∨ _ from .inl w)]
        exact yT_275 H hn hp _ _ 0
      · simp (config := { decide := true }) only [if_pos z, if_pos y, if_neg w, if_pos (show c p = 0 ∧ c (p + 4) = 0 from ⟨z, y⟩), if_neg (show ¬ ¬ c p = 0 from fun q => q z), if_neg (show ¬ ¬ c (p + 4) = 0 from fun q => q y), if_false, w, false_or]
        split
        · exact yT_275 H hn hp _ _ 0
        · exact yT_275 H hn hp _ _ 1
    · simp (config := { decide := true }) only [if_pos z, if_neg y, if_neg (show ¬ (c p = 0 ∧ c (p + 4) = 0) from fun q => y q.2), if_neg (show ¬ ¬ c p = 0 from fun q => q z), if_pos (show ¬ c (p + 4) = 0 from y), if_true]
      split
      · exact yT_275 H hn hp _ _ 1
      · exact yT_275 H hn hp _ _ 0
  · simp (config := { decide := true }) only [if_neg z, if_neg (show ¬ (c p = 0 ∧ c (p + 4) = 0) from fun q => z q.1), if_pos (show ¬ c p = 0 from z)]
    exact yT_275 H hn hp _ _ 1
/-- a TP that does not run -/
theorem yT_327 (H : yT_S 114 g0 g c) (hn : (g0.1 68 73) = nw) (hp : p + 6 ≤ 8192) (h2 : c (p + 2) = 0) (x3 x4 pt : Int32) : yT_E 114 g0 (f_Mo_timers_327 g (nI 2) (nI p) (yT_on x3) (yT_on x4) pt) (yE_u (yE_u (yE_u (yE_u c (p + 3) (if x3 = 0 ∨ x4 = 0 then 0 else c (p + 3))) (p + 2) (if x3 = 0 then 0 else if x4 = 0 then (if pt ≤ 0 then 0 else 1) else 0)) (p + 4) (yT_on x3)) (p + 5) nw) := by
  have H1 := yT_w (p := p + 3) (v := 0) H
  unfold f_Mo_timers_327 f_Mo_timers_346 f_Mo_timers_372 f_Mo_timers_373
  simp only [yT_o0, show nI p + 2 = nI (p + 2) from zc_ad 2 p, show nI p + 3 = nI (p + 3) from zc_ad 3 p, yT_aon H (show p + 2 < 8192 by omega), Option.bind_some, h2, if_true, if_pos (zi_in (show p + 3 < 2147483648 by omega) (show p + 3 < 8192 by omega)), nI_clamp (show p + 3 < 2147483648 by omega)]
  by_cases z : x3 = 0
  · rw [if_pos z, if_pos z, if_pos (show x3 = 0 ∨ x4 = 0 from .inl z), if_pos z]
    exact yT_te (k := 2) (by decide) H1 hn hp (show p + 2 < 8192 by omega) x3 0
  · rw [if_neg z, if_neg z, if_neg z]
    by_cases y : x4 = 0
    · rw [if_pos y, if_pos (show x3 = 0 ∨ x4 = 0 from .inr y), if_pos y]
      by_cases w : pt ≤ 0
      · rw [if_pos w, if_pos w]
        exact yT_te (k := 2) (by decide) H1 hn hp (show p + 2 < 8192 by omega) x3 0
      · rw [if_neg w, if_neg w]
        exact yT_te (k := 2) (by decide) H1 hn hp (show p + 2 < 8192 by omega) x3 1
    · rw [if_neg y, if_neg (show ¬ (x3 = 0 ∨ x4 = 0) from fun q => q.elim z y), if_neg y]
      refine yT_Ec (fun j hj => ?_) (yT_end (k := 2) (by decide) H hn hp x3)
      rw [if_pos (show 2 < 3 by decide)]
      unfold yE_u
      by_cases j5 : j = p + 5
      · rw [if_pos j5, if_pos j5]
      rw [if_neg j5, if_neg j5]
      by_cases j4 : j = p + 4
      · rw [if_pos j4, if_pos j4]
      rw [if_neg j4, if_neg j4]
      by_cases j2 : j = p + 2
      · rw [if_pos j2, j2, h2]
      rw [if_neg j2]
      by_cases j3 : j = p + 3
      · rw [if_pos j3, j3]
      rw [if_neg j3]
theorem yT_M2 (H : yT_S 114 g0 g c) (hn : (g0.1 68 73) = nw) (hp : p + 6 ≤ 8192) (h2 : c (p + 2) = 0 ∨ c (p + 2) = 1) : yT_E 114 g0 (f_Mo_timers g (nI 2) (nI p)) (yT_m nw 2 p c) := by
  rw [yT_beg (k := 2) (by decide) H hp]
  unfold f_Mo_timers_56
  simp only [yT_o0, if_neg (show ¬ (nI 2 : Int32) = 0 by decide), if_neg (show ¬ (nI 2 : Int32) = 1 by decide), if_pos (show (nI 2 : Int32) = 2 from rfl), show nI p + 2 = nI (p + 2) from zc_ad 2 p, show nI p + 3 = nI (p + 3) from zc_ad 3 p, yT_grM H hn (show p + 5 < 8192 by omega), yT_aon H (show p + 2 < 8192 by omega), Option.bind_some, if_pos (zi_in (show p + 3 < 2147483648 by omega) (show p + 3 < 8192 by omega)), nI_clamp (show p + 3 < 2147483648 by omega)]
  unfold yT_m yT_et yT_q
  simp only [if_pos (show 2 < 3 by decide), if_neg (show ¬ (2 : Nat) = 0 by decide), if_neg (show ¬ (2 : Nat) = 1 by decide)]
  generalize yT_gr nw (yT_pt (c (p + 1))) (c (p + 3)) (c (p + 5)) = gr
  generalize yT_pt (c (p + 1)) = pt
  by_cases z : c (p + 2) = 0
  · rw [if_pos z, if_neg (show ¬ (¬ c (p + 2) = 0 ∧ gr < pt) from fun q => q.1 z), if_neg (show ¬ (¬ c (p + 2) = 0 ∧ gr < pt) from fun q => q.1 z), if_pos z]
    exact yT_327 H hn hp z _ _ _
  · rw [if_neg z]
    have H1 := yT_w (p := p + 3) (v := gr) H
    by_cases y : gr < pt
    · rw [if_pos y, if_pos (show ¬ c (p + 2) = 0 ∧ gr < pt from ⟨z, y⟩), if_pos (show ¬ c (p + 2) = 0 ∧ gr < pt from ⟨z, y⟩)]
      unfold f_Mo_timers_327
      have e2 : yE_u c (p + 3) gr (p + 2) = c (p + 2) := yT_u2 (by omega)
      rw [show nI p + 2 = nI (p + 2) from zc_ad 2 p, yT_aon H1 (show p + 2 < 8192 by omega), Option.bind_some, e2, if_neg (mt yT_o0.mp z)]
      refine yT_Ec (fun j hj => ?_) (yT_end (k := 2) (by decide) H1 hn hp (c p))
      rw [if_pos (show 2 < 3 by decide)]
      have h1 := h2.resolve_left z
      unfold yE_u
      by_cases j5 : j = p + 5
      · rw [if_pos j5, if_pos j5]
      rw [if_neg j5, if_neg j5]
      by_cases j4 : j = p + 4
      · rw [if_pos j4, if_pos j4]
      rw [if_neg j4, if_neg j4]
      by_cases j2 : j = p + 2
      · rw [if_pos j2, if_neg (by omega), j2, h1]
      rw [if_neg j2]
    · rw [if_neg y, if_neg (show ¬ (¬ c (p + 2) = 0 ∧ gr < pt) from fun q => y q.2), if_neg (show ¬ (¬ c (p + 2) = 0 ∧ gr < pt) from fun q => y q.2), if_neg z]
      obtain ⟨g', a1, a2⟩ := yT_atn (v := 0) H1 (show p + 2 < 8192 by omega)
      rw [a1, Option.bind_some]
      refine yT_Ec (fun j hj => ?_) (yT_327 a2 hn hp yT_u1 (c p) (c (p + 4)) pt)
      have e3 : yE_u (yE_u c (p + 3) gr) (p + 2) (yT_on 0) (p + 3) = gr := (yT_u2 (by omega)).trans yT_u1
      rw [e3]
      unfold yE_u
      by_cases j5 : j = p + 5
      · rw [if_pos j5, if_pos j5]
      rw [if_neg j5, if_neg j5]
      by_cases j4 : j = p + 4
      · rw [if_pos j4, if_pos j4]
      rw [if_neg j4, if_neg j4]
      by_cases j2 : j = p + 2
      · rw [if_pos j2, if_pos j2]
      rw [if_neg j2, if_neg j2]
      by_cases j3 : j = p + 3
      · rw [if_pos j3, if_pos j3]
      rw [if_neg j3, if_neg j3, if_neg j2, if_neg j3]
theorem yT_437 (H : yT_S 114 g0 g c) (hn : (g0.1 68 73) = nw) (hp : p + 6 ≤ 8192) (x3 cv : Int32) : yT_E 114 g0 (f_Mo_timers_437 g (nI 3) (nI p) (yT_on x3) cv (nI (p + 4))) (yE_u (yE_u (yE_u c (p + 4) cv) (p + 3) (if cv < c (p + 2) then 0 else 1)) (p + 5) (yT_on x3)) := by
  have H1 := yT_w (p := p + 4) (v := cv) H
  have e4 : (zs_uM g 114 (p + 4) cv).2.1 114 (p + 4) = cv := (H1.2 (p + 4) (by omega)).trans yT_u1
  have e2 : (zs_uM g 114 (p + 4) cv).2.1 114 (p + 2) = c (p + 2) := (H1.2 (p + 2) (by omega)).trans (yT_u2 (by omega))
  unfold f_Mo_timers_437 f_Mo_timers_466
  simp only [show nI p + 4 = nI (p + 4) from zc_ad 4 p, show nI p + 2 = nI (p + 2) from zc_ad 2 p, show nI p + 3 = nI (p + 3) from zc_ad 3 p, if_pos (zi_in (show p + 4 < 2147483648 by omega) (show p + 4 < 8192 by omega)), nI_clamp (show p + 4 < 2147483648 by omega), if_pos (zi_in (show p + 2 < 2147483648 by omega) (show p + 2 < 8192 by omega)), nI_clamp (show p + 2 < 2147483648 by omega), e4, e2]
  split
  · exact yT_te (k := 3) (by decide) H1 hn hp (show p + 3 < 8192 by omega) x3 0
  · exact yT_te (k := 3) (by decide) H1 hn hp (show p + 3 < 8192 by omega) x3 1
theorem yT_537 (H : yT_S 114 g0 g c) (hn : (g0.1 68 73) = nw) (hp : p + 6 ≤ 8192) (x3 cv : Int32) : yT_E 114 g0 (f_Mo_timers_537 g (nI 4) (nI p) (yT_on x3) cv (nI (p + 4))) (yE_u (yE_u (yE_u c (p + 4) cv) (p + 3) (if 0 < cv then 0 else 1)) (p + 5) (yT_on x3)) := by
  have H1 := yT_w (p := p + 4) (v := cv) H
  have e4 : (zs_uM g 114 (p + 4) cv).2.1 114 (p + 4) = cv := (H1.2 (p + 4) (by omega)).trans yT_u1
  unfold f_Mo_timers_537 f_Mo_timers_558
  simp only [show nI p + 4 = nI (p + 4) from zc_ad 4 p, show nI p + 3 = nI (p + 3) from zc_ad 3 p, if_pos (zi_in (show p + 4 < 2147483648 by omega) (show p + 4 < 8192 by omega)), nI_clamp (show p + 4 < 2147483648 by omega), e4]
  split
  · exact yT_te (k := 4) (by decide) H1 hn hp (show p + 3 < 8192 by omega) x3 0
  · exact yT_te (k := 4) (by decide) H1 hn hp (show p + 3 < 8192 by omega) x3 1
theorem yT_M3 (H : yT_S 114 g0 g c) (hn : (g0.1 68 73) = nw) (hp : p + 6 ≤ 8192) : yT_E 114 g0 (f_Mo_timers g (nI 3) (nI p)) (yT_m nw 3 p c) := by
  rw [yT_beg (k := 3) (by decide) H hp]
  unfold f_Mo_timers_56 f_Mo_timers_435 f_Mo_timers_436
  simp only [yT_o0, if_neg (show ¬ (nI 3 : Int32) = 0 by decide), if_neg (show ¬ (nI 3 : Int32) = 1 by decide), if_neg (show ¬ (nI 3 : Int32) = 2 by decide), if_pos (show (nI 3 : Int32) = 3 from rfl), show nI p + 1 = nI (p + 1) from zc_ad 1 p, show nI p + 4 = nI (p + 4) from zc_ad 4 p, yT_aon H (show p + 1 < 8192 by omega), Option.bind_some, if_pos (zi_in (show p + 4 < 2147483648 by omega) (show p + 4 < 8192 by omega)), nI_clamp (show p + 4 < 2147483648 by omega), H.2 (p + 4) (by omega), Int32.add_zero]
  unfold yT_m yT_cv
  simp only [if_neg (show ¬ 3 < 3 by decide), if_pos (show 3 < 5 by decide), if_pos (show (3 : Nat) = 3 from rfl), if_pos (show 3 < 5 by decide)]
  by_cases z1 : c (p + 1) = 0
  · rw [if_pos z1, if_neg (show ¬ ¬ c (p + 1) = 0 from fun q => q z1)]
    by_cases z : c p = 0
    · rw [if_pos z, if_neg (show ¬ (¬ c p = 0 ∧ _) from fun q => q.1 z)]
      exact yT_437 H hn hp _ _
    · rw [if_neg z]
      by_cases y : c (p + 5) = 0
      · rw [if_pos y]
        by_cases w : (32767 : Int32) ≤ c (p + 4)
        · rw [if_pos w, if_neg (show ¬ (¬ c p = 0 ∧ c (p + 5) = 0 ∧ ¬ (32767 : Int32) ≤ c (p + 4)) from fun q => q.2.2 w)]
          exact yT_437 H hn hp _ _
        · rw [if_neg w, if_pos (show ¬ c p = 0 ∧ c (p + 5) = 0 ∧ ¬ (32767 : Int32) ≤ c (p + 4) from ⟨z, y, w⟩)]
          exact yT_437 H hn hp _ _
      · rw [if_neg y, if_neg (show ¬ (¬ c p = 0 ∧ c (p + 5) = 0 ∧ _) from fun q => y q.2.1)]
        exact yT_437 H hn hp _ _
  · rw [if_neg z1, if_pos (show ¬ c (p + 1) = 0 from z1)]
    exact yT_437 H hn hp _ _
theorem yT_M4 (H : yT_S 114 g0 g c) (hn : (g0.1 68 73) = nw) (hp : p + 6 ≤ 8192) : yT_E 114 g0 (f_Mo_timers g (nI 4) (nI p)) (yT_m nw 4 p c) := by
  rw [yT_beg (k := 4) (by decide) H hp]
  unfold f_Mo_timers_56 f_Mo_timers_535 f_Mo_timers_536
  simp only [yT_o0, if_neg (show ¬ (nI 4 : Int32) = 0 by decide), if_neg (show ¬ (nI 4 : Int32) = 1 by decide), if_neg (show ¬ (nI 4 : Int32) = 2 by decide), if_neg (show ¬ (nI 4 : Int32) = 3 by decide), if_pos (show (nI 4 : Int32) = 4 from rfl), show nI p + 1 = nI (p + 1) from zc_ad 1 p, show nI p + 2 = nI (p + 2) from zc_ad 2 p, show nI p + 4 = nI (p + 4) from zc_ad 4 p, yT_aon H (show p + 1 < 8192 by omega), Option.bind_some, if_pos (zi_in (show p + 4 < 2147483648 by omega) (show p + 4 < 8192 by omega)), nI_clamp (show p + 4 < 2147483648 by omega), if_pos (zi_in (show p + 2 < 2147483648 by omega) (show p + 2 < 8192 by omega)), nI_clamp (show p + 2 < 2147483648 by omega), H.2 (p + 4) (by omega), H.2 (p + 2) (by omega), Int32.sub_zero]
  unfold yT_m yT_cv
  simp only [if_neg (show ¬ 4 < 3 by decide), if_pos (show 4 < 5 by decide), if_neg (show ¬ (4 : Nat) = 3 by decide), if_pos (show 4 < 5 by decide)]
  by_cases z1 : c (p + 1) = 0
  · rw [if_pos z1, if_neg (show ¬ ¬ c (p + 1) = 0 from fun q => q z1)]
    by_cases z : c p = 0
    · rw [if_pos z, if_neg (show ¬ (¬ c p = 0 ∧ _) from fun q => q.1 z)]
      exact yT_537 H hn hp _ _
    · rw [if_neg z]
      by_cases y : c (p + 5) = 0
      · rw [if_pos y]
        by_cases w : c (p + 4) ≤ (-32768 : Int32)
        · rw [if_pos w, if_neg (show ¬ (¬ c p = 0 ∧ c (p + 5) = 0 ∧ ¬ c (p + 4) ≤ (-32768 : Int32)) from fun q => q.2.2 w)]
          exact yT_537 H hn hp _ _
        · rw [if_neg w, if_pos (show ¬ c p = 0 ∧ c (p + 5) = 0 ∧ ¬ c (p + 4) ≤ (-32768 : Int32) from ⟨z, y, w⟩)]
          exact yT_537 H hn hp _ _
      · rw [if_neg y, if_neg (show ¬ (¬ c p = 0 ∧ c (p + 5) = 0 ∧ _) from fun q => y q.2.1)]
        exact yT_537 H hn hp _ _
  · rw [if_neg z1, if_pos (show ¬ c (p + 1) = 0 from z1)]
    exact yT_537 H hn hp _ _
theorem yT_M56 {k : Nat} (hk : k = 5 ∨ k = 6) (H : yT_S 114 g0 g c) (hn : (g0.1 68 73) = nw) (hp : p + 3 ≤ 8192) : yT_E 114 g0 (f_Mo_timers g (nI k) (nI p)) (yT_m nw k p c) := by
  have t1 : ∀ v, yT_E 114 g0 ((f_Mo_turn g (nI (p + 1)) v).bind fun h2 => f_Mo_timers_687 h2 (nI k) (nI p) (yT_on (c p))) (yE_u (yE_u c (p + 1) (yT_on v)) (p + 2) (yT_on (c p))) := fun v => by
    have := yT_te (k := k) (x := p + 1) (by omega) H hn (by rcases hk with e | e <;> subst e <;> exact hp) (by omega) (c p) v
    rw [if_neg (show ¬ k < 3 by omega), if_neg (show ¬ k < 5 by omega), if_pos (show k < 7 by omega)] at this
    exact this
  rw [yT_beg (k := k) (by omega) H (by rcases hk with e | e <;> subst e <;> exact hp), if_neg (show ¬ k < 3 by omega), if_neg (show ¬ k < 5 by omega)]
  unfold f_Mo_timers_56 f_Mo_timers_581 f_Mo_timers_582 f_Mo_timers_605 f_Mo_timers_606 yT_m
  rw [if_neg (show ¬ k < 3 by omega), if_neg (show ¬ k < 5 by omega), if_pos (show k < 7 by omega)]
  rcases hk with e | e
  · subst e
    simp only [yT_o0, if_neg (show ¬ (nI 5 : Int32) = 0 by decide), if_neg (show ¬ (nI 5 : Int32) = 1 by decide), if_neg (show ¬ (nI 5 : Int32) = 2 by decide), if_neg (show ¬ (nI 5 : Int32) = 3 by decide), if_neg (show ¬ (nI 5 : Int32) = 4 by decide), if_pos (show (nI 5 : Int32) = 5 from rfl), show nI p + 1 = nI (p + 1) from zc_ad 1 p, if_pos (show (5 : Nat) = 5 from rfl)]
    by_cases z : c p = 0
    · rw [if_pos z, if_neg (show ¬ (¬ c p = 0 ∧ c (p + 2) = 0) from fun q => q.1 z)]; exact t1 0
    · rw [if_neg z]
      by_cases y : c (p + 2) = 0
      · rw [if_pos y, if_pos (show ¬ c p = 0 ∧ c (p + 2) = 0 from ⟨z, y⟩)]; exact t1 1
      · rw [if_neg y, if_neg (show ¬ (¬ c p = 0 ∧ c (p + 2) = 0) from fun q => y q.2)]; exact t1 0
  · subst e
    simp only [yT_o0, if_neg (show ¬ (nI 6 : Int32) = 0 by decide), if_neg (show ¬ (nI 6 : Int32) = 1 by decide), if_neg (show ¬ (nI 6 : Int32) = 2 by decide), if_neg (show ¬ (nI 6 : Int32) = 3 by decide), if_neg (show ¬ (nI 6 : Int32) = 4 by decide), if_neg (show ¬ (nI 6 : Int32) = 5 by decide), if_pos (show (nI 6 : Int32) = 6 from rfl), show nI p + 1 = nI (p + 1) from zc_ad 1 p, if_neg (show ¬ (6 : Nat) = 5 by decide)]
    by_cases z : c p = 0
    · rw [if_pos z]
      by_cases y : c (p + 2) = 0
      · rw [if_pos y, if_neg (show ¬ (c p = 0 ∧ ¬ c (p + 2) = 0) from fun q => q.2 y)]; exact t1 0
      · rw [if_neg y, if_pos (show c p = 0 ∧ ¬ c (p + 2) = 0 from ⟨z, y⟩)]; exact t1 1
    · rw [if_neg z, if_neg (show ¬ (c p = 0 ∧ ¬ c (p + 2) = 0) from fun q => z q.1)]; exact t1 0
theorem yT_M78 {k : Nat} (hk : k = 7 ∨ k = 8) (H : yT_S 114 g0 g c) (hn : (g0.1 68 73) = nw) (hp : p + 3 ≤ 8192) : yT_E 114 g0 (f_Mo_timers g (nI k) (nI p)) (yT_m nw k p c) := by
  have t1 : ∀ v, yT_E 114 g0 ((f_Mo_turn g (nI (p + 2)) v).bind fun h2 => f_Mo_timers_687 h2 (nI k) (nI p) (yT_on (c p))) (yE_u c (p + 2) (yT_on v)) := fun v => by
    have := yT_te (k := k) (x := p + 2) (by omega) H hn (by rcases hk with e | e <;> subst e <;> exact hp) (by omega) (c p) v
    rw [if_neg (show ¬ k < 3 by omega), if_neg (show ¬ k < 5 by omega), if_neg (show ¬ k < 7 by omega)] at this
    exact this
  rw [yT_beg (k := k) (by omega) H (by rcases hk with e | e <;> subst e <;> exact hp), if_neg (show ¬ k < 3 by omega), if_neg (show ¬ k < 5 by omega)]
  unfold f_Mo_timers_56 f_Mo_timers_640 f_Mo_timers_644 f_Mo_timers_645 f_Mo_timers_679 f_Mo_timers_683 f_Mo_timers_684 yT_m
  rw [if_neg (show ¬ k < 3 by omega), if_neg (show ¬ k < 5 by omega), if_neg (show ¬ k < 7 by omega)]
  rcases hk with e | e
  · subst e
    simp only [yT_o0, if_neg (show ¬ (nI 7 : Int32) = 0 by decide), if_neg (show ¬ (nI 7 : Int32) = 1 by decide), if_neg (show ¬ (nI 7 : Int32) = 2 by decide), if_neg (show ¬ (nI 7 : Int32) = 3 by decide), if_neg (show ¬ (nI 7 : Int32) = 4 by decide), if_neg (show ¬ (nI 7 : Int32) = 5 by decide), if_neg (show ¬ (nI 7 : Int32) = 6 by decide), if_pos (show (nI 7 : Int32) = 7 from rfl), show nI p + 1 = nI (p + 1) from zc_ad 1 p, show nI p + 2 = nI (p + 2) from zc_ad 2 p, yT_aon H (show p + 1 < 8192 by omega), yT_aon H (show p + 2 < 8192 by omega), Option.bind_some, if_pos (show (7 : Nat) = 7 from rfl)]
    by_cases z : c p = 0
    · rw [if_pos z]
      by_cases y : c (p + 1) = 0
      · rw [if_pos y]
        by_cases w : c (p + 2) = 0
        · rw [if_pos w, if_neg (show ¬ (¬ c p = 0 ∨ (c (p + 1) = 0 ∧ ¬ c (p + 2) = 0)) from fun q => q.elim (fun q => q z) (fun q => q.2 w))]; exact t1 0
        · rw [if_neg w, if_pos (show ¬ c p = 0 ∨ (c (p + 1) = 0 ∧ ¬ c (p + 2) = 0) from .inr ⟨y, w⟩)]; exact t1 1
      · rw [if_neg y, if_neg (show ¬ (¬ c p = 0 ∨ (c (p + 1) = 0 ∧ ¬ c (p + 2) = 0)) from fun q => q.elim (fun q => q z) (fun q => y q.1))]; exact t1 0
    · rw [if_neg z, if_pos (show ¬ c p = 0 ∨ (c (p + 1) = 0 ∧ ¬ c (p + 2) = 0) from .inl z)]; exact t1 1
  · subst e
    simp only [yT_o0, if_neg (show ¬ (nI 8 : Int32) = 0 by decide), if_neg (show ¬ (nI 8 : Int32) = 1 by decide), if_neg (show ¬ (nI 8 : Int32) = 2 by decide), if_neg (show ¬ (nI 8 : Int32) = 3 by decide), if_neg (show ¬ (nI 8 : Int32) = 4 by decide), if_neg (show ¬ (nI 8 : Int32) = 5 by decide), if_neg (show ¬ (nI 8 : Int32) = 6 by decide), if_neg (show ¬ (nI 8 : Int32) = 7 by decide), show nI p + 1 = nI (p + 1) from zc_ad 1 p, show nI p + 2 = nI (p + 2) from zc_ad 2 p, yT_aon H (show p + 1 < 8192 by omega), yT_aon H (show p + 2 < 8192 by omega), Option.bind_some, if_neg (show ¬ (8 : Nat) = 7 by decide)]
    by_cases y : c (p + 1) = 0
    · rw [if_pos y]
      by_cases z : c p = 0
      · rw [if_pos z]
        by_cases w : c (p + 2) = 0
        · rw [if_pos w, if_neg (show ¬ (c (p + 1) = 0 ∧ (¬ c p = 0 ∨ ¬ c (p + 2) = 0)) from fun q => q.2.elim (fun q => q z) (fun q => q w))]; exact t1 0
        · rw [if_neg w, if_pos (show c (p + 1) = 0 ∧ (¬ c p = 0 ∨ ¬ c (p + 2) = 0) from ⟨y, .inr w⟩)]; exact t1 1
      · rw [if_neg z, if_pos (show c (p + 1) = 0 ∧ (¬ c p = 0 ∨ ¬ c (p + 2) = 0) from ⟨y, .inl z⟩)]; exact t1 1
    · rw [if_neg y, if_neg (show ¬ (c (p + 1) = 0 ∧ (¬ c p = 0 ∨ ¬ c (p + 2) = 0)) from fun q => y q.1)]; exact t1 0
theorem yT_M {k : Nat} (hk : k < 9) (H : yT_S 114 g0 g c) (hn : (g0.1 68 73) = nw) (hp : p + (zt_2.getD k 0).toNatClampNeg ≤ 8192) (h2 : k = 2 → c (p + 2) = 0 ∨ c (p + 2) = 1) : yT_E 114 g0 (f_Mo_timers g (nI k) (nI p)) (yT_m nw k p c) := by
  have hk' : k = 0 ∨ k = 1 ∨ k = 2 ∨ k = 3 ∨ k = 4 ∨ (k = 5 ∨ k = 6) ∨ (k = 7 ∨ k = 8) := by omega
  rcases hk' with e | e | e | e | e | e | e
  · subst e; exact yT_M0 H hn hp
  · subst e; exact yT_M1 H hn hp
  · subst e; exact yT_M2 H hn hp (h2 rfl)
  · subst e; exact yT_M3 H hn hp
  · subst e; exact yT_M4 H hn hp
  · exact yT_M56 e H hn (by rcases e with e | e <;> subst e <;> exact hp)
  · exact yT_M78 e H hn (by rcases e with e | e <;> subst e <;> exact hp)
end YTN
end
section
/-! The machine: standard blocks on the class. -/
section YTC
variable {p : Nat} {h0 h : zs_H} {c : Nat → Int32} {nw v : Int32}
theorem yT_lt {a b : Int32} : a.toInt64 < b.toInt64 ↔ a < b := by
  rw [Int64.lt_iff_toInt_lt, Int32.lt_iff_toInt_lt, Int32.toInt_toInt64, Int32.toInt_toInt64]
theorem yT_le {a b : Int32} : a.toInt64 ≤ b.toInt64 ↔ a ≤ b := by
  rw [Int64.le_iff_toInt_le, Int32.le_iff_toInt_le, Int32.toInt_toInt64, Int32.toInt_toInt64]
theorem yT_l0 {a : Int32} : a.toInt64 ≤ 0 ↔ a ≤ 0 := yT_le (b := 0)
theorem yT_mx {a : Int32} : zd_max 0 a = yT_pt a := by
  unfold zd_max yT_pt
  by_cases z : a ≤ 0
  · rw [if_pos z, if_neg (Int32.not_lt.mpr z)]
  · rw [if_neg z, if_pos (Int32.not_le.mp z)]
theorem yT_mn {pt e l : Int32} : (zd_minl pt.toInt64 (e.toInt64 + (nw.toInt64 - l.toInt64))).toInt32 = yT_gr nw pt e l := by
  unfold zd_minl yT_gr
  have a : e.toInt64 + (nw.toInt64 - l.toInt64) = e.toInt64 + nw.toInt64 - l.toInt64 := by
    rw [Int64.sub_eq_add_neg, Int64.sub_eq_add_neg, Int64.add_assoc]
  rw [a]
  by_cases z : pt.toInt64 ≤ e.toInt64 + nw.toInt64 - l.toInt64
  · rw [if_pos z, if_neg (Int64.not_lt.mpr z)]
  · rw [if_neg z, if_pos (Int64.not_le.mp z)]
theorem yT_cat (H : yT_S 62 h0 h c) {x : Nat} (hx : x < 8192) : f_Mc_cellAt h (nI x) = some (c x) := by
  unfold f_Mc_cellAt
  rw [if_neg (mt (zc_tl (k := 0) (by decide) (by omega)).mp (by omega)), if_neg (mt (zc_le (k := 8192) (by decide) (by omega)).mp (by omega)), if_pos (zi_in (by omega) hx), nI_clamp (by omega), H.2 x hx]
theorem yT_cbe (H : yT_S 62 h0 h c) {x : Nat} (hx : x < 8192) : ∃ h', f_Mc_become h (nI x) v = some h' ∧ yT_S 62 h0 h' (yE_u c x v) := by
  unfold f_Mc_become
  rw [if_neg (mt (zc_tl (k := 0) (by decide) (by omega)).mp (by omega)), if_neg (mt (zc_le (k := 8192) (by decide) (by omega)).mp (by omega)), if_pos (zi_in (by omega) hx), nI_clamp (by omega)]
  exact ⟨_, rfl, yT_w H⟩
theorem yT_if {x3 : Int32} {r : Int32 → Option zs_H} : (if yT_on x3 = 0 then r 0 else r 1) = r (yT_on x3) := by
  unfold yT_on
  by_cases z : x3 = 0
  · rw [if_pos z, if_pos rfl]
  · rw [if_neg z, if_neg (by decide)]
theorem yT_if2 {x3 : Int32} {r : Int32 → Option zs_H} : (if x3 = 0 then r 0 else r 1) = r (yT_on x3) := by
  unfold yT_on
  by_cases z : x3 = 0
  · rw [if_pos z, if_pos z]
  · rw [if_neg z, if_neg z]
theorem yT_be1 (H : yT_S 62 h0 h c) {x : Nat} (hx : x < 8192) : yT_E 62 h0 ((f_Mc_become h (nI x) v).bind fun h2 => some h2) (yE_u c x v) := by
  obtain ⟨h', a1, a2⟩ := yT_cbe (v := v) H hx
  rw [a1]
  exact ⟨h', rfl, a2⟩
theorem yT_283 (H : yT_S 62 h0 h c) (hn : (h0.1 58 9) = nw) (hp : p + 6 ≤ 8192) (x3 et q : Int32) : yT_E 62 h0 (f_Mc_runTimer_283 h (nI p) (yT_on x3) et q) (yE_u (yE_u (yE_u (yE_u c (p + 3) et) (p + 2) (yT_on q)) (p + 4) (yT_on x3)) (p + 5) nw) := by
  unfold f_Mc_runTimer_283
  rw [yT_if2 (r := fun y => f_Mc_runTimer_297 h (nI p) (yT_on x3) et y (nI p + 2))]
  unfold f_Mc_runTimer_297 f_Mc_runTimer_322
  obtain ⟨h1, a1, a2⟩ := yT_cbe (v := yT_on q) H (show p + 2 < 8192 by omega)
  obtain ⟨h2, b1, b2⟩ := yT_cbe (v := et) a2 (show p + 3 < 8192 by omega)
  rw [show nI p + 2 = nI (p + 2) from zc_ad 2 p, show nI p + 3 = nI (p + 3) from zc_ad 3 p, show nI p + 4 = nI (p + 4) from zc_ad 4 p, show nI p + 5 = nI (p + 5) from zc_ad 5 p, a1, Option.bind_some, b1, Option.bind_some, yT_if (r := fun y => (f_Mc_become h2 (nI (p + 4)) y).bind fun h2 => (f_Mc_become h2 (nI (p + 5)) ((h2.1 58 9))).bind fun h4 => some h4)]
  obtain ⟨h3, d1, d2⟩ := yT_cbe (v := yT_on x3) b2 (show p + 4 < 8192 by omega)
  rw [d1, Option.bind_some, show (h3.1 58 9) = nw from (d2.1.1 _ _ List.not_mem_nil).trans hn]
  refine yT_Ec (fun j hj => ?_) (yT_be1 (v := nw) d2 (show p + 5 < 8192 by omega))
  unfold yE_u
  by_cases j5 : j = p + 5
  · rw [if_pos j5, if_pos j5]
  rw [if_neg j5, if_neg j5]
  by_cases j4 : j = p + 4
  · rw [if_pos j4, if_pos j4]
  rw [if_neg j4, if_neg j4]
  by_cases j2 : j = p + 2
  · rw [if_pos j2, if_neg (by omega), if_pos j2]
  rw [if_neg j2, if_neg j2]
theorem yT_81 {k : Nat} (hk : k < 3) (H : yT_S 62 h0 h c) (hn : (h0.1 58 9) = nw) (hp : p + 6 ≤ 8192) : f_Mc_runTimer h (nI k) (nI p) (yT_on (c p)) = f_Mc_runTimer_81 h (nI k) (nI p) (yT_on (c p)) (yT_on (c (p + 4))) (yT_pt (c (p + 1))).toInt64 (c (p + 3)) (yT_gr nw (yT_pt (c (p + 1))) (c (p + 3)) (c (p + 5))) (yT_on (c (p + 2))) := by
  have en : (h.1 58 9) = nw := (H.1.1 _ _ List.not_mem_nil).trans hn
  unfold f_Mc_runTimer
  rw [show nI p + 4 = nI (p + 4) from zc_ad 4 p, yT_cat H (show p + 4 < 8192 by omega), Option.bind_some, yT_if2 (r := fun y => f_Mc_runTimer_15 h (nI k) (nI p) (yT_on (c p)) y)]
  unfold f_Mc_runTimer_15
  rw [show nI p + 1 = nI (p + 1) from zc_ad 1 p, show nI p + 3 = nI (p + 3) from zc_ad 3 p, show nI p + 5 = nI (p + 5) from zc_ad 5 p, show nI p + 2 = nI (p + 2) from zc_ad 2 p, yT_cat H (show p + 1 < 8192 by omega), Option.bind_some, yT_cat H (show p + 3 < 8192 by omega), Option.bind_some, yT_cat H (show p + 5 < 8192 by omega), Option.bind_some, yT_cat H (show p + 2 < 8192 by omega), Option.bind_some, en, yT_mx, yT_mn]
  exact yT_if2 (r := fun y => f_Mc_runTimer_81 h (nI k) (nI p) (yT_on (c p)) (yT_on (c (p + 4))) (yT_pt (c (p + 1))).toInt64 (c (p + 3)) (yT_gr nw (yT_pt (c (p + 1))) (c (p + 3)) (c (p + 5))) y)
theorem yT_C012 {k : Nat} (hk : k < 3) (H : yT_S 62 h0 h c) (hn : (h0.1 58 9) = nw) (hp : p + 6 ≤ 8192) : yT_E 62 h0 (f_Mc_runTimer h (nI k) (nI p) (yT_on (c p))) (yT_m nw k p c) := by
  rw [yT_81 hk H hn hp]
  have G := fun et q => yT_283 H hn hp (c p) et q
  unfold yT_m yT_et yT_q yT_et
  rw [if_pos hk]
  generalize yT_gr nw (yT_pt (c (p + 1))) (c (p + 3)) (c (p + 5)) = gr
  generalize yT_pt (c (p + 1)) = pt
  unfold f_Mc_runTimer_81 f_Mc_runTimer_101 f_Mc_runTimer_102 f_Mc_runTimer_121 f_Mc_runTimer_122 f_Mc_runTimer_150 f_Mc_runTimer_151 f_Mc_runTimer_172 f_Mc_runTimer_178 f_Mc_runTimer_213 f_Mc_runTimer_217 f_Mc_runTimer_218 f_Mc_runTimer_246 f_Mc_runTimer_248 f_Mc_runTimer_262 f_Mc_runTimer_280 f_Mc_runTimer_281
  simp only [yT_o0, yT_lt, yT_le, yT_l0]
  have hk' : k = 0 ∨ k = 1 ∨ k = 2 := by omega
  rcases hk' with e | e | e
  · subst e
    simp (config := { decide := true }) only [if_pos (show (nI 0 : Int32) = 0 from rfl), if_true, if_false]
    by_cases z : c p = 0
    · simp only [if_pos z, if_pos (show c p = 0 ∨ c (p + 4) = 0 from .inl z), if_pos (show c p = 0 ∨ (0 : Int32) < pt from .inl z)]; exact G 0 0
    · by_cases y : c (p + 4) = 0
      · simp only [if_neg z, if_pos y, if_pos (show c p = 0 ∨ c (p + 4) = 0 from .inr y)]
        by_cases w : 0 < pt
        · rw [if_pos w, if_pos (show c p = 0 ∨ 0 < pt from .inr w)]; exact G 0 0
        · rw [if_neg w, if_neg (show ¬ (c p = 0 ∨ 0 < pt) from fun q => q.elim z w)]; exact G 0 1
      · simp only [if_neg z, if_neg y, if_neg (show ¬ (c p = 0 ∨ c (p + 4) = 0) from fun q => q.elim z y)]
        by_cases w : gr < pt
        · rw [if_pos w, if_pos (show c p = 0 ∨ gr < pt from .inr w)]; exact G gr 0
        · rw [if_neg w, if_neg (show ¬ (c p = 0 ∨ gr < pt) from fun q => q.elim z w)]; exact G gr 1
  · subst e
    simp (config := { decide := true }) only [if_neg (show ¬ (nI 1 : Int32) = 0 by decide), if_pos (show (nI 1 : Int32) = 1 from rfl), if_true, if_false]
    by_cases z : c p = 0
    · by_cases y : c (p + 4) = 0
      · by_cases w : c (p + 2) = 0
        · simp (config := { decide := true }) only [if_pos z, if_pos y, if_pos w, if_pos (show c p = 0 ∧ c (p + 4) = 0 from ⟨z, y⟩), if_neg (show ¬ ¬ c p = 0 from fun q => q z), if_neg (show ¬ ¬ c (p + 4) = 0 from fun q => q y), if_true, if_pos (show c (p + 2) = 0 ∨ pt ≤ gr from .inl w)]
          exact G _ 0
        · simp (config := { decide := true }) only [if_pos z, if_pos y, if_neg w, if_pos (show c p = 0 ∧ c (p + 4) = 0 from ⟨z, y⟩), if_neg (show ¬ ¬ c p = 0 from fun q => q z), if_neg (show ¬ ¬ c (p + 4) = 0 from fun q => q y), if_false, w, false_or]
          split
          · exact G _ 0
          · exact G _ 1
      · have e0 : ((0 : Int32) < pt) ↔ ¬ pt ≤ 0 := Int32.not_le.symm
        simp (config := { decide := true }) only [if_pos z, if_neg y, if_neg (show ¬ (c p = 0 ∧ c (p + 4) = 0) from fun q => y q.2), if_neg (show ¬ ¬ c p = 0 from fun q => q z), if_pos (show ¬ c (p + 4) = 0 from y), if_true, e0]
        by_cases w : pt ≤ 0
        · rw [if_pos w, if_neg (fun q => q w)]; exact G _ 0
        · rw [if_neg w, if_pos w]; exact G _ 1
    · simp (config := { decide := true }) only [if_neg z, if_neg (show ¬ (c p = 0 ∧ c (p + 4) = 0) from fun q => z q.1), if_pos (show ¬ c p = 0 from z), if_true]
      exact G _ 1
  · subst e
    simp (config := { decide := true }) only [if_neg (show ¬ (nI 2 : Int32) = 0 by decide), if_neg (show ¬ (nI 2 : Int32) = 1 by decide), if_true, if_false]
    have fin : ∀ et, yT_E 62 h0 (if c p = 0 then f_Mc_runTimer_283 h (nI p) (yT_on (c p)) 0 0 else if c (p + 4) = 0 then (if c p = 0 then f_Mc_runTimer_283 h (nI p) (yT_on (c p)) 0 0 else if pt ≤ 0 then f_Mc_runTimer_283 h (nI p) (yT_on (c p)) 0 0 else f_Mc_runTimer_283 h (nI p) (yT_on (c p)) 0 1) else f_Mc_runTimer_283 h (nI p) (yT_on (c p)) et 0) (yE_u (yE_u (yE_u (yE_u c (p + 3) (if c p = 0 ∨ c (p + 4) = 0 then 0 else et)) (p + 2) (if c p = 0 then 0 else if c (p + 4) = 0 then (if pt ≤ 0 then 0 else 1) else 0)) (p + 4) (yT_on (c p))) (p + 5) nw) := by
      intro et
      by_cases z : c p = 0
      · simp only [if_pos z, if_pos (show c p = 0 ∨ c (p + 4) = 0 from .inl z)]; exact G 0 0
      · by_cases y : c (p + 4) = 0
        · simp only [if_neg z, if_pos y, if_pos (show c p = 0 ∨ c (p + 4) = 0 from .inr y)]
          by_cases w : pt ≤ 0
          · rw [if_pos w, if_pos w]; exact G 0 0
          · rw [if_neg w, if_neg w]; exact G 0 1
        · simp only [if_neg z, if_neg y, if_neg (show ¬ (c p = 0 ∨ c (p + 4) = 0) from fun q => q.elim z y)]; exact G et 0
    have e00 : f_Mc_runTimer_283 h (nI p) (yT_on (c p)) (c (p + 3)) (yT_on (c (p + 2))) = f_Mc_runTimer_283 h (nI p) (yT_on (c p)) (c (p + 3)) (yT_on (c (p + 2))) := rfl
    by_cases w : c (p + 2) = 0
    · have ew : yT_on (c (p + 2)) = 0 := yT_o0.mpr w
      rw [if_pos w, if_pos w, if_neg (show ¬ (¬ c (p + 2) = 0 ∧ gr < pt) from fun q => q.1 w), if_neg (show ¬ (¬ c (p + 2) = 0 ∧ gr < pt) from fun q => q.1 w), if_pos w, ew]
      have := fin (c (p + 3))
      by_cases z : c p = 0
      · simp only [if_pos z] at this ⊢; exact this
      · simp only [if_neg z] at this ⊢; exact this
    · rw [if_neg w]
      by_cases y : pt ≤ gr
      · rw [if_pos y, if_neg (show ¬ (¬ c (p + 2) = 0 ∧ gr < pt) from fun q => Int32.not_lt.mpr y q.2), if_neg (show ¬ (¬ c (p + 2) = 0 ∧ gr < pt) from fun q => Int32.not_lt.mpr y q.2), if_neg w]
        have := fin gr
        by_cases z : c p = 0
        · simp only [if_pos z] at this ⊢; exact this
        · simp only [if_neg z] at this ⊢; exact this
      · rw [if_neg y, if_pos (show ¬ c (p + 2) = 0 ∧ gr < pt from ⟨w, Int32.not_le.mp y⟩), if_pos (show ¬ c (p + 2) = 0 ∧ gr < pt from ⟨w, Int32.not_le.mp y⟩)]
        exact G gr 1
theorem yT_145 (H : yT_S 62 h0 h c) (hp : p + 6 ≤ 8192) (x3 cv q : Int32) : yT_E 62 h0 (f_Mc_runCounter_145 h (nI p) (yT_on x3) cv q (nI (p + 3))) (yE_u (yE_u (yE_u c (p + 4) cv) (p + 3) q) (p + 5) (yT_on x3)) := by
  unfold f_Mc_runCounter_145 f_Mc_runCounter_170
  obtain ⟨h1, a1, a2⟩ := yT_cbe (v := q) H (show p + 3 < 8192 by omega)
  obtain ⟨h2, b1, b2⟩ := yT_cbe (v := cv) a2 (show p + 4 < 8192 by omega)
  rw [show nI p + 4 = nI (p + 4) from zc_ad 4 p, show nI p + 5 = nI (p + 5) from zc_ad 5 p, a1, Option.bind_some, b1, Option.bind_some, yT_if (r := fun y => (f_Mc_become h2 (nI (p + 5)) y).bind fun h2 => some h2)]
  refine yT_Ec (fun j hj => ?_) (yT_be1 (v := yT_on x3) b2 (show p + 5 < 8192 by omega))
  unfold yE_u
  by_cases j5 : j = p + 5
  · rw [if_pos j5, if_pos j5]
  rw [if_neg j5, if_neg j5]
  by_cases j3 : j = p + 3
  · rw [if_pos j3, if_neg (by omega), if_pos j3]
  rw [if_neg j3, if_neg j3]
theorem yT_C34 {k : Nat} (hk : k = 3 ∨ k = 4) (H : yT_S 62 h0 h c) (hp : p + 6 ≤ 8192) : yT_E 62 h0 (f_Mc_runCounter h (nI k) (nI p) (yT_on (c p)) (yT_on (c (p + 1)))) (yT_m nw k p c) := by
  have G := fun cv q => yT_145 H hp (c p) cv q
  unfold yT_m yT_cv f_Mc_runCounter f_Mc_runCounter_18 f_Mc_runCounter_19 f_Mc_runCounter_49 f_Mc_runCounter_67 f_Mc_runCounter_101 f_Mc_runCounter_113 f_Mc_runCounter_116 f_Mc_runCounter_140 f_Mc_runCounter_144
  rw [if_neg (show ¬ k < 3 by omega), if_pos (show k < 5 by omega)]
  simp only [yT_o0, show nI p + 2 = nI (p + 2) from zc_ad 2 p, show nI p + 3 = nI (p + 3) from zc_ad 3 p, show nI p + 4 = nI (p + 4) from zc_ad 4 p, show nI p + 5 = nI (p + 5) from zc_ad 5 p, yT_cat H (show p + 2 < 8192 by omega), yT_cat H (show p + 4 < 8192 by omega), yT_cat H (show p + 5 < 8192 by omega), Option.bind_some]
  have s1 : ∀ x : Int32, x + -1 = x - 1 := fun x => (Int32.sub_eq_add_neg x 1).symm
  rcases hk with e | e
  · subst e
    simp (config := { decide := true }) only [if_pos (show (nI 3 : Int32) = 3 from rfl), if_true, if_false]
    have R : ∀ cv, yT_E 62 h0 (if cv < c (p + 2) then f_Mc_runCounter_145 h (nI p) (yT_on (c p)) cv 0 (nI (p + 3)) else f_Mc_runCounter_145 h (nI p) (yT_on (c p)) cv 1 (nI (p + 3))) (yE_u (yE_u (yE_u c (p + 4) cv) (p + 3) (if cv < c (p + 2) then 0 else 1)) (p + 5) (yT_on (c p))) := fun cv => by
      split
      · exact G cv 0
      · exact G cv 1
    by_cases z1 : c (p + 1) = 0
    · simp only [if_pos z1, if_neg (show ¬ ¬ c (p + 1) = 0 from fun q => q z1)]
      by_cases z : c p = 0
      · rw [if_pos z, if_neg (show ¬ (¬ c p = 0 ∧ _) from fun q => q.1 z)]; exact R _
      · rw [if_neg z]
        by_cases y : c (p + 5) = 0
        · rw [if_pos y]
          by_cases w : (32767 : Int32) ≤ c (p + 4)
          · rw [if_pos w, if_neg (show ¬ (¬ c p = 0 ∧ c (p + 5) = 0 ∧ ¬ (32767 : Int32) ≤ c (p + 4)) from fun q => q.2.2 w)]; exact R _
          · rw [if_neg w, if_pos (show ¬ c p = 0 ∧ c (p + 5) = 0 ∧ ¬ (32767 : Int32) ≤ c (p + 4) from ⟨z, y, w⟩)]; exact R _
        · rw [if_neg y, if_neg (show ¬ (¬ c p = 0 ∧ c (p + 5) = 0 ∧ _) from fun q => y q.2.1)]; exact R _
    · simp only [if_neg z1, if_pos (show ¬ c (p + 1) = 0 from z1), ite_self]
      exact R 0
  · subst e
    simp (config := { decide := true }) only [if_neg (show ¬ (nI 4 : Int32) = 3 by decide), if_true, if_false, s1]
    have R : ∀ cv, yT_E 62 h0 (if 0 < cv then f_Mc_runCounter_145 h (nI p) (yT_on (c p)) cv 0 (nI (p + 3)) else f_Mc_runCounter_145 h (nI p) (yT_on (c p)) cv 1 (nI (p + 3))) (yE_u (yE_u (yE_u c (p + 4) cv) (p + 3) (if 0 < cv then 0 else 1)) (p + 5) (yT_on (c p))) := fun cv => by
      split
      · exact G cv 0
      · exact G cv 1
    by_cases z1 : c (p + 1) = 0
    · simp only [if_pos z1, if_neg (show ¬ ¬ c (p + 1) = 0 from fun q => q z1)]
      by_cases z : c p = 0
      · rw [if_pos z, if_neg (show ¬ (¬ c p = 0 ∧ _) from fun q => q.1 z)]; exact R _
      · rw [if_neg z]
        by_cases y : c (p + 5) = 0
        · rw [if_pos y]
          by_cases w : c (p + 4) ≤ (-32768 : Int32)
          · rw [if_pos w, if_neg (show ¬ (¬ c p = 0 ∧ c (p + 5) = 0 ∧ ¬ c (p + 4) ≤ (-32768 : Int32)) from fun q => q.2.2 w)]; exact R _
          · rw [if_neg w, if_pos (show ¬ c p = 0 ∧ c (p + 5) = 0 ∧ ¬ c (p + 4) ≤ (-32768 : Int32) from ⟨z, y, w⟩)]; exact R _
        · rw [if_neg y, if_neg (show ¬ (¬ c p = 0 ∧ c (p + 5) = 0 ∧ _) from fun q => y q.2.1)]; exact R _
    · simp only [if_neg z1, if_pos (show ¬ c (p + 1) = 0 from z1), ite_self]
      exact R _
theorem yT_138 (H : yT_S 62 h0 h c) (hp : p + 3 ≤ 8192) (x3 q : Int32) : yT_E 62 h0 (f_Mc_runStandard_122 h (nI p) (yT_on x3) q) (yE_u (yE_u c (p + 1) (yT_on q)) (p + 2) (yT_on x3)) := by
  unfold f_Mc_runStandard_122
  rw [yT_if2 (r := fun y => f_Mc_runStandard_138 h (nI p) (yT_on x3) y (nI p + 1))]
  unfold f_Mc_runStandard_138 f_Mc_runStandard_154
  obtain ⟨h1, a1, a2⟩ := yT_cbe (v := yT_on q) H (show p + 1 < 8192 by omega)
  rw [show nI p + 1 = nI (p + 1) from zc_ad 1 p, show nI p + 2 = nI (p + 2) from zc_ad 2 p, a1, Option.bind_some, yT_if (r := fun y => (f_Mc_become h1 (nI (p + 2)) y).bind fun h2 => some h2)]
  exact yT_be1 a2 (by omega)
theorem yT_224 (H : yT_S 62 h0 h c) (hp : p + 3 ≤ 8192) (q : Int32) : yT_E 62 h0 (f_Mc_runStandard_224 h (nI p) q) (yE_u c (p + 2) (yT_on q)) := by
  unfold f_Mc_runStandard_224
  rw [yT_if2 (r := fun y => f_Mc_runStandard_240 h y (nI p + 2))]
  unfold f_Mc_runStandard_240
  rw [show nI p + 2 = nI (p + 2) from zc_ad 2 p]
  exact yT_be1 H (by omega)
theorem yT_C {k : Nat} (hk : k < 9) (H : yT_S 62 h0 h c) (hn : (h0.1 58 9) = nw) (hp : p + (zt_2.getD k 0).toNatClampNeg ≤ 8192) : yT_E 62 h0 (f_Mc_runStandard h (nI k) (nI p)) (yT_m nw k p c) := by
  have z6 : ∀ k, k < 5 → (zt_2.getD k 0).toNatClampNeg = 6 := by decide
  have z3 : ∀ k, k < 9 → 3 ≤ (zt_2.getD k 0).toNatClampNeg := by decide
  have q3 := z3 k hk
  have e2 : ((2 : Int32) < nI k) ↔ 2 < k := zc_lt (k := 2) (by decide) (by omega)
  have e4 : ((4 : Int32) < nI k) ↔ 4 < k := zc_lt (k := 4) (by decide) (by omega)
  have e6 : ((6 : Int32) < nI k) ↔ 6 < k := zc_lt (k := 6) (by decide) (by omega)
  have E : ∀ {r : Option zs_H} {c'}, yT_E 62 h0 r c' → yT_E 62 h0 (r.bind fun h11 => some h11) c' := fun {r c'} q => by
    obtain ⟨h', a1, a2⟩ := q
    exact ⟨h', by rw [a1]; rfl, a2⟩
  unfold f_Mc_runStandard
  rw [yT_cat H (show p < 8192 by omega), Option.bind_some, yT_if2 (r := fun y => f_Mc_runStandard_13 h (nI k) (nI p) y)]
  unfold f_Mc_runStandard_13
  rw [show nI p + 1 = nI (p + 1) from zc_ad 1 p, yT_cat H (show p + 1 < 8192 by omega), Option.bind_some, yT_if2 (r := fun y => f_Mc_runStandard_29 h (nI k) (nI p) (yT_on (c p)) y)]
  unfold f_Mc_runStandard_29
  simp only [e2, e4, e6]
  by_cases k2 : 2 < k
  · rw [if_pos k2]
    by_cases k4 : 4 < k
    · rw [if_pos k4, show nI p + 2 = nI (p + 2) from zc_ad 2 p, yT_cat H (show p + 2 < 8192 by omega), Option.bind_some, Option.bind_some, yT_if2 (r := fun y => f_Mc_runStandard_175 h (nI k) (nI p) (yT_on (c p)) (yT_on (c (p + 1))) y), yT_if2 (r := fun y => f_Mc_runStandard_84 h (nI k) (nI p) (yT_on (c p)) y)]
      by_cases k6 : 6 < k
      · rw [if_pos k6]
        have G := fun q => yT_224 H (show p + 3 ≤ 8192 by omega) q
        unfold yT_m f_Mc_runStandard_175 f_Mc_runStandard_197 f_Mc_runStandard_201 f_Mc_runStandard_219 f_Mc_runStandard_223
        rw [if_neg (show ¬ k < 3 by omega), if_neg (show ¬ k < 5 by omega), if_neg (show ¬ k < 7 by omega)]
        simp only [yT_o0]
        have hk' : k = 7 ∨ k = 8 := by omega
        rcases hk' with e | e
        · subst e
          rw [if_pos (show (nI 7 : Int32) = 7 from rfl), if_pos rfl]
          by_cases z : c p = 0
          · rw [if_pos z]
            by_cases y : c (p + 1) = 0
            · rw [if_pos y]
              by_cases w : c (p + 2) = 0
              · rw [if_pos w, if_neg (show ¬ (¬ c p = 0 ∨ (c (p + 1) = 0 ∧ ¬ c (p + 2) = 0)) from fun q => q.elim (fun q => q z) (fun q => q.2 w))]; exact G 0
              · rw [if_neg w, if_pos (show ¬ c p = 0 ∨ (c (p + 1) = 0 ∧ ¬ c (p + 2) = 0) from .inr ⟨y, w⟩)]; exact G 1
            · rw [if_neg y, if_neg (show ¬ (¬ c p = 0 ∨ (c (p + 1) = 0 ∧ ¬ c (p + 2) = 0)) from fun q => q.elim (fun q => q z) (fun q => y q.1))]; exact G 0
          · rw [if_neg z, if_pos (show ¬ c p = 0 ∨ (c (p + 1) = 0 ∧ ¬ c (p + 2) = 0) from .inl z)]; exact G 1
        · subst e
          rw [if_neg (show ¬ (nI 8 : Int32) = 7 by decide), if_neg (show ¬ (8 : Nat) = 7 by decide)]
          by_cases y : c (p + 1) = 0
          · rw [if_pos y]
            by_cases z : c p = 0
            · rw [if_pos z]
              by_cases w : c (p + 2) = 0
              · rw [if_pos w, if_neg (show ¬ (c (p + 1) = 0 ∧ (¬ c p = 0 ∨ ¬ c (p + 2) = 0)) from fun q => q.2.elim (fun q => q z) (fun q => q w))]; exact G 0
              · rw [if_neg w, if_pos (show c (p + 1) = 0 ∧ (¬ c p = 0 ∨ ¬ c (p + 2) = 0) from ⟨y, .inr w⟩)]; exact G 1
            · rw [if_neg z, if_pos (show c (p + 1) = 0 ∧ (¬ c p = 0 ∨ ¬ c (p + 2) = 0) from ⟨y, .inl z⟩)]; exact G 1
          · rw [if_neg y, if_neg (show ¬ (c (p + 1) = 0 ∧ (¬ c p = 0 ∨ ¬ c (p + 2) = 0)) from fun q => y q.1)]; exact G 0
      · rw [if_neg k6]
        have G := fun q => yT_138 H (show p + 3 ≤ 8192 by omega) (c p) q
        unfold yT_m f_Mc_runStandard_84 f_Mc_runStandard_104 f_Mc_runStandard_121
        rw [if_neg (show ¬ k < 3 by omega), if_neg (show ¬ k < 5 by omega), if_pos (show k < 7 by omega)]
        simp only [yT_o0]
        have hk' : k = 5 ∨ k = 6 := by omega
        rcases hk' with e | e
        · subst e
          rw [if_pos (show (nI 5 : Int32) = 5 from rfl), if_pos rfl]
          by_cases z : c p = 0
          · rw [if_pos z, if_neg (show ¬ (¬ c p = 0 ∧ c (p + 2) = 0) from fun q => q.1 z)]; exact G 0
          · rw [if_neg z]
            by_cases y : c (p + 2) = 0
            · rw [if_pos y, if_pos (show ¬ c p = 0 ∧ c (p + 2) = 0 from ⟨z, y⟩)]; exact G 1
            · rw [if_neg y, if_neg (show ¬ (¬ c p = 0 ∧ c (p + 2) = 0) from fun q => y q.2)]; exact G 0
        · subst e
          rw [if_neg (show ¬ (nI 6 : Int32) = 5 by decide), if_neg (show ¬ (6 : Nat) = 5 by decide)]
          by_cases z : c p = 0
          · rw [if_pos z]
            by_cases y : c (p + 2) = 0
            · rw [if_pos y, if_neg (show ¬ (c p = 0 ∧ ¬ c (p + 2) = 0) from fun q => q.2 y)]; exact G 0
            · rw [if_neg y, if_pos (show c p = 0 ∧ ¬ c (p + 2) = 0 from ⟨z, y⟩)]; exact G 1
          · rw [if_neg z, if_neg (show ¬ (c p = 0 ∧ ¬ c (p + 2) = 0) from fun q => z q.1)]; exact G 0
    · rw [if_neg k4]
      have := z6 k (by omega)
      exact E (yT_C34 (by omega) H (by omega))
  · rw [if_neg k2]
    have := z6 k (by omega)
    exact E (yT_C012 (by omega) H hn (by omega))
end YTC
end
section
/-! The machine: BOOLs; standard blocks, a proved text. -/
section YJT
def yJ_ck (B x : Nat) : Bool := (List.range 32).all fun v => !(decide (zj_sv B ≤ v) && decide (v < zj_sv (B + 1)) && (zj_t v 3 == 0) && (zj_t v 4 == nI x))
theorem yJ_nb {B x : Nat} (h : yJ_ck B x = true) : ¬ yq_sB B x := fun q => by
  obtain ⟨v, v1, v2, v3, v4, v5⟩ := q
  have := List.all_eq_true.mp h v (List.mem_range.mpr v1)
  rw [decide_eq_true v2, decide_eq_true v3, v5, v4] at this
  simp at this
theorem yJ_s3 {B : Nat} (h : B < 3) : ¬ yq_sB B 3 ∧ ¬ yq_sB B 5 := by
  rcases (show B = 0 ∨ B = 1 ∨ B = 2 by omega) with z | z | z <;> subst z
  · exact ⟨yJ_nb (by decide), yJ_nb (by decide)⟩
  · exact ⟨yJ_nb (by decide), yJ_nb (by decide)⟩
  · exact ⟨yJ_nb (by decide), yJ_nb (by decide)⟩
theorem yJ_s5 {B : Nat} (h : B < 5) (h3 : 3 ≤ B) : ¬ yq_sB B 4 := by
  rcases (show B = 3 ∨ B = 4 by omega) with z | z <;> subst z
  · exact yJ_nb (by decide)
  · exact yJ_nb (by decide)
theorem yJ_on (x : Int32) : yJ_01 (yT_on x) := by
  unfold yT_on
  split
  · exact .inl rfl
  · exact .inr rfl
theorem yJ_ite {p : Prop} [Decidable p] {a b : Int32} (h1 : yJ_01 a) (h2 : yJ_01 b) : yJ_01 (if p then a else b) := by
  split
  · exact h1
  · exact h2
theorem yJ_tq {k : Nat} {c0 c2 c3 c4 pt gr : Int32} : yJ_01 (yT_q k c0 c2 c3 c4 pt gr) := by
  have z0 : yJ_01 0 := .inl rfl
  have z1 : yJ_01 1 := .inr rfl
  unfold yT_q
  exact yJ_ite (yJ_ite z0 z1) (yJ_ite (yJ_ite z1 (yJ_ite (yJ_ite z1 z0) (yJ_ite z0 z1))) (yJ_ite z1 (yJ_ite z0 (yJ_ite (yJ_ite z0 z1) z0))))
theorem yJ_u {c : Nat → Int32} {p j : Nat} {v : Int32} (h : yJ_01 (c j)) (hv : j = p → yJ_01 v) : yJ_01 (yE_u c p v j) := by
  unfold yE_u
  split
  · rename_i z; exact hv z
  · exact h
theorem yJ_tm {nw : Int32} : yJ_t (yT_m nw) := by
  intro B p c t hB ht hs hc
  have z0 : yJ_01 0 := .inl rfl
  have z1 : yJ_01 1 := .inr rfl
  have n3 : B < 3 → ¬ t = 3 ∧ ¬ t = 5 := fun q => ⟨fun z => (yJ_s3 q).1 (by rw [← z]; exact hs), fun z => (yJ_s3 q).2 (by rw [← z]; exact hs)⟩
  have n4 : 3 ≤ B → B < 5 → ¬ t = 4 := fun q r z => yJ_s5 r q (by rw [← z]; exact hs)
  unfold yT_m
  by_cases k3 : B < 3
  · rw [if_pos k3]
    obtain ⟨a, b⟩ := n3 k3
    exact yJ_u (yJ_u (yJ_u (yJ_u hc (fun z => absurd (show t = 3 by omega) a)) (fun _ => yJ_tq)) (fun _ => yJ_on _)) (fun z => absurd (show t = 5 by omega) b)
  rw [if_neg k3]
  by_cases k5 : B < 5
  · rw [if_pos k5]
    have a := n4 (by omega) k5
    exact yJ_u (yJ_u (yJ_u hc (fun z => absurd (show t = 4 by omega) a)) (fun _ => yJ_ite (yJ_ite z0 z1) (yJ_ite z0 z1))) (fun _ => yJ_on _)
  rw [if_neg k5]
  by_cases k7 : B < 7
  · rw [if_pos k7]
    exact yJ_u (yJ_u hc (fun _ => yJ_ite (yJ_ite z1 z0) (yJ_ite z1 z0))) (fun _ => yJ_on _)
  · rw [if_neg k7]
    exact yJ_u hc (fun _ => yJ_ite (yJ_ite z1 z0) (yJ_ite z1 z0))
end YJT
/-- the blocks whose own cells hold BOOLs -/
def yJ_LD (h0 : zs_H) (T : Nat → ys) (u : Nat) : Prop := ¬ yz_N h0 u (T u)
def yJ_B (h0 : zs_H) (T : Nat → ys) : Nat → Nat → Prop := yq_b (yJ_LD h0 T) h0
theorem yJ_NL {h0 : zs_H} {T : Nat → ys} {u : Nat} (H : yz_NL h0 u (T u)) : yz_B (yJ_B h0 T) u (T u) := by
  by_cases z : yz_N h0 u (T u)
  · exact z _ (fun q => q z)
  · rcases H with q | q
    · exact absurd q z
    · exact q _ z
/-- where the BOOLs of a proved text are -/
def yJ_Zt (nb : Nat) (T : Nat → ys) (X Y : Nat → Nat) (h0 : zs_H) : Prop := yJ_q X Y (yJ_B h0 T) (nb - 1) ∧ (∀ u, u < nb → yz_B (yJ_B h0 T) u (T u)) ∧ (∀ j, j < 768 → yJ_B h0 T (nb - 1) j) ∧ (∀ j, 768 ≤ j → j < 960 → ¬ yJ_B h0 T (nb - 1) j) ∧ 960 ≤ X (nb - 1)
/-- its BOOLs are 0 or 1 -/
def yJ_c (h0 : zs_H) (nb : Nat) (T : Nat → ys) (X K : Nat → Nat) (c : Nat → Int32) : Prop := yJ_G (yJ_B h0 T) (yq_k h0) (yh_pl X K (X (nb - 1))) (nb - 1) 0 c
theorem yJ_mkZ {LC LM : List (List Int32)} {nb : Nat} {F X Y : Nat → Nat} {T : Nat → ys} {h0 g0 : zs_H} (n0 : 0 < nb) (n16 : nb ≤ 16) (C : yk_cx LC LM nb F X Y h0 g0) (k3 : (h0.2.1 21) (9 + (nb - 1)) = 3) (U : ∀ b, b < nb → yz_NL h0 b (T b)) : yJ_Zt nb T X Y h0 := by
  refine ⟨fun u hu => ?_, fun u hu => yJ_NL (U u hu), fun j hj => yq_b7 (by omega) k3 hj, fun j h7 h9 => yq_b9 C (by omega) k3 h7 h9, ?_⟩
  · have hu' : u < nb := by omega
    have kB := (C.2.2 u hu').1
    exact ⟨⟨kB.2.1, by omega, by omega⟩, fun j hj => yq_bX C hu' hj, fun j => yq_bz C hu'⟩
  · obtain ⟨⟨k1, k2, k3'⟩, k4, _, _, k5, _⟩ := C.2.2 (nb - 1) (by omega)
    have := k5 k3
    omega
end
section
/-! The machine: a run of a proved text, on both sides. -/
section YXR
variable {p : Nat} {nw : Int32}
theorem yX_len : ∀ k, k < 9 → (k < 5 → (zt_2.getD k 0).toNatClampNeg = 6) ∧ (5 ≤ k → (zt_2.getD k 0).toNatClampNeg = 3) := by decide
theorem yX_ht : yE_ht (yT_m nw) := by
  intro k p c j hk hj
  obtain ⟨l1, l2⟩ := yX_len k hk
  unfold yT_m
  by_cases k3 : k < 3
  · have := l1 (by omega)
    rw [if_pos k3]
    unfold yE_u
    rw [if_neg (by omega), if_neg (by omega), if_neg (by omega), if_neg (by omega)]
  rw [if_neg k3]
  by_cases k5 : k < 5
  · have := l1 (by omega)
    rw [if_pos k5]
    unfold yE_u
    rw [if_neg (by omega), if_neg (by omega), if_neg (by omega)]
  rw [if_neg k5]
  have := l2 (by omega)
  by_cases k7 : k < 7
  · rw [if_pos k7]
    unfold yE_u
    rw [if_neg (by omega), if_neg (by omega)]
  · rw [if_neg k7]
    unfold yE_u
    rw [if_neg (by omega)]
theorem yX_m : yS_m (yT_m nw) := by
  intro p c
  unfold yT_m
  rw [if_pos (by decide)]
  have e : ∀ (c' : Nat → Int32) (v a b : Int32), yE_u (yE_u (yE_u c' (p + 2) v) (p + 4) a) (p + 5) b (p + 2) = v := fun c' v a b => by
    unfold yE_u
    rw [if_neg (by omega), if_neg (by omega), if_pos rfl]
  rw [e]
  unfold yT_q
  rw [if_neg (by decide), if_neg (by decide)]
  split
  · exact .inr rfl
  · split
    · exact .inl rfl
    · split
      · split
        · exact .inl rfl
        · exact .inr rfl
      · exact .inl rfl
theorem yX_tN {g0 : zs_H} (hn : (g0.1 68 73) = nw) : yN_t (yT_m nw) g0 := by
  intro k p c g f hk hp h2 hc
  obtain ⟨g', a1, a2, a3⟩ := yT_M (g0 := g) (g := g) (c := c) (nw := nw) hk ⟨zfr_rfl, hc⟩ ((f.1 _ _ (by decide)).trans hn) hp h2
  exact ⟨g', a1, a3, a2⟩
theorem yX_tR {h0 : zs_H} (hn : (h0.1 58 9) = nw) : yR_t (yT_m nw) h0 := by
  intro k p c h f hk hp hc
  obtain ⟨h', a1, a2, a3⟩ := yT_C (h0 := h) (h := h) (c := c) (nw := nw) hk ⟨zfr_rfl, hc⟩ ((f.1 _ _ (by decide)).trans hn) hp
  exact ⟨h', a1, a3, a2⟩
variable {LC LM : List (List Int32)} {nb : Nat} {F X Y K : Nat → Nat} {T : Nat → ys} {h0 g0 : zs_H}
theorem yX_pm {s0 : Nat} : ∀ (m b : Nat), yh_pl X K s0 b ≤ yh_pl X K s0 (b + m) := by
  intro m
  induction m with
  | zero => intro b; exact Nat.le_refl _
  | succ m ih =>
    intro b
    have := ih b
    show _ ≤ yh_pl X K s0 (b + m) + _
    omega
theorem yX_p1 {s0 w u : Nat} (h : w < u) (k : K w = 1) : yh_pl X K s0 w + X w ≤ yh_pl X K s0 u := by
  have := yX_pm (X := X) (K := K) (s0 := s0) (u - (w + 1)) (w + 1)
  rw [show w + 1 + (u - (w + 1)) = u by omega] at this
  have e : yh_pl X K s0 (w + 1) = yh_pl X K s0 w + X w := by show _ + _ = _; rw [if_pos k]
  omega
/-- what is known of a proved text -/
def yX_Z (nb : Nat) (T : Nat → ys) (X Y K : Nat → Nat) (h0 : zs_H) : Prop := (0 < nb ∧ K (nb - 1) = 3 ∧ yh_pl X K (X (nb - 1)) nb ≤ 8192 ∧ (∀ j, (yq_k h0 (nb - 1)).2 j → 960 ≤ j) ∧ yJ_Zt nb T X Y h0) ∧ (∀ j, j < nb → (K j = 1 ∨ K j = 2 ∨ K j = 3) ∧ (yq_k h0 j).1 = nI (K j)) ∧ ∀ nw, yN_A nb T X Y (yq_k h0) (yh_pl X K (X (nb - 1))) (yT_m nw)
theorem yX_A (n0 : 0 < nb) (n16 : nb ≤ 16) (C : yk_cx LC LM nb F X Y h0 g0) (KK : ∀ j, j < nb → (K j = 1 ∨ K j = 2 ∨ K j = 3) ∧ (h0.2.1 21) (9 + j) = nI (K j) ∧ (g0.2.1 86) j = nI (K j)) (TT : yh_T nb X K h0 g0) (U : ∀ b, b < nb → yx_T X Y h0 b (T b) ∧ yH_D (T b) true = false ∧ yV_le 1000000000 (yV_b T b) = true) (S4 : yx_S T nb ≤ 4000) : yX_Z nb T X Y K h0 := by
  have kk : ∀ j, j < nb → (yq_k h0 j).1 = 1 → K j = 1 := fun j hj z => by
    have e : nI (K j) = 1 := (KK j hj).2.1.symm.trans z
    have := (KK j hj).1
    exact (zc_eq (k := 1) (by decide) (by omega)).mp e
  have k3 : (h0.2.1 21) (9 + (nb - 1)) = 3 := by rw [(KK (nb - 1) (by omega)).2.1, TT.1.2]; rfl
  refine ⟨⟨n0, TT.1.2, TT.2.1.2.2, fun j hj => yq_9 C (by omega) k3 hj, yJ_mkZ n0 n16 C k3 (fun b hb => (U b hb).1.2.2.2.2.2)⟩, fun j hj => ⟨(KK j hj).1, (KK j hj).2.1⟩, fun nw => ⟨n16, fun u hu => ?_, yX_ht, fun u hu => ?_, fun u hu k1 => ?_, S4, fun u hu => ?_, yX_m⟩⟩
  · have := (C.2.2 u hu).1; exact ⟨this.2.1, by omega⟩
  · obtain ⟨⟨t1, t2, t3, t4, t5⟩, d1, d2⟩ := U u hu
    exact ⟨⟨t1, t2, t4⟩, d1, d2⟩
  · have k := kk u hu k1
    refine ⟨fun w hw hk => .inl (yX_p1 hw (kk w (by omega) hk)), ?_, ?_⟩
    · have := yq_Y0 C hu k1
      have := (C.2.2 u hu).1.2.1
      omega
    · exact Nat.le_trans (yX_p1 hu k) TT.2.1.2.2
  · have hu' : u < nb := by omega
    have kB := (C.2.2 u hu').1
    exact ⟨⟨kB.2.1, by omega, by omega⟩, fun j hj => ⟨yq_Y C hu' hj, fun z => yq_f0 C hu' z hj⟩⟩
theorem yX_ofN (x : Int32) : ∃ p : Nat, x = nI p := ⟨x.toBitVec.toNat, by
  apply Int32.toBitVec_inj.mp
  show x.toBitVec = BitVec.ofNat 32 x.toBitVec.toNat
  rw [BitVec.ofNat_toNat, BitVec.setWidth_eq]⟩
variable {bu : Nat} {c : Nat → Int32}
/-- the result of a run -/
abbrev yX_r (nb : Nat) (T : Nat → ys) (X K : Nat → Nat) (nw : Int32) (c : Nat → Int32) : yE × Nat := yE_U T (yh_pl X K (X (nb - 1))) (yT_m nw) nb (nb - 1) 0 (c, [], 0)
theorem yX_R (Z : yX_Z nb T X Y K h0) (hbu : yV_le bu (yV_b T (nb - 1)) = true) : ((yX_r nb T X K nw c).2 = 0 ∨ (yX_r nb T X K nw c).2 = 3 ∨ (yX_r nb T X K nw c).2 = 4) ∧ (yX_r nb T X K nw c).1.2.2 ≤ bu ∧ yE_dj X (yq_k h0) (yh_pl X K (X (nb - 1))) (nb - 1) 0 ∧ (yS_g (yq_k h0) (nb - 1) 0 c → yS_g (yq_k h0) (nb - 1) 0 (yX_r nb T X K nw c).1.1) ∧ (yJ_c h0 nb T X K c → yJ_c h0 nb T X K (yX_r nb T X K nw c).1.1) := by
  obtain ⟨⟨n0, k3, _, _, Zt⟩, KK, A⟩ := Z
  obtain ⟨A1, A2, A3, A4, A5, A6, A7, A8⟩ := A nw
  have dj : yE_dj X (yq_k h0) (yh_pl X K (X (nb - 1))) (nb - 1) 0 := fun w hw _ => .inr (by
    have := yX_pm (X := X) (K := K) (s0 := X (nb - 1)) w 0
    rw [Nat.zero_add] at this
    have e : yh_pl X K (X (nb - 1)) 0 = X (nb - 1) := rfl
    omega)
  obtain ⟨r1, _, _, r4⟩ := yG_Us A1 A2 A3 (fun u hu => (A4 u hu).1) (fun u hu hk => (A5 u hu hk).1) nb (Nat.le_refl _) (nb - 1) 0 (c, [], 0) (by omega) dj
  have eB : yV_B T nb (nb - 1) = yV_u (yV_b T (nb - 1)) := by
    obtain ⟨m, rfl⟩ : ∃ m, nb = m + 1 := ⟨nb - 1, by omega⟩
    rw [Nat.add_sub_cancel]
    show (if m = m then _ else _) = _
    rw [if_pos rfl]
    rfl
  have lB := yN_Wle hbu
  rw [eB] at r4
  refine ⟨r1, ?_, dj, fun G => yS_Us A1 A7 A3 A8 (fun u hu => (A4 u hu).1.2.2) nb (Nat.le_refl _) (nb - 1) 0 (c, [], 0) (by omega) dj G, fun G => (yJ_Us A1 Zt.1 A3 yJ_tm (fun u hu => (A4 u hu).1) Zt.2.1 (fun u hu hk => (A5 u hu hk).1) nb (Nat.le_refl _) (nb - 1) 0 (c, [], 0) (by omega) dj).2 G⟩
  have r4' : (yX_r nb T X K nw c).1.2.2 + 1 ≤ 0 + yV_u (yV_b T (nb - 1)) := r4
  omega
/-- the model -/
theorem yX_M {g : zs_H} (Z : yX_Z nb T X Y K h0) (hbu : yV_le bu (yV_b T (nb - 1)) = true) (B : yN_B nb T (yq_k h0) (yh_pl X K (X (nb - 1))) (yT_m nw) g) (hc : ∀ j, j < 8192 → (g.2.1 114) j = c j) (s1 : (g.1 68 76) = 0) (s2 : (g.1 68 74) = 0) (s3 : (g.1 68 75) = 0) (G : yS_g (yq_k h0) (nb - 1) 0 c) : ∃ g', f_Mo_go 400 g (nI (nb - 1)) 0 = some g' ∧ zfr yN_F yN_M [] g g' ∧ (∀ j, j < 8192 → (g'.2.1 114) j = (yX_r nb T X K nw c).1.1 j) ∧ (g'.1 68 74) = nI (yX_r nb T X K nw c).1.2.2 ∧ (g'.1 68 75) = (if (yX_r nb T X K nw c).2 = 0 then 0 else if (yX_r nb T X K nw c).2 = 3 then -3 else -4) := by
  obtain ⟨r1, r2, dj, r3⟩ := yX_R (nw := nw) (c := c) Z hbu
  obtain ⟨⟨n0, k3, p8, _⟩, KK, A⟩ := Z
  have A1 := (A nw).1
  have px : X (nb - 1) ≤ 8192 := by
    have := yX_pm (X := X) (K := K) (s0 := X (nb - 1)) nb 0
    rw [Nat.zero_add] at this
    have e : yh_pl X K (X (nb - 1)) 0 = X (nb - 1) := rfl
    omega
  obtain ⟨g', a1, a2, a3⟩ := yN_Us (A nw) nb g 400 (Nat.le_refl _) (by omega) B (nb - 1) 0 (c, [], 0) g (by omega) zfr_rfl ⟨hc, s1, trivial, s2, s3⟩ (by show 0 + 64 * (nb - 1 + 1) ≤ 1088; omega) (by omega) dj G
  refine ⟨g', a1, a2, ?_⟩
  rcases r1 with z | z
  · obtain ⟨q1, _, _, q4, q5⟩ := a3.1 z
    exact ⟨q1, q4, by rw [if_pos z]; exact q5⟩
  · obtain ⟨q1, q2, q3⟩ := a3.2 z
    refine ⟨q2, q3, ?_⟩
    rw [if_neg (by omega)]
    exact q1
/-- the class -/
theorem yX_C {h : zs_H} (Z : yX_Z nb T X Y K h0) (hbu : yV_le bu (yV_b T (nb - 1)) = true) (hb2 : bu ≤ 100000) (B : yR_B nb T (yq_k h0) (yh_pl X K (X (nb - 1))) (yT_m nw) h) (hc : ∀ j, j < 8192 → (h.2.1 62) j = c j) : ∃ h', f_Mc_run h (nI (nb - 1)) = some (if (yX_r nb T X K nw c).2 = 0 then 0 else if (yX_r nb T X K nw c).2 = 3 then -3 else -4, h') ∧ zfr yR_F yR_M [] h h' ∧ (∀ j, j < 8192 → (h'.2.1 62) j = (yX_r nb T X K nw c).1.1 j) ∧ (h'.1 58 6) = nI (yX_r nb T X K nw c).1.2.2 := by
  have hz := zF_big
  obtain ⟨r1, r2, dj, r3⟩ := yX_R (nw := nw) (c := c) Z hbu
  obtain ⟨⟨n0, k3, p8, _⟩, KK, A⟩ := Z
  have A1 := (A nw).1
  have px : X (nb - 1) ≤ 8192 := by
    have := yX_pm (X := X) (K := K) (s0 := X (nb - 1)) nb 0
    rw [Nat.zero_add] at this
    have e : yh_pl X K (X (nb - 1)) 0 = X (nb - 1) := rfl
    omega
  obtain ⟨h1, hh1⟩ : ∃ h1, h1 = zs_uF (zs_uF (zs_uF h 58 6 0) 58 14 0) 58 17 0 := ⟨_, rfl⟩
  have f1 : zfr yR_F yR_M [] h h1 := by rw [hh1]; exact zfr_F (by decide) (zfr_F (by decide) (zfr_F (by decide) zfr_rfl))
  obtain ⟨pa, ea⟩ := yX_ofN ((h1.1 58 18))
  obtain ⟨pb, eb⟩ := yX_ofN ((h1.1 58 19))
  obtain ⟨pc, ec⟩ := yX_ofN ((h1.1 58 20))
  have S1 : yR_s h1 (c, [], 0) pa pb pc 0 := ⟨⟨fun j hj => by rw [hh1]; exact hc j hj, by rw [hh1]; rfl, trivial, by rw [hh1]; rfl⟩, ea, eb, ec, by rw [hh1]; rfl⟩
  obtain ⟨h2, h', k, a1, a2, a3, a4⟩ := yR_Us (A nw) nb h (Nat.le_refl _) B (nb - 1) 0 (c, [], 0) h1 pa pb pc 0 (by omega) f1 S1 (by omega) (by show 0 + 64 * (nb - 1 + 1) ≤ 1088; omega) (by omega) dj
  have a2' : 2 * 0 + k ≤ 2 * (yX_r nb T X K nw c).1.2.2 + 1 := a2
  have e0 : f_Mc_run h (nI (nb - 1)) = f_Mc_run_L25 zF h2 0 (nI 0) := by
    unfold f_Mc_run
    rw [← hh1, show (0 : Int32) = nI 0 from rfl, a1]
    rfl
  rw [e0]
  rcases r1 with z | z
  · obtain ⟨q1, q2, q3⟩ := a3 z
    refine ⟨h', ?_, zfr_trans f1 q2.1, q3.1.1, q3.1.2.2.2⟩
    have e1 := q1 (zF - k) 0 (by omega)
    rw [show zF - k + k = zF by omega, Nat.zero_add] at e1
    rw [e1, if_pos z, show zF - k = (zF - k - 1) + 1 by omega]
    show f_Mc_run_25 (f_Mc_run_L25 (zF - k - 1)) h' 0 (nI k) = _
    unfold f_Mc_run_25
    rw [q3.2.2.2.2, if_pos (show nI 0 ≤ 0 by decide), ite_self]
  · obtain ⟨q1, q2⟩ := a4 z
    refine ⟨h', ?_, zfr_trans f1 q2.1, q2.2.1, q2.2.2⟩
    have e1 := q1 (zF - 1 - k) 0 (by omega)
    rw [show zF - 1 - k + 1 + k = zF by omega] at e1
    have nz : ¬ (yX_r nb T X K nw c).2 = 0 := by omega
    rw [e1, if_neg nz]
end YXR
end
section
/-! The machine: what holds of the cells between two scans. -/
def yJ_J (h0 : zs_H) (nb : Nat) (T : Nat → ys) (X K : Nat → Nat) (c : Nat → Int32) : Prop := yS_g (yq_k h0) (nb - 1) 0 c ∧ yJ_c h0 nb T X K c
/-- what may change below 960 -/
abbrev yJ_9 (c c' : Nat → Int32) : Prop := (∀ j, 960 ≤ j → c' j = c j) ∧ ∀ j, j < 768 → c' j = c j ∨ yJ_01 (c' j)
section YJJ
variable {nb : Nat} {X Y K : Nat → Nat} {T : Nat → ys} {h0 : zs_H} {c c' : Nat → Int32}
theorem yJ_pw (Z : yX_Z nb T X Y K h0) {w : Nat} (hw : w < nb) (hk : (yq_k h0 w).1 = 1) : X (nb - 1) ≤ yh_pl X K (X (nb - 1)) w ∧ yh_pl X K (X (nb - 1)) w + X w ≤ 8192 := by
  obtain ⟨⟨n0, k3, p8, _⟩, KK, _⟩ := Z
  have k1 : K w = 1 := by
    have e : nI (K w) = 1 := (KK w hw).2.symm.trans hk
    have := (KK w hw).1
    exact (zc_eq (k := 1) (by decide) (by omega)).mp e
  refine ⟨?_, Nat.le_trans (yX_p1 hw k1) p8⟩
  have := yX_pm (X := X) (K := K) (s0 := X (nb - 1)) w 0
  rw [Nat.zero_add] at this
  exact this
theorem yJ_px (Z : yX_Z nb T X Y K h0) : X (nb - 1) ≤ 8192 := by
  obtain ⟨⟨n0, k3, p8, _⟩, KK, _⟩ := Z
  have := yX_pm (X := X) (K := K) (s0 := X (nb - 1)) nb 0
  rw [Nat.zero_add] at this
  exact Nat.le_trans this p8
theorem yJ_Jf (Z : yX_Z nb T X Y K h0) (J : yJ_J h0 nb T X K c) (e : ∀ j, j < 8192 → c' j = c j) : yJ_J h0 nb T X K c' := by
  have px := yJ_px Z
  have pw := fun w hw hk => yJ_pw (w := w) Z hw hk
  obtain ⟨⟨n0, k3, p8, q9, Zt⟩, KK, A⟩ := id Z
  refine ⟨yS_f J.1 fun j hj => ?_, fun j hj => ?_, fun w hw hk j hj => ?_⟩
  · have := ((A 0).2.2.2.2.2.2.1 (nb - 1) (Nat.le_refl _)).2 j hj
    have b1 := ((A 0).2.1 (nb - 1) (by omega))
    exact e (0 + j) (by omega)
  · have := (Zt.1 (nb - 1) (Nat.le_refl _)).2.1 j hj
    rw [e (0 + j) (by omega)]
    exact J.2.1 j hj
  · have := (Zt.1 w (by omega)).2.1 j hj
    have := pw w (by omega) hk
    rw [e _ (by omega)]
    exact J.2.2 w hw hk j hj
theorem yJ_J9 (Z : yX_Z nb T X Y K h0) (J : yJ_J h0 nb T X K c) (e : yJ_9 c c') : yJ_J h0 nb T X K c' := by
  have pw := fun w hw hk => yJ_pw (w := w) Z hw hk
  obtain ⟨⟨n0, k3, p8, q9, Zt⟩, KK, A⟩ := id Z
  obtain ⟨z1, z2, z3, z4, z5⟩ := Zt
  refine ⟨fun j hj => ?_, fun j hj => ?_, fun w hw hk j hj => ?_⟩
  · have := q9 j hj
    rw [e.1 (0 + j) (by omega)]
    exact J.1 j hj
  · by_cases a : 960 ≤ j
    · rw [e.1 (0 + j) (by omega)]; exact J.2.1 j hj
    · by_cases b : j < 768
      · rcases e.2 (0 + j) (by omega) with q | q
        · rw [q]; exact J.2.1 j hj
        · exact q
      · exact absurd hj (z4 j (by omega) (by omega))
  · have := pw w (by omega) hk
    rw [e.1 _ (by omega)]
    exact J.2.2 w hw hk j hj
theorem yJ_J7 (Z : yX_Z nb T X Y K h0) (J : yJ_J h0 nb T X K c) {j : Nat} (hj : j < 768) : yJ_01 (c j) := by
  obtain ⟨⟨n0, k3, p8, q9, Zt⟩, KK, A⟩ := id Z
  have := J.2.1 j (Zt.2.2.1 j hj)
  rwa [Nat.zero_add] at this
end YJJ
end
