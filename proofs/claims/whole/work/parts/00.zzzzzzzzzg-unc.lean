/-! The machine: the class runs straight code, units. -/
def yR_I (h0 : zs_H) (D e base : Nat) : yW_I := fun h s p => yR_f D h0 h ∧ yR_s h s p e base D
section YRU
variable {X Y : Nat → Nat} {kb : Nat → yK} {pl : Nat → Nat} {tm : Nat → Nat → (Nat → Int32) → Nat → Int32} {U : Nat → Nat → yE → yE × Nat} {B : Nat → Nat} {b e base D lo s0 d2 : Nat} {h0 : zs_H} {S0 : List Int32}
theorem yR_Gt {h h1 h2 : zs_H} {p p1 p2 k1 k2 : Nat} (a : yR_G h p h1 p1 k1) (c : yR_G h1 p1 h2 p2 k2) : yR_G h p h2 p2 (k1 + k2) := fun N t ht => by
  rw [show N + (k1 + k2) = N + k2 + k1 by omega, a (N + k2) t (by omega), c N (t + k1) (by omega), Nat.add_assoc]
theorem yR_GF {h h1 h2 : zs_H} {p p1 k1 k2 o : Nat} (a : yR_G h p h1 p1 k1) (c : yR_Fl h1 p1 o h2 k2) : yR_Fl h p o h2 (k1 + k2) := fun N t ht => by
  rw [show N + 1 + (k1 + k2) = N + 1 + k2 + k1 by omega, a (N + 1 + k2) t (by omega), c N (t + k1) (by omega)]
theorem yR_L (G : yG_h X Y kb pl tm B b base U) (H : yR_h X Y kb pl tm b base U h0) (hl : S0.length + 64 * (b + 1) ≤ 1088) (he : e ≤ 4000) (hD : 0 < D ∧ D + b ≤ 16) : ∀ (L : List yI) (A : List Int32) (p n : Nat) (c : Nat → Int32) (h : zs_H), zfr yR_F yR_M [] h0 h → yR_s h (c, A ++ S0, n) p e base D → (∀ k i, L[k]? = some i → yC_m h0 (p + k) i) → p + L.length ≤ e → (∀ i, i ∈ L → yw_i X Y kb b lo i) → yo_h A.length L = some d2 → A.length ≤ 64 → yH_d A.length L = false → ∃ h' k, 2 * n + k ≤ 2 * (yE_L pl tm U base L (c, A ++ S0, n)).1.2.2 ∧ ((yE_L pl tm U base L (c, A ++ S0, n)).2 = 0 → yR_G h p h' (p + L.length) k ∧ yR_f D h h' ∧ yR_s h' (yE_L pl tm U base L (c, A ++ S0, n)).1 (p + L.length) e base D) ∧ ((yE_L pl tm U base L (c, A ++ S0, n)).2 = 3 ∨ (yE_L pl tm U base L (c, A ++ S0, n)).2 = 4 → yR_Fl h p (yE_L pl tm U base L (c, A ++ S0, n)).2 h' k ∧ yR_J h h' (yE_L pl tm U base L (c, A ++ S0, n))) := by
  intro L
  induction L with
  | nil =>
    intro A p n c h f hs _ _ _ _ _ _
    exact ⟨h, 0, Nat.le_refl _, fun _ => ⟨fun _ _ _ => rfl, yR_f0, hs⟩, fun z => absurd z (show ¬ ((0 : Nat) = 3 ∨ (0 : Nat) = 4) by decide)⟩
  | cons i L ih =>
    intro A p n c h f hs K hp W ed ha hd
    have hp' : p + (L.length + 1) ≤ e := hp
    have Wi := W i (List.mem_cons_self ..)
    have ht : yo_t i.1 ≤ A.length := by
      rcases Nat.lt_or_ge A.length (yo_t i.1) with z | z
      · rw [yo_h, if_neg (by omega)] at ed; cases ed
      · exact z
    rw [yo_h, if_pos ht] at ed
    rw [yH_d, Bool.or_eq_false_iff, decide_eq_false_iff_not] at hd
    have lA : (A ++ S0).length = A.length + S0.length := List.length_append
    obtain ⟨h1, k1, a1, a2, a3⟩ := yR_any (S0 := S0) G H f hs (by omega) he hD (yR_m f (K 0 i rfl)) Wi A rfl ht (by omega) (by omega)
    obtain ⟨o1, o2, o3, _⟩ := yG_1 (tm := tm) G.1 ⟨G.2.1.1, G.2.1.2 b (Nat.le_refl _)⟩ G.2.2.1 G.2.2.2.2.2.1 G.2.2.2.2.2.2 Wi A S0 c n ht
    rw [yE_L]
    by_cases z : (yE_1 pl tm U base i (c, A ++ S0, n)).2 = 0
    · rw [if_pos z]
      obtain ⟨A', b1, b2⟩ := o2 z
      have es : (yE_1 pl tm U base i (c, A ++ S0, n)).1 = ((yE_1 pl tm U base i (c, A ++ S0, n)).1.1, A' ++ S0, (yE_1 pl tm U base i (c, A ++ S0, n)).1.2.2) := by rw [← b1]
      obtain ⟨g1, f1, s1⟩ := a2 z
      rw [es] at s1 ⊢
      rw [← b2] at ed hd
      obtain ⟨h2, k2, d1, d2', d3⟩ := ih A' (p + 1) _ _ h1 (zfr_trans f f1.1) s1 (fun k i' e' => by have := K (k + 1) i' e'; rwa [show p + (k + 1) = p + 1 + k by omega] at this) (by omega) (fun i hi => W i (List.mem_cons_of_mem _ hi)) ed (by omega) hd.2
      refine ⟨h2, k1 + k2, by omega, fun q => ?_, fun q => ?_⟩
      · obtain ⟨g2, f2, s2⟩ := d2' q
        rw [show p + (i :: L).length = p + 1 + L.length by rw [List.length_cons]; omega]
        exact ⟨yR_Gt g1 g2, yR_ft f1 f2, s2⟩
      · exact ⟨yR_GF g1 (d3 q).1, zfr_trans f1.1 (d3 q).2.1, (d3 q).2.2⟩
    · rw [if_neg z]
      exact ⟨h1, k1, a1, fun q => absurd q z, a3⟩
theorem yR_W (Gh : yG_h X Y kb pl tm B b base U) (H : yR_h X Y kb pl tm b base U h0) (hl : S0.length + 64 * (b + 1) ≤ 1088) (he : e ≤ 4000) (hD : 0 < D ∧ D + b ≤ 16) : yW_M X Y kb pl tm b base U (yC_m h0) (yR_I h0 D e base) (yR_J h0) yR_G yR_Fl S0 s0 e := by
  have hx := H.2.1.2
  have D17 : 0 < D ∧ D ≤ 17 := by omega
  have step : ∀ {h h' : zs_H} {p q n : Nat} {c : Nat → Int32} {S : List Int32} {i : yI}, yR_s h (c, S, n) p e base D → p < e → yC_m h p i → i.1 < 19 → 10 ≤ i.1 → f_Mc_move (yR_g h (p + 1) (n + 1)) (nI p) = some (0, h') → yR_G h p h' q 1 := fun {h h' p q n c S i} hs hp m ho hm mv N t ht => by
    rw [yR_go hs hp he D17 m ho (by omega), if_pos hm, mv, yR_zB]
  refine ⟨fun _ _ _ _ _ => rfl, fun h p h1 p1 k1 h2 p2 k2 a c => yR_Gt a c, fun h p h1 p1 k1 o h2 k2 a c => yR_GF a c, ?_, ?_, ?_, ?_, ?_, ?_⟩
  · intro h p i t s ⟨f, hs⟩ m hp hp2 e0 ea ht ht2 es
    obtain ⟨c, S, n⟩ := s
    have m1 := yR_m f.1 m
    have gs := yR_gs hs
    obtain ⟨n1, n2, _, _⟩ := yR_m gs.2.1 m1
    rw [ea] at n2
    refine ⟨zs_uF (yR_g h (p + 1) (n + 1)) 58 18 (nI t), step hs hp2 m1 (by omega) (by omega) ?_, yR_ft f (yR_ft gs.2 ⟨zfr_F (by decide) zfr_rfl, fun _ _ => rfl⟩), gs.1.1, rfl, gs.1.2.2⟩
    unfold f_Mc_move
    rcases e0 with e0 | e0
    · rw [e0] at n1
      rw [if_pos (zi_in (by omega) (by omega)), nI_clamp (n := p) (by omega), n1, n2, if_pos (by decide)]
    · rw [e0] at n1
      rw [if_pos (zi_in (by omega) (by omega)), nI_clamp (n := p) (by omega), n1, n2, if_neg (by decide), if_neg (by decide), if_neg (by decide), if_neg (by decide), if_pos (by decide)]
  · intro h p i s ⟨f, hs⟩ m hp hp2 e0 es
    obtain ⟨c, S, n⟩ := s
    have m1 := yR_m f.1 m
    have gs := yR_gs hs
    obtain ⟨n1, n2, _, _⟩ := yR_m gs.2.1 m1
    refine ⟨zs_uF (yR_g h (p + 1) (n + 1)) 58 18 (nI e), step hs hp2 m1 (by omega) (by omega) ?_, yR_ft f (yR_ft gs.2 ⟨zfr_F (by decide) zfr_rfl, fun _ _ => rfl⟩), gs.1.1, rfl, gs.1.2.2⟩
    unfold f_Mc_move
    rw [e0] at n1
    rw [if_pos (zi_in (by omega) (by omega)), nI_clamp (n := p) (by omega), n1, if_neg (by decide), if_neg (by decide), if_neg (by decide), if_neg (by decide), if_neg (by decide), if_neg (by decide), if_neg (by decide), if_neg (by decide), gs.1.2.2.1]
  · intro h p i t c y n ⟨f, hs⟩ m hp hp2 e0 ea ht ht2
    have m1 := yR_m f.1 m
    have gs := yR_gs hs
    obtain ⟨n1, n2, _, _⟩ := yR_m gs.2.1 m1
    rw [e0] at n1
    rw [ea] at n2
    obtain ⟨h6, t1, t2, t3⟩ := yR_take gs.1 (by omega)
    refine ⟨zs_uF h6 58 18 (nI (if y = 0 then t else p + 1)), step hs hp2 m1 (by omega) (by omega) ?_, yR_ft f (yR_ft gs.2 (yR_ft t3 ⟨zfr_F (by decide) zfr_rfl, fun _ _ => rfl⟩)), t2.1, rfl, t2.2.2⟩
    unfold f_Mc_move f_Mc_move_88
    rw [if_pos (zi_in (by omega) (by omega)), nI_clamp (n := p) (by omega), n1, n2, if_neg (by decide), if_pos (by decide), t1, yR_zB, t2.2.1]
    by_cases z : y = 0
    · rw [if_pos z, if_pos z]
    · rw [if_neg z, if_neg z]
  · intro h p i x N0 s ⟨f, hs⟩ m hp hp2 e0 ea eb ⟨_, hx2⟩ es
    obtain ⟨c, S, n⟩ := s
    have es' : S = S0 := es
    subst es'
    have m1 := yR_m f.1 m
    have gs := yR_gs hs
    have hb : yR_b (yR_g h (p + 1) (n + 1)) p e base D n i c S := ⟨by omega, yR_m gs.2.1 m1, gs.1, by omega⟩
    have e1 : yE_1 pl tm U base i (c, S, n) = ((yE_u c (base + x) (nI N0), S, n + 1), 0) := by
      unfold yE_1
      simp (config := { decide := true }) only [e0, if_false, if_true, ea, eb, nI_clamp (show x < 2147483648 by omega)]
    obtain ⟨v, h', a1, a2, a3⟩ := yR_12 (pl := pl) (tm := tm) (U := U) hb e0 ea (by omega)
    rw [e1] at a3
    obtain ⟨a4, a5⟩ := a3.1 rfl
    rw [if_pos (by omega), a4] at a1
    exact ⟨h', step hs hp2 m1 (by omega) (by omega) a1, yR_ft f (yR_ft gs.2 a2), a5⟩
  · intro h p i t x s ⟨f, hs⟩ m hp hp2 e0 ea eb ht ht2 ⟨_, hx2⟩ es
    obtain ⟨c, S, n⟩ := s
    have m1 := yR_m f.1 m
    have gs := yR_gs hs
    obtain ⟨n1, n2, n3, _⟩ := yR_m gs.2.1 m1
    rw [e0] at n1
    rw [ea] at n2
    rw [eb] at n3
    have mv : f_Mc_move (yR_g h (p + 1) (n + 1)) (nI p) = (if c (base + x) = 0 then some (0, zs_uF (yR_g h (p + 1) (n + 1)) 58 18 (nI t)) else (f_Mc_become (yR_g h (p + 1) (n + 1)) (nI (base + x)) (c (base + x) - 1)).bind fun h => some (0, h)) := by
      unfold f_Mc_move
      rw [if_pos (zi_in (by omega) (by omega)), nI_clamp (n := p) (by omega), n1, n2, n3, gs.1.2.2.2.1, nI_add base x, if_neg (by decide), if_neg (by decide), if_neg (by decide), if_pos (by decide), yR_cell gs.1 (show base + x < 8192 by omega), Option.bind_some]
    show ∃ h', if c (base + x) = 0 then _ else _
    by_cases z : c (base + x) = 0
    · rw [if_pos z] at mv
      refine ⟨zs_uF (yR_g h (p + 1) (n + 1)) 58 18 (nI t), ?_⟩
      rw [if_pos z]
      exact ⟨step hs hp2 m1 (by omega) (by omega) mv, yR_ft f (yR_ft gs.2 ⟨zfr_F (by decide) zfr_rfl, fun _ _ => rfl⟩), gs.1.1, rfl, gs.1.2.2⟩
    · obtain ⟨h', a1, a2, a3⟩ := yR_bec (v := c (base + x) - 1) (x := base + x) gs.1 (by omega)
      rw [if_neg z, a1, Option.bind_some] at mv
      refine ⟨h', ?_⟩
      rw [if_neg z]
      exact ⟨step hs hp2 m1 (by omega) (by omega) mv, yR_ft f (yR_ft gs.2 a3), a2⟩
  · intro L lo d2 h p s ⟨f, hs⟩ K hp hp2 _ W ed hd es
    obtain ⟨c, S, n⟩ := s
    have es' : S = S0 := es
    subst es'
    obtain ⟨h', k, a1, a2, a3⟩ := yR_L Gh H hl he hD L [] p n c h f.1 hs K hp2 W ed (by show 0 ≤ 64; omega) hd
    exact ⟨h', k, a1, fun z => ⟨(a2 z).1, yR_ft f (a2 z).2.1, (a2 z).2.2⟩, fun z => ⟨(a3 z).1, zfr_trans f.1 (a3 z).2.1, (a3 z).2.2⟩⟩
def yR_B (nb : Nat) (T : Nat → ys) (kb : Nat → yK) (pl : Nat → Nat) (tm : Nat → Nat → (Nat → Int32) → Nat → Int32) (h : zs_H) : Prop := yR_t tm h ∧ (∀ u, u < nb → (kb u).1 = 1 → (h.2.1 27) (9 + u) = nI (pl u)) ∧ ((∀ u, u ≤ nb → (h.2.1 46) u = nI (yx_S T u)) ∧ (h.1 41 6) = nI nb) ∧ yx_AC T nb h
theorem yR_Bf {nb : Nat} {T : Nat → ys} {h h' : zs_H} (f : zfr yR_F yR_M [] h h') (H : yR_B nb T kb pl tm h) : yR_B nb T kb pl tm h' := by
  refine ⟨fun k a c g2 f2 => H.1 k a c g2 (zfr_trans f f2), fun u h1 h2 => by rw [f.2.1 _ (by decide)]; exact H.2.1 u h1 h2, ⟨fun u h1 => by rw [f.2.1 _ (by decide)]; exact H.2.2.1.1 u h1, (f.1 _ _ (by decide)).trans H.2.2.1.2⟩, fun u hu k i e => yR_m f (H.2.2.2 u hu k i e)⟩
theorem yR_Us {nb : Nat} {T : Nat → ys} (A : yN_A nb T X Y kb pl tm) : ∀ (b : Nat) (h0 : zs_H), b ≤ nb → yR_B nb T kb pl tm h0 → yR_U X kb pl b (yE_U T pl tm b) h0 := by
  obtain ⟨A1, A2, A3, A4, A5, A6, _, _⟩ := id A
  intro b
  induction b with
  | zero => intro h0 _ _ u base s h p e bs D hu; omega
  | succ b ih =>
    intro h0 hb hB u base s h p e bs D hu f hs hD hl hX dj
    by_cases z : u = b
    · subst z
      have Bh := yR_Bf f hB
      obtain ⟨⟨w1, w2, w3⟩, w4, w5⟩ := A4 u (by omega)
      have hU := yG_Us A1 A2 A3 (fun u hu => (A4 u hu).1) (fun u hu hk => (A5 u hu hk).1)
      have Hg : yG_h X Y kb pl tm (yV_B T u) u base (yE_U T pl tm u) := ⟨by omega, ⟨(A2 u (by omega)).1, fun w hw => (A2 w (by omega)).2⟩, hU u (by omega), yE_Uw A1 A2 A3 (fun u hu => (A4 u hu).1.2.2) u (by omega), A3, fun w hw2 hk => (A5 w (by omega) hk).1, dj⟩
      have hle : yx_S T (u + 1) ≤ yx_S T nb := by
        have := yx_Sm T (nb - (u + 1)) (u + 1)
        rwa [show u + 1 + (nb - (u + 1)) = nb by omega] at this
      have hS : yx_S T (u + 1) = yx_S T u + yz_l (T u) := rfl
      obtain ⟨h1, c1, c2, c3, c4, c5, c6⟩ := yR_bU (b1 := base) hs (by omega) (show u < nb by omega) A1 Bh.2.2.1.2 (Bh.2.2.1.1 u (by omega)) (Bh.2.2.1.1 (u + 1) (by omega))
      have B1 := yR_Bf c3.1 Bh
      have Hn : yR_h X Y kb pl tm u base (yE_U T pl tm u) h1 := ⟨by omega, ⟨(A2 u (by omega)).1, hX⟩, ih h1 (by omega) B1, B1.1, fun w hw hk => ⟨(A5 w (by omega) hk).1, (A5 w (by omega) hk).2, B1.2.1 w (by omega) hk⟩, dj⟩
      have M := yR_W (S0 := s.2.1) (s0 := yx_S T u) (e := yx_S T (u + 1)) (D := D + 1) Hg Hn hl (by omega) (by omega)
      obtain ⟨O, _⟩ := yW_T Hg M (T u) 0 (yx_S T u) 0 0 0 (Y u) h1 s (.inl ⟨rfl, w1⟩) w3 (Nat.le_refl _) (fun k i e => B1.2.2.2 u (by omega) k i e) (Nat.le_refl _) (Nat.le_of_eq hS.symm) (fun z => absurd z (by decide)) (fun _ => w2 _) (fun z => absurd z (by decide)) w4 ⟨yR_f0, c2⟩ rfl
      have n1 := (yG_T Hg (T u) 0 (Y u) (none, none, none) (some 0, none, none) s (.inl ⟨rfl, w1⟩) w3 (Nat.le_refl _) (fun z => absurd z (by decide)) (yF_nM (x := 0) (.inl rfl))).2 0 (w2 0)
      have R4 := hU (u + 1) (by omega) u base s (by omega) dj
      unfold yG_r at R4
      have eU : yE_U T pl tm (u + 1) u base s = ((yE_T pl tm (yE_U T pl tm u) base (T u) s).1, if (yE_T pl tm (yE_U T pl tm u) base (T u) s).2 = 2 then 0 else (yE_T pl tm (yE_U T pl tm u) base (T u) s).2) := by
        rw [yE_U, if_pos rfl]
      rw [eU] at R4 ⊢
      rw [← hS] at O
      generalize yE_T pl tm (yE_U T pl tm u) base (T u) s = r at O R4 n1
      obtain ⟨h2, k, o1, o2, o3, o4, o5⟩ := O
      have r1 : (if r.2 = 2 then 0 else r.2) = 0 ∨ (if r.2 = 2 then 0 else r.2) = 3 ∨ (if r.2 = 2 then 0 else r.2) = 4 := R4.1
      by_cases z3 : r.2 = 3 ∨ r.2 = 4
      · obtain ⟨q1, q2⟩ := o5 z3
        rw [if_neg (show ¬ r.2 = 2 by omega)]
        refine ⟨h1, h2, k, c1, by show _ ≤ 2 * r.1.2.2 + 1; omega, fun z => ?_, fun z => ⟨q1, zfr_trans c3.1 q2.1, q2.2⟩⟩
        have z' : r.2 = 0 := z
        omega
      · have q : yR_G h1 (yx_S T u) h2 (yx_S T (u + 1)) k ∧ yR_I h1 (D + 1) (yx_S T (u + 1)) base h2 r.1 (yx_S T (u + 1)) := by
          by_cases z2 : r.2 = 2
          · exact o4 z2
          · rw [if_neg z2] at r1
            exact o2 (by omega)
        obtain ⟨q1, q2, q3⟩ := q
        obtain ⟨h3, e1, e2, e3⟩ := yR_eT q3 (Nat.le_refl _) (by omega) (by omega) ((q2.2 _ (by omega)).trans c4) ((q2.2 _ (by omega)).trans c5) ((q2.2 _ (by omega)).trans c6)
        have z0 : (if r.2 = 2 then 0 else r.2) = 0 := by
          by_cases z2 : r.2 = 2
          · rw [if_pos z2]
          · rw [if_neg z2] at r1 ⊢; omega
        rw [z0]
        refine ⟨h1, h3, k + 1, c1, by show _ ≤ 2 * r.1.2.2 + 1; omega, fun _ => ⟨yR_Gt (p1 := 0) (fun N t ht => q1 N t ht) (e3 _ _), ?_, e1⟩, fun z => absurd z (show ¬ ((0 : Nat) = 3 ∨ (0 : Nat) = 4) by decide)⟩
        exact yR_ft c3 (yR_ft ⟨q2.1, fun j hj => q2.2 j (by omega)⟩ e2)
    · obtain ⟨h1, h', k, q1, q2, q3, q4⟩ := ih h0 (by omega) hB u base s h p e bs D (by omega) f hs hD hl hX dj
      refine ⟨h1, h', k, q1, ?_⟩
      rw [yE_U, if_neg z]
      exact ⟨q2, q3, q4⟩
end YRU
