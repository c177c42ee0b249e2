/-! The machine: the class's loop over instructions. -/
def yR_G : yW_G := fun h _ h' _ k => ∀ N t, t + k ≤ 1000000 → f_Mc_run_L25 (N + k) h 0 (nI t) = f_Mc_run_L25 N h' 0 (nI (t + k))
def yR_Fl : yW_F := fun h _ o h' k => ∀ N t, t + k ≤ 1000000 → f_Mc_run_L25 (N + 1 + k) h 0 (nI t) = some (if o = 3 then -3 else -4, h')
def yR_g (h : zs_H) (p n : Nat) : zs_H := zs_uF (zs_uF h 58 18 (nI p)) 58 6 (nI n)
def yR_J (h0 : zs_H) : yW_J := fun h r => zfr yR_F yR_M [] h0 h ∧ (∀ j, j < 8192 → (h.2.1 62) j = r.1.1 j) ∧ (h.1 58 6) = nI r.1.2.2
/-- the class runs units below b -/
def yR_U (X : Nat → Nat) (kb : Nat → yK) (pl : Nat → Nat) (b : Nat) (U : Nat → Nat → yE → yE × Nat) (h0 : zs_H) : Prop := ∀ (u base : Nat) (s : yE) (h : zs_H) (p e bs D : Nat), u < b → zfr yR_F yR_M [] h0 h → yR_s h s p e bs D → D + u + 1 ≤ 16 → s.2.1.length + 64 * (u + 1) ≤ 1088 → base + X u ≤ 8192 → yE_dj X kb pl u base → ∃ h1 h' k, f_Mc_beginUnit h (nI u) (nI base) = some h1 ∧ 2 * s.2.2 + k ≤ 2 * (U u base s).1.2.2 + 1 ∧ ((U u base s).2 = 0 → yR_G h1 0 h' 0 k ∧ yR_f D h h' ∧ yR_s h' (U u base s).1 p e bs D) ∧ ((U u base s).2 = 3 ∨ (U u base s).2 = 4 → yR_Fl h1 0 (U u base s).2 h' k ∧ yR_J h h' (U u base s))
def yR_h (X Y : Nat → Nat) (kb : Nat → yK) (pl : Nat → Nat) (tm : Nat → Nat → (Nat → Int32) → Nat → Int32) (b base : Nat) (U : Nat → Nat → yE → yE × Nat) (h0 : zs_H) : Prop := b < 16 ∧ (Y b ≤ X b ∧ base + X b ≤ 8192) ∧ yR_U X kb pl b U h0 ∧ yR_t tm h0 ∧ (∀ u, u < b → (kb u).1 = 1 → yE_dj X kb pl u (pl u) ∧ (0 < X u ∧ pl u + X u ≤ 8192) ∧ (h0.2.1 27) (9 + u) = nI (pl u)) ∧ yE_dj X kb pl b base
section YRL
variable {X Y : Nat → Nat} {kb : Nat → yK} {pl : Nat → Nat} {tm : Nat → Nat → (Nat → Int32) → Nat → Int32} {U : Nat → Nat → yE → yE × Nat} {B : Nat → Nat} {b p e base D n lo : Nat} {h h0 : zs_H} {i : yI} {c : Nat → Int32} {S S0 : List Int32} {y v : Int32}
theorem yR_gs (H : yR_s h (c, S, n) p e base D) : yR_s (yR_g h (p + 1) (n + 1)) (c, S, n + 1) (p + 1) e base D ∧ yR_f D h (yR_g h (p + 1) (n + 1)) := ⟨⟨⟨H.1.1, H.1.2.1, H.1.2.2.1, rfl⟩, rfl, H.2.2⟩, zfr_F (by decide) (zfr_F (by decide) zfr_rfl), fun _ _ => rfl⟩
theorem yR_go {N t : Nat} (H : yR_s h (c, S, n) p e base D) (hp : p < e) (he : e ≤ 4000) (hD : 0 < D ∧ D ≤ 17) (m : yC_m h p i) (ho : i.1 < 19) (ht : t < 1000000) : f_Mc_run_L25 (N + 1) h 0 (nI t) = zd_B (if 10 ≤ i.1 then f_Mc_move (yR_g h (p + 1) (n + 1)) (nI p) else f_Mc_compute (yR_g h (p + 1) (n + 1)) (nI p)) (fun v h' => f_Mc_run_L25 N h' v (nI (t + 1))) := by
  obtain ⟨⟨_, _, _, a4⟩, a5, a6, a7, a8⟩ := H
  have a4' : (h.1 58 6) = nI n := a4
  have m1 : (h.2.1 42) p = nI i.1 := m.1
  show f_Mc_run_25 (f_Mc_run_L25 N) h 0 (nI t) = _
  unfold f_Mc_run_25 f_Mc_run_116 f_Mc_run_117
  rw [if_neg (mt (zc_le (k := 1000000) (by decide) (by omega)).mp (by omega)), a8, if_neg (mt (zc_el (k := 0) (by decide) (by omega)).mp (by omega)), if_pos rfl, a5, a6, if_pos ((nI_ltI (by omega) (by omega)).mpr hp), if_pos (zi_in (by omega) (by omega)), nI_clamp (n := p) (by omega), m1, a4', show nI n + 1 = nI (n + 1) from zc_ad 1 n, show nI p + 1 = nI (p + 1) from zc_ad 1 p, show nI t + 1 = nI (t + 1) from zc_ad 1 t]
  by_cases z : 10 ≤ i.1
  · rw [if_pos ((zc_le (k := 10) (by decide) (by omega)).mpr z), if_pos z]; rfl
  · rw [if_neg (mt (zc_le (k := 10) (by decide) (by omega)).mp z), if_neg z]; rfl
theorem yR_end {N : Nat} {x : Int32} (hv : ¬ v = 0) : f_Mc_run_L25 (N + 1) h v x = some (v, h) := by
  show f_Mc_run_25 (f_Mc_run_L25 N) h v x = _
  unfold f_Mc_run_25
  rw [if_neg hv, ite_self, ite_self]
/-- a unit ends -/
theorem yR_eT {s : yE} {b1 p0 e0 b0 : Nat} (H : yR_s h s p e b1 (D + 1)) (hp : e ≤ p) (hp2 : p ≤ 4000) (hD : D ≤ 16) (f1 : (h.2.1 64) (3 * D) = nI p0) (f2 : (h.2.1 64) (3 * D + 1) = nI e0) (f3 : (h.2.1 64) (3 * D + 2) = nI b0) : ∃ h', yR_s h' s p0 e0 b0 D ∧ yR_f D h h' ∧ ∀ q q', yR_G h q h' q' 1 := by
  obtain ⟨⟨a1, a2, a3, a4⟩, a5, a6, a7, a8⟩ := H
  have ee : ∃ h', f_Mc_endUnit h = some h' ∧ yR_s h' s p0 e0 b0 D ∧ yR_f D h h' := by
    unfold f_Mc_endUnit
    rw [a8, show nI (D + 1) - 1 = nI D from zi_sub (a := D + 1) (b := 1) (by omega), show (3 : Int32) * nI D = nI (3 * D) from zc_ml 3 D, show nI (3 * D) + 1 = nI (3 * D + 1) from zc_ad 1 _, show nI (3 * D) + 2 = nI (3 * D + 2) from zc_ad 2 _, if_pos (zi_in (by omega) (by omega)), if_pos (zi_in (by omega) (by omega)), if_pos (zi_in (by omega) (by omega)), nI_clamp (n := 3 * D) (by omega), nI_clamp (n := 3 * D + 1) (by omega), nI_clamp (n := 3 * D + 2) (by omega), f1, f2, f3]
    exact ⟨_, rfl, ⟨⟨a1, a2, a3, a4⟩, rfl, rfl, rfl, rfl⟩, zfr_F (by decide) (zfr_F (by decide) (zfr_F (by decide) (zfr_F (by decide) zfr_rfl))), fun _ _ => rfl⟩
  obtain ⟨h', e1, e2, e3⟩ := ee
  refine ⟨h', e2, e3, fun q q' N t ht => ?_⟩
  show f_Mc_run_25 (f_Mc_run_L25 N) h 0 (nI t) = _
  unfold f_Mc_run_25 f_Mc_run_117
  rw [if_neg (mt (zc_le (k := 1000000) (by decide) (by omega)).mp (by omega)), a8, if_neg (mt (zc_el (k := 0) (by decide) (by omega)).mp (by omega)), if_pos rfl, a5, a6, if_neg (mt (nI_ltI (by omega) (by omega)).mp (by omega)), e1, Option.bind_some, show nI t + 1 = nI (t + 1) from zc_ad 1 t]
/-- a unit begins -/
theorem yR_bU {s : yE} {u nb s0 s1 b1 : Nat} (H : yR_s h s p e base D) (hD : D ≤ 16) (hu : u < nb) (hn : nb ≤ 16) (hun : (h.1 41 6) = nI nb) (q1 : (h.2.1 46) u = nI s0) (q2 : (h.2.1 46) (u + 1) = nI s1) : ∃ h1, f_Mc_beginUnit h (nI u) (nI b1) = some h1 ∧ yR_s h1 s s0 s1 b1 (D + 1) ∧ yR_f D h h1 ∧ (h1.2.1 64) (3 * D) = nI p ∧ (h1.2.1 64) (3 * D + 1) = nI e ∧ (h1.2.1 64) (3 * D + 2) = nI base := by
  obtain ⟨⟨a1, a2, a3, a4⟩, a5, a6, a7, a8⟩ := H
  unfold f_Mc_beginUnit
  rw [a8, show (3 : Int32) * nI D = nI (3 * D) from zc_ml 3 D, show nI (3 * D) + 1 = nI (3 * D + 1) from zc_ad 1 _, show nI (3 * D) + 2 = nI (3 * D + 2) from zc_ad 2 _, if_neg (mt (zc_le (k := 51) (by decide) (by omega)).mp (by omega)), if_neg (mt (zc_tl (k := 0) (by decide) (by omega)).mp (by omega)), hun, if_neg (mt (nI_leI (by omega) (by omega)).mp (by omega)), if_pos (zi_in (by omega) (by omega)), if_pos (zi_in (by omega) (by omega)), if_pos (zi_in (by omega) (by omega)), if_pos (zi_in (by omega) (by omega)), show nI u + 1 = nI (u + 1) from zc_ad 1 u, if_pos (zi_in (by omega) (by omega)), nI_clamp (n := 3 * D) (by omega), nI_clamp (n := 3 * D + 1) (by omega), nI_clamp (n := 3 * D + 2) (by omega), nI_clamp (n := u) (by omega), nI_clamp (n := u + 1) (by omega), show nI D + 1 = nI (D + 1) from zc_ad 1 D, a5, a6, a7, q1, q2]
  have n62 : ∀ j, (zs_uM (zs_uM (zs_uM h 64 (3 * D) (nI p)) 64 (3 * D + 1) (nI e)) 64 (3 * D + 2) (nI base)).2.1 62 j = h.2.1 62 j := fun j => (zu_MM.trans (if_neg fun z => absurd z.1 (by decide))).trans ((zu_MM.trans (if_neg fun z => absurd z.1 (by decide))).trans (zu_MM.trans (if_neg fun z => absurd z.1 (by decide))))
  have n63 : ∀ j, (zs_uM (zs_uM (zs_uM h 64 (3 * D) (nI p)) 64 (3 * D + 1) (nI e)) 64 (3 * D + 2) (nI base)).2.1 63 j = h.2.1 63 j := fun j => (zu_MM.trans (if_neg fun z => absurd z.1 (by decide))).trans ((zu_MM.trans (if_neg fun z => absurd z.1 (by decide))).trans (zu_MM.trans (if_neg fun z => absurd z.1 (by decide))))
  have n64 : ∀ j, (zs_uM (zs_uM (zs_uM h 64 (3 * D) (nI p)) 64 (3 * D + 1) (nI e)) 64 (3 * D + 2) (nI base)).2.1 64 j = if j = 3 * D + 2 then nI base else if j = 3 * D + 1 then nI e else if j = 3 * D then nI p else h.2.1 64 j := fun j => by
    rw [zu_MM, zu_MM, zu_MM]
    simp only [true_and]
  refine ⟨_, rfl, ⟨⟨fun j hj => (n62 j).trans (a1 j hj), a2, yE_kf (fun j _ => n63 j) a3, a4⟩, rfl, rfl, rfl, rfl⟩, ⟨zfr_F (by decide) (zfr_F (by decide) (zfr_F (by decide) (zfr_F (by decide) (zfr_M (by decide) (zfr_M (by decide) (zfr_M (by decide) zfr_rfl)))))), fun j hj => (n64 j).trans ?_⟩, (n64 _).trans ?_, (n64 _).trans ?_, (n64 _).trans (if_pos rfl)⟩
  · rw [if_neg (by omega), if_neg (by omega), if_neg (by omega)]
  · rw [if_neg (by omega), if_neg (by omega), if_pos rfl]
  · rw [if_neg (by omega), if_pos rfl]
/-- an instruction that calls nothing -/
theorem yR_nc {d : Nat} (H : yR_s h (c, S, n) p e base D) (hp : p < e) (he : e ≤ 4000) (hD : 0 < D ∧ D ≤ 17) (m : yC_m h p i) (ho : i.1 < 19) (h1 : n + 1 ≤ (yE_1 pl tm U base i (c, S, n)).1.2.2) (hd : yR_D pl tm U (yR_g h (p + 1) (n + 1)) p e base D n i c S) : ∃ h' k, 2 * n + k ≤ 2 * (yE_1 pl tm U base i (c, S, n)).1.2.2 ∧ ((yE_1 pl tm U base i (c, S, n)).2 = 0 → yR_G h p h' (p + 1) k ∧ yR_f D h h' ∧ yR_s h' (yE_1 pl tm U base i (c, S, n)).1 (p + 1) e base D) ∧ ((yE_1 pl tm U base i (c, S, n)).2 = 3 ∨ (yE_1 pl tm U base i (c, S, n)).2 = 4 → yR_Fl h p (yE_1 pl tm U base i (c, S, n)).2 h' k ∧ yR_J h h' (yE_1 pl tm U base i (c, S, n))) := by
  obtain ⟨v, h', a1, a2, a3⟩ := hd
  have gs := (yR_gs H).2
  generalize yE_1 pl tm U base i (c, S, n) = r at h1 a3
  refine ⟨h', 1, by omega, fun z => ⟨fun N t ht => ?_, yR_ft gs a2, (a3.1 z).2⟩, fun z => ⟨fun N t ht => ?_, zfr_trans gs.1 a2.1, (a3.2 z).2⟩⟩
  · rw [yR_go H hp he hD m ho (by omega), a1, yR_zB, (a3.1 z).1]
  · have hv := (a3.2 z).1
    rw [yR_go H hp he hD m ho (by omega), a1, yR_zB, ← hv]
    refine yR_end ?_
    rw [hv]
    split
    · exact (show ¬ (-3 : Int32) = 0 by decide)
    · exact (show ¬ (-4 : Int32) = 0 by decide)
/-- an instruction that calls -/
theorem yR_ca {u b1 k : Nat} {h1 h' : zs_H} (H : yR_s h (c, S, n) p e base D) (hp : p < e) (he : e ≤ 4000) (hD : 0 < D ∧ D ≤ 17) (m : yC_m h p i) (ho : i.1 < 19) (hm : 10 ≤ i.1) (eU : yE_1 pl tm U base i (c, S, n) = U u b1 (c, S, n + 1)) (mv : f_Mc_move (yR_g h (p + 1) (n + 1)) (nI p) = some (0, h1)) (a2 : 2 * (n + 1) + k ≤ 2 * (U u b1 (c, S, n + 1)).1.2.2 + 1) (a3 : (U u b1 (c, S, n + 1)).2 = 0 → yR_G h1 0 h' 0 k ∧ yR_f D (yR_g h (p + 1) (n + 1)) h' ∧ yR_s h' (U u b1 (c, S, n + 1)).1 (p + 1) e base D) (a4 : (U u b1 (c, S, n + 1)).2 = 3 ∨ (U u b1 (c, S, n + 1)).2 = 4 → yR_Fl h1 0 (U u b1 (c, S, n + 1)).2 h' k ∧ yR_J (yR_g h (p + 1) (n + 1)) h' (U u b1 (c, S, n + 1))) : ∃ h' k, 2 * n + k ≤ 2 * (yE_1 pl tm U base i (c, S, n)).1.2.2 ∧ ((yE_1 pl tm U base i (c, S, n)).2 = 0 → yR_G h p h' (p + 1) k ∧ yR_f D h h' ∧ yR_s h' (yE_1 pl tm U base i (c, S, n)).1 (p + 1) e base D) ∧ ((yE_1 pl tm U base i (c, S, n)).2 = 3 ∨ (yE_1 pl tm U base i (c, S, n)).2 = 4 → yR_Fl h p (yE_1 pl tm U base i (c, S, n)).2 h' k ∧ yR_J h h' (yE_1 pl tm U base i (c, S, n))) := by
  have gs := (yR_gs H).2
  rw [eU]
  generalize U u b1 (c, S, n + 1) = r at a2 a3 a4
  refine ⟨h', k + 1, by omega, fun z => ⟨fun N t ht => ?_, yR_ft gs (a3 z).2.1, (a3 z).2.2⟩, fun z => ⟨fun N t ht => ?_, zfr_trans gs.1 (a4 z).2.1, (a4 z).2.2⟩⟩
  · rw [show N + (k + 1) = N + k + 1 by omega, yR_go H hp he hD m ho (by omega), if_pos hm, mv, yR_zB, (a3 z).1 N (t + 1) (by omega), show t + 1 + k = t + (k + 1) by omega]
  · rw [show N + 1 + (k + 1) = N + 1 + k + 1 by omega, yR_go H hp he hD m ho (by omega), if_pos hm, mv, yR_zB, (a4 z).1 N (t + 1) (by omega)]
theorem yR_any (G : yG_h X Y kb pl tm B b base U) (H : yR_h X Y kb pl tm b base U h0) (f : zfr yR_F yR_M [] h0 h) (hs : yR_s h (c, S, n) p e base D) (hp : p < e) (he : e ≤ 4000) (hD : 0 < D ∧ D + b ≤ 16) (m : yC_m h p i) (W : yw_i X Y kb b lo i) (A : List Int32) (eS : S = A ++ S0) (ht : yo_t i.1 ≤ A.length) (hl : S.length + 64 * b ≤ 1088) (hh : A.length - yo_t i.1 + yo_l i.1 + S0.length ≤ 1088) : ∃ h' k, 2 * n + k ≤ 2 * (yE_1 pl tm U base i (c, S, n)).1.2.2 ∧ ((yE_1 pl tm U base i (c, S, n)).2 = 0 → yR_G h p h' (p + 1) k ∧ yR_f D h h' ∧ yR_s h' (yE_1 pl tm U base i (c, S, n)).1 (p + 1) e base D) ∧ ((yE_1 pl tm U base i (c, S, n)).2 = 3 ∨ (yE_1 pl tm U base i (c, S, n)).2 = 4 → yR_Fl h p (yE_1 pl tm U base i (c, S, n)).2 h' k ∧ yR_J h h' (yE_1 pl tm U base i (c, S, n))) := by
  obtain ⟨H1, ⟨H2, H3⟩, H4, H5, H6, H7⟩ := H
  have gs := yR_gs hs
  have f2 := zfr_trans f gs.2.1
  have oi := yP_wo (b := b) (by omega) W
  have o19 : i.1 < 19 := by have := oi.1; omega
  have D17 : 0 < D ∧ D ≤ 17 := by omega
  have bp : ∀ u, u < b → (kb u).1 = 1 → ((yR_g h (p + 1) (n + 1)).2.1 27) (9 + u) = nI (pl u) := fun u h1 h2 => by rw [f2.2.1 _ (by decide)]; exact (H6 u h1 h2).2.2
  have m' := yR_m gs.2.1 m
  obtain ⟨_, _, o3, _⟩ := yG_1 (tm := tm) G.1 ⟨G.2.1.1, G.2.1.2 b (Nat.le_refl _)⟩ G.2.2.1 G.2.2.2.2.2.1 G.2.2.2.2.2.2 W A S0 c n ht
  have lS : S.length = A.length + S0.length := by rw [eS]; exact List.length_append
  rw [← eS] at o3
  have o3' : n + 1 ≤ (yE_1 pl tm U base i (c, S, n)).1.2.2 := o3
  have ht' : yo_t i.1 ≤ S.length := by omega
  have hb : yR_b (yR_g h (p + 1) (n + 1)) p e base D n i c S := ⟨by omega, m', gs.1, by omega⟩
  have nc := yR_nc (d := 0) hs hp he D17 m o19 o3'
  rcases W with W | ⟨e0, x, e1, W⟩ | ⟨e0, x, s, e1, e2, W⟩ | ⟨e0, u, x, e1, e2, W1, W2, W3⟩ | ⟨e0, B', x, e1, e2, W1, W2⟩
  · rcases W with e0 | e0 | ⟨e0, x, e1, W⟩ | ⟨e0, x, s, e1, e2, W⟩ | ⟨e0, e2, u, e1, W1, W2⟩ | ⟨e0, u, x, e1, e2, W1, W2, W3⟩ | ⟨e0, _⟩ | ⟨e0, _⟩ | ⟨e0, u, e1, W1, W2⟩
    · rw [e0] at hh
      have hh' : A.length - 0 + 1 + S0.length ≤ 1088 := hh
      exact nc (yR_0 hb e0 (by omega))
    · refine nc ?_
      rw [e0] at ht'
      obtain ⟨x1, A1, rfl, l1⟩ := yG_c1 (A := S) (Nat.le_trans (by decide) ht')
      have ht1 : 3 ≤ A1.length + 1 := ht'
      obtain ⟨x2, A2, rfl, l2⟩ := yG_c1 (A := A1) (by omega)
      have ht2 : 3 ≤ A2.length + 1 + 1 := ht'
      obtain ⟨x3, A3, rfl, l3⟩ := yG_c1 (A := A2) (by omega)
      exact yR_9 hb e0
    · rw [e0] at hh
      have hh' : A.length - 0 + 1 + S0.length ≤ 1088 := hh
      exact nc (yR_1 hb e0 (by omega) e1 (by omega))
    · refine nc ?_
      rw [e0] at ht'
      obtain ⟨x1, A1, rfl, l1⟩ := yG_c1 (A := S) ht'
      exact yR_3 hb e0 e1 e2 (by omega)
    · rw [e0] at hh
      have hh' : A.length - 0 + 1 + S0.length ≤ 1088 := hh
      exact nc (yR_5 (x := 0) hb e0 (by omega) e1 (by rw [e2]; rfl) (by omega) (bp u W1 W2) (by have := (H6 u W1 W2).2.1; omega))
    · refine nc ?_
      rw [e0] at ht'
      obtain ⟨x1, A1, rfl, l1⟩ := yG_c1 (A := S) ht'
      exact yR_6 hb e0 e1 e2 (by omega) (bp u W1 W2) (by have := (H6 u W1 W2).2.1; omega)
    · refine nc ?_
      rw [e0] at ht'
      obtain ⟨x1, A1, rfl, l1⟩ := yG_c1 (A := S) (Nat.le_trans (by decide) ht')
      have ht1 : 2 ≤ A1.length + 1 := ht'
      obtain ⟨x2, A2, rfl, l2⟩ := yG_c1 (A := A1) (by omega)
      exact yR_7 hb e0
    · refine nc ?_
      rw [e0] at ht'
      obtain ⟨x1, A1, rfl, l1⟩ := yG_c1 (A := S) ht'
      exact yR_8 hb e0
    · obtain ⟨d1, d2, d3⟩ := H6 u W1 W2
      obtain ⟨h1, h', k, a1, a2, a3, a4⟩ := H4 u (pl u) (c, S, n + 1) (yR_g h (p + 1) (n + 1)) (p + 1) e base D W1 f2 gs.1 (by omega) (by show S.length + _ ≤ _; omega) d2.2 d1
      refine yR_ca hs hp he D17 m o19 (by omega) ?_ ?_ a2 a3 a4
      · unfold yE_1
        simp (config := { decide := true }) only [e0, if_false, if_true, e1, nI_clamp (show u < 2147483648 by omega)]
      · obtain ⟨m1, m2, _, _⟩ := m'
        rw [e0] at m1
        rw [e1] at m2
        unfold f_Mc_move
        rw [if_pos (zi_in (by omega) (by omega)), nI_clamp (n := p) (by omega), m1, m2, if_neg (by decide), if_neg (by decide), if_neg (by decide), if_neg (by decide), if_neg (by decide), if_neg (by decide), if_pos (by decide), show (9 : Int32) + nI u = nI (9 + u) from zc_da 9 u, if_pos (zi_in (by omega) (by omega)), nI_clamp (n := 9 + u) (by omega), bp u W1 W2, a1, Option.bind_some]
  · refine nc ?_
    rw [e0] at ht'
    obtain ⟨x1, A1, rfl, l1⟩ := yG_c1 (A := S) ht'
    exact yR_2 hb e0 e1 (by omega)
  · refine nc ?_
    rw [e0] at ht'
    obtain ⟨x1, A1, rfl, l1⟩ := yG_c1 (A := S) (Nat.le_trans (by decide) ht')
    have ht1 : 2 ≤ A1.length + 1 := ht'
    obtain ⟨x2, A2, rfl, l2⟩ := yG_c1 (A := A1) (by omega)
    exact yR_4 hb e0 e1 e2 (by omega)
  · obtain ⟨h1, h', k, a1, a2, a3, a4⟩ := H4 u (base + x) (c, S, n + 1) (yR_g h (p + 1) (n + 1)) (p + 1) e base D W1 f2 gs.1 (by omega) (by show S.length + _ ≤ _; omega) (by omega) (fun w hw hk => by
      rcases H7 w (by omega) hk with z | z
      · exact .inl (by omega)
      · exact .inr (by omega))
    refine yR_ca hs hp he D17 m o19 (by omega) ?_ ?_ a2 a3 a4
    · unfold yE_1
      simp (config := { decide := true }) only [e0, if_false, if_true, e1, e2, nI_clamp (show u < 2147483648 by omega), nI_clamp (show x < 2147483648 by omega)]
    · obtain ⟨m1, m2, m3, _⟩ := m'
      rw [e0] at m1
      rw [e1] at m2
      rw [e2] at m3
      unfold f_Mc_move
      rw [if_pos (zi_in (by omega) (by omega)), nI_clamp (n := p) (by omega), m1, m2, m3, gs.1.2.2.2.1, nI_add base x, if_neg (by decide), if_neg (by decide), if_neg (by decide), if_neg (by decide), if_neg (by decide), if_pos (by decide), a1, Option.bind_some]
  · exact nc (yR_17 hb e0 H5 f2 e1 e2 W1 (by omega))
end YRL
