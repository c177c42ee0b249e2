/-! What holds between two calls, on both sides; the small calls. -/
abbrev yO_F1 : List (Nat × Nat) := [(0, 1), (0, 4), (58, 4), (58, 6), (58, 7), (58, 8), (58, 9), (58, 14), (58, 17), (58, 18), (58, 19), (58, 20), (66, 1), (66, 2), (66, 4), (66, 5)]
abbrev yO_M1 : List Nat := [1, 59, 60, 61, 62, 63, 64, 65, 67]
abbrev yO_F2 : List (Nat × Nat) := [(68, 73), (68, 74), (68, 75), (68, 76), (68, 78), (68, 83), (68, 84), (68, 85), (68, 86), (68, 87), (68, 88), (68, 93), (68, 94), (68, 95)]
abbrev yO_M2 : List Nat := [114, 115, 116, 117, 118, 119, 120]
abbrev yO_f1 : List (Nat × Nat) := [(0, 1), (0, 4), (66, 1), (66, 2), (66, 4), (66, 5)]
abbrev yO_m1 : List Nat := [1, 59, 60, 61, 67]
abbrev yO_f2 : List (Nat × Nat) := [(68, 78), (68, 83), (68, 87), (68, 88), (68, 93), (68, 94), (68, 95)]
abbrev yO_m2 : List Nat := [116, 117, 118, 119, 120]
def yO_D (h g : zs_H) : Prop := ((g.1 68 82) = 0 ∧ yL_U h) ∨ ((h.1 58 3) = 1 ∧ (g.1 68 82) = 1 ∧ ((h.1 58 4) = 0 ∨ (h.1 58 4) = 1) ∧ yL_Z h g)
def yO_c (h g : zs_H) : Prop := (h.1 0 2) = (g.1 68 80) ∧ (h.1 0 3) = (if (g.1 68 80) = 0 then -5 else (g.1 68 81))
def yO_o (h g : zs_H) : Prop := ∃ n, n ≤ 256 ∧ (h.1 66 1) = nI n ∧ (g.1 68 88) = nI n ∧ ∀ i, i < n → (h.2.1 67) i &&& 255 = (g.2.1 117) i
/-- between two calls -/
def yO (t : Nat) (h g : zs_H) : Prop := yL_T t h g ∧ yL_N h g ∧ yY_io h g ∧ yO_c h g ∧ ((h.1 0 4) = (g.1 68 87) ∧ (h.1 66 2) = (g.1 68 83)) ∧ yO_o h g ∧ yO_D h g
/-- what the class's calls leave, what the model's leave -/
def zO_C (h h' : zs_H) : Prop := ∀ k, 68 ≤ k → h'.1 k = h.1 k ∧ h'.2.1 k = h.2.1 k ∧ h'.2.2 k = h.2.2 k
def zO_M (g g' : zs_H) : Prop := ∀ k, k < 68 → g'.1 k = g.1 k ∧ g'.2.1 k = g.2.1 k ∧ g'.2.2 k = g.2.2 k
abbrev zO_r (h g h' g' : zs_H) : Prop := zO_C h h' ∧ zO_M g g'
section ZOR
variable {h g h' g' h'' : zs_H} {fs : List (Nat × Nat)} {ms ls : List Nat}
theorem zO_Cz (f : zfr fs ms ls h h') (c1 : ∀ p, p ∈ fs → p.1 < 68 := by decide) (c2 : ∀ p, p ∈ ms → p < 68 := by decide) (c3 : ∀ p, p ∈ ls → p < 68 := by decide) : zO_C h h' := fun k hk => ⟨funext fun j => f.1 k j (fun z => by have := c1 _ z; have e : k < 68 := this; omega), f.2.1 k (fun z => by have := c2 _ z; omega), f.2.2 k (fun z => by have := c3 _ z; omega)⟩
theorem zO_Mz (f : zfr fs ms ls g g') (c1 : ∀ p, p ∈ fs → 68 ≤ p.1 := by decide) (c2 : ∀ p, p ∈ ms → 68 ≤ p := by decide) (c3 : ∀ p, p ∈ ls → 68 ≤ p := by decide) : zO_M g g' := fun k hk => ⟨funext fun j => f.1 k j (fun z => by have := c1 _ z; have e : 68 ≤ k := this; omega), f.2.1 k (fun z => by have := c2 _ z; omega), f.2.2 k (fun z => by have := c3 _ z; omega)⟩
theorem zO_C0 : zO_C h h := fun _ _ => ⟨rfl, rfl, rfl⟩
theorem zO_M0 : zO_M h h := fun _ _ => ⟨rfl, rfl, rfl⟩
theorem zO_Ct (a : zO_C h h') (b : zO_C h' h'') : zO_C h h'' := fun k hk => ⟨(b k hk).1.trans (a k hk).1, (b k hk).2.1.trans (a k hk).2.1, (b k hk).2.2.trans (a k hk).2.2⟩
theorem zO_Mt (a : zO_M h h') (b : zO_M h' h'') : zO_M h h'' := fun k hk => ⟨(b k hk).1.trans (a k hk).1, (b k hk).2.1.trans (a k hk).2.1, (b k hk).2.2.trans (a k hk).2.2⟩
end ZOR
section YOR
variable {h0 g0 h g h' g' : zs_H} {nb w t : Nat} {T : Nat → ys} {F X Y K : Nat → Nat} {LC LM : List (List Int32)}
theorem yO_Lf (L : yY_L h0 nb T X Y K w h g) (f1 : zfr yO_F1 yO_M1 [] h h') (f2 : zfr yO_F2 yO_M2 [] g g') : yY_L h0 nb T X Y K w h' g' := by
  obtain ⟨L1, L2, ⟨c1, ⟨c2, c3⟩, c4, c5, c6⟩, ⟨m1, m2, m3, m4, m5⟩⟩ := L
  refine ⟨L1, L2, ⟨fun u hu hk => by rw [f1.2.1 _ (by decide)]; exact c1 u hu hk, ⟨fun u hu => by rw [f1.2.1 _ (by decide)]; exact c2 u hu, (f1.1 _ _ (by decide)).trans c3⟩, yL_AC c4 (fun a l1 l2 => f1.2.1 a (fun q => ?_)), (f1.1 _ _ (by decide)).trans c5, (f1.1 _ _ (by decide)).trans c6⟩, ⟨fun u hu hk => by rw [f2.2.1 _ (by decide)]; exact m1 u hu hk, fun u hu => by rw [f2.2.1 _ (by decide)]; exact m2 u hu, yL_AM m3 (fun a l1 l2 => f2.2.1 a (fun q => ?_)), (f2.1 _ _ (by decide)).trans m4, by rw [f2.2.2 _ (by decide)]; exact m5⟩⟩
  · have : ∀ x, x ∈ yO_M1 → x < 42 ∨ 45 < x := by decide
    have := this a q; omega
  · have : ∀ x, x ∈ yO_M2 → 108 < x := by decide
    have := this a q; omega
theorem yO_Nf (N : yL_N h g) (f1 : zfr yO_F1 yO_M1 [] h h') (f2 : zfr yO_F2 yO_M2 [] g g') : yL_N h' g' := by
  obtain ⟨⟨n1, n2⟩, n3, n4, n5⟩ := N
  exact ⟨⟨by rw [f1.2.1 _ (by decide)]; exact n1, fun i hi => by rw [f1.2.1 _ (by decide)]; exact n2 i hi⟩, by rw [f1.2.1 _ (by decide)]; exact n3, (f2.1 _ _ (by decide)).trans n4, (f2.1 _ _ (by decide)).trans n5⟩
/-- a loaded text, in parts -/
def yO_S (LC LM : List (List Int32)) (nb : Nat) (F X Y K : Nat → Nat) (T : Nat → ys) (w : Nat) (h0 g0 h g : zs_H) : Prop := yB_P LC LM nb F X Y K h0 g0 ∧ yL_E h0 g0 h g ∧ yY_L h0 nb T X Y K w h g ∧ ((h.1 20 17) = nI (9 + nb) ∧ (h.1 41 5) = (g.1 68 56) ∧ (h.1 20 20) = (g.1 68 55)) ∧ zn_C h LC ∧ zwt_ld LC
theorem yO_ZS (Z : yL_Z h g) : ∃ (LC LM : List (List Int32)) (nb : Nat) (F X Y K : Nat → Nat) (T : Nat → ys) (w : Nat) (h0 g0 : zs_H), yO_S LC LM nb F X Y K T w h0 g0 h g ∧ yY_M (yJ_J h0 nb T X K) h g := by
  obtain ⟨LC, LM, nb, F, X, Y, K, T, w, h0, g0, P, E, L, M, B, N⟩ := Z
  exact ⟨LC, LM, nb, F, X, Y, K, T, w, h0, g0, ⟨P, E, L, B, N⟩, M⟩
theorem yO_SZ (S : yO_S LC LM nb F X Y K T w h0 g0 h g) (M : yY_M (yJ_J h0 nb T X K) h g) : yL_Z h g := by
  obtain ⟨P, E, L, B, N⟩ := S
  exact ⟨LC, LM, nb, F, X, Y, K, T, w, h0, g0, P, E, L, M, B, N⟩
theorem yO_Sf (S : yO_S LC LM nb F X Y K T w h0 g0 h g) (f1 : zfr yO_F1 yO_M1 [] h h') (f2 : zfr yO_F2 yO_M2 [] g g') : yO_S LC LM nb F X Y K T w h0 g0 h' g' := by
  obtain ⟨P, E, L, ⟨B1, B2, B3⟩, N, LD⟩ := S
  refine ⟨P, yL_Ef E (zfr_w f1 (by decide) (by decide) (by decide)) (zfr_w f2 (by decide) (by decide) (by decide)), yO_Lf L f1 f2, ⟨(f1.1 _ _ (by decide)).trans B1, (f1.1 _ _ (by decide)).trans (B2.trans (f2.1 _ _ (by decide)).symm), (f1.1 _ _ (by decide)).trans (B3.trans (f2.1 _ _ (by decide)).symm)⟩, ?_, LD⟩
  unfold zn_C
  rw [f1.1 2 5 (by decide), f1.2.1 5 (by decide), f1.2.1 4 (by decide), f1.2.1 7 (by decide), f1.2.1 6 (by decide)]
  exact N
theorem yO_Mf {J : (Nat → Int32) → Prop} (M : yY_M J h g) (f1 : zfr yO_f1 yO_m1 [] h h') (f2 : zfr yO_f2 yO_m2 [] g g') : yY_M J h' g' := by
  obtain ⟨m1, m2, ⟨m3, m4, m5, m6⟩, m7⟩ := M
  refine ⟨fun j hj => by rw [f1.2.1 _ (by decide), f2.2.1 _ (by decide)]; exact m1 j hj, by rw [f2.2.1 _ (by decide)]; exact m2, ⟨?_, ?_, ?_, ?_⟩, ?_⟩
  · exact (f1.1 _ _ (by decide)).trans (m3.trans (f2.1 _ _ (by decide)).symm)
  · exact (f1.1 _ _ (by decide)).trans (m4.trans (f2.1 _ _ (by decide)).symm)
  · exact (f1.1 _ _ (by decide)).trans (m5.trans (f2.1 _ _ (by decide)).symm)
  · exact (f1.1 _ _ (by decide)).trans (m6.trans (f2.1 _ _ (by decide)).symm)
  · exact (f1.1 _ _ (by decide)).trans (m7.trans (f2.1 _ _ (by decide)).symm)
theorem yO_Df (D : yO_D h g) (f1 : zfr yO_f1 yO_m1 [] h h') (f2 : zfr yO_f2 yO_m2 [] g g') : yO_D h' g' := by
  rcases D with ⟨d1, ⟨u1, u2, u3, u4, u5, u6, u7⟩⟩ | ⟨d1, d2, d3, Z⟩
  · exact .inl ⟨(f2.1 _ _ (by decide)).trans d1, (f1.1 _ _ (by decide)).trans u1, (f1.1 _ _ (by decide)).trans u2, (f1.1 _ _ (by decide)).trans u3, (f1.1 _ _ (by decide)).trans u4, (f1.1 _ _ (by decide)).trans u5, (f1.1 _ _ (by decide)).trans u6, (f1.1 _ _ (by decide)).trans u7⟩
  · obtain ⟨LC, LM, nb, F, X, Y, K, T, w, h0, g0, S, M⟩ := yO_ZS Z
    exact .inr ⟨(f1.1 _ _ (by decide)).trans d1, (f2.1 _ _ (by decide)).trans d2, by rw [f1.1 58 4 (by decide)]; exact d3, yO_SZ (yO_Sf S (zfr_w f1 (by decide) (by decide) (by decide)) (zfr_w f2 (by decide) (by decide) (by decide))) (yO_Mf M f1 f2)⟩
theorem yO_cf (c : yO_c h g) (f1 : zfr yO_F1 yO_M1 [] h h') (f2 : zfr yO_F2 yO_M2 [] g g') : yO_c h' g' := by
  unfold yO_c
  rw [f1.1 0 2 (by decide), f1.1 0 3 (by decide), f2.1 68 80 (by decide), f2.1 68 81 (by decide)]
  exact c
theorem yO_el (D : yO_D h g) : (h.1 58 3) = (g.1 68 82) ∧ ((h.1 58 3) = 0 ∨ (h.1 58 3) = 1) := by
  rcases D with ⟨d1, d2⟩ | ⟨d1, d2, _⟩
  · exact ⟨d2.1.trans d1.symm, .inl d2.1⟩
  · exact ⟨d1.trans d2.symm, .inr d1⟩
/-- the tape has grown or shrunk, nothing else -/
theorem yO_tape (R : yO t h g) {t' : Nat} (H : yL_T t' h' g') (f1 : zfr [(0, 1)] [1] [] h h') (f2 : zfr [(68, 78)] [116] [] g g') : yO t' h' g' := by
  obtain ⟨_, N, io, c, ⟨s1, s2⟩, o, D⟩ := R
  refine ⟨H, yO_Nf N (zfr_w f1 (by decide) (by decide) (by decide)) (zfr_w f2 (by decide) (by decide) (by decide)), fun i hi => ?_, yO_cf c (zfr_w f1 (by decide) (by decide) (by decide)) (zfr_w f2 (by decide) (by decide) (by decide)), ⟨?_, ?_⟩, ?_, yO_Df D (zfr_w f1 (by decide) (by decide) (by decide)) (zfr_w f2 (by decide) (by decide) (by decide))⟩
  · rw [f1.2.1 _ (by decide), f1.2.1 _ (by decide), f1.2.1 _ (by decide), f2.2.1 _ (by decide), f2.2.1 _ (by decide), f2.2.1 _ (by decide)]
    exact io i hi
  · exact (f1.1 _ _ (by decide)).trans (s1.trans (f2.1 _ _ (by decide)).symm)
  · exact (f1.1 _ _ (by decide)).trans (s2.trans (f2.1 _ _ (by decide)).symm)
  · obtain ⟨n, n1, n2, n3, n4⟩ := o
    exact ⟨n, n1, (f1.1 _ _ (by decide)).trans n2, (f2.1 _ _ (by decide)).trans n3, fun i hi => by rw [f1.2.1 _ (by decide), f2.2.1 _ (by decide)]; exact n4 i hi⟩
theorem yO_feed (R : yO t h g) (x1 x2 x3 x4 x5 : Int32) (ht : t + 20 ≤ 10240) : ∃ v h' g', f_Pk_feed h x1 x2 x3 x4 x5 = some (v, h') ∧ f_Mo_feed g x1 x2 x3 x4 x5 = some (v, g') ∧ yO (t + 20) h' g' ∧ zO_r h g h' g' := by
  obtain ⟨⟨t1, t2, t3⟩, t4, t5⟩ := R.1
  obtain ⟨⟨v, h'⟩, a1, a2, a3, a4, a5⟩ := zb_cf x1 x2 x3 x4 x5 t1 (by omega)
  obtain ⟨⟨v', g'⟩, b1, b2, b3, b4, b5⟩ := zb_mf x1 x2 x3 x4 x5 t2 (by omega)
  refine ⟨v, h', g', a1, by rw [b1]; congr 2; exact b2.trans a2.symm, yO_tape R ⟨⟨a3, b3, ht⟩, fun i => ?_, fun i hi => ?_⟩ a5 b5, zO_Cz a5, zO_Mz b5⟩
  · have a4' : h'.2.1 1 = _ := a4
    rw [a4']
    exact zb_4ok (zb_4ok (zb_4ok (zb_4ok (zb_4ok t4)))) i
  · have a4' : h'.2.1 1 = _ := a4
    have b4' : g'.2.1 116 = _ := b4
    rw [a4', b4']
    exact zb_4eq (zb_4eq (zb_4eq (zb_4eq (zb_4eq t5)))) i (by omega)
theorem yO_end (R : yO t h g) (x1 : Int32) : ∃ v h' g' t', f_Pk_end h x1 = some (v, h') ∧ f_Mo_end g x1 = some (v, g') ∧ t' ≤ t ∧ yO t' h' g' ∧ zO_r h g h' g' := by
  obtain ⟨⟨t1, t2, t3⟩, t4, t5⟩ := R.1
  unfold f_Pk_end f_Mo_end
  by_cases c1 : x1 < 0
  · rw [if_pos c1, if_pos c1]; exact ⟨_, _, _, t, rfl, rfl, Nat.le_refl _, R, zO_C0, zO_M0⟩
  rw [if_neg c1, if_neg c1]
  by_cases c2 : (20 : Int32) < x1
  · rw [if_pos c2, if_pos c2]; exact ⟨_, _, _, t, rfl, rfl, Nat.le_refl _, R, zO_C0, zO_M0⟩
  rw [if_neg c2, if_neg c2, t1, t2]
  by_cases c3 : 20 ≤ t
  · rw [if_pos ((zc_le (k := 20) (by decide) (by omega)).mpr c3), if_pos ((zc_le (k := 20) (by decide) (by omega)).mpr c3)]
    obtain ⟨a, a1, a2⟩ := yZ_nn (k := 20) c1 c2 (by decide)
    have e : nI t - 20 + x1 = nI (t - 20 + a) := by
      rw [a2, show nI t - 20 = nI (t - 20) from zi_sub (b := 20) c3, nI_add]
    rw [e]
    exact ⟨_, _, _, t - 20 + a, rfl, rfl, by omega, yO_tape R ⟨⟨rfl, rfl, by omega⟩, t4, fun i hi => t5 i (by omega)⟩ (zfr_F (by decide) zfr_rfl) (zfr_F (by decide) zfr_rfl), zO_Cz (fs := [(0, 1)]) (ms := []) (ls := []) (zfr_F (by decide) zfr_rfl), zO_Mz (fs := [(68, 78)]) (ms := []) (ls := []) (zfr_F (by decide) zfr_rfl)⟩
  · rw [if_neg (mt (zc_le (k := 20) (by decide) (by omega)).mp c3), if_neg (mt (zc_le (k := 20) (by decide) (by omega)).mp c3)]
    exact ⟨_, _, _, t, rfl, rfl, Nat.le_refl _, R, zO_C0, zO_M0⟩
theorem yO_station (R : yO t h g) (x1 : Int32) : ∃ v h' g', f_Pk_station h x1 = some (v, h') ∧ f_Mo_station g x1 = some (v, g') ∧ yO t h' g' ∧ zO_r h g h' g' := by
  unfold f_Pk_station f_Mo_station
  by_cases c1 : x1 < 1
  · rw [if_pos c1, if_pos c1]; exact ⟨_, _, _, rfl, rfl, R, zO_C0, zO_M0⟩
  rw [if_neg c1, if_neg c1]
  by_cases c2 : x1 ≤ 247
  · rw [if_pos c2, if_pos c2]
    obtain ⟨H, N, io, c, ⟨s1, s2⟩, o, D⟩ := R
    have f1 : zfr yO_f1 yO_m1 [] h (zs_uF h 66 2 x1) := zfr_F (by decide) zfr_rfl
    have f2 : zfr yO_f2 yO_m2 [] g (zs_uF g 68 83 x1) := zfr_F (by decide) zfr_rfl
    exact ⟨(h.1 66 2), zs_uF h 66 2 x1, zs_uF g 68 83 x1, rfl, congrArg some (Prod.ext s2.symm rfl), ⟨H, N, io, c, ⟨s1, rfl⟩, o, yO_Df D f1 f2⟩, zO_Cz f1, zO_Mz f2⟩
  · rw [if_neg c2, if_neg c2]; exact ⟨_, _, _, rfl, rfl, R, zO_C0, zO_M0⟩
theorem yO_byteAt (R : yO t h g) (x1 : Int32) : ∃ v, f_Pk_byteAt h x1 = some v ∧ f_Mo_byteAt g x1 = some v := by
  obtain ⟨n, n1, n2, n3, n4⟩ := R.2.2.2.2.2.1
  unfold f_Pk_byteAt f_Mo_byteAt
  rw [n2, n3]
  by_cases c1 : x1 < 0
  · rw [if_pos c1, if_pos c1]; exact ⟨_, rfl, rfl⟩
  rw [if_neg c1, if_neg c1]
  by_cases c2 : x1 < nI n
  · rw [if_pos c2, if_pos c2]
    obtain ⟨i, i1, i2⟩ := yZ_nn (k := n) c1 (fun q => Int32.lt_irrefl (Int32.lt_trans c2 q)) (by omega)
    subst i2
    have hi : i < n := (nI_ltI (by omega) (by omega)).mp c2
    rw [if_pos (zi_in (by omega) (show i < 256 by omega)), if_pos (zi_in (by omega) (show i < 300 by omega)), nI_clamp (by omega), n4 i hi]
    exact ⟨_, rfl, rfl⟩
  · rw [if_neg c2, if_neg c2]; exact ⟨_, rfl, rfl⟩
theorem yO_watched (R : yO t h g) : f_Pk_watched h = f_Mo_watched g := R.2.2.2.2.1.1
theorem yO_i {c : Prop} [Decidable c] {A A' : Option Int32} {B B' : Int32} (h1 : A = some B) (h2 : A' = some B') : (if c then A else A') = some (if c then B else B') := by
  split
  · exact h1
  · exact h2
theorem yO_count (R : yO t h g) (x1 : Int32) : f_Mo_count g x1 = some (f_Pk_count h x1) := by
  obtain ⟨H, N, io, ⟨c1, c2⟩, _, o, D⟩ := R
  unfold f_Mo_count f_Pk_count
  rw [c1, c2]
  rcases D with ⟨d1, ⟨u1, u2, u3, u4, u5, u6, u7⟩⟩ | ⟨d1, d2, d3, Z⟩
  · have p0 : ∀ {α : Type} (a b : α), (if (0 : Int32) = 0 then a else b) = a := fun a b => if_pos rfl
    rw [d1, u1, u2, u3, u4, u5, u6, u7, p0, p0, p0, p0, p0, p0, p0, p0, p0]
    exact yO_i rfl (yO_i (yO_i rfl rfl) (yO_i rfl (yO_i rfl (yO_i rfl (yO_i rfl (yO_i rfl (yO_i rfl (yO_i rfl (yO_i rfl rfl)))))))))
  · obtain ⟨LC, LM, nb, F, X, Y, K, T, w, h0, g0, ⟨P, E, ⟨L1, ⟨L2, L2'⟩, ⟨_, _, _, _, l6⟩, ⟨_, _, _, m4, m5⟩⟩, ⟨B1, B2, B3⟩, _⟩, ⟨_, _, ⟨M3, M4, M5, M6⟩, M7⟩⟩ := yO_ZS Z
    obtain ⟨⟨n0, n16⟩, _⟩ := P
    have e2 : (lN w).toInt32 = nI w := by rw [← zj_32 (by omega)]; exact Int32.toInt32_toInt64 _
    rw [d1, d2, M3, M4, M5, M6, M7, B2, B3, l6, m4, show nI nb - 1 = nI (nb - 1) from zi_sub (b := 1) (by omega), if_pos (zi_in (by omega) (show nb - 1 < 16 by omega)), nI_clamp (by omega), m5, e2]
    have p1 : ∀ {α : Type} (a b : α), (if (1 : Int32) = 0 then a else b) = b := fun a b => if_neg (by decide)
    simp only [p1]
    exact yO_i rfl (yO_i (yO_i rfl rfl) (yO_i rfl (yO_i rfl (yO_i rfl (yO_i rfl (yO_i rfl (yO_i rfl (yO_i rfl (yO_i (yO_i rfl rfl) rfl)))))))))
end YOR
