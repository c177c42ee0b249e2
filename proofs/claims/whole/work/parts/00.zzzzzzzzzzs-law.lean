/-! The law, over the functions alone: one call on both sides, many calls. -/
section ZLS
variable {h g h2 g2 : zs_H} {t : Nat}
theorem yO_mg (R : yO t h g) (hc : zO_M h h2) (hm : zO_C g g2) : yO t h2 g2 := by
  have f : ∀ k j, k < 68 → h2.1 k j = h.1 k j := fun k j hk => by rw [(hc k hk).1]
  have m : ∀ k, k < 68 → h2.2.1 k = h.2.1 k := fun k hk => (hc k hk).2.1
  have l : ∀ k, k < 68 → h2.2.2 k = h.2.2 k := fun k hk => (hc k hk).2.2
  have fg : ∀ k j, 68 ≤ k → g2.1 k j = g.1 k j := fun k j hk => by rw [(hm k hk).1]
  have mg : ∀ k, 68 ≤ k → g2.2.1 k = g.2.1 k := fun k hk => (hm k hk).2.1
  have lg : ∀ k, 68 ≤ k → g2.2.2 k = g.2.2 k := fun k hk => (hm k hk).2.2
  obtain ⟨⟨⟨t1, t2, t3⟩, t4, t5⟩, ⟨⟨n1, n2⟩, n3, n4, n5⟩, io, ⟨c1, c2⟩, ⟨s1, s2⟩, ⟨n, o1, o2, o3, o4⟩, D⟩ := R
  refine ⟨⟨⟨(f 0 1 (by decide)).trans t1, (fg 68 78 (by decide)).trans t2, t3⟩, fun i => by rw [m 1 (by decide)]; exact t4 i, fun i hi => by rw [mg 116 (by decide), m 1 (by decide)]; exact t5 i hi⟩, ⟨⟨by rw [m _ (by decide)]; exact n1, fun i hi => by rw [m _ (by decide)]; exact n2 i hi⟩, by rw [m _ (by decide)]; exact n3, (fg _ _ (by decide)).trans n4, (fg _ _ (by decide)).trans n5⟩, fun i hi => ?_, ⟨?_, ?_⟩, ⟨?_, ?_⟩, ⟨n, o1, (f _ _ (by decide)).trans o2, (fg _ _ (by decide)).trans o3, fun i hi => by rw [m 67 (by decide), mg 117 (by decide)]; exact o4 i hi⟩, ?_⟩
  · rw [m 59 (by decide), m 60 (by decide), m 61 (by decide), mg 118 (by decide), mg 119 (by decide), mg 120 (by decide)]
    exact io i hi
  · exact (f _ _ (by decide)).trans (c1.trans (fg _ _ (by decide)).symm)
  · rw [f 0 3 (by decide), fg 68 80 (by decide), fg 68 81 (by decide)]
    exact c2
  · exact (f _ _ (by decide)).trans (s1.trans (fg _ _ (by decide)).symm)
  · exact (f _ _ (by decide)).trans (s2.trans (fg _ _ (by decide)).symm)
  · rcases D with ⟨d1, ⟨u1, u2, u3, u4, u5, u6, u7⟩⟩ | ⟨d1, d2, d3, Z⟩
    · exact .inl ⟨(fg _ _ (by decide)).trans d1, (f _ _ (by decide)).trans u1, (f _ _ (by decide)).trans u2, (f _ _ (by decide)).trans u3, (f _ _ (by decide)).trans u4, (f _ _ (by decide)).trans u5, (f _ _ (by decide)).trans u6, (f _ _ (by decide)).trans u7⟩
    · obtain ⟨LC, LM, nb, F, X, Y, K, T, w, h0, g0, ⟨P, ⟨e1, e2, ⟨e3, e4, e5, e6, e7⟩, ⟨e8, e9, e10, e11⟩⟩, ⟨L1, L2, ⟨k1, ⟨k2, k3⟩, k4, k5, k6⟩, ⟨m1, m2, m3, m4, m5⟩⟩, ⟨B1, B2, B3⟩, NC, LD⟩, ⟨M1, M2, ⟨M3, M4, M5, M6⟩, M7⟩⟩ := yO_ZS Z
      refine .inr ⟨(f _ _ (by decide)).trans d1, (fg _ _ (by decide)).trans d2, by rw [f 58 4 (by decide)]; exact d3, yO_SZ (LC := LC) (LM := LM) (nb := nb) (F := F) (X := X) (Y := Y) (K := K) (T := T) (w := w) (h0 := h0) (g0 := g0) ⟨P, ⟨fun a ha hb => (m a (by omega)).trans (e1 a ha hb), fun a ha hb => (mg a (by omega)).trans (e2 a ha hb), ⟨(f _ _ (by decide)).trans e3, (f _ _ (by decide)).trans e4, (f _ _ (by decide)).trans e5, (f _ _ (by decide)).trans e6, (f _ _ (by decide)).trans e7⟩, ⟨(fg _ _ (by decide)).trans e8, (fg _ _ (by decide)).trans e9, (fg _ _ (by decide)).trans e10, (fg _ _ (by decide)).trans e11⟩⟩, ⟨L1, L2, ⟨fun u hu q => by rw [m _ (by decide)]; exact k1 u hu q, ⟨fun u hu => by rw [m _ (by decide)]; exact k2 u hu, (f _ _ (by decide)).trans k3⟩, yL_AC k4 (fun a ha hb => m a (by omega)), (f _ _ (by decide)).trans k5, (f _ _ (by decide)).trans k6⟩, ⟨fun u hu q => by rw [mg _ (by decide)]; exact m1 u hu q, fun u hu => by rw [mg _ (by decide)]; exact m2 u hu, yL_AM m3 (fun a ha hb => mg a (by omega)), (fg _ _ (by decide)).trans m4, by rw [lg _ (by decide)]; exact m5⟩⟩, ⟨(f _ _ (by decide)).trans B1, (f _ _ (by decide)).trans (B2.trans (fg _ _ (by decide)).symm), (f _ _ (by decide)).trans (B3.trans (fg _ _ (by decide)).symm)⟩, ?_, LD⟩ ⟨fun j hj => by rw [m 62 (by decide), mg 114 (by decide)]; exact M1 j hj, by rw [mg 114 (by decide)]; exact M2, ⟨(f _ _ (by decide)).trans (M3.trans (fg _ _ (by decide)).symm), (f _ _ (by decide)).trans (M4.trans (fg _ _ (by decide)).symm), (f _ _ (by decide)).trans (M5.trans (fg _ _ (by decide)).symm), (f _ _ (by decide)).trans (M6.trans (fg _ _ (by decide)).symm)⟩, (f _ _ (by decide)).trans (M7.trans (fg _ _ (by decide)).symm)⟩⟩
      unfold zn_C
      rw [f 2 5 (by decide), m 5 (by decide), m 4 (by decide), m 7 (by decide), m 6 (by decide)]
      exact NC
/-- a call of the class, a call of the model -/
def zlw_C (c : Nat) (a1 a2 a3 a4 a5 : Int32) (h : zs_H) : Option (Int32 × zs_H) := if c = 0 then f_Pk_feed h a1 a2 a3 a4 a5 else if c = 1 then f_Pk_end h a1 else if c = 2 then f_Pk_load h a1 else if c = 3 then f_Pk_restart h else if c = 4 then f_Pk_put h a1 a2 a3 else if c = 5 then (f_Pk_get h a1 a2).bind fun v => some (v, h) else if c = 6 then f_Pk_safe h a1 a2 a3 else if c = 7 then f_Pk_scan h a1 else if c = 8 then f_Pk_watch h else if c = 9 then some (f_Pk_watched h, h) else if c = 10 then f_Pk_frame h else if c = 11 then f_Pk_station h a1 else if c = 12 then (f_Pk_byteAt h a1).bind fun v => some (v, h) else some (f_Pk_count h a1, h)
def zlw_M (c : Nat) (a1 a2 a3 a4 a5 : Int32) (g : zs_H) : Option (Int32 × zs_H) := if c = 0 then f_Mo_feed g a1 a2 a3 a4 a5 else if c = 1 then f_Mo_end g a1 else if c = 2 then f_Mo_load g a1 else if c = 3 then f_Mo_restart g else if c = 4 then f_Mo_put g a1 a2 a3 else if c = 5 then (f_Mo_get g a1 a2).bind fun v => some (v, g) else if c = 6 then f_Mo_safe g a1 a2 a3 else if c = 7 then f_Mo_scan g a1 else if c = 8 then f_Mo_watch g else if c = 9 then some (f_Mo_watched g, g) else if c = 10 then f_Mo_frame g else if c = 11 then f_Mo_station g a1 else if c = 12 then (f_Mo_byteAt g a1).bind fun v => some (v, g) else (f_Mo_count g a1).bind fun v => some (v, g)
/-- one call, two states -/
theorem zlw_2 (R : yO t h g) (ht : t + 20 ≤ 10240) (c : Nat) (a1 a2 a3 a4 a5 : Int32) : ∃ v h' g' t', zlw_C c a1 a2 a3 a4 a5 h = some (v, h') ∧ zlw_M c a1 a2 a3 a4 a5 g = some (v, g') ∧ t' ≤ t + 20 ∧ yO t' h' g' ∧ zO_r h g h' g' := by
  unfold zlw_C zlw_M
  by_cases k : c = 0
  · rw [if_pos k, if_pos k]
    obtain ⟨v, h', g', b1, b2, b3, b4⟩ := yO_feed R a1 a2 a3 a4 a5 ht
    exact ⟨v, h', g', t + 20, b1, b2, Nat.le_refl _, b3, b4⟩
  rw [if_neg k, if_neg k]; clear k
  by_cases k : c = 1
  · rw [if_pos k, if_pos k]
    obtain ⟨v, h', g', t', b1, b2, b3, b4⟩ := yO_end R a1
    exact ⟨v, h', g', t', b1, b2, by omega, b4⟩
  rw [if_neg k, if_neg k]; clear k
  by_cases k : c = 2
  · rw [if_pos k, if_pos k]
    obtain ⟨v, h', g', t', b1, b2, b3, b4⟩ := yO_loadX R a1
    exact ⟨v, h', g', t', b1, b2, by omega, b4⟩
  rw [if_neg k, if_neg k]; clear k
  by_cases k : c = 3
  · rw [if_pos k, if_pos k]
    obtain ⟨v, h', g', b1, b2, b3⟩ := yO_restart R
    exact ⟨v, h', g', t, b1, b2, by omega, b3⟩
  rw [if_neg k, if_neg k]; clear k
  by_cases k : c = 4
  · rw [if_pos k, if_pos k]
    obtain ⟨v, h', g', b1, b2, b3⟩ := yO_put R a1 a2 a3
    exact ⟨v, h', g', t, b1, b2, by omega, b3⟩
  rw [if_neg k, if_neg k]; clear k
  by_cases k : c = 5
  · rw [if_pos k, if_pos k]
    obtain ⟨v, b1, b2⟩ := yO_get R a1 a2
    exact ⟨v, h, g, t, by rw [b1]; rfl, by rw [b2]; rfl, by omega, R, zO_C0, zO_M0⟩
  rw [if_neg k, if_neg k]; clear k
  by_cases k : c = 6
  · rw [if_pos k, if_pos k]
    obtain ⟨v, h', g', b1, b2, b3⟩ := yO_safe R a1 a2 a3
    exact ⟨v, h', g', t, b1, b2, by omega, b3⟩
  rw [if_neg k, if_neg k]; clear k
  by_cases k : c = 7
  · rw [if_pos k, if_pos k]
    obtain ⟨v, h', g', b1, b2, b3⟩ := yO_scan R a1
    exact ⟨v, h', g', t, b1, b2, by omega, b3⟩
  rw [if_neg k, if_neg k]; clear k
  by_cases k : c = 8
  · rw [if_pos k, if_pos k]
    obtain ⟨v, h', g', b1, b2, b3⟩ := yO_watch R
    exact ⟨v, h', g', 0, b1, b2, by omega, b3⟩
  rw [if_neg k, if_neg k]; clear k
  by_cases k : c = 9
  · rw [if_pos k, if_pos k, yO_watched R]
    exact ⟨_, h, g, t, rfl, rfl, by omega, R, zO_C0, zO_M0⟩
  rw [if_neg k, if_neg k]; clear k
  by_cases k : c = 10
  · rw [if_pos k, if_pos k]
    obtain ⟨v, h', g', b1, b2, b3, _, b4⟩ := yO_frame R
    exact ⟨v, h', g', 0, b1, b2, by omega, b3, b4⟩
  rw [if_neg k, if_neg k]; clear k
  by_cases k : c = 11
  · rw [if_pos k, if_pos k]
    obtain ⟨v, h', g', b1, b2, b3⟩ := yO_station R a1
    exact ⟨v, h', g', t, b1, b2, by omega, b3⟩
  rw [if_neg k, if_neg k]; clear k
  by_cases k : c = 12
  · rw [if_pos k, if_pos k]
    obtain ⟨v, b1, b2⟩ := yO_byteAt R a1
    exact ⟨v, h, g, t, by rw [b1]; rfl, by rw [b2]; rfl, by omega, R, zO_C0, zO_M0⟩
  rw [if_neg k, if_neg k]
  exact ⟨_, h, g, t, rfl, by rw [yO_count R]; rfl, by omega, R, zO_C0, zO_M0⟩
/-- one call, on the one state that there is -/
theorem zlw_1 (R : yO t h h) (ht : t + 20 ≤ 10240) (c : Nat) (a1 a2 a3 a4 a5 : Int32) : ∃ v h1 h2 t', zlw_C c a1 a2 a3 a4 a5 h = some (v, h1) ∧ zlw_M c a1 a2 a3 a4 a5 h1 = some (v, h2) ∧ t' ≤ t + 20 ∧ yO t' h2 h2 := by
  obtain ⟨v, h1, _, _, b1, _, _, _, b5, _⟩ := zlw_2 R ht c a1 a2 a3 a4 a5
  have R1 : yO t h h1 := yO_mg R zO_M0 b5
  obtain ⟨v', h1', g', t', d1, d2, d3, d4, d5, d6⟩ := zlw_2 R1 ht c a1 a2 a3 a4 a5
  have e : v' = v ∧ h1' = h1 := by
    rw [b1] at d1
    injection d1 with d1
    injection d1 with q1 q2
    exact ⟨q1.symm, q2.symm⟩
  obtain ⟨e1, e2⟩ := e
  subst e1
  subst e2
  exact ⟨v', h1', g', t', b1, d2, d3, yO_mg d4 d6 zO_C0⟩
end ZLS
