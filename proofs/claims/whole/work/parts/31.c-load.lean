/-! What a call costs. -/
theorem jp_25 {T : Nat → Int32} {t : Nat} (ht : t ≤ 10240) (hT : ∀ i, zb_ok (T i)) : ∀ (m i N : Nat) (g : zs_H), i + m = t → m < N → (g.1 68 1) = nI t → (∀ j, j < t → (g.2.1 116) j = T j) → (∀ j, j < i → (g.2.1 69) j = T j) → ∃ g', jl_L25 N g (nI i) = some g' ∧ zl_X g' T t := by
  intro m
  induction m with
  | zero =>
    intro i N g hi hN hs hm hx
    obtain ⟨N, rfl⟩ : ∃ z, N = z + 1 := ⟨N - 1, by omega⟩
    have e : i = t := hi
    subst e
    refine ⟨g, ?_, hs, by omega, hx⟩
    show jl_25 (jl_L25 N) g (nI i) = _
    unfold jl_25
    rw [hs, if_pos ((nI_leI (by omega) (by omega)).mpr (Nat.le_refl _))]
  | succ m ih =>
    intro i N g hi hN hs hm hx
    obtain ⟨N, rfl⟩ : ∃ z, N = z + 1 := ⟨N - 1, by omega⟩
    obtain ⟨g1, hg1⟩ : ∃ g1, g1 = zs_uM g 69 i (T i) := ⟨_, rfl⟩
    obtain ⟨g', a1, a3⟩ := ih (i + 1) N g1 (by omega) (by omega) (by rw [hg1]; exact hs) (by rw [hg1]; exact hm) (fun j hj => by
      rw [hg1, zu_MM]
      by_cases z : j = i
      · rw [if_pos ⟨rfl, z⟩, z]
      · rw [if_neg (fun w => z w.2)]; exact hx j (by omega))
    refine ⟨g', ?_, a3⟩
    show jl_25 (jl_L25 N) g (nI i) = _
    unfold jl_25
    rw [hs, if_neg (mt (nI_leI (by omega) (by omega)).mp (by omega)), if_pos (zi_in (by omega) (show i < 16384 by omega)), nI_clamp (by omega), hm i (by omega), yL_by (hT i), ← hg1, nI_1]
    exact a1
theorem jp_TX {LC LM : List (List Int32)} {t : zt_T} {s m B : Nat} {h g g2 : zs_H} (X : zk_TX LC LM t s m h g) (hB : m ≤ B) (hg : ∀ k, k ∈ [72, 75, 76, 77, 78] → g2.2.1 k = g.2.1 k) : jn_P B g2 := by
  obtain ⟨⟨W, u, ht, -⟩, -, -, -, -, -, -, hM, -⟩ := X
  subst ht
  obtain ⟨_, _, _, _, _, _, ok, _⟩ := W
  have hsz := zt_sz_le _ _ _ _ _ m hM (fun i hi => hi)
  have hc := zc_cnt_le (fun i => i < m) m
  have hG : jn_G g.2.1 (zt_n 0 0 0 u) (fun i => i < m) (-1) (nI 0) (nI 0) := zt_fr _ _ _ _ _ _ (fun i hi => ⟨fun kd k up z q => ⟨q.1, q.2.2.2.1, q.2.2.2.2⟩, rfl, rfl⟩) (fun i hi => hi) hM
  obtain ⟨i, P1, P2, z1, z2, q1, q2, q3, q4, q5, q6, q7, q8, q9⟩ := hG
  obtain ⟨⟨ok1, -⟩, ok2, ok3⟩ := ok
  have hi : (0 : Nat) = i := (nI_eq (by omega) (by omega)).mp q3
  subst hi
  refine ⟨g.2.1, u, hg, ⟨q2, q4.1, ⟨ok1, ok2⟩, P1, by rw [q4.2.2]; exact q7⟩, ?_⟩
  have : zt_sz (zt_n 0 0 0 u) = 1 + zt_sz u + 0 := rfl
  omega
theorem jp_load {t : Nat} {h h1 : zs_H} (R : yO t h h) (hm : zO_C h h1) : ∀ v h5 g, f_Mo_useTape h1 = some (v, h5) → jl_L25 zF (zs_uF h5 68 1 v) 0 = some g → jk_J (jn_P (1 + 2 * t)) g := by
  intro v h5 g e1 e2 h3 e3
  have hz := zF_big
  obtain ⟨H, ⟨K0, -⟩, -⟩ := R
  obtain ⟨h', k, L, -, -, HS, -⟩ := yL_c (bu := 100) H K0 (by decide) (by decide)
  obtain ⟨⟨a1, a2, a3⟩, a4, a5⟩ := H
  unfold f_Mo_useTape at e1
  injection e1 with e1
  injection e1 with w1 w2
  have w3 : v = nI t := by rw [← w1, (hm 68 (by decide)).1]; exact a2
  subst w2
  subst w3
  obtain ⟨g', b1, b3⟩ := jp_25 (T := (h.2.1 1)) a3 a4 t 0 zF (zs_uF (zs_uF h1 68 78 0) 68 1 (nI t)) (by omega) (by omega) rfl (fun j hj => by show h1.2.1 116 j = _; rw [(hm 116 (by decide)).2.1]; exact a5 j hj) (fun j hj => absurd hj (Nat.not_lt_zero j))
  have e4 : some g' = some g := b1.symm.trans e2
  injection e4 with e4
  subst e4
  obtain ⟨φ, hh, gg, p1, p2, p3, p4, p5, p6, p7⟩ := jp_parse HS b3
  rw [p2] at e3
  injection e3 with e3
  injection e3 with w4 w5
  have hφ : φ = 0 := (nI_eq (b := 0) (by omega) (by decide)).mp w4
  obtain ⟨tr, LM, s, m, TX, hmK⟩ := p6 hφ
  have hkn := HS.2.1
  subst w5
  exact jp_TX TX (by omega) (fun k hk => rfl)
theorem yO_loadR {t : Nat} {h g : zs_H} {bu : Nat} (R : yO t h g) (b3 : 100 ≤ bu) (b1 : bu ≤ 100000) : ∃ v h' g', f_Pk_load h (nI bu) = some (v, h') ∧ f_Mo_load g (nI bu) = some (v, g') ∧ yO 0 h' g' ∧ zO_r h g h' g' := by
  obtain ⟨H, N, io, c, ⟨s1, s2⟩, o, D⟩ := R
  obtain ⟨φ, h', g', a1, a2, a3, f1, f2, ⟨t1, t2⟩, ⟨e1, e2, e3⟩, N', io', alt⟩ := yL_load zcx_CX H N io b3 b1
  refine ⟨nI φ, h', g', a1, a2, ⟨⟨⟨t1, t2, by decide⟩, fun i => by rw [f1.2.1 _ (by decide)]; exact H.2.1 i, fun i hi => absurd hi (Nat.not_lt_zero i)⟩, N', io', ⟨e1.trans e2.symm, ?_⟩, ⟨?_, ?_⟩, ?_, ?_⟩, zO_Cz f1, zO_Mz f2⟩
  · rw [e3, e2]
    by_cases z : φ = 0
    · rw [if_pos z, if_pos (by rw [z]; rfl)]
    · rw [if_neg z, if_neg (fun q => z ((zc_eq (k := 0) (by decide) (by omega)).mp q))]
  · exact (f1.1 _ _ (by decide)).trans (s1.trans (f2.1 _ _ (by decide)).symm)
  · exact (f1.1 _ _ (by decide)).trans (s2.trans (f2.1 _ _ (by decide)).symm)
  · obtain ⟨n, n1, n2, n3, n4⟩ := o
    exact ⟨n, n1, (f1.1 _ _ (by decide)).trans n2, (f2.1 _ _ (by decide)).trans n3, fun i hi => by rw [f1.2.1 _ (by decide), f2.2.1 _ (by decide)]; exact n4 i hi⟩
  · rcases alt with ⟨_, q1, q2⟩ | ⟨_, q1, q2, q3⟩
    · exact .inl ⟨q1, q2⟩
    · exact .inr ⟨q1.1, q2, .inl q1.2, q3⟩
/-- what a call costs, in eight cells and 28 slots -/
def jw_u (c : Nat) (a1 : Int32) (t : Nat) : Nat := if c = 2 then (if ¬ a1 < 100 ∧ a1 ≤ 100000 then 1 + 2 * t else 0) else if c = 8 then 2 else 0
theorem zlw_3 {t : Nat} {h : zs_H} (R : yO t h h) (ht : t + 20 ≤ 10240) (c : Nat) (a1 a2 a3 a4 a5 : Int32) : ∃ v h1 h2 t', zlw_C c a1 a2 a3 a4 a5 h = some (v, h1) ∧ zlw_M c a1 a2 a3 a4 a5 h1 = some (v, h2) ∧ t' ≤ t + 20 ∧ yO t' h2 h2 ∧ zO_C h h1 ∧ jw_u c a1 t + 2 * t' ≤ 2 * t + 42 := by
  by_cases cl : c = 2 ∧ ¬ a1 < 100 ∧ a1 ≤ 100000
  · obtain ⟨k, c1, c2⟩ := cl
    obtain ⟨bu, b1, b2⟩ := yZ_nn (x := a1) (k := 100000) (fun q => c1 (Int32.lt_trans q (by decide))) (fun q => Int32.lt_irrefl (Int32.lt_of_le_of_lt c2 q)) (by decide)
    subst b2
    have b3 : 100 ≤ bu := by
      have := mt (zc_tl (k := 100) (t := bu) (by decide) (by omega)).mpr c1
      omega
    obtain ⟨v, h1, g0, d1, _, _, d4⟩ := yO_loadR R b3 b1
    have R1 : yO t h h1 := yO_mg R zO_M0 d4.1
    obtain ⟨v', h1', g', f1, f2, f3, f4⟩ := yO_loadR R1 b3 b1
    have e : v' = v ∧ h1' = h1 := by
      rw [d1] at f1
      injection f1 with f1
      injection f1 with q1 q2
      exact ⟨q1.symm, q2.symm⟩
    obtain ⟨e1, e2⟩ := e
    subst e1
    subst e2
    subst k
    refine ⟨v', h1', g', 0, d1, f2, by omega, yO_mg f3 f4.2 zO_C0, d4.1, ?_⟩
    unfold jw_u
    rw [if_pos rfl, if_pos ⟨c1, c2⟩]
    omega
  · obtain ⟨v, h1, _, _, b1, _, _, _, b5, _⟩ := zlw_2 R ht c a1 a2 a3 a4 a5
    have R1 : yO t h h1 := yO_mg R zO_M0 b5
    obtain ⟨v', h1', g', t', d1, d2, d3, d4, d5, d6⟩ := zlw_2 R1 ht c a1 a2 a3 a4 a5
    have e : v' = v ∧ h1' = h1 := by
      rw [b1] at d1
      injection d1 with d1
      injection d1 with q1 q2
      exact ⟨q1.symm, q2.symm⟩
    obtain ⟨e1, e2⟩ := e
    subst e1
    subst e2
    refine ⟨v', h1', g', t', b1, d2, d3, yO_mg d4 d6 zO_C0, b5, ?_⟩
    unfold jw_u
    by_cases k : c = 2
    · rw [if_pos k, if_neg (fun z => cl ⟨k, z⟩)]
      omega
    · rw [if_neg k]
      by_cases k8 : c = 8
      · rw [if_pos k8]; omega
      · rw [if_neg k8]; omega
