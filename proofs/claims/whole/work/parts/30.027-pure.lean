section
/-! The judge: the model gives a block's own cells. -/
def yg_w (p kd : Nat) (v : Int32) : Nat := if p = 0 then (if kd = 16 ∨ kd = 19 then 1 else 0) else (if kd = 25 ∧ 2 ≤ v then 1 else 0)
def yg_c (p : Nat) : zt_T → Nat
  | .leaf => 0
  | .inner kd kv _ l r => (if 30 ≤ zt_km kd then 0 else yg_w p kd kv.2 + yg_c p l) + yg_c p r
/-- the cells are told in this order -/
def yg_G (p : Nat) (g : zs_H) (Q : Nat → Prop) : Nat → zt_T → Int32 → Prop
  | _, .leaf, _ => True
  | n, .inner kd kv _ l r, x => ∃ b, Q b ∧ b < 33500 ∧ x = nI b ∧ (g.2.1 72) b = nI (zt_km kd) ∧ (30 ≤ zt_km kd ∨ ((p = 0 → kd = 16 → (g.2.1 101) b = nI n) ∧ (p = 0 → kd = 19 → (g.2.1 102) b = nI n) ∧ (p = 1 → kd = 25 → 2 ≤ kv.2 → (g.2.1 101) b = nI n) ∧ yg_G p g Q (n + yg_w p kd kv.2) l ((g.2.1 76) b))) ∧ yg_G p g Q (n + (if 30 ≤ zt_km kd then 0 else yg_w p kd kv.2 + yg_c p l)) r ((g.2.1 78) b)
theorem yg_Gf {p : Nat} {g g' : zs_H} {Q Q' : Nat → Prop} (hQ : ∀ j, Q j → Q' j) (e72 : g'.2.1 72 = g.2.1 72) (e76 : g'.2.1 76 = g.2.1 76) (e78 : g'.2.1 78 = g.2.1 78) (H : ∀ j, Q j → (p = 0 → (g.2.1 72) j = 16 → (g'.2.1 101) j = (g.2.1 101) j) ∧ (p = 0 → (g.2.1 72) j = 19 → (g'.2.1 102) j = (g.2.1 102) j) ∧ (p = 1 → (g.2.1 72) j = 25 → (g'.2.1 101) j = (g.2.1 101) j)) : ∀ (t : zt_T) (n : Nat) (x : Int32), yg_G p g Q n t x → yg_G p g' Q' n t x := by
  intro t
  induction t with
  | leaf => intro _ _ _; trivial
  | inner kd kv o l r ihl ihr =>
    intro n x ⟨b, b1, b2, b3, b4, b5, b6⟩
    obtain ⟨c1, c2, c3⟩ := H b b1
    refine ⟨b, hQ b b1, b2, b3, by rw [e72]; exact b4, ?_, by rw [e78]; exact ihr _ _ b6⟩
    rcases b5 with z | ⟨d1, d2, d3, d4⟩
    · exact .inl z
    · refine .inr ⟨fun h1 h2 => ?_, fun h1 h2 => ?_, fun h1 h2 h3 => ?_, by rw [e76]; exact ihl _ _ d4⟩
      · rw [c1 h1 (by rw [b4, h2]; rfl)]; exact d1 h1 h2
      · rw [c2 h1 (by rw [b4, h2]; rfl)]; exact d2 h1 h2
      · rw [c3 h1 (by rw [b4, h2]; rfl)]; exact d3 h1 h2 h3
/-- what it writes -/
def yg_O (p he m : Nat) (Q : Nat → Prop) (g g' : zs_H) : Prop := zfr [] [88, 101, 102] [] g g' ∧ (∀ j, (g'.2.1 88) j = if j = he then nI m else (g.2.1 88) j) ∧ (∀ j, ¬ Q j → (g'.2.1 101) j = (g.2.1 101) j ∧ (g'.2.1 102) j = (g.2.1 102) j) ∧ (∀ j, (p = 0 → ¬ (g.2.1 72) j = 16) → (p = 1 → ¬ (g.2.1 72) j = 25) → (g'.2.1 101) j = (g.2.1 101) j) ∧ (∀ j, (p = 0 → ¬ (g.2.1 72) j = 19) → (g'.2.1 102) j = (g.2.1 102) j)
theorem yg_Ot {p he m m' : Nat} {Q1 Q2 Q : Nat → Prop} {g g1 g2 : zs_H} (a : yg_O p he m Q1 g g1) (b : yg_O p he m' Q2 g1 g2) (h1 : ∀ j, Q1 j → Q j) (h2 : ∀ j, Q2 j → Q j) : yg_O p he m' Q g g2 := by
  obtain ⟨a1, a2, a3, a4, a5⟩ := a
  obtain ⟨b1, b2, b3, b4, b5⟩ := b
  have e72 : g1.2.1 72 = g.2.1 72 := a1.2.1 _ (by decide)
  refine ⟨zfr_trans a1 b1, fun j => ?_, fun j hj => ?_, fun j u v => ?_, fun j u => ?_⟩
  · rw [b2]
    by_cases z : j = he
    · rw [if_pos z, if_pos z]
    · rw [if_neg z, if_neg z, a2, if_neg z]
  · obtain ⟨x1, x2⟩ := a3 j (fun z => hj (h1 j z))
    obtain ⟨y1, y2⟩ := b3 j (fun z => hj (h2 j z))
    exact ⟨y1.trans x1, y2.trans x2⟩
  · exact (b4 j (by rw [e72]; exact u) (by rw [e72]; exact v)).trans (a4 j u v)
  · exact (b5 j (by rw [e72]; exact u)).trans (a5 j u)
theorem yg_uM {h : zs_H} {k i : Nat} {v : Int32} (j : Nat) : (zs_uM h k i v).2.1 k j = if j = i then v else h.2.1 k j := by
  rw [zu_MM]
  by_cases z : j = i
  · rw [if_pos ⟨rfl, z⟩, if_pos z]
  · rw [if_neg (fun q => z q.2), if_neg z]
section YD
variable {g : zs_H} {p he n b kd : Nat} {v : Int32}
theorem yg_v2 : ¬ v ≤ 1 ↔ 2 ≤ v := by
  rw [Int32.le_iff_toInt_le, Int32.le_iff_toInt_le]
  have e1 : (1 : Int32).toInt = 1 := by decide
  have e2 : (2 : Int32).toInt = 2 := by decide
  rw [e1, e2]
  omega
theorem yg_123 {K : zs_H → Int32 → Int32 → Option zs_H} {y0 : Int32} {w : Nat} (hb : b < 33500) (hhe : he < 2100) (hw : y0 = nI w) : f_Mo_give_123 K g (nI b) (nI p) y0 (nI n) (nI he) = f_Mo_give_L133 K zF (zs_uM g 88 he (nI (n + w))) (nI p) ((g.2.1 76) b) := by
  unfold f_Mo_give_123
  rw [if_pos (zi_in (by omega) hhe), if_pos (zi_in (by omega) hb), nI_clamp (show b < 2147483648 by omega), nI_clamp (show he < 2147483648 by omega), hw, show nI n + nI w = nI (n + w) from (Int32.ofNat_add n w).symm]
/-- a node -/
theorem yg_node {D : Nat} (hp : p = 0 ∨ p = 1) (hb : b < 33500) (hhe : he < 2100) (hkd : kd < 100) (e1 : (g.1 68 54) = nI he) (e2 : (g.2.1 88) he = nI n) (e3 : (g.2.1 72) b = nI kd) (e4 : kd = 25 → (g.2.1 74) b = v) :
    ∃ g1, f_Mo_give (D + 1) g (nI b) (nI p) = f_Mo_give_L133 (f_Mo_give D) zF g1 (nI p) ((g1.2.1 76) b) ∧ yg_O p he (n + yg_w p kd v) (fun j => j = b) g g1 ∧ (p = 0 → kd = 16 → (g1.2.1 101) b = nI n) ∧ (p = 0 → kd = 19 → (g1.2.1 102) b = nI n) ∧ (p = 1 → kd = 25 → 2 ≤ v → (g1.2.1 101) b = nI n) := by
  have hz1 := zi_in (a := b) (n := 33500) (by omega) hb
  have hz2 := zi_in (a := he) (n := 2100) (by omega) hhe
  have cb : (nI b).toNatClampNeg = b := nI_clamp (by omega)
  have ch : (nI he).toNatClampNeg = he := nI_clamp (by omega)
  have k16 : (nI kd = 16) ↔ kd = 16 := zc_eq (k := 16) (by decide) (by omega)
  have k19 : (nI kd = 19) ↔ kd = 19 := zc_eq (k := 19) (by decide) (by omega)
  have k25 : (nI kd = 25) ↔ kd = 25 := zc_eq (k := 25) (by decide) (by omega)
  have u : f_Mo_give (D + 1) g (nI b) (nI p) = g_Mo_give (f_Mo_give D) g (nI b) (nI p) := rfl
  have e0 : f_Mo_give_52 (f_Mo_give D) g (nI b) (nI p) (nI kd) 0 = f_Mo_give_L133 (f_Mo_give D) zF (zs_uM g 88 he (nI (n + 0))) (nI p) ((g.2.1 76) b) := by
    unfold f_Mo_give_52 f_Mo_give_83 f_Mo_give_103
    rw [if_pos rfl, if_pos rfl, e1, if_pos hz2, if_pos rfl, ch, e2]
    exact yg_123 hb hhe rfl
  have e103 : ∀ g' : zs_H, (g'.1 68 54) = nI he → (g'.2.1 88) he = nI n → f_Mo_give_103 (f_Mo_give D) g' (nI b) (nI p) 1 = f_Mo_give_L133 (f_Mo_give D) zF (zs_uM g' 88 he (nI (n + 1))) (nI p) ((g'.2.1 76) b) := by
    intro g' q1 q2
    unfold f_Mo_give_103
    rw [q1, if_pos hz2, if_neg (by decide), ch, q2]
    exact yg_123 hb hhe rfl
  have e19 : kd = 19 → f_Mo_give_52 (f_Mo_give D) g (nI b) (nI p) (nI kd) 1 = f_Mo_give_L133 (f_Mo_give D) zF (zs_uM (zs_uM g 102 b (nI n)) 88 he (nI (n + 1))) (nI p) ((g.2.1 76) b) := by
    intro z
    unfold f_Mo_give_52
    rw [if_neg (by decide), if_pos (k19.mpr z), e1, if_pos hz2, if_pos hz1, cb, ch, e2]
    exact e103 _ e1 e2
  have e16 : ¬ kd = 19 → f_Mo_give_52 (f_Mo_give D) g (nI b) (nI p) (nI kd) 1 = f_Mo_give_L133 (f_Mo_give D) zF (zs_uM (zs_uM g 101 b (nI n)) 88 he (nI (n + 1))) (nI p) ((g.2.1 76) b) := by
    intro z
    unfold f_Mo_give_52 f_Mo_give_83
    rw [if_neg (by decide), if_neg (mt k19.mp z), if_neg (by decide), e1, if_pos hz2, if_pos hz1, cb, ch, e2]
    exact e103 _ e1 e2
  have O0 : yg_O p he (n + 0) (fun j => j = b) g (zs_uM g 88 he (nI (n + 0))) := ⟨zfr_M (by decide) zfr_rfl, yg_uM, fun _ _ => ⟨rfl, rfl⟩, fun _ _ _ => rfl, fun _ _ => rfl⟩
  have O1 : (p = 0 → (g.2.1 72) b = 16) → (p = 1 → (g.2.1 72) b = 25) → yg_O p he (n + 1) (fun j => j = b) g (zs_uM (zs_uM g 101 b (nI n)) 88 he (nI (n + 1))) := fun q1 q2 => ⟨zfr_M (by decide) (zfr_M (by decide) zfr_rfl), yg_uM, fun j hj => ⟨(yg_uM (h := g) j).trans (if_neg hj), rfl⟩, fun j z1 z2 => (yg_uM (h := g) j).trans (if_neg fun z => by
    subst z
    rcases hp with e | e
    · exact z1 e (q1 e)
    · exact z2 e (q2 e)), fun _ _ => rfl⟩
  have O2 : p = 0 → (g.2.1 72) b = 19 → yg_O p he (n + 1) (fun j => j = b) g (zs_uM (zs_uM g 102 b (nI n)) 88 he (nI (n + 1))) := fun q1 q2 => ⟨zfr_M (by decide) (zfr_M (by decide) zfr_rfl), yg_uM, fun j hj => ⟨rfl, (yg_uM (h := g) j).trans (if_neg hj)⟩, fun _ _ _ => rfl, fun j z1 => (yg_uM (h := g) j).trans (if_neg fun z => by
    subst z
    exact z1 q1 q2)⟩
  rw [u]
  unfold g_Mo_give f_Mo_give_47 f_Mo_give_31
  rw [if_pos hz1, cb, e3]
  rcases hp with hp | hp
  · subst hp
    rw [if_pos (show nI 0 = 0 from rfl)]
    by_cases z16 : kd = 16
    · rw [if_pos (k16.mpr z16), e16 (by omega), show yg_w 0 kd v = 1 by unfold yg_w; rw [if_pos rfl, if_pos (.inl z16)]]
      exact ⟨_, rfl, O1 (fun _ => by rw [e3, z16]; rfl) (fun z => absurd z (by decide)), fun _ _ => (yg_uM (h := g) b).trans (if_pos rfl), fun _ z => absurd z (by omega), fun z => absurd z (by decide)⟩
    · rw [if_neg (mt k16.mp z16)]
      by_cases z19 : kd = 19
      · rw [if_pos (k19.mpr z19), e19 z19, show yg_w 0 kd v = 1 by unfold yg_w; rw [if_pos rfl, if_pos (.inr z19)]]
        exact ⟨_, rfl, O2 rfl (by rw [e3, z19]; rfl), fun _ z => absurd z z16, fun _ _ => (yg_uM (h := g) b).trans (if_pos rfl), fun z => absurd z (by decide)⟩
      · rw [if_neg (mt k19.mp z19), e0, show yg_w 0 kd v = 0 by unfold yg_w; rw [if_pos rfl, if_neg (by omega)]]
        exact ⟨_, rfl, O0, fun _ z => absurd z z16, fun _ z => absurd z z19, fun z => absurd z (by decide)⟩
  · subst hp
    rw [if_neg (show ¬ nI 1 = 0 by decide)]
    by_cases z25 : kd = 25
    · rw [if_pos (k25.mpr z25), e4 z25]
      by_cases zv : v ≤ 1
      · have zv' : ¬ 2 ≤ v := fun z => (yg_v2.mpr z) zv
        rw [if_pos zv, e0, show yg_w 1 kd v = 0 by unfold yg_w; rw [if_neg (by decide), if_neg (fun z => zv' z.2)]]
        exact ⟨_, rfl, O0, fun z => absurd z (by decide), fun z => absurd z (by decide), fun _ _ z => absurd z zv'⟩
      · rw [if_neg zv, e16 (by omega), show yg_w 1 kd v = 1 by unfold yg_w; rw [if_neg (by decide), if_pos ⟨z25, yg_v2.mp zv⟩]]
        exact ⟨_, rfl, O1 (fun z => absurd z (by decide)) (fun _ => by rw [e3, z25]; rfl), fun z => absurd z (by decide), fun z => absurd z (by decide), fun _ _ _ => (yg_uM (h := g) b).trans (if_pos rfl)⟩
    · rw [if_neg (mt k25.mp z25), e0, show yg_w 1 kd v = 0 by unfold yg_w; rw [if_neg (by decide), if_neg (fun z => z25 z.1)]]
      exact ⟨_, rfl, O0, fun z => absurd z (by decide), fun z => absurd z (by decide), fun _ z => absurd z z25⟩
end YD
theorem yg_km {p kd : Nat} {v : Int32} : yg_w p (zt_km kd) v = yg_w p kd v := by
  have k0 : ∀ c, c = 6 ∨ c = 37 ∨ c = 38 → yg_w p c v = 0 := by
    intro c hc
    unfold yg_w
    rw [if_neg (show ¬ (c = 16 ∨ c = 19) by omega), if_neg (show ¬ (c = 25 ∧ 2 ≤ v) from fun z => by omega), ite_self]
  unfold zt_km
  by_cases a : kd = 37
  · rw [if_pos a, a, k0 6 (by omega), k0 37 (by omega)]
  · rw [if_neg a]
    by_cases b : kd = 38
    · rw [if_pos b, b, k0 6 (by omega), k0 38 (by omega)]
    · rw [if_neg b]
theorem yg_kmc {kd c : Nat} (hc : c = 16 ∨ c = 19 ∨ c = 25) : zt_km kd = c ↔ kd = c := by
  unfold zt_km
  by_cases a : kd = 37
  · rw [if_pos a, a]; rcases hc with e | e | e <;> rw [e] <;> decide
  · rw [if_neg a]
    by_cases b : kd = 38
    · rw [if_pos b, b]; rcases hc with e | e | e <;> rw [e] <;> decide
    · rw [if_neg b]
theorem zg_A100 {kd st : Nat} (h : zg_A kd st = true) : kd < 100 := by
  have key : ∀ r ∈ [(0, 0), (1, 2), (2, 2), (3, 2), (4, 0), (5, 3), (5, 4), (6, 0), (7, 0), (8, 0), (9, 3), (10, 0), (11, 0), (12, 2), (13, 0), (14, 1), (15, 2), (15, 3), (16, 1), (16, 2), (17, 2), (18, 1), (18, 2), (19, 4), (20, 0), (21, 0), (22, 0), (23, 1), (24, 1), (25, 1), (26, 0), (27, 0), (28, 1), (29, 0), (30, 0), (31, 0), (32, 1), (33, 1), (34, 0), (35, 2), (36, 1), (37, 0), (38, 0)], r.1 < 100 := by decide +kernel
  unfold zg_A at h
  rw [List.elem_eq_mem, decide_eq_true_eq] at h
  exact key _ h
/-- a forest -/
theorem yg_give {LC LM : List (List Int32)} {p he : Nat} (hp : p = 0 ∨ p = 1) (hhe : he < 2100) : ∀ (t : zt_T) (D N n : Nat) (g : zs_H) (Q : Nat → Prop) (up x y : Int32), zg_ok t → zt_M LC LM g t Q up x y → (∀ j, Q j → j < 33500) → (g.1 68 54) = nI he → (g.2.1 88) he = nI n → zg_d t ≤ D → zt_ln t < N → zt_sz t < zF → ∃ g', f_Mo_give_L133 (f_Mo_give D) N g (nI p) x = some g' ∧ yg_O p he (n + yg_c p t) Q g g' ∧ yg_G p g' Q n t x := by
  have uL : ∀ (D N : Nat) (g : zs_H) (x1 x : Int32), f_Mo_give_L133 (f_Mo_give D) (N + 1) g x1 x = f_Mo_give_133 (f_Mo_give D) (f_Mo_give_L133 (f_Mo_give D) N) g x1 x := fun _ _ _ _ _ => rfl
  intro t
  induction t with
  | leaf =>
    intro D N n g Q up x y _ hM _ e1 e2 _ hN _
    obtain ⟨N, rfl⟩ : ∃ z, N = z + 1 := ⟨N - 1, by have : zt_ln .leaf = 0 := rfl; omega⟩
    rw [(show x = -1 ∧ y = -1 from hM).1, uL]
    unfold f_Mo_give_133
    rw [if_pos (by decide)]
    refine ⟨g, rfl, ⟨zfr_rfl, fun j => ?_, fun _ _ => ⟨rfl, rfl⟩, fun _ _ _ => rfl, fun _ _ => rfl⟩, trivial⟩
    by_cases z : j = he
    · rw [if_pos z, z]; exact e2
    · rw [if_neg z]
  | inner kd kv o l r ihl ihr =>
    intro D N n g Q up x y ⟨⟨hA, _⟩, okl, okr⟩ hM hQ e1 e2 hD hN hs
    have hl : zt_ln (.inner kd kv o l r) = 1 + zt_ln r := rfl
    have hs' : 1 + zt_sz l + zt_sz r < zF := hs
    have hlz := zv_lnsz l
    have hD' : max (zg_d l + 1) (zg_d r) ≤ D := Nat.le_trans zg_d1 hD
    have hkd : kd < 100 := zg_A100 hA
    have hkm : zt_km kd < 100 := by unfold zt_km; split; decide; split; decide; exact hkd
    obtain ⟨N, rfl⟩ : ∃ z, N = z + 1 := ⟨N - 1, by omega⟩
    obtain ⟨D, rfl⟩ : ∃ z, D = z + 1 := ⟨D - 1, by omega⟩
    obtain ⟨b, Q1, Q2, z2, b0, _, b2, b3, _, b5, _, b7, b8, b9, b10, _⟩ := zv_hM hM
    have hb := hQ b b2
    have q30 : ((30 : Int32) ≤ nI (zt_km kd)) ↔ 30 ≤ zt_km kd := zc_le (k := 30) (by decide) (by omega)
    have kp : ∀ (g' : zs_H) (u : zt_T) (Qu : Nat → Prop) (a c d : Int32), zfr [] [88, 101, 102] [] g g' → zt_M LC LM g u Qu a c d → zt_M LC LM g' u Qu a c d := by
      intro g' u Qu a c d f hu
      refine zt_fr u Qu Qu a c d (fun i _ => ?_) (fun i hi => hi) hu
      exact ⟨fun kd k up z hz => by unfold zt_NM at hz ⊢; rw [f.2.1 72 (by decide), f.2.1 73 (by decide), f.2.1 74 (by decide), f.2.1 75 (by decide), f.2.1 77 (by decide)]; exact hz, by rw [f.2.1 _ (by decide)], by rw [f.2.1 _ (by decide)]⟩
    have e157 : ∀ g2 : zs_H, (g2.2.1 78) b = (g.2.1 78) b → f_Mo_give_157 (f_Mo_give (D + 1)) (f_Mo_give_L133 (f_Mo_give (D + 1)) N) g2 (nI p) (nI b) = f_Mo_give_L133 (f_Mo_give (D + 1)) N g2 (nI p) ((g.2.1 78) b) := by
      intro g2 q
      unfold f_Mo_give_157
      rw [if_pos (zi_in (by omega) hb), nI_clamp (show b < 2147483648 by omega), q]
    rw [b0, uL]
    unfold f_Mo_give_133
    rw [if_neg (zv_neg (show b < 2147483648 by omega)).2, if_pos (zi_in (by omega) hb), nI_clamp (show b < 2147483648 by omega), b3]
    by_cases z30 : 30 ≤ zt_km kd
    · obtain ⟨g', r1, r2, r3⟩ := ihr (D + 1) N n g Q2 up _ z2 okr b10 (fun j hj => hQ j (b8 j hj).1) e1 e2 (by omega) (by omega) (by omega)
      rw [if_pos (q30.mpr z30), e157 g rfl]
      have ec : n + yg_c p (.inner kd kv o l r) = n + yg_c p r := by
        show n + ((if 30 ≤ zt_km kd then 0 else yg_w p kd kv.2 + yg_c p l) + yg_c p r) = _
        rw [if_pos z30]; omega
      have e72 : g'.2.1 72 = g.2.1 72 := r2.1.2.1 _ (by decide)
      have e78 : g'.2.1 78 = g.2.1 78 := r2.1.2.1 _ (by decide)
      refine ⟨g', r1, ?_, b, b2, hb, rfl, by rw [e72]; exact b3, .inl z30, ?_⟩
      · rw [ec]
        exact ⟨r2.1, r2.2.1, fun j hj => r2.2.2.1 j (fun z => hj (b8 j z).1), r2.2.2.2⟩
      · rw [if_pos z30, e78]
        exact yg_Gf (fun j z => (b8 j z).1) rfl rfl rfl (fun j _ => ⟨fun _ _ => rfl, fun _ _ => rfl, fun _ _ => rfl⟩) r _ _ r3
    · obtain ⟨g1, r1, O1, w1, w2, w3⟩ := yg_node (D := D) (v := kv.2) hp hb hhe hkm e1 e2 b3 (fun z => by
        have z' := (yg_kmc (.inr (.inr rfl))).mp z
        rw [z', if_neg (show ¬ zt_nk 25 = true by decide)] at b5
        exact b5)
      rw [yg_km] at O1
      have f1 := O1.1
      have g1a : ∀ z, ¬ z ∈ [88, 101, 102] → g1.2.1 z = g.2.1 z := fun z hz => f1.2.1 z hz
      obtain ⟨g2, s1, O2, G2⟩ := ihl D zF (n + yg_w p kd kv.2) g1 Q1 (nI b) _ _ okl (kp g1 l Q1 _ _ _ f1 b9) (fun j hj => hQ j (b7 j hj).1) ((f1.1 _ _ List.not_mem_nil).trans e1) (by rw [O1.2.1, if_pos rfl]) (by omega) (by omega) (by omega)
      have O12 := yg_Ot O1 O2 (Q := fun j => j = b ∨ Q1 j) (fun j z => .inl z) (fun j z => .inr z)
      obtain ⟨g3, t1, O3, G3⟩ := ihr (D + 1) N (n + yg_w p kd kv.2 + yg_c p l) g2 Q2 up _ z2 okr (kp g2 r Q2 _ _ _ O12.1 b10) (fun j hj => hQ j (b8 j hj).1) ((O12.1.1 _ _ List.not_mem_nil).trans e1) (by rw [O12.2.1, if_pos rfl]) (by omega) (by omega) (by omega)
      have O := yg_Ot O12 O3 (Q := Q) (fun j z => by rcases z with z | z; exact z ▸ b2; exact (b7 j z).1) (fun j z => (b8 j z).1)
      have ec : n + yg_c p (.inner kd kv o l r) = n + yg_w p kd kv.2 + yg_c p l + yg_c p r := by
        show n + ((if 30 ≤ zt_km kd then 0 else yg_w p kd kv.2 + yg_c p l) + yg_c p r) = _
        rw [if_neg z30]; omega
      have g3a : ∀ z, ¬ z ∈ [88, 101, 102] → g3.2.1 z = g.2.1 z := fun z hz => O.1.2.1 z hz
      have g23 : ∀ z, ¬ z ∈ [88, 101, 102] → g3.2.1 z = g2.2.1 z := fun z hz => O3.1.2.1 z hz
      have nb2 : ¬ Q2 b := fun z => (b8 b z).2 rfl
      have nb1 : ¬ Q1 b := fun z => (b7 b z).2.1 rfl
      have c3 : (g3.2.1 101) b = (g1.2.1 101) b := (O3.2.2.1 b nb2).1.trans (O2.2.2.1 b nb1).1
      have c4 : (g3.2.1 102) b = (g1.2.1 102) b := (O3.2.2.1 b nb2).2.trans (O2.2.2.1 b nb1).2
      have fst : (g1.2.1 76) b = (g.2.1 76) b := by rw [g1a _ (by decide)]
      rw [if_neg (mt q30.mp z30), r1, fst]
      refine ⟨g3, ?_, ?_, b, b2, hb, rfl, by rw [g3a _ (by decide)]; exact b3, .inr ⟨fun h1 h2 => ?_, fun h1 h2 => ?_, fun h1 h2 h3 => ?_, ?_⟩, ?_⟩
      · rw [s1, Option.bind_some, e157 g2 (by rw [O12.1.2.1 _ (by decide)])]
        exact t1
      · rw [ec]; exact O
      · rw [c3]; exact w1 h1 ((yg_kmc (.inl rfl)).mpr h2)
      · rw [c4]; exact w2 h1 ((yg_kmc (.inr (.inl rfl))).mpr h2)
      · rw [c3]; exact w3 h1 ((yg_kmc (.inr (.inr rfl))).mpr h2) h3
      · rw [g3a 76 (by decide)]
        exact yg_Gf (fun j z => (b7 j z).1) (g23 _ (by decide)) (g23 _ (by decide)) (g23 _ (by decide)) (fun j hj => ⟨fun _ _ => (O3.2.2.1 j (b7 j hj).2.2).1, fun _ _ => (O3.2.2.1 j (b7 j hj).2.2).2, fun _ _ => (O3.2.2.1 j (b7 j hj).2.2).1⟩) l _ _ G2
      · rw [if_neg z30, g3a 78 (by decide), ← Nat.add_assoc]
        exact yg_Gf (fun j z => (b8 j z).1) rfl rfl rfl (fun j _ => ⟨fun _ _ => rfl, fun _ _ => rfl, fun _ _ => rfl⟩) r _ _ G3
end
section
/-! The judge: a block's own cells, counted; a block is left. -/
theorem yg_w0 {p kd : Nat} {v : Int32} (h : ¬ (kd = 16 ∨ kd = 19)) (h2 : ¬ kd = 25) : yg_w p kd v = 0 := by
  unfold yg_w
  rw [if_neg h, if_neg (show ¬ (kd = 25 ∧ 2 ≤ v) from fun z => h2 z.1), ite_self]
def yg_tp : zt_T → Prop
  | .leaf => True
  | .inner kd _ _ _ r => ¬ kd ∈ [0, 1, 2, 3, 22] ∧ yg_tp r
theorem yg_gt {kd : Nat} (hkd : ¬ kd ∈ [0, 1, 2, 3]) : ∀ {l : zt_T} {st : Nat}, ¬ zg_run kd st l = 99 → yg_tp l := by
  have key : ∀ r ∈ zg_R, ¬ r.1 ∈ [0, 1, 2, 3] → ∀ c ∈ r.2.2.1, ¬ c ∈ [0, 1, 2, 3, 22] := by decide +kernel
  intro l
  induction l with
  | leaf => intro _ _; trivial
  | inner c kv o lc r _ ihr =>
    intro st h
    obtain ⟨p, h1⟩ := yl_gr (kd := kd) (p := fun c => ¬ c ∈ [0, 1, 2, 3, 22]) (fun r hr e c hc => key r hr (by rw [e]; exact hkd) c hc) h
    exact ⟨p, ihr h1⟩
theorem zg_A39 {kd st : Nat} (h : zg_A kd st = true) : kd < 39 := by
  have key : ∀ r ∈ [(0, 0), (1, 2), (2, 2), (3, 2), (4, 0), (5, 3), (5, 4), (6, 0), (7, 0), (8, 0), (9, 3), (10, 0), (11, 0), (12, 2), (13, 0), (14, 1), (15, 2), (15, 3), (16, 1), (16, 2), (17, 2), (18, 1), (18, 2), (19, 4), (20, 0), (21, 0), (22, 0), (23, 1), (24, 1), (25, 1), (26, 0), (27, 0), (28, 1), (29, 0), (30, 0), (31, 0), (32, 1), (33, 1), (34, 0), (35, 2), (36, 1), (37, 0), (38, 0)], r.1 < 39 := by decide +kernel
  unfold zg_A at h
  rw [List.elem_eq_mem, decide_eq_true_eq] at h
  exact key _ h
theorem yg_E {kd : Nat} (h : kd < 39) (h2 : 30 ≤ zt_km kd) : kd ∈ yb_E := by
  unfold zt_km at h2
  split at h2
  · omega
  · split at h2
    · omega
    · have : kd = 30 ∨ kd = 31 ∨ kd = 32 ∨ kd = 33 ∨ kd = 34 ∨ kd = 35 ∨ kd = 36 := by omega
      rcases this with e | e | e | e | e | e | e <;> rw [e] <;> decide
theorem yg_oE {kd : Nat} {kv : Int32 × Int32} {o : Unit} {l : zt_T} (ok : zg_ok (.inner kd kv o l .leaf)) (hE : kd ∈ yb_E) : (if kd = 16 ∨ kd = 19 then 1 else if kd = 22 then 156 else if kd = 25 ∧ 2 ≤ kv.2 then 1 else 0) + yc_o l = 0 := yc_oE (.inner kd kv o l .leaf) ok ⟨hE, trivial⟩
theorem yg_o : ∀ t : zt_T, zg_ok t → yg_tp t → yc_o t = yg_c 0 t + yg_c 1 t := by
  intro t
  induction t with
  | leaf => intro _ _; rfl
  | inner kd kv o l r ihl ihr =>
    intro ⟨⟨hA, hv⟩, okl, okr⟩ ⟨hk, tr⟩
    have h22 : ¬ kd = 22 := fun z => hk (by rw [z]; decide)
    have hr := ihr okr tr
    have hl := ihl okl (yg_gt (fun z => hk (by simp only [List.mem_cons, List.not_mem_nil, or_false] at z ⊢; omega)) (yc_gA hA))
    show (if kd = 16 ∨ kd = 19 then 1 else if kd = 22 then 156 else if kd = 25 ∧ 2 ≤ kv.2 then 1 else 0) + yc_o l + yc_o r = ((if 30 ≤ zt_km kd then 0 else yg_w 0 kd kv.2 + yg_c 0 l) + yg_c 0 r) + ((if 30 ≤ zt_km kd then 0 else yg_w 1 kd kv.2 + yg_c 1 l) + yg_c 1 r)
    by_cases z : 30 ≤ zt_km kd
    · rw [yg_oE (kv := kv) (o := o) ⟨⟨hA, hv⟩, okl, trivial⟩ (yg_E (zg_A39 hA) z), if_pos z, if_pos z]
      omega
    · rw [if_neg z, if_neg z, if_neg h22]
      have e : (if kd = 16 ∨ kd = 19 then 1 else if kd = 25 ∧ 2 ≤ kv.2 then 1 else 0) = yg_w 0 kd kv.2 + yg_w 1 kd kv.2 := by
        unfold yg_w
        rw [if_pos rfl, if_neg (show ¬ (1 : Nat) = 0 by decide)]
        by_cases a : kd = 16 ∨ kd = 19
        · rw [if_pos a, if_pos a, if_neg (fun q => by omega)]
        · rw [if_neg a, if_neg a, Nat.zero_add]
      rw [e]
      omega
def yg_f1 : zt_T → Prop
  | .leaf => False
  | .inner kd _ _ _ _ => kd ∈ yb_E
theorem yg_first {kd : Nat} {l : zt_T} (hk : kd = 16 ∨ kd = 19 ∨ kd = 25) (h : zg_A kd (zg_run kd 0 l) = true) : yg_f1 l := by
  have key : ∀ r ∈ zg_R, (r.1 = 16 ∨ r.1 = 19 ∨ r.1 = 25) → r.2.1 = 0 → ∀ c ∈ r.2.2.1, c ∈ yb_E := by decide +kernel
  cases l with
  | leaf => rcases hk with e | e | e <;> rw [e] at h <;> exact absurd h (by decide)
  | inner c kv o lc r =>
    obtain ⟨cs, to, m1, m2, m3⟩ := zv_qR (yb_run h)
    exact key _ m1 hk rfl c m2
theorem yg_b : ∀ t : zt_T, zg_ok t → yg_tp t → 2 * yc_o t ≤ zt_sz t ∧ (yg_f1 t → 2 * yc_o t + 1 ≤ zt_sz t) := by
  intro t
  induction t with
  | leaf => intro _ _; exact ⟨Nat.le_refl _, fun z => z.elim⟩
  | inner kd kv o l r ihl ihr =>
    intro ⟨⟨hA, hv⟩, okl, okr⟩ ⟨hk, tr⟩
    have h22 : ¬ kd = 22 := fun z => hk (by rw [z]; decide)
    have hr := (ihr okr tr).1
    have hl := ihl okl (yg_gt (fun z => hk (by simp only [List.mem_cons, List.not_mem_nil, or_false] at z ⊢; omega)) (yc_gA hA))
    have e : yc_o (.inner kd kv o l r) = (if kd = 16 ∨ kd = 19 then 1 else if kd = 22 then 156 else if kd = 25 ∧ 2 ≤ kv.2 then 1 else 0) + yc_o l + yc_o r := rfl
    have es : zt_sz (.inner kd kv o l r) = 1 + zt_sz l + zt_sz r := rfl
    refine ⟨?_, fun hE => ?_⟩
    · rw [e, es, if_neg h22]
      by_cases a : kd = 16 ∨ kd = 19
      · rw [if_pos a]
        have := hl.2 (yg_first (by omega) hA)
        omega
      · rw [if_neg a]
        by_cases b : kd = 25 ∧ 2 ≤ kv.2
        · rw [if_pos b]
          have := hl.2 (yg_first (.inr (.inr b.1)) hA)
          omega
        · rw [if_neg b]
          have := hl.1
          omega
    · rw [e, es, yg_oE (kv := kv) (o := o) ⟨⟨hA, hv⟩, okl, trivial⟩ hE]
      omega
/-- what declarations are made of -/
def yg_sd : zt_T → Prop
  | .leaf => True
  | .inner kd _ _ _ r => kd ∈ [4, 5, 7, 8, 9, 10, 30, 31, 37] ∧ yg_sd r
theorem yg_gsd {kd : Nat} (hkd : kd ∈ [4, 5, 7, 8, 9, 10, 30, 31, 37]) : ∀ {l : zt_T} {st : Nat}, ¬ zg_run kd st l = 99 → yg_sd l := by
  have key : ∀ r ∈ zg_R, r.1 ∈ [4, 5, 7, 8, 9, 10, 30, 31, 37] → ∀ c ∈ r.2.2.1, c ∈ [4, 5, 7, 8, 9, 10, 30, 31, 37] := by decide +kernel
  intro l
  induction l with
  | leaf => intro _ _; trivial
  | inner c kv o lc r _ ihr =>
    intro st h
    obtain ⟨p, h1⟩ := yl_gr (kd := kd) (p := fun c => c ∈ [4, 5, 7, 8, 9, 10, 30, 31, 37]) (fun r hr e c hc => key r hr (by rw [e]; exact hkd) c hc) h
    exact ⟨p, ihr h1⟩
theorem yg_sd0 (p : Nat) : ∀ t : zt_T, zg_ok t → yg_sd t → yg_c p t = 0 := by
  have key : ∀ z ∈ [4, 5, 7, 8, 9, 10, 30, 31, 37], ¬ z = 16 ∧ ¬ z = 19 ∧ ¬ z = 25 := by decide
  intro t
  induction t with
  | leaf => intro _ _; rfl
  | inner kd kv o l r ihl ihr =>
    intro ⟨⟨hA, hv⟩, okl, okr⟩ ⟨hk, tr⟩
    obtain ⟨k1, k2, k3⟩ := key kd hk
    show (if 30 ≤ zt_km kd then 0 else yg_w p kd kv.2 + yg_c p l) + yg_c p r = 0
    rw [ihr okr tr, ihl okl (yg_gsd hk (yc_gA hA)), show yg_w p kd kv.2 = 0 from yg_w0 (by omega) k3, ite_self]
theorem yg_cap (p : Nat) : ∀ t u : zt_T, yg_c p (zt_ap t u) = yg_c p t + yg_c p u := by
  intro t u
  induction t with
  | leaf => show yg_c p u = 0 + yg_c p u; omega
  | inner kd kv o l r ihl ihr =>
    show (if 30 ≤ zt_km kd then 0 else yg_w p kd kv.2 + yg_c p l) + yg_c p (zt_ap r u) = (if 30 ≤ zt_km kd then 0 else yg_w p kd kv.2 + yg_c p l) + yg_c p r + yg_c p u
    rw [ihr]; omega
/-- a body's cells -/
theorem yg_body {kd : Nat} {kv : Int32 × Int32} {o : Unit} {l : zt_T} (hk : kd = 11 ∨ kd = 22) (hA : zg_A kd (zg_run kd 0 l) = true) (ok : zg_ok l) : yc_o (.inner kd kv o l .leaf) = yg_c 0 (.inner kd kv o l .leaf) + yg_c 1 (.inner kd kv o l .leaf) + (if kd = 22 then 156 else 0) ∧ 2 * yc_o (.inner kd kv o l .leaf) ≤ zt_sz (.inner kd kv o l .leaf) + 312 := by
  have tl : yg_tp l := yg_gt (by rcases hk with e | e <;> rw [e] <;> decide) (yc_gA hA)
  have h1 := yg_o l ok tl
  have h2 := (yg_b l ok tl).1
  have e0 : ∀ p, yg_c p (.inner kd kv o l .leaf) = yg_c p l := by
    intro p
    show (if 30 ≤ zt_km kd then 0 else yg_w p kd kv.2 + yg_c p l) + 0 = _
    rw [if_neg (by rcases hk with e | e <;> rw [e] <;> decide), show yg_w p kd kv.2 = 0 from yg_w0 (by omega) (by omega)]
    omega
  have e1 : yc_o (.inner kd kv o l .leaf) = (if kd = 22 then 156 else 0) + yc_o l := by
    show (if kd = 16 ∨ kd = 19 then 1 else if kd = 22 then 156 else if kd = 25 ∧ 2 ≤ kv.2 then 1 else 0) + yc_o l + 0 = _
    rw [if_neg (by omega), if_neg (show ¬ (kd = 25 ∧ 2 ≤ kv.2) from fun z => by omega)]
    omega
  have es : zt_sz (.inner kd kv o l .leaf) = 1 + zt_sz l + 0 := rfl
  rw [e0, e0, e1, es]
  constructor
  · omega
  · split <;> omega
/-- the block is finished -/
theorem zv_Ifin {LC LM : List (List Int32)} {nb nf x : Nat} {F : Nat → Nat} {h g h' g' : zs_H} (I : zv_I LC LM nb nf (F nb) F (-1) h g) (hbo : nf + 1 = nb) (hx : x ≤ 30000) (a : zfr [] [26] [] h h') (a26 : ∀ j, (h'.2.1 26) j = if j = 8 + nb then nI x else (h.2.1 26) j) (b : zfr [] [100, 88, 101, 102] [] g g') (b88 : ∀ j, (g'.2.1 88) j = if j = nb - 1 then nI x else (g.2.1 88) j) : zv_I LC LM nb nb (F nb) F (-1) h' g' := by
  obtain ⟨HS, HB, HN, HV, HC, HT, HJ, J1, J2⟩ := I
  have e21 : h'.2.1 21 = h.2.1 21 := a.2.1 _ (by decide)
  have e22 : h'.2.1 22 = h.2.1 22 := a.2.1 _ (by decide)
  have e23 : h'.2.1 23 = h.2.1 23 := a.2.1 _ (by decide)
  have e24 : h'.2.1 24 = h.2.1 24 := a.2.1 _ (by decide)
  have e25 : h'.2.1 25 = h.2.1 25 := a.2.1 _ (by decide)
  have e27 : h'.2.1 27 = h.2.1 27 := a.2.1 _ (by decide)
  have e28 : h'.2.1 28 = h.2.1 28 := a.2.1 _ (by decide)
  have e29 : h'.2.1 29 = h.2.1 29 := a.2.1 _ (by decide)
  have e30 : h'.2.1 30 = h.2.1 30 := a.2.1 _ (by decide)
  have e31 : h'.2.1 31 = h.2.1 31 := a.2.1 _ (by decide)
  have e32 : h'.2.1 32 = h.2.1 32 := a.2.1 _ (by decide)
  have e33 : h'.2.1 33 = h.2.1 33 := a.2.1 _ (by decide)
  have e34 : h'.2.1 34 = h.2.1 34 := a.2.1 _ (by decide)
  have e35 : h'.2.1 35 = h.2.1 35 := a.2.1 _ (by decide)
  have e36 : h'.2.1 36 = h.2.1 36 := a.2.1 _ (by decide)
  have e37 : h'.2.1 37 = h.2.1 37 := a.2.1 _ (by decide)
  have e40 : h'.2.1 40 = h.2.1 40 := a.2.1 _ (by decide)
  have g85 : g'.2.1 85 = g.2.1 85 := b.2.1 _ (by decide)
  have g86 : g'.2.1 86 = g.2.1 86 := b.2.1 _ (by decide)
  have g87 : g'.2.1 87 = g.2.1 87 := b.2.1 _ (by decide)
  have g89 : g'.2.1 89 = g.2.1 89 := b.2.1 _ (by decide)
  have g90 : g'.2.1 90 = g.2.1 90 := b.2.1 _ (by decide)
  have g91 : g'.2.1 91 = g.2.1 91 := b.2.1 _ (by decide)
  have g92 : g'.2.1 92 = g.2.1 92 := b.2.1 _ (by decide)
  have g93 : g'.2.1 93 = g.2.1 93 := b.2.1 _ (by decide)
  have g94 : g'.2.1 94 = g.2.1 94 := b.2.1 _ (by decide)
  have g95 : g'.2.1 95 = g.2.1 95 := b.2.1 _ (by decide)
  have g96 : g'.2.1 96 = g.2.1 96 := b.2.1 _ (by decide)
  have g97 : g'.2.1 97 = g.2.1 97 := b.2.1 _ (by decide)
  have g98 : g'.2.1 98 = g.2.1 98 := b.2.1 _ (by decide)
  have g99 : g'.2.1 99 = g.2.1 99 := b.2.1 _ (by decide)
  have f17 : h'.1 20 17 = h.1 20 17 := a.1 _ _ (by decide)
  have f18 : h'.1 20 18 = h.1 20 18 := a.1 _ _ (by decide)
  have f19 : h'.1 20 19 = h.1 20 19 := a.1 _ _ (by decide)
  have j3 : h'.1 38 3 = h.1 38 3 := a.1 _ _ (by decide)
  have j4 : h'.1 38 4 = h.1 38 4 := a.1 _ _ (by decide)
  have k29 : g'.1 68 29 = g.1 68 29 := b.1 _ _ (by decide)
  have k33 : g'.1 68 33 = g.1 68 33 := b.1 _ _ (by decide)
  have k41 : g'.1 68 41 = g.1 68 41 := b.1 _ _ (by decide)
  have k54 : g'.1 68 54 = g.1 68 54 := b.1 _ _ (by decide)
  refine ⟨zv_Sfr HS b (by decide) (by decide) (by decide), ?_, ?_, ?_, ?_, ?_, ?_, j3.trans J1, k29.trans J2⟩
  · obtain ⟨b1, b2, ⟨st1, st2⟩, b3⟩ := HB
    refine ⟨by simp only [e21, e22, e23, e24, e25, e27, e28, e29, e30, e31, e32, e33, e34, e35, e36, e37, e40, g85, g86, g87, g89, g90, g91, g92, g93, g94, g95, g96, g97, g98, g99, f17, f18, f19, j3, j4, k29, k33, k41, k54]; exact b1, by simp only [e21, e22, e23, e24, e25, e27, e28, e29, e30, e31, e32, e33, e34, e35, e36, e37, e40, g85, g86, g87, g89, g90, g91, g92, g93, g94, g95, g96, g97, g98, g99, f17, f18, f19, j3, j4, k29, k33, k41, k54]; exact b2, ⟨fun i hi => ?_, by simp only [e21, e22, e23, e24, e25, e27, e28, e29, e30, e31, e32, e33, e34, e35, e36, e37, e40, g85, g86, g87, g89, g90, g91, g92, g93, g94, g95, g96, g97, g98, g99, f17, f18, f19, j3, j4, k29, k33, k41, k54]; exact st2⟩, by simp only [e21, e22, e23, e24, e25, e27, e28, e29, e30, e31, e32, e33, e34, e35, e36, e37, e40, g85, g86, g87, g89, g90, g91, g92, g93, g94, g95, g96, g97, g98, g99, f17, f18, f19, j3, j4, k29, k33, k41, k54]; exact b3⟩
    rw [a26, if_neg (by omega)]
    simp only [e21, e22, e23, e24, e25, e27, e28, e29, e30, e31, e32, e33, e34, e35, e36, e37, e40, g85, g86, g87, g89, g90, g91, g92, g93, g94, g95, g96, g97, g98, g99, f17, f18, f19, j3, j4, k29, k33, k41, k54]
    exact st1 i hi
  · unfold zv_N at HN ⊢; simp only [e21, e22, e23, e24, e25, e27, e28, e29, e30, e31, e32, e33, e34, e35, e36, e37, e40, g85, g86, g87, g89, g90, g91, g92, g93, g94, g95, g96, g97, g98, g99, f17, f18, f19, j3, j4, k29, k33, k41, k54]; exact HN
  · obtain ⟨v1, v2, v3⟩ := HV
    refine ⟨by simp only [e21, e22, e23, e24, e25, e27, e28, e29, e30, e31, e32, e33, e34, e35, e36, e37, e40, g85, g86, g87, g89, g90, g91, g92, g93, g94, g95, g96, g97, g98, g99, f17, f18, f19, j3, j4, k29, k33, k41, k54]; exact v1, fun b v hb h1 h2 h3 => ?_, by simp only [e21, e22, e23, e24, e25, e27, e28, e29, e30, e31, e32, e33, e34, e35, e36, e37, e40, g85, g86, g87, g89, g90, g91, g92, g93, g94, g95, g96, g97, g98, g99, f17, f18, f19, j3, j4, k29, k33, k41, k54]; exact v3⟩
    have Q := v2 b v hb h1 h2 h3
    unfold zv_Q at Q ⊢
    simp only [e21, e22, e23, e24, e25, e27, e28, e29, e30, e31, e32, e33, e34, e35, e36, e37, e40, g85, g86, g87, g89, g90, g91, g92, g93, g94, g95, g96, g97, g98, g99, f17, f18, f19, j3, j4, k29, k33, k41, k54]
    obtain ⟨ty, x, s, y, q1, q2, q3, q4, q5, q6, q7, q8, q9⟩ := Q
    refine ⟨ty, x, s, y, q1, q2, q3, q4, q5, q6, q7, ?_, q9⟩
    rcases q8 with z | z | ⟨B, z1, z2, z3, z4, z5, z6⟩
    · exact .inl z
    · exact .inr (.inl z)
    · exact .inr (.inr ⟨B, z1, z2, z3, z4, z5, by rw [a26, if_neg (by omega)]; exact z6⟩)
  · obtain ⟨c1, c2, c3, c4⟩ := HC
    refine ⟨.inl rfl, fun b hb => ?_, fun b h1 h2 => by omega, by simp only [e21, e22, e23, e24, e25, e27, e28, e29, e30, e31, e32, e33, e34, e35, e36, e37, e40, g85, g86, g87, g89, g90, g91, g92, g93, g94, g95, g96, g97, g98, g99, f17, f18, f19, j3, j4, k29, k33, k41, k54]; exact c4⟩
    by_cases e : b = nb - 1
    · exact ⟨x, hx, by rw [a26, if_pos (by omega)], by rw [b88, if_pos e]⟩
    · obtain ⟨y, y1, y2, y3⟩ := c2 b (by omega)
      exact ⟨y, y1, by rw [a26, if_neg (by omega)]; exact y2, by rw [b88, if_neg e]; exact y3⟩
  · unfold zv_T at HT ⊢; simp only [e21, e22, e23, e24, e25, e27, e28, e29, e30, e31, e32, e33, e34, e35, e36, e37, e40, g85, g86, g87, g89, g90, g91, g92, g93, g94, g95, g96, g97, g98, g99, f17, f18, f19, j3, j4, k29, k33, k41, k54]; exact HT
  · simp only [e21, e22, e23, e24, e25, e27, e28, e29, e30, e31, e32, e33, e34, e35, e36, e37, e40, g85, g86, g87, g89, g90, g91, g92, g93, g94, g95, g96, g97, g98, g99, f17, f18, f19, j3, j4, k29, k33, k41, k54]; exact HJ
/-- the model at a block's end -/
theorem yg_end {LC LM : List (List Int32)} {g : zs_H} {he n k kb kd kdb : Nat} {l : zt_T} {Q : Nat → Prop} (hhe : he < 2100) (hk : k < 33500) (hkb : kb < 33500) (hkd : kd = 1 ∨ kd = 2 ∨ kd = 3) (hkdb : kdb < 100) (e1 : (g.1 68 54) = nI he) (e2 : (g.2.1 88) he = nI n) (e3 : (g.2.1 72) k = nI kd) (e4 : (g.2.1 77) k = nI kb) (e5 : (g.2.1 72) kb = nI kdb) (hM : zt_M LC LM g l Q (nI k) ((g.2.1 76) k) ((g.2.1 77) k)) (ok : zg_ok l) (hQ : ∀ j, Q j → j < 33500) (hQk : ¬ Q k) (hd : zg_d l ≤ 399) (hs : zt_sz l < zF) :
    ∃ g', f_Mo_endBlock g (nI k) = some g' ∧ zfr [] [88, 101, 102] [] g g' ∧ (∀ j, (g'.2.1 88) j = if j = he then nI (n + yg_c 0 l + yg_c 1 l + (if kdb = 22 then 156 else 0)) else (g.2.1 88) j) ∧ (∀ j, ¬ Q j → (g'.2.1 101) j = (g.2.1 101) j ∧ (g'.2.1 102) j = (g.2.1 102) j) ∧ (∀ j, ¬ (g.2.1 72) j = 16 → ¬ (g.2.1 72) j = 25 → (g'.2.1 101) j = (g.2.1 101) j) ∧ (∀ j, ¬ (g.2.1 72) j = 19 → (g'.2.1 102) j = (g.2.1 102) j) ∧ yg_G 0 g' Q n l ((g.2.1 76) k) ∧ yg_G 1 g' Q (n + yg_c 0 l) l ((g.2.1 76) k) := by
  have kp : ∀ (g1 g' : zs_H) (u : zt_T) (Qu : Nat → Prop) (a c d : Int32), zfr [] [88, 101, 102] [] g1 g' → zt_M LC LM g1 u Qu a c d → zt_M LC LM g' u Qu a c d := by
    intro g1 g' u Qu a c d f hu
    refine zt_fr u Qu Qu a c d (fun i _ => ?_) (fun i hi => hi) hu
    exact ⟨fun kd k up z hz => by unfold zt_NM at hz ⊢; rw [f.2.1 72 (by decide), f.2.1 73 (by decide), f.2.1 74 (by decide), f.2.1 75 (by decide), f.2.1 77 (by decide)]; exact hz, by rw [f.2.1 _ (by decide)], by rw [f.2.1 _ (by decide)]⟩
  have lz := zv_lnsz l
  have hw0 : ∀ p v, yg_w p kd v = 0 := by
    intro p v
    exact yg_w0 (by omega) (by omega)
  -- one pass
  have pass : ∀ (p m : Nat) (g0 : zs_H), (p = 0 ∨ p = 1) → zfr [] [88, 101, 102] [] g g0 → (g0.2.1 88) he = nI m → ∃ g', f_Mo_give 400 g0 (nI k) (nI p) = some g' ∧ yg_O p he (m + yg_c p l) (fun j => j = k ∨ Q j) g0 g' ∧ ((g'.2.1 101) k = (g0.2.1 101) k ∧ (g'.2.1 102) k = (g0.2.1 102) k) ∧ yg_G p g' Q m l ((g.2.1 76) k) := by
    intro p m g0 hp f0 hm
    have h1 : (g0.1 68 54) = nI he := (f0.1 _ _ List.not_mem_nil).trans e1
    have h3 : (g0.2.1 72) k = nI kd := by rw [f0.2.1 _ (by decide)]; exact e3
    obtain ⟨g1, r1, O1, _⟩ := yg_node (D := 399) (v := 0) hp hk hhe (by omega) h1 hm h3 (fun z => by omega)
    rw [hw0, Nat.add_zero] at O1
    have f1 := zfr_trans f0 O1.1
    obtain ⟨g2, s1, O2, G⟩ := yg_give (LC := LC) (LM := LM) hp hhe l 399 zF m g1 Q (nI k) _ _ ok (kp g g1 l Q _ _ _ f1 hM) hQ ((f1.1 _ _ List.not_mem_nil).trans e1) (by rw [O1.2.1, if_pos rfl]) hd (by omega) hs
    refine ⟨g2, ?_, yg_Ot O1 O2 (fun j z => .inl z) (fun j z => .inr z), ?_, G⟩
    · rw [r1, show (g1.2.1 76) k = (g.2.1 76) k by rw [f1.2.1 _ (by decide)]]; exact s1
    · obtain ⟨a1, a2⟩ := O2.2.2.1 k hQk
      have kk : ∀ c, c = 16 ∨ c = 19 ∨ c = 25 → ¬ (g0.2.1 72) k = nI c := by
        intro c hc z
        rw [h3] at z
        have := (nI_eq (by omega) (by omega)).mp z
        omega
      exact ⟨a1.trans (O1.2.2.2.1 k (fun _ => kk 16 (.inl rfl)) (fun _ => kk 25 (.inr (.inr rfl)))), a2.trans (O1.2.2.2.2 k (fun _ => kk 19 (.inr (.inl rfl))))⟩
  obtain ⟨g1, r1, O1, K1, G1⟩ := pass 0 n g (.inl rfl) zfr_rfl e2
  obtain ⟨g2, r2, O2, K2, G2⟩ := pass 1 (n + yg_c 0 l) g1 (.inr rfl) O1.1 (by rw [O1.2.1, if_pos rfl])
  have f2 := zfr_trans O1.1 O2.1
  have a2 : ∀ z, ¬ z ∈ [88, 101, 102] → g2.2.1 z = g.2.1 z := fun z hz => f2.2.1 z hz
  have q22 : (nI kdb = 22) ↔ kdb = 22 := zc_eq (k := 22) (by decide) (by omega)
  have e45 : ∀ (y : Int32) (w : Nat), y = nI w → f_Mo_endBlock_45 g2 y (nI (n + yg_c 0 l + yg_c 1 l)) (nI he) = some (zs_uM g2 88 he (nI (n + yg_c 0 l + yg_c 1 l + w))) := by
    intro y w hy
    unfold f_Mo_endBlock_45
    rw [if_pos (zi_in (by omega) hhe), nI_clamp (show he < 2147483648 by omega), hy, show nI (n + yg_c 0 l + yg_c 1 l) + nI w = nI (n + yg_c 0 l + yg_c 1 l + w) from (Int32.ofNat_add _ w).symm]
  have eE : f_Mo_endBlock g (nI k) = some (zs_uM g2 88 he (nI (n + yg_c 0 l + yg_c 1 l + (if kdb = 22 then 156 else 0)))) := by
    unfold f_Mo_endBlock
    rw [show f_Mo_give 400 g (nI k) 0 = some g1 from r1, Option.bind_some, show f_Mo_give 400 g1 (nI k) 1 = some g2 from r2, Option.bind_some, show (g2.1 68 54) = nI he from (f2.1 _ _ List.not_mem_nil).trans e1, if_pos (zi_in (by omega) hhe), if_pos (zi_in (by omega) hk), nI_clamp (show k < 2147483648 by omega), a2 77 (by decide), e4, if_pos (zi_in (by omega) hkb), nI_clamp (show kb < 2147483648 by omega), a2 72 (by decide), e5, nI_clamp (show he < 2147483648 by omega), O2.2.1, if_pos rfl]
    by_cases z : kdb = 22
    · rw [if_pos (q22.mpr z), if_pos z]; exact e45 156 156 rfl
    · rw [if_neg (mt q22.mp z), if_neg z]; exact e45 0 0 rfl
  refine ⟨_, eE, zfr_M (by decide) f2, fun j => ?_, fun j hj => ?_, fun j h1 h2 => ?_, fun j h1 => ?_, ?_, ?_⟩
  · rw [yg_uM]
    by_cases z : j = he
    · rw [if_pos z, if_pos z]
    · rw [if_neg z, if_neg z, O2.2.1, if_neg z, O1.2.1, if_neg z]
  · show (g2.2.1 101) j = _ ∧ (g2.2.1 102) j = _
    by_cases z : j = k
    · subst z
      exact ⟨K2.1.trans K1.1, K2.2.trans K1.2⟩
    · obtain ⟨x1, x2⟩ := O1.2.2.1 j (fun q => by rcases q with q | q; exact z q; exact hj q)
      obtain ⟨y1, y2⟩ := O2.2.2.1 j (fun q => by rcases q with q | q; exact z q; exact hj q)
      exact ⟨y1.trans x1, y2.trans x2⟩
  · show (g2.2.1 101) j = _
    exact (O2.2.2.2.1 j (fun z => absurd z (by decide)) (fun _ => by rw [O1.1.2.1 _ (by decide)]; exact h2)).trans (O1.2.2.2.1 j (fun _ => h1) (fun z => absurd z (by decide)))
  · show (g2.2.1 102) j = _
    exact (O2.2.2.2.2 j (fun z => absurd z (by decide))).trans (O1.2.2.2.2 j (fun _ => h1))
  · refine yg_Gf (g := g2) (g' := (zs_uM g2 88 he (nI (n + yg_c 0 l + yg_c 1 l + (if kdb = 22 then 156 else 0))))) (fun _ z => z) rfl rfl rfl (fun j _ => ⟨fun _ _ => rfl, fun _ _ => rfl, fun _ _ => rfl⟩) l _ _ (yg_Gf (g' := g2) (fun _ z => z) (O2.1.2.1 _ (by decide)) (O2.1.2.1 _ (by decide)) (O2.1.2.1 _ (by decide)) (fun j _ => ⟨fun _ e => O2.2.2.2.1 j (fun z => absurd z (by decide)) (fun _ => by rw [e]; decide), fun _ _ => O2.2.2.2.2 j (fun z => absurd z (by decide)), fun z => absurd z (by decide)⟩) l _ _ G1)
  · exact yg_Gf (g := g2) (g' := (zs_uM g2 88 he (nI (n + yg_c 0 l + yg_c 1 l + (if kdb = 22 then 156 else 0))))) (fun _ z => z) rfl rfl rfl (fun j _ => ⟨fun _ _ => rfl, fun _ _ => rfl, fun _ _ => rfl⟩) l _ _ G2
/-- a block is left -/
theorem yg_leave {LC LM : List (List Int32)} {nb nf i k kb kd kdb oc yv : Nat} {F : Nat → Nat} {h g : zs_H} {l : zt_T} {Q : Nat → Prop} {p0 : Int32} (I : zv_I LC LM nb nf (F nb) F (-1) h g) (hbo : nf + 1 = nb) (hi : i < 32784) (hk : k < 33500) (hkb : kb < 33500) (hkd : kd = 1 ∨ kd = 2 ∨ kd = 3) (hkdb : kdb < 100) (c0 : (h.2.1 13) i = nI kd) (c1 : (h.2.1 15) i = p0) (m0 : (g.2.1 72) k = nI kd) (m1 : (g.2.1 73) k = p0) (m4 : (g.2.1 77) k = nI kb) (m5 : (g.2.1 72) kb = nI kdb) (hM : zt_M LC LM g l Q (nI k) ((g.2.1 76) k) ((g.2.1 77) k)) (ok : zg_ok l) (hQ : ∀ j, Q j → j < 33500) (hQk : ¬ Q k) (hd : zg_d l ≤ 399) (hs : zt_sz l < zF) (ow : (h.1 38 10) = nI oc) (hy : (h.2.1 25) (8 + nb) = nI yv) (hx : yv + oc ≤ 30000) (eoc : oc = yg_c 0 l + yg_c 1 l + (if kdb = 22 then 156 else 0)) :
    ∃ h' g', f_Jd_leaveBlock h (nI i) = some h' ∧ f_Mo_lookAtBlocks g (nI k) = some g' ∧ ((zv_Fb h g h' g' ∧ ¬ (h'.1 38 3) = 0 ∧ ¬ (g'.1 68 29) = 0) ∨ (zv_I LC LM nb nb (F nb) F (-1) h' g' ∧ zfr [] [26] [] h h' ∧ (∀ j, (h'.2.1 26) j = if j = 8 + nb then nI (yv + oc) else (h.2.1 26) j) ∧ zfr [] [88, 101, 102] [] g g' ∧ (∀ j, (g'.2.1 88) j = if j = nb - 1 then nI (yv + oc) else (g.2.1 88) j) ∧ (∀ j, ¬ Q j → (g'.2.1 101) j = (g.2.1 101) j ∧ (g'.2.1 102) j = (g.2.1 102) j) ∧ (∀ j, ¬ (g.2.1 72) j = 16 → ¬ (g.2.1 72) j = 25 → (g'.2.1 101) j = (g.2.1 101) j) ∧ (∀ j, ¬ (g.2.1 72) j = 19 → (g'.2.1 102) j = (g.2.1 102) j) ∧ yg_G 0 g' Q yv l ((g.2.1 76) k) ∧ yg_G 1 g' Q (yv + yg_c 0 l) l ((g.2.1 76) k))) := by
  have I0 := I
  obtain ⟨HS, HB, HN, HV, HC, HT, HJ, J1, J2⟩ := I
  obtain ⟨jb, mh⟩ := HJ (by omega)
  have B3 : nb ≤ 568 := HB.1.2.2
  have V3 : F nb ≤ 5900 := HB.2.1.2.2
  have hz := zF_big
  have e9 : 9 + (nb - 1) = 8 + nb := by omega
  have bc : (g.2.1 88) (nb - 1) = nI yv := by
    obtain ⟨x, x1, x2, x3, _⟩ := HC.2.2.1 (nb - 1) (by omega) (by omega)
    rw [e9] at x2
    rw [x3, ← x2, hy]
  obtain ⟨h1, hh1⟩ : ∃ h1, h1 = zs_uM h 26 (8 + nb) (nI (yv + oc)) := ⟨_, rfl⟩
  have f1 : zfr [] [26] [] h h1 := by rw [hh1]; exact zfr_M (by decide) zfr_rfl
  have a26 : ∀ j, (h1.2.1 26) j = if j = 8 + nb then nI (yv + oc) else (h.2.1 26) j := by rw [hh1]; exact yg_uM
  have J1' : (h1.1 38 3) = 0 := (f1.1 _ _ List.not_mem_nil).trans J1
  obtain ⟨b1, b2, b3⟩ := HB.2.2.2.2.2.1 (nb - 1) (by omega)
  have en : nb - 1 + 1 = nb := by omega
  rw [en] at b3
  rw [e9] at b1 b3
  have hF : F (nb - 1) ≤ F nb := by have := (HB.2.2.2.1 (nb - 1) (by omega)).1; rwa [en] at this
  have hsec : ∀ v, v < F nb → ((g.2.1 95) v = 1 ↔ (h1.2.1 29) (32 + v) = 1) := by
    intro v hv
    obtain ⟨s, s1, s2, s3⟩ := HV.1 v hv
    rw [show (h1.2.1 29) (32 + v) = nI s by rw [f1.2.1 _ (by decide)]; exact s2, s3]
    have q : ∀ z : Nat, z < 4 → (nI z = 1 ↔ z = 1) := fun z hz => zc_eq (k := 1) (by decide) (by omega)
    rw [q s s1, q _ (by split <;> omega)]
    split <;> omega
  have hiC : f_Pl_inputs h1 (nI (8 + nb)) = some (nI (zv_il h1 (F nb - F (nb - 1)) (F (nb - 1))).length) := by
    unfold f_Pl_inputs
    rw [if_pos (zi_in (by omega) (by omega)), nI_clamp (show 8 + nb < 2147483648 by omega), show (h1.2.1 23) (8 + nb) = nI (32 + F (nb - 1)) by rw [f1.2.1 _ (by decide)]; exact b1]
    have := zv_inpC (h := h1) (b := nb - 1) (e := F nb) (by omega) (by omega) (by rw [e9, f1.2.1 _ (by decide)]; exact b3) (F nb - F (nb - 1)) (F (nb - 1)) 0 zF (by omega) (by omega)
    rw [Nat.zero_add, e9] at this
    exact this
  have hiM : f_Mo_inputs g (nI (nb - 1)) = some (nI (zv_il h1 (F nb - F (nb - 1)) (F (nb - 1))).length) := by
    unfold f_Mo_inputs
    rw [if_pos (zi_in (by omega) (by omega)), nI_clamp (show nb - 1 < 2147483648 by omega), b2]
    have hbd := zv_bdM HB (show nb - 1 < nb by omega)
    rw [en] at hbd
    have := zv_inpM (h := h1) (g := g) (b := nb - 1) (e := F nb) (by omega) (by omega) (by rw [en]; exact hbd) hsec (F nb - F (nb - 1)) (F (nb - 1)) 0 zF (by omega) (by omega)
    rw [Nat.zero_add] at this
    exact this
  have hlen := zv_ilen h1 (F nb - F (nb - 1)) (F (nb - 1))
  generalize (zv_il h1 (F nb - F (nb - 1)) (F (nb - 1))).length = n8 at hiC hiM hlen
  have q8 : (nI n8 ≤ (8 : Int32)) ↔ n8 ≤ 8 := zc_el (k := 8) (by decide) (by omega)
  have qk : (nI kd = 1) ↔ kd = 1 := zc_eq (k := 1) (by decide) (by omega)
  obtain ⟨h', g', r1, r2, r3⟩ := zv_both (φ := 44) (i := i) (k := k) (kd = 1 ∧ 8 < n8) J1' J2 hi hk
  have eC : f_Jd_leaveBlock h (nI i) = some h' := by
    unfold f_Jd_leaveBlock f_Jd_leaveBlock_63 f_Jd_leaveBlock_64
    rw [jb, if_pos (zi_in (by omega) (by omega)), if_pos (zi_in (by omega) hi), nI_clamp (show i < 2147483648 by omega), nI_clamp (show 8 + nb < 2147483648 by omega), c0, hy, ow, show nI yv + nI oc = nI (yv + oc) from (Int32.ofNat_add yv oc).symm, ← hh1, hiC, Option.bind_some]
    by_cases z : kd = 1
    · rw [if_pos (qk.mpr z)]
      by_cases z8 : n8 ≤ 8
      · rw [if_pos (q8.mpr z8)]
        rw [if_neg (by omega)] at r1
        rw [show (44 : Int32) = nI 44 from rfl, r1]; rfl
      · rw [if_neg (mt q8.mp z8)]
        rw [if_pos (by omega)] at r1
        rw [show (44 : Int32) = nI 44 from rfl, r1]; rfl
    · rw [if_neg (fun q => z (qk.mp q))]
      rw [if_neg (by omega)] at r1
      rw [show (44 : Int32) = nI 44 from rfl, r1]; rfl
  have eM : f_Mo_lookAtBlocks g (nI k) = f_Mo_endBlock g' (nI k) := by
    have e97 : ∀ y : Int32, f_Mo_rule g y 44 (nI k) = some g' → f_Mo_lookAtBlocks_97 g (nI k) y = f_Mo_endBlock g' (nI k) := by
      intro y q
      unfold f_Mo_lookAtBlocks_97
      rw [q, Option.bind_some, Option.bind_fun_some]
    have r2' : f_Mo_rule g (if kd = 1 ∧ 8 < n8 then 1 else 0) 44 (nI k) = some g' := r2
    have k0 : (nI kd = 0) ↔ kd = 0 := zc_eq (k := 0) (by decide) (by omega)
    have k1 : (nI kd = 1) ↔ kd = 1 := zc_eq (k := 1) (by decide) (by omega)
    have k2 : (nI kd = 2) ↔ kd = 2 := zc_eq (k := 2) (by decide) (by omega)
    have k3 : (nI kd = 3) ↔ kd = 3 := zc_eq (k := 3) (by decide) (by omega)
    unfold f_Mo_lookAtBlocks f_Mo_lookAtBlocks_96
    rw [if_pos (zi_in (by omega) hk), nI_clamp (show k < 2147483648 by omega), m0, if_neg (mt k0.mp (by omega)), mh, hiM, Option.bind_some]
    rcases hkd with z | z | z
    · rw [if_pos (k1.mpr z), if_pos (k1.mpr z)]
      by_cases z8 : n8 ≤ 8
      · rw [if_pos (q8.mpr z8)]
        rw [if_neg (by omega)] at r2'
        exact e97 0 r2'
      · rw [if_neg (mt q8.mp z8)]
        rw [if_pos (by omega)] at r2'
        exact e97 1 r2'
    · rw [if_neg (show ¬ nI kd = 1 from mt k1.mp (by omega)), if_pos (k2.mpr z), if_neg (show ¬ nI kd = 1 from mt k1.mp (by omega))]
      rw [if_neg (by omega)] at r2'
      exact e97 0 r2'
    · rw [if_neg (show ¬ nI kd = 1 from mt k1.mp (by omega)), if_neg (mt k2.mp (by omega)), if_pos (k3.mpr z), if_neg (show ¬ nI kd = 1 from mt k1.mp (by omega))]
      rw [if_neg (by omega)] at r2'
      exact e97 0 r2'
  rcases r3 with ⟨_, x1, x2⟩ | ⟨_, Y⟩
  · subst x1; subst x2
    obtain ⟨g2, s1, s2, s3, s4, s5, s6, s7, s8⟩ := yg_end (he := nb - 1) (n := yv) (by omega) hk hkb hkd hkdb mh bc m0 m4 m5 hM ok hQ hQk hd hs
    have ex : yv + yg_c 0 l + yg_c 1 l + (if kdb = 22 then 156 else 0) = yv + oc := by omega
    rw [ex] at s3
    exact ⟨h', g2, eC, by rw [eM, s1], .inr ⟨zv_Ifin I0 hbo hx f1 a26 (zfr_w s2 (by decide) (by decide) (by decide)) s3, f1, a26, s2, s3, s4, s5, s6, s7, s8⟩⟩
  · obtain ⟨X, u1, u2⟩ := zv_YX Y (by decide) (by decide) (show (h1.2.1 15) i = p0 by rw [f1.2.1 _ (by decide)]; exact c1) m1
    obtain ⟨_, Y2⟩ := Y
    obtain ⟨g2, s1, s2, _⟩ := yg_end (g := g') (LC := LC) (LM := LM) (he := nb - 1) (n := yv) (k := k) (kb := kb) (kd := kd) (kdb := kdb) (l := l) (Q := Q) (by omega) hk hkb hkd hkdb (by rw [Y2]; exact mh) (by rw [Y2]; exact bc) (by rw [Y2]; exact m0) (by rw [Y2]; exact m4) (by rw [Y2]; exact m5) (by rw [Y2]; exact hM) ok hQ hQk hd hs
    have X2 : zv_X 44 p0 h' g2 := ⟨X.1, X.2.1, X.2.2.1, X.2.2.2.1, (s2.1 _ _ List.not_mem_nil).trans X.2.2.2.2.1, (s2.1 _ _ List.not_mem_nil).trans X.2.2.2.2.2⟩
    have xn := zv_Xn X2
    exact ⟨h', g2, eC, by rw [eM, s1], .inl ⟨⟨⟨44, p0, X2⟩, zfr_trans (zfr_w f1 (by decide) (by decide) (by decide)) (zfr_w u1 (fun _ z => z) (by decide) (by decide)), zfr_trans u2 (zfr_w s2 (by decide) (by decide) (by decide))⟩, xn.1, xn.2⟩⟩
end
section
/-! The judge: the walk through a block. -/
def yg_sk (nb : Nat) (h1 g1 h g : zs_H) : Prop := (h.2.1 21 = h1.2.1 21 ∧ (h.2.1 22 = h1.2.1 22 ∧ h.2.1 26 = h1.2.1 26 ∧ h.2.1 27 = h1.2.1 27) ∧ h.2.1 36 = h1.2.1 36 ∧ h.2.1 39 = h1.2.1 39) ∧ ((h.1 38 10) = (h1.1 38 10) ∧ (h.1 38 12) = (h1.1 38 12)) ∧ g.2.1 84 = g1.2.1 84 ∧ ∀ b, b < nb - 1 → (h.2.1 25) (9 + b) = (h1.2.1 25) (9 + b)
theorem yg_skt {nb : Nat} {h1 g1 h g h' g' : zs_H} (a : yg_sk nb h1 g1 h g) (b : yg_sk nb h g h' g') : yg_sk nb h1 g1 h' g' := by
  obtain ⟨⟨a1, a2, a3, a4⟩, ⟨a5, a6⟩, a7, a8⟩ := a
  obtain ⟨⟨b1, b2, b3, b4⟩, ⟨b5, b6⟩, b7, b8⟩ := b
  exact ⟨⟨b1.trans a1, ⟨b2.1.trans a2.1, b2.2.1.trans a2.2.1, b2.2.2.trans a2.2.2⟩, b3.trans a3, b4.trans a4⟩, ⟨b5.trans a5, b6.trans a6⟩, b7.trans a7, fun b hb => (b8 b hb).trans (a8 b hb)⟩
/-- what holds up to the body -/
def yg_A (LC LM : List (List Int32)) (nb nf : Nat) (F : Nat → Nat) (P Q : Nat → Prop) (h1 g1 : zs_H) (F' : Nat → Nat) (h g : zs_H) : Prop := zv_I LC LM nb nf (F' nb) F' (-1) h g ∧ ((∀ j, ¬ j = nb → F' j = F j) ∧ F nb ≤ F' nb) ∧ (∃ y, y ≤ 4096 ∧ (h.2.1 25) (8 + nb) = nI y) ∧ zv_fr P Q h1 g1 h g ∧ yg_sk nb h1 g1 h g ∧ zv_vn (F (nb - 1)) ((h1.2.1 21) (8 + nb)) (F nb) (F' nb) h1 h
/-- before the body -/
def yg_SA (LC LM : List (List Int32)) (nb nf kd k : Nat) (F : Nat → Nat) (l : zt_T) (P Q : Nat → Prop) (y0 y0' : Int32) (h1 g1 : zs_H) (u : zt_T) (h g : zs_H) (x x' : Int32) : Prop :=
  ∃ (st : Nat) (w : zt_T) (Pu Qu : Nat → Prop) (yy yy' : Int32) (F' : Nat → Nat), (l = zt_ap w u ∧ yg_sd w ∧ zg_ok w) ∧ (zt_C h u Pu x yy ∧ zt_M LC LM g u Qu (nI k) x' yy') ∧ ((∀ j, Pu j → P j) ∧ (∀ j, Qu j → Q j)) ∧ (zg_ok u ∧ zg_A kd (zg_run kd st u) = true ∧ st ≤ 1 ∧ zg_d u ≤ zg_d l) ∧ yg_A LC LM nb nf F P Q h1 g1 F' h g ∧ F' nb + zg_c u ≤ F nb + zg_c l ∧ (∀ j, Pu j → (h.2.1 14) j = 0) ∧ (¬ u = .leaf → yy = y0 ∧ yy' = y0')
/-- behind the body -/
def yg_SB (LC LM : List (List Int32)) (nb nf : Nat) (F : Nat → Nat) (l : zt_T) (P Q : Nat → Prop) (y0 y0' : Int32) (h1 g1 : zs_H) (h g : zs_H) : Prop :=
  ∃ (w : zt_T) (F' : Nat → Nat) (hb gb : zs_H) (c : Nat) (kv : Int32 × Int32) (lb : zt_T) (a b : Nat) (P1 Q1 : Nat → Prop), (l = zt_ap w (.inner c kv () lb .leaf) ∧ yg_sd w ∧ zg_ok w) ∧ ((c = 11 ∨ c = 22) ∧ zg_A c (zg_run c 0 lb) = true ∧ zg_ok lb) ∧ (yg_A LC LM nb nf F P Q h1 g1 F' hb gb ∧ F' nb ≤ F nb + zg_c l) ∧ ((a < 32784 ∧ b < 33500 ∧ nI a = y0 ∧ nI b = y0') ∧ (P a ∧ Q b) ∧ (∀ j, P1 j → P j) ∧ (∀ j, Q1 j → Q j)) ∧ yc_ok F' (nb - 1) c kv lb a b P1 Q1 hb gb h g ∧ ((h.1 38 3) = 0 ∧ (g.1 68 29) = 0 ∧ (h.1 38 10) = nI (yc_o (.inner c kv () lb .leaf)) ∧ zg_x (.inner c kv () lb .leaf) = 0 ∧ zg_ru (.inner c kv () lb .leaf)) ∧ ((g.2.1 72) b = nI c ∧ (h.2.1 18) a = -1 ∧ (g.2.1 78) b = -1)
def yg_S (LC LM : List (List Int32)) (nb nf kd k : Nat) (F : Nat → Nat) (l : zt_T) (P Q : Nat → Prop) (y0 y0' : Int32) (h1 g1 : zs_H) (u : zt_T) (h g : zs_H) (x x' : Int32) : Prop := yg_SA LC LM nb nf kd k F l P Q y0 y0' h1 g1 u h g x x' ∨ (u = .leaf ∧ x = -1 ∧ x' = -1 ∧ yg_SB LC LM nb nf F l P Q y0 y0' h1 g1 h g)
theorem yg_Gn {N : Nat → Nat → Int32 × Int32 → Int32 → Int32 → Prop} {A B : Nat → Int32} : ∀ {t : zt_T} {P : Nat → Prop} {up x y : Int32}, ¬ t = .leaf → zt_G N A B t P up x y → ¬ y = -1 := by
  intro t
  cases t with
  | leaf => intro _ _ _ _ h; exact absurd rfl h
  | inner c kv o l r =>
    intro P up x y _ ⟨i, P1, P2, z1, z2, _, hi, hx, _, _, _, _, _, hy⟩ z
    rw [hy] at z
    split at z
    · rw [hx] at z; exact zc_m1 (show i < 2147483648 by omega) z
    · rename_i q; exact q z
/-- the rows of a block -/
theorem yg_row {kd st c : Nat} {kv : Int32 × Int32} {o : Unit} {lc r : zt_T} (hkd : kd = 1 ∨ kd = 2 ∨ kd = 3) (hst : st ≤ 1) (h : zg_A kd (zg_run kd st (.inner c kv o lc r)) = true) : ((c = 8 ∨ c = 4) ∧ ∃ st', st' ≤ 1 ∧ zg_A kd (zg_run kd st' r) = true) ∨ ((c = 11 ∨ c = 22) ∧ r = .leaf) := by
  have key : ∀ r ∈ zg_R, (r.1 = 1 ∨ r.1 = 2 ∨ r.1 = 3) → r.2.1 ≤ 1 → ∀ c ∈ r.2.2.1, ((c = 8 ∨ c = 4) ∧ r.2.2.2 ≤ 1) ∨ ((c = 11 ∨ c = 22) ∧ r.2.2.2 = 2) := by decide +kernel
  have key2 : ∀ r ∈ zg_R, (r.1 = 1 ∨ r.1 = 2 ∨ r.1 = 3) → ¬ r.2.1 = 2 := by decide +kernel
  obtain ⟨cs, to, m1, m2, m3⟩ := zv_qR (yb_run h)
  have h' : zg_A kd (zg_run kd to r) = true := by
    have : zg_run kd st (.inner c kv o lc r) = zg_run kd to r := by show zg_run kd (zg_q kd st c) r = _; rw [m3]
    rw [← this]; exact h
  rcases key _ m1 hkd hst c m2 with ⟨z1, z2⟩ | ⟨z1, z2⟩
  · exact .inl ⟨z1, to, z2, h'⟩
  · right
    refine ⟨z1, ?_⟩
    cases r with
    | leaf => rfl
    | inner c2 kv2 o2 lc2 r2 =>
      exfalso
      obtain ⟨cs, to', m1, _, _⟩ := zv_qR (yb_run h')
      exact key2 _ m1 hkd z2
section YGB
variable {LC LM : List (List Int32)} {nb nf kd k sz d D D' : Nat} {F : Nat → Nat} {l : zt_T} {P Q : Nat → Prop} {y0 y0' : Int32} {h1 g1 h g : zs_H} {x x' : Int32}
theorem yg_step {c t0 : Nat} {kv : Int32 × Int32} {o : Unit} {lc r : zt_T} (hbo : nf + 1 = nb) (hkd : kd = 1 ∨ kd = 2 ∨ kd = 3) (hP : ∀ j, P j → j < 32784 ∧ j < sz) (hQ : ∀ j, Q j → j < 33500) (hd0 : d ≤ 100) (hd : d + 1 + zg_d l ≤ 239) (hN : F nb + zg_c l ≤ 5900) (hk : k < 33500) (hs3 : 3 ≤ sz) (hsz2 : sz ≤ 32784) (hsz : (h1.1 12 6) = nI sz) (hD : 4 ≤ D ∧ zg_d l ≤ D) (hD' : 8 ≤ D' ∧ 2 * zg_d l < D') (si : zv_si (F nb) h1) (ht0 : t0 < 33500) (u1 : (g1.2.1 75) k = nI t0) (u2 : (g1.2.1 75) t0 = -1) (u3 : ¬ (g1.2.1 72) t0 = 19) (u4 : (g1.2.1 72) k = nI kd) (lp : (h1.1 38 12) = 0) (ow : (h1.1 38 10) = 0)
    (S : yg_S LC LM nb nf kd k F l P Q y0 y0' h1 g1 (.inner c kv o lc r) h g x x') : zv_res D D' d sz h1 g1 (yg_S LC LM nb nf kd k F l P Q y0 y0' h1 g1 r) h g x x' := by
  replace S : yg_SA LC LM nb nf kd k F l P Q y0 y0' h1 g1 (.inner c kv o lc r) h g x x' := by
    rcases S with S | ⟨z, _⟩
    · exact S
    · cases z
  obtain ⟨st, w, Pu, Qu, yy, yy', F', ⟨el, sw, okw⟩, ⟨sC, sM⟩, ⟨p1, p2⟩, ⟨⟨⟨hA, hv⟩, okl, okr⟩, gA, hst, zd⟩, AA, nc, ty, ey⟩ := S
  obtain ⟨I, ⟨F1, F2⟩, ⟨yv, y1, y2⟩, fr, sk, vn⟩ := AA
  have zd' : max (zg_d lc + 1) (zg_d r) ≤ zg_d l := Nat.le_trans zg_d1 zd
  have nc' : F' nb + ((if c = 37 then 1 else 0) + zg_c lc + zg_c r) ≤ F nb + zg_c l := nc
  have J1 : (h.1 38 3) = 0 := I.2.2.2.2.2.2.2.1
  have J2 : (g.1 68 29) = 0 := I.2.2.2.2.2.2.2.2
  have siz : (h.1 12 6) = nI sz := (fr.1.1 _ _ (by decide)).trans hsz
  obtain ⟨a, P1, P2, z1, z2, ea, _, a2, a3, a4, a5, a7, a8, a9'', a9, a10⟩ := zv_hC sC
  obtain ⟨b, Q1, Q2, z3, eb, _, b2, b3, b4, b5, b6, b7, b8, b9, b10, b11⟩ := zv_hM sM
  have ha := (hP a (p1 a a2)).1
  have hb := hQ b (p2 b b2)
  have eyr : ¬ r = .leaf → z2 = y0 ∧ z3 = y0' := by
    intro hr
    obtain ⟨q1, q2⟩ := ey (fun z => by cases z)
    rw [if_neg (yg_Gn hr a9)] at a10
    rw [if_neg (yg_Gn hr b10)] at b11
    exact ⟨a10.symm.trans q1, b11.symm.trans q2⟩
  have fbk : ∀ h' g', zv_Fb h g h' g' → zv_Fb h1 g1 h' g' := fun h' g' B => ⟨B.1, zfr_trans (zfr_w fr.1 (fun _ z => z) (by decide) (by decide)) B.2.1, zfr_trans fr.2.1 B.2.2⟩
  have elw : l = zt_ap (zt_ap w (.inner c kv o lc .leaf)) r := by rw [el, zt_ap_as]; rfl
  refine ⟨a, b, ea, ha, eb, hb, J1, J2, siz, ?_⟩
  rcases yg_row hkd hst gA with ⟨hc, st', hst', gA'⟩ | ⟨hc, er⟩
  · -- how the walk goes on
    have okw' : yg_sd (zt_ap w (.inner c kv o lc .leaf)) ∧ zg_ok (zt_ap w (.inner c kv o lc .leaf)) := by
      refine ⟨?_, zg_ok_ap _ _ okw ⟨⟨hA, hv⟩, okl, trivial⟩⟩
      have : ∀ t : zt_T, yg_sd t → yg_sd (zt_ap t (.inner c kv o lc .leaf)) := by
        intro t
        induction t with
        | leaf => intro _; exact ⟨by rcases hc with e | e <;> rw [e] <;> decide, trivial⟩
        | inner kd2 kv2 o2 l2 r2 _ ihr => intro q; exact ⟨q.1, ihr q.2⟩
      exact this w sw
    have go : ∀ (h' g' : zs_H) (F'' : Nat → Nat), yg_A LC LM nb nf F P Q h1 g1 F'' h' g' → F'' nb ≤ F' nb + zg_c lc → zv_fr P1 (fun j => Q1 j ∨ j = b) h g h' g' → yg_S LC LM nb nf kd k F l P Q y0 y0' h1 g1 r h' g' ((h'.2.1 18) a) ((g'.2.1 78) b) := by
      intro h' g' F'' AA' nn f'
      obtain ⟨k1, k2⟩ := zv_CM f' a9 b10
      refine .inl ⟨st', _, P2, Q2, z2, z3, F'', ⟨elw, okw'⟩, ⟨?_, ?_⟩, ⟨fun j z => p1 j (a8 j z).1, fun j z => p2 j (b8 j z).1⟩, ⟨okr, gA', hst', by omega⟩, AA', by omega, fun j z => ?_, eyr⟩
      · rw [f'.1.2.1 18 (by decide)]; exact k1
      · rw [f'.2.1.2.1 78 (by decide)]; exact k2
      · rw [f'.2.2.1 j (fun q => (a7 j q).2.2 z)]; exact ty j (a8 j z).1
    rcases hc with hc | hc <;> subst hc
    · -- the type of a FUNCTION
      have e0 : lc = .leaf := zv_nolf (kd := 8) (by decide +kernel) hA
      subst e0
      obtain ⟨D, rfl⟩ : ∃ z, D = z + 1 := ⟨D - 1, by omega⟩
      obtain ⟨D', rfl⟩ : ∃ z, D' = z + 2 := ⟨D' - 2, by omega⟩
      obtain ⟨r1, r2⟩ := zv_vType (D := D) (D' := D') (d := d + 1) (by omega) ha hb J1 J2 a3 (show (h.2.1 17) a = -1 ∧ z1 = -1 from a9'').1 b3 (show (g.2.1 76) b = -1 ∧ _ from b9).1 (show (g.2.1 74) b = kv.2 from b5)
      refine ⟨h, _, r1, r2, .inr ?_⟩
      have f' : zv_fr P1 (fun j => Q1 j ∨ j = b) h g h (zs_uM g 100 b kv.2) := ⟨zfr_rfl, zfr_M (by decide) zfr_rfl, fun _ _ => rfl, fun j hj => ⟨(yg_uM (h := g) j).trans (if_neg fun z => hj (.inr z)), rfl, rfl⟩⟩
      exact go _ _ F' ⟨zv_Ifr I zfr_rfl (zfr_M (by decide) zfr_rfl), ⟨F1, F2⟩, ⟨yv, y1, y2⟩, zv_frt fr (zv_frt f' zv_fr0 (fun j z => p1 j (a7 j z).1) (fun j z => by rcases z with z | z; exact p2 j (b7 j z).1; exact z ▸ p2 b b2)) (fun _ z => z) (fun _ z => z), yg_skt sk ⟨⟨rfl, ⟨rfl, rfl, rfl⟩, rfl, rfl⟩, ⟨rfl, rfl⟩, rfl, fun _ _ => rfl⟩, vn⟩ (Nat.le_add_right _ _) f'
    · -- a section
      obtain ⟨D, rfl⟩ : ∃ z, D = z + 4 := ⟨D - 4, by omega⟩
      obtain ⟨D', rfl⟩ : ∃ z, D' = z + 8 := ⟨D' - 8, by omega⟩
      obtain ⟨s, s1, s2⟩ : ∃ s, s < 3 ∧ kv.2 = nI s := by
        rcases hv with z | ⟨x, x1, x2, _⟩
        · exact absurd z (by decide)
        · exact ⟨x, x1, x2⟩
      obtain ⟨h', g', r1, r2, r3⟩ := zv_sectV (D := D) (D' := D') (d := d + 1) (p0 := kv.1) I hbo (by omega) (by omega) s1 ha hb (fun j hj => hP j (p1 j (a7 j hj).1)) (fun j hj => hQ j (p2 j (b7 j hj).1)) siz hs3 (by omega) a3 a4 (a5.trans s2) b3 (b4 (by decide)) ((show (g.2.1 74) b = kv.2 from b5).trans s2) a9'' b9 hA okl (fun j hj => ty j (a7 j hj).1) y2 y1
      refine ⟨h', g', r1, r2, ?_⟩
      rcases r3 with ⟨B, e4, e5⟩ | ⟨F'', hx, t1, t2, t3, t4, t5, t6, t7, t8, t9⟩
      · exact .inl ⟨fbk _ _ B, e4, e5⟩
      · right
        subst t5
        have f' : zv_fr P1 (fun j => Q1 j ∨ j = b) h g h' g' := ⟨zfr_trans (zfr_F (by decide) zfr_rfl) t6.1, t6.2.1, fun j hj => t6.2.2.1 j hj, fun j hj => t6.2.2.2 j (fun z => hj (.inl z))⟩
        obtain ⟨⟨k1, k2, k3, k4⟩, ⟨k5, k6, _⟩, k7, k8⟩ := t7
        refine go h' g' F'' ⟨t3, ⟨fun j hj => (t1 j hj).trans (F1 j hj), Nat.le_trans F2 t9⟩, t4, zv_frt fr (zv_frt f' zv_fr0 (fun j z => p1 j (a7 j z).1) (fun j z => by rcases z with z | z; exact p2 j (b7 j z).1; exact z ▸ p2 b b2)) (fun _ z => z) (fun _ z => z), yg_skt sk ⟨⟨k1, k2, k3, k4⟩, ⟨k5, k6⟩, k7, k8⟩, zv_vnt vn (by
          have e : ((zs_uF h 38 5 (nI s)).2.1 21) (8 + nb) = (h1.2.1 21) (8 + nb) := by rw [← sk.1.1]; rfl
          rw [e, F1 (nb - 1) (by omega)] at t8; exact t8) F2⟩ t2 f'
  · -- the body
    subst er
    have C : yb_cx LC LM nb nf sz F' h g := by
      refine ⟨I, fun v hv hs => ?_, by omega, siz, hsz2⟩
      by_cases q : v < F nb
      · obtain ⟨v1, v2, v3, _⟩ := vn.1 (32 + v) (by omega)
        rw [v3]
        exact si v q (by rw [← v2]; exact hs)
      · exact (vn.2 v (by omega) hv).2.1 hs
    have ekm : zt_km c = c := by rcases hc with e | e <;> rw [e] <;> rfl
    have nd : yb_nd LC LM h g c kv lc a b k P1 Q1 z1 := ⟨⟨ha, hb, fun z => (a7 a z).2.1 rfl, fun z => (b7 b z).2.1 rfl, fun j hj => (hP j (p1 j (a7 j hj).1)).1, fun j hj => hQ j (p2 j (b7 j hj).1)⟩, ⟨a3, a4, a5, ty a a2, fun j hj => ty j (a7 j hj).1⟩, a9'', ⟨b3, b4, b5, b6⟩, b9⟩
    have gk : ∀ z, ¬ z ∈ zv_mm → g.2.1 z = g1.2.1 z := fun z hz => fr.2.1.2.1 z hz
    have LL : yc_L LC LM h g k (d + 1) := by
      refine ⟨1, [], by omega, ⟨hk, t0, [], by rw [gk _ (by decide)]; exact u1, ⟨ht0, by rw [gk _ (by decide)]; exact u2, ?_⟩, ?_⟩, by rw [sk.2.1.2]; exact lp, Nat.zero_le _, fun j hj => absurd hj (Nat.not_lt_zero j)⟩
      · rw [if_neg (by rw [gk _ (by decide)]; exact u3)]
      · rw [if_neg (by rw [gk _ (by decide), u4]; intro z; have := (zc_eq (k := 19) (by decide) (by omega)).mp z; omega)]
    have ow' : (h.1 38 10) = nI 0 := sk.2.1.1.trans ow
    obtain ⟨h', g', r1, r2, r3⟩ := yc_body (kv := kv) hc hA okl LC LM nb nf sz F' h g a b k (d + 1) D D' 0 P1 Q1 z1 C nd hk LL (fun j hj => (hP j (p1 j (a7 j hj).1)).2) ow' (by omega) (by omega) (by omega)
    refine ⟨h', g', r1, r2, ?_⟩
    rcases r3 with ⟨B, e4, e5⟩ | ⟨ok, e4, e5, e6, e7, e8⟩
    · exact .inl ⟨fbk _ _ B, e4, e5⟩
    · right
      have nx : (h'.2.1 18) a = -1 := by rw [ok.1.1.2.1 _ (by decide)]; exact (show (h.2.1 18) a = -1 ∧ z2 = -1 from a9).1
      have bs : (g'.2.1 78) b = -1 := by rw [ok.1.2.1.2.1 _ (by decide)]; exact (show (g.2.1 78) b = -1 ∧ z3 = -1 from b10).1
      obtain ⟨q1, q2⟩ := ey (fun z => by cases z)
      rw [if_pos (show (h.2.1 18) a = -1 ∧ z2 = -1 from a9).2, ea] at a10
      rw [if_pos (show (g.2.1 78) b = -1 ∧ z3 = -1 from b10).2, eb] at b11
      rw [Nat.zero_add] at e6
      exact .inr ⟨rfl, nx, bs, w, F', h, g, c, kv, lc, a, b, P1, Q1, ⟨el, sw, okw⟩, ⟨hc, hA, okl⟩, ⟨⟨I, ⟨F1, F2⟩, ⟨yv, y1, y2⟩, fr, sk, vn⟩, by omega⟩, ⟨⟨ha, hb, a10.symm.trans q1, b11.symm.trans q2⟩, ⟨p1 a a2, p2 b b2⟩, fun j hj => p1 j (a7 j hj).1, fun j hj => p2 j (b7 j hj).1⟩, ok, ⟨e4, e5, e6, e7 (by rw [sk.2.1.2]; exact lp), e8⟩, by rw [ok.1.2.1.2.1 _ (by decide), b3, ekm], nx, bs⟩
end YGB
end
section
/-! The judge: a block begins (with what stays of the blocks before). -/
def yg_ob (kd nb n : Nat) (h g h' g' : zs_H) : Prop := (g'.2.1 100 = g.2.1 100 ∧ g'.2.1 101 = g.2.1 101 ∧ g'.2.1 102 = g.2.1 102) ∧ (kd = 1 → (h'.2.1 30) (32 + n) = -1 ∧ (h'.2.1 29) (32 + n) = 3) ∧ (∀ b, b < nb → (h'.2.1 21) (9 + b) = (h.2.1 21) (9 + b) ∧ (h'.2.1 26) (9 + b) = (h.2.1 26) (9 + b)) ∧ (∀ j, j < 32 + n → zv_v8 h h' j) ∧ (h'.2.1 27) (9 + nb) = 0 ∧ ∃ y, y ≤ 4096 ∧ (h'.2.1 25) (9 + nb) = nI y
theorem yg_begin {LC LM : List (List Int32)} {nb i k kd c : Nat} {F : Nat → Nat} {h g : zs_H} {w p : Int32} (I : zv_I LC LM nb nb (F nb) F (-1) h g) (hnb : nb < 568) (hnv : F nb < 5900) (hi : i < 32784) (hk : k < 33500) (hkd : kd = 1 ∨ kd = 2 ∨ kd = 3) (c1 : (h.2.1 13) i = nI kd) (c2 : (h.2.1 16) i = nI c) (c3 : (h.2.1 15) i = p) (m1 : (g.2.1 72) k = nI kd) (m2 : (g.2.1 74) k = w) (m3 : (g.2.1 73) k = p) (hw : zt_nr LC LM (nI c) w) (hc : c < 6000)
    (hty : kd = 1 → ∃ i' k' ty, i' < 32784 ∧ k' < 33500 ∧ ty < 3 ∧ (h.2.1 17) i = nI i' ∧ (h.2.1 16) i' = nI ty ∧ (g.2.1 76) k = nI k' ∧ (g.2.1 74) k' = nI ty) :
    ∃ h' g', f_Jd_enterBlock h (nI i) = some h' ∧ f_Mo_beginBlock g (nI k) = some g' ∧ zfr zv_cf zv_cm [] h h' ∧ zfr zv_mf zv_mm [] g g' ∧
      ((∃ φ, zv_X φ p h' g') ∨ (((h'.1 38 10) = 0 ∧ (h'.1 38 12) = (h.1 38 12) ∧ (h'.2.1 22) (9 + nb) = nI i ∧ (g'.2.1 84) nb = nI k ∧ (∀ b, b < nb → (h'.2.1 22) (9 + b) = (h.2.1 22) (9 + b) ∧ (g'.2.1 84) b = (g.2.1 84) b ∧ (h'.2.1 25) (9 + b) = (h.2.1 25) (9 + b)) ∧ (h'.2.1 21) (9 + nb) = nI kd ∧
        zv_I LC LM (nb + 1) nb (if kd = 1 then F nb + 1 else F nb) (fun j => if j = nb + 1 then (if kd = 1 then F nb + 1 else F nb) else F j) (-1) h' g') ∧ yg_ob kd nb (F nb) h g h' g')) := by
  obtain ⟨HS, HB, HN, HV, HC, HT, HJ, J1, J2⟩ := I
  have hb0 := zv_bn (bd := nb) HS HB (Nat.le_refl _) hc hw
  have hst := zv_isS HS hw hc
  have hcl := hw
  obtain ⟨⟨B1, B2, B3⟩, ⟨V1, V2, V3⟩, B4, BF, B5, B6, B7, B8, B9, B10⟩ := HB
  have hk3 : kd < 4 := by rcases hkd with e | e | e <;> rw [e] <;> decide
  have hik : zd_in (nI k) 33500 := zi_in (by omega) hk
  have hii : zd_in (nI i) 32784 := zi_in (by omega) hi
  have eC : f_Jd_enterBlock h (nI i) = f_Jd_enterBlock_27 h (nI i) (nI c) (if 0 < nb ∧ (g.2.1 86) (nb - 1) = 3 then 1 else 0) := by
    unfold f_Jd_enterBlock
    rw [if_pos hii, nI_clamp (by omega), c2, B10]
    by_cases q : 0 < nb ∧ (g.2.1 86) (nb - 1) = 3
    · rw [if_pos q, if_pos q, if_neg (zc_m1 (by omega))]
    · rw [if_neg q, if_neg q, if_pos rfl]
  have eM : f_Mo_beginBlock g (nI k) = f_Mo_beginBlock_28 g (nI k) (if 0 < nb ∧ (g.2.1 86) (nb - 1) = 3 then 1 else 0) := by
    unfold f_Mo_beginBlock f_Mo_beginBlock_27
    rw [B2]
    by_cases q0 : nb = 0
    · rw [if_pos ((zc_el (k := 0) (by decide) (by omega)).mpr (by omega)), if_neg (fun q => by omega)]
    · rw [if_neg (mt (zc_el (k := 0) (by decide) (by omega)).mp (by omega)), show nI nb - 1 = nI (nb - 1) from zi_sub (b := 1) (by omega), if_pos (zi_in (by omega) (by omega)), nI_clamp (by omega)]
      by_cases q : (g.2.1 86) (nb - 1) = 3
      · rw [if_pos q, if_pos ⟨by omega, q⟩]
      · rw [if_neg q, if_neg (fun z => q z.2)]
  -- the model goes on behind a fault
  have goM : ∀ (g1 : zs_H) (y0 : Int32), (g1.1 68 33) = nI nb → (g1.1 68 41) = nI (F nb) → (g1.2.1 72) k = nI kd → (g1.2.1 74) k = w → (kd = 1 → (g1.2.1 76) k = (g.2.1 76) k ∧ ∀ j, (g1.2.1 74) j = (g.2.1 74) j) → f_Mo_rule g1 y0 11 (nI k) = some g1 → ∃ g', f_Mo_beginBlock_70 g1 (nI k) y0 = some g' ∧ ∃ ty, (kd = 1 → ∃ t, t < 3 ∧ ty = nI t ∧ ∃ i', i' < 32784 ∧ (h.2.1 17) i = nI i' ∧ (h.2.1 16) i' = nI t) ∧ zv_BM nb (F nb) k kd w ty g1 g' := by
    intro g1 y0 e1 e2 e3 e4 e5 e6
    by_cases q : kd = 1
    · obtain ⟨i', k', ty, t1, t2, t3, t4, t5, t6, t7⟩ := hty q
      obtain ⟨g', z1, z2⟩ := zv_bbR (ty := nI ty) e1 (by omega) e2 (by omega) hk hk3 e3 e4 (fun _ => ⟨k', t2, by rw [(e5 q).1]; exact t6, by rw [(e5 q).2]; exact t7⟩) e6
      exact ⟨g', z1, nI ty, fun _ => ⟨ty, t3, rfl, i', t1, t4, t5⟩, z2⟩
    · obtain ⟨g', z1, z2⟩ := zv_bbR (ty := 0) e1 (by omega) e2 (by omega) hk hk3 e3 e4 (fun z => absurd z q) e6
      exact ⟨g', z1, 0, fun z => absurd z q, z2⟩
  have frM : ∀ {g1 g'' : zs_H} {ty : Int32}, zv_BM nb (F nb) k kd w ty g1 g'' → zfr zv_mf zv_mm [] g1 g'' := fun z => by
    obtain ⟨_, _, _, _, _, _, _, _, _, _, _, _, _, _, _, _, z⟩ := z
    exact zfr_w z (by decide) (by decide) (by decide)
  have fault : ∀ (φ : Nat) (x1 x2 : Int32), 0 < φ → φ < 1000 → ∃ h2 g2, h2 = zs_uF (zs_uF h 38 3 (nI φ)) 38 0 ((h.2.1 15) i) ∧ g2 = zs_uF (zs_uF g 68 29 (nI φ)) 68 30 ((g.2.1 73) k) ∧ zfr zv_cf zv_cm [] h h2 ∧ zfr zv_mf zv_mm [] g g2 ∧ (h2.1 38 3) = nI φ ∧ (h2.1 38 0) = p ∧ (g2.1 68 29) = nI φ ∧ (g2.1 68 30) = p := by
    intro φ x1 x2 f1 f2
    refine ⟨_, _, rfl, rfl, zfr_F (by decide) (zfr_F (by decide) zfr_rfl), zfr_F (by decide) (zfr_F (by decide) zfr_rfl), rfl, c3, rfl, m3⟩
  rw [eC, eM]
  unfold f_Jd_enterBlock_27 f_Mo_beginBlock_28
  by_cases q10 : 0 < nb ∧ (g.2.1 86) (nb - 1) = 3
  · -- 10
    rw [if_pos q10]
    obtain ⟨h2, g2, eh, eg, f1, f2, x1, x2, x3, x4⟩ := fault 10 0 0 (by decide) (by decide)
    have nf : ¬ (h2.1 38 3) = 0 := by rw [x1]; decide
    have nj : ¬ (g2.1 68 29) = 0 := by rw [x3]; decide
    have r1 : f_Jd_refuseIf h 1 10 (nI i) = some h2 := by rw [eh]; exact zv_ref1 (φ := 10) (by decide) J1 hi
    have r2 : f_Mo_rule g 1 10 (nI k) = some g2 := by rw [eg]; exact zv_rule1 (φ := 10) (by decide) J2 hk
    rw [r1, r2, Option.bind_some, Option.bind_some]
    have ew : (g2.2.1 74) k = w := by rw [eg]; exact m2
    have es : f_Mo_isStandard g2 w = some (if 41 ≤ c ∧ c < 60 then 1 else 0) := zv_isS (LC := LC) (LM := LM) (by rw [eg]; exact HS) hw hc
    have eb : f_Mo_blockNamed g2 w (nI nb) = f_Mo_blockNamed g w (nI nb) := by rw [eg]; rfl
    have goC : ∀ y0, f_Jd_enterBlock_59 h2 (nI i) (nI c) y0 = some h2 := by
      intro y0
      unfold f_Jd_enterBlock_59
      rw [zv_refF nf, Option.bind_some, if_neg nf]
    have goM2 : ∀ y0, ∃ g', f_Mo_beginBlock_70 g2 (nI k) y0 = some g' ∧ zfr zv_mf zv_mm [] g2 g' ∧ (g'.1 68 29) = nI 10 ∧ (g'.1 68 30) = p := by
      intro y0
      obtain ⟨g', z1, ty, _, z2⟩ := goM g2 y0 (by rw [eg]; exact B2) (by rw [eg]; exact V2) (by rw [eg]; exact m1) ew (fun _ => by rw [eg]; exact ⟨rfl, fun _ => rfl⟩) (zv_ruleF nj)
      refine ⟨g', z1, frM z2, ?_, ?_⟩
      all_goals
        obtain ⟨_, _, _, _, _, _, _, _, _, _, _, _, _, _, _, _, z⟩ := z2
        rw [z.1 _ _ (by decide)]
        assumption
    have eC2 : (if zd_in (nI c) 6000 then (if ((h2.2.1 36) (nI c).toNatClampNeg) = (-1) then (if (f_Nm_isStandardFunction (nI c)) = 0 then f_Jd_enterBlock_59 h2 (nI i) (nI c) 0 else f_Jd_enterBlock_54 h2 (nI i) (nI c)) else f_Jd_enterBlock_54 h2 (nI i) (nI c)) else none) = some h2 := by
      unfold f_Jd_enterBlock_54
      rw [if_pos (zi_in (by omega) hc), goC, goC]
      split
      · split <;> rfl
      · rfl
    have eM2 : ∃ y0, (if zd_in (nI k) 33500 then ((f_Mo_isStandard g2 ((g2.2.1 74) (nI k).toNatClampNeg)).bind fun v5 => (if v5 = 0 then ((f_Mo_blockNamed g2 ((g2.2.1 74) (nI k).toNatClampNeg) ((g2.1 68 33))).bind fun v9 => (if v9 < 0 then f_Mo_beginBlock_70 g2 (nI k) 0 else f_Mo_beginBlock_65 g2 (nI k))) else f_Mo_beginBlock_65 g2 (nI k))) else none) = f_Mo_beginBlock_70 g2 (nI k) y0 := by
      unfold f_Mo_beginBlock_65
      rw [if_pos hik, nI_clamp (by omega), ew, es, Option.bind_some, show (g2.1 68 33) = nI nb by rw [eg]; exact B2, eb]
      by_cases z : 41 ≤ c ∧ c < 60
      · exact ⟨1, by rw [if_pos z, if_neg (by decide)]⟩
      · rw [if_neg z, if_pos rfl]
        rcases hb0 with ⟨b, _, _, e⟩ | ⟨e, _⟩
        · exact ⟨1, by rw [e, Option.bind_some, if_neg (mt (zc_tl (k := 0) (by decide) (by omega)).mp (by omega))]⟩
        · exact ⟨0, by rw [e, Option.bind_some, if_pos (by decide)]⟩
    obtain ⟨y0, eM3⟩ := eM2
    obtain ⟨g', z1, z2, z3, z4⟩ := goM2 y0
    exact ⟨h2, g', eC2, eM3.trans z1, f1, zfr_trans f2 z2, .inl ⟨10, by decide, by decide, x1, x2, z3, z4⟩⟩
  · rw [if_neg q10, zv_ref0, zv_rule0, Option.bind_some, Option.bind_some, if_pos (zi_in (by omega) hc), if_pos hik]
    by_cases q11 : (41 ≤ c ∧ c < 60) ∨ ¬ (h.2.1 36) c = -1
    · -- 11
      obtain ⟨h2, g2, eh, eg, f1, f2, x1, x2, x3, x4⟩ := fault 11 0 0 (by decide) (by decide)
      have nf : ¬ (h2.1 38 3) = 0 := by rw [x1]; decide
      have nj : ¬ (g2.1 68 29) = 0 := by rw [x3]; decide
      have r1 : f_Jd_refuseIf h 1 11 (nI i) = some h2 := by rw [eh]; exact zv_ref1 (φ := 11) (by decide) J1 hi
      have r2 : f_Mo_rule g 1 11 (nI k) = some g2 := by rw [eg]; exact zv_rule1 (φ := 11) (by decide) J2 hk
      have goC : f_Jd_enterBlock_59 h (nI i) (nI c) 1 = some h2 := by
        unfold f_Jd_enterBlock_59
        rw [r1, Option.bind_some, if_neg nf]
      have goM2 : ∃ g', f_Mo_beginBlock_70 g (nI k) 1 = some g' ∧ zfr zv_mf zv_mm [] g2 g' ∧ (g'.1 68 29) = nI 11 ∧ (g'.1 68 30) = p := by
        obtain ⟨g', z1, ty, _, z2⟩ := goM g2 1 (by rw [eg]; exact B2) (by rw [eg]; exact V2) (by rw [eg]; exact m1) (by rw [eg]; exact m2) (fun _ => by rw [eg]; exact ⟨rfl, fun _ => rfl⟩) (zv_ruleF nj)
        have e70 : f_Mo_beginBlock_70 g (nI k) 1 = f_Mo_beginBlock_70 g2 (nI k) 1 := by
          unfold f_Mo_beginBlock_70
          rw [r2, zv_ruleF nj]
        refine ⟨g', e70.trans z1, frM z2, ?_, ?_⟩
        all_goals
          obtain ⟨_, _, _, _, _, _, _, _, _, _, _, _, _, _, _, _, z⟩ := z2
          rw [z.1 _ _ (by decide)]
          assumption
      obtain ⟨g', z1, z2, z3, z4⟩ := goM2
      refine ⟨h2, g', ?_, ?_, f1, zfr_trans f2 z2, .inl ⟨11, by decide, by decide, x1, x2, z3, z4⟩⟩
      · unfold f_Jd_enterBlock_54
        rw [nI_clamp (by omega), zv_isF hc, goC]
        by_cases z : (h.2.1 36) c = -1
        · rw [if_pos z]
          have hcc : 50 ≤ c ∧ c < 60 := by
            rcases q11 with q | q
            · by_cases z2 : c < 50
              · rw [B9 c q.1 z2] at z; exact absurd z (zc_m1 (by omega))
              · omega
            · exact absurd z q
          rw [if_pos hcc, if_neg (by decide)]
        · rw [if_neg z]
      · unfold f_Mo_beginBlock_65
        rw [nI_clamp (by omega), m2, hst, Option.bind_some, B2]
        by_cases z : 41 ≤ c ∧ c < 60
        · rw [if_pos z, if_neg (by decide), z1]
        · rw [if_neg z, if_pos rfl]
          rcases hb0 with ⟨b, _, _, e⟩ | ⟨e, e'⟩
          · rw [e, Option.bind_some, if_neg (mt (zc_tl (k := 0) (by decide) (by omega)).mp (by omega)), z1]
          · exfalso
            rcases q11 with q | q
            · exact z q
            · rcases B8 c hc with y | ⟨y1, y2, y3⟩ | ⟨b, y1, y2, y3⟩
              · exact q y
              · omega
              · exact e' b y1 y2
    · -- a new block
      have n1 : ¬ (41 ≤ c ∧ c < 60) := fun z => q11 (.inl z)
      have n2 : (h.2.1 36) c = -1 := Classical.byContradiction fun z => q11 (.inr z)
      obtain ⟨g', z1, ty, zt, z2⟩ := goM g 0 B2 V2 m1 m2 (fun _ => ⟨rfl, fun _ => rfl⟩) zv_rule0
      have hty2 : kd = 1 → ∃ i', i' < 32784 ∧ (h.2.1 17) i = nI i' ∧ (h.2.1 16) i' = ty := fun q => by
        obtain ⟨t, _, e1, i', e2, e3, e4⟩ := zt q
        exact ⟨i', e2, e3, e4.trans e1.symm⟩
      obtain ⟨h', y1, y2⟩ := zv_ebR (ty := ty) B1 (by omega) V1 (by omega) hi hk3 c1 hc hty2 zv_ref0 J1
      have eb : f_Mo_blockNamed g w (nI nb) = some (-1) := by
        rcases hb0 with ⟨b, _, e, _⟩ | ⟨e, _⟩
        · rw [n2] at e; exact absurd e.symm (zc_m1 (by omega))
        · exact e
      refine ⟨h', g', ?_, ?_, ?_, frM z2, .inr ?_⟩
      · rw [nI_clamp (by omega), if_pos n2, zv_isF hc, if_neg (show ¬ (50 ≤ c ∧ c < 60) from fun z => n1 ⟨Nat.le_trans (show 41 ≤ 50 by decide) z.1, z.2⟩), if_pos rfl, y1]
      · rw [nI_clamp (by omega), m2, hst, Option.bind_some, if_neg n1, if_pos rfl, B2, eb, Option.bind_some, if_pos (by decide), z1]
      · obtain ⟨_, _, _, _, _, _, _, _, _, _, _, _, _, _, _, _, _, z⟩ := y2
        exact zfr_w z (by decide) (by decide) (by decide)
      · refine ⟨zv_beg2 HS ⟨⟨B1, B2, B3⟩, ⟨V1, V2, V3⟩, B4, BF, B5, B6, B7, B8, B9, B10⟩ HN HV HC HT J1 J2 hnb hnv hkd hw hc q10 n1 n2 zt y2 z2, ?_⟩
        obtain ⟨⟨_, _, _, _, _, op⟩, o1, _, _, _, o2, o3, _, o4, o5, o6, o7, o8, o9, o10, o11, _, _⟩ := y2
        obtain ⟨_, _, _, _, _, _, _, _, _, _, _, _, _, _, _, _, zg⟩ := z2
        refine ⟨⟨zg.2.1 _ (by decide), zg.2.1 _ (by decide), zg.2.1 _ (by decide)⟩, fun z => ⟨by rw [o6, if_pos ⟨z, rfl⟩], by rw [o5, if_pos ⟨z, rfl⟩]⟩, fun b hb => ⟨by rw [o1, if_neg (by omega)], by rw [o3, if_neg (by omega)]⟩, fun j hj => ⟨by rw [o4, if_neg (fun z => by omega)], by rw [o5, if_neg (fun z => by omega)], by rw [o6, if_neg (fun z => by omega)], by rw [o7, if_neg (fun z => by omega)], by rw [o8, if_neg (fun z => by omega)], by rw [o9, if_neg (fun z => by omega)], by rw [o10, if_neg (fun z => by omega)], by rw [o11, if_neg (fun z => by omega)]⟩, op, ?_⟩
        rw [o2, if_pos rfl]
        rcases hkd with e | e | e <;> subst e
        · exact ⟨1, by decide, rfl⟩
        · exact ⟨0, by decide, rfl⟩
        · exact ⟨960, by decide, rfl⟩
end
section
/-! The judge: a block is visited. -/
/-- the last of a chain -/
def yg_cn (N : Nat → Int32) (a : Nat) : Nat → Int32 → Prop
  | 0, x => x = nI a ∧ N a = -1
  | m + 1, x => ∃ b, b < 32784 ∧ x = nI b ∧ ¬ N b = -1 ∧ yg_cn N a m (N b)
theorem yg_cnC {h : zs_H} : ∀ (l : zt_T) (P : Nat → Prop) (x y : Int32), ¬ l = .leaf → zt_C h l P x y → (∀ j, P j → j < 32784) → ∃ a m, m < zt_ln l ∧ y = nI a ∧ a < 32784 ∧ yg_cn ((h.2.1 18)) a m x := by
  intro l
  induction l with
  | leaf => intro _ _ _ h; exact absurd rfl h
  | inner c kv o lc r _ ihr =>
    intro P x y _ hC hP
    obtain ⟨a, P1, P2, z1, z2, ea, _, a2, _, _, _, _, a8, _, a9, a10⟩ := zv_hC hC
    have hl : zt_ln (.inner c kv o lc r) = 1 + zt_ln r := rfl
    by_cases hr : r = .leaf
    · subst hr
      obtain ⟨n1, n2⟩ := (show (h.2.1 18) a = -1 ∧ z2 = -1 from a9)
      rw [if_pos n2, ea] at a10
      exact ⟨a, 0, by omega, a10, hP a a2, ea, n1⟩
    · obtain ⟨b, m, m1, m2, m3, m4⟩ := ihr P2 _ z2 hr a9 (fun j hj => hP j (a8 j hj).1)
      rw [if_neg (yg_Gn hr a9)] at a10
      refine ⟨b, m + 1, by omega, a10.trans m2, m3, a, hP a a2, ea, fun z => ?_, m4⟩
      cases r with
      | leaf => exact hr rfl
      | inner c2 kv2 o2 l2 r2 =>
        obtain ⟨a', _, _, _, _, ea', h40, _⟩ := zv_hC a9
        rw [ea'] at z
        exact zc_m1 (show a' < 2147483648 by omega) z
/-- the cells of the last -/
theorem yg_Glast {LC LM : List (List Int32)} {p c : Nat} {g : zs_H} {kv : Int32 × Int32} {o : Unit} {lb : zt_T} {Q : Nat → Prop} : ∀ (w : zt_T) (Qu : Nat → Prop) (n : Nat) (up x y : Int32), zt_M LC LM g (zt_ap w (.inner c kv o lb .leaf)) Qu up x y → yg_G p g Q n (zt_ap w (.inner c kv o lb .leaf)) x → yg_G p g Q (n + yg_c p w) (.inner c kv o lb .leaf) y := by
  intro w
  induction w with
  | leaf =>
    intro Qu n up x y hM hG
    obtain ⟨b, _, _, z2, _, _, _, _, _, _, _, _, _, _, b10, b11⟩ := zv_hM hM
    rw [if_pos (show (g.2.1 78) b = -1 ∧ z2 = -1 from b10).2] at b11
    rw [b11]
    exact hG
  | inner c2 kv2 o2 l2 r2 _ ihr =>
    intro Qu n up x y hM hG
    obtain ⟨b, Q1, Q2, z2, eb, hb4, _, _, _, _, _, _, _, _, b10, b11⟩ := zv_hM hM
    obtain ⟨b', g1, g2, g3, g4, g5, g6⟩ := hG
    have e : b' = b := (nI_eq (by omega) (by omega)).mp (g3.symm.trans eb)
    subst e
    have hr : ¬ zt_ap r2 (.inner c kv o lb .leaf) = .leaf := by
      cases r2 with
      | leaf => exact fun z => by cases z
      | inner => exact fun z => by cases z
    rw [if_neg (yg_Gn hr b10)] at b11
    rw [b11]
    have := ihr Q2 _ up _ z2 b10 g6
    have e2 : n + yg_c p (.inner c2 kv2 o2 l2 r2) = n + (if 30 ≤ zt_km c2 then 0 else yg_w p c2 kv2.2 + yg_c p l2) + yg_c p r2 := by
      show n + ((if 30 ≤ zt_km c2 then 0 else yg_w p c2 kv2.2 + yg_c p l2) + yg_c p r2) = _
      omega
    rw [e2]
    exact this
theorem yg_Mlast {LC LM : List (List Int32)} {c : Nat} {g : zs_H} {kv : Int32 × Int32} {o : Unit} {lb : zt_T} : ∀ (w : zt_T) (Qu : Nat → Prop) (up x y : Int32), zt_M LC LM g (zt_ap w (.inner c kv o lb .leaf)) Qu up x y → ∃ Qm : Nat → Prop, (∀ j, Qm j → Qu j) ∧ zt_M LC LM g (.inner c kv o lb .leaf) Qm up y y := by
  intro w
  induction w with
  | leaf =>
    intro Qu up x y hM
    obtain ⟨b, _, _, z2, _, _, _, _, _, _, _, _, _, _, b10, b11⟩ := zv_hM hM
    rw [if_pos (show (g.2.1 78) b = -1 ∧ z2 = -1 from b10).2] at b11
    refine ⟨Qu, fun _ z => z, ?_⟩
    rw [b11]
    rw [b11] at hM
    exact hM
  | inner c2 kv2 o2 l2 r2 _ ihr =>
    intro Qu up x y hM
    obtain ⟨b, Q1, Q2, z2, eb, hb4, _, _, _, _, _, _, b8, _, b10, b11⟩ := zv_hM hM
    have hr : ¬ zt_ap r2 (.inner c kv o lb .leaf) = .leaf := by
      cases r2 with
      | leaf => exact fun z => by cases z
      | inner => exact fun z => by cases z
    rw [if_neg (yg_Gn hr b10)] at b11
    rw [b11]
    obtain ⟨Qm, q1, q2⟩ := ihr Q2 up _ z2 b10
    exact ⟨Qm, fun j z => (b8 j (q1 j z)).1, q2⟩
/-- what is known of a block that has been judged -/
def yg_K (LC LM : List (List Int32)) (F : Nat → Nat) (sz b : Nat) (P Q : Nat → Prop) (h g : zs_H) : Prop :=
  ∃ (Fb : Nat → Nat) (i k c : Nat) (kv : Int32 × Int32) (lb : zt_T) (a bn y m : Nat), (∀ j, j ≤ b + 1 → Fb j = F j) ∧ (i < 32784 ∧ k < 33500 ∧ (h.2.1 22) (9 + b) = nI i ∧ (g.2.1 84) b = nI k) ∧ ((g.2.1 77) k = nI bn ∧ bn < 33500 ∧ (g.2.1 72) bn = nI c ∧ ∃ Qm : Nat → Prop, (∀ j, Qm j → j < 33500) ∧ zt_M LC LM g (.inner c kv () lb .leaf) Qm (nI k) (nI bn) (nI bn)) ∧ ((c = 11 ∨ c = 22) ∧ zg_A c (zg_run c 0 lb) = true ∧ zg_ok lb ∧ zg_d lb ≤ 184 ∧ zg_cx lb ∧ zg_x (.inner c kv () lb .leaf) = 0 ∧ zg_ru (.inner c kv () lb .leaf)) ∧ (a < 32784 ∧ (m < sz ∧ zt_sz lb + 1 ≤ sz) ∧ yg_cn ((h.2.1 18)) a m ((h.2.1 17) i)) ∧ yb_F Fb b h g P Q (.inner c kv () lb .leaf) (nI a) (nI bn) (-1) (-1) ∧ ((y ≤ 4096 ∧ ((h.2.1 21) (9 + b) = 3 → 960 ≤ y)) ∧ (h.2.1 25) (9 + b) = nI y ∧ (h.2.1 26) (9 + b) = nI (y + yc_o (.inner c kv () lb .leaf))) ∧ yg_G 0 g Q y (.inner c kv () lb .leaf) (nI bn) ∧ yg_G 1 g Q (y + yg_c 0 (.inner c kv () lb .leaf)) (.inner c kv () lb .leaf) (nI bn) ∧ (∀ v, F b ≤ v → v < F (b + 1) → ((h.2.1 29) (32 + v) = 3 ↔ (h.2.1 21) (9 + b) = 1 ∧ v = F b) ∧ ((h.2.1 21) (9 + b) = 1 → (h.2.1 30) (32 + v) = -1 ∨ (h.2.1 30) (32 + v) = -2) ∧ zv_lv (F b) ((h.2.1 21) (9 + b)) v h) ∧ (h.2.1 15) i = (g.2.1 73) k
/-- what a block's visit leaves as it is -/
def yg_bf (nb n : Nat) (P Q : Nat → Prop) (h g h' g' : zs_H) : Prop := zfr zv_cf (13 :: 14 :: 16 :: 17 :: zv_cm) [] h h' ∧ zfr zv_mf zv_mm [] g g' ∧ (∀ j, ¬ P j → (h'.2.1 13) j = (h.2.1 13) j ∧ (h'.2.1 14) j = (h.2.1 14) j ∧ (h'.2.1 16) j = (h.2.1 16) j ∧ (h'.2.1 17) j = (h.2.1 17) j) ∧ (∀ j, ¬ Q j → (g'.2.1 100) j = (g.2.1 100) j ∧ (g'.2.1 101) j = (g.2.1 101) j ∧ (g'.2.1 102) j = (g.2.1 102) j) ∧ (∀ j, j < 32 + n → zv_v8 h h' j) ∧ (∀ b, b < nb → (h'.2.1 21) (9 + b) = (h.2.1 21) (9 + b) ∧ (h'.2.1 22) (9 + b) = (h.2.1 22) (9 + b) ∧ (h'.2.1 25) (9 + b) = (h.2.1 25) (9 + b) ∧ (h'.2.1 26) (9 + b) = (h.2.1 26) (9 + b) ∧ (g'.2.1 84) b = (g.2.1 84) b)
theorem yg_bnode {D D' d i k kd : Nat} {h h1 g g1 : zs_H} (hd : d ≤ 240) (hi : i < 32784) (hk : k < 33500) (hkd : kd = 1 ∨ kd = 2 ∨ kd = 3) (m1 : (g.2.1 72) k = nI kd) (hen : f_Jd_enter h (nI i) = some h1) (hbg : f_Mo_beginBlock g (nI k) = some g1) : f_Jd_visit (D + 1) h (nI i) (nI d) = f_Jd_visit_L26 (f_Jd_visit D) zF h1 (nI i) (nI d) ((h1.2.1 17) i) (nI 0) ∧ f_Mo_look (D' + 2) g (nI k) = f_Mo_lookAlone_L28 (f_Mo_look D') zF g1 (nI k) (nI kd) ((g1.2.1 76) k) := by
  refine ⟨zv_vC hd hi hen, ?_⟩
  rw [zv_lM hk (by omega) (by omega) m1]
  show g_Mo_lookAlone (f_Mo_look D') g (nI k) = _
  unfold g_Mo_lookAlone f_Mo_lookAlone_21
  simp only [if_pos (zi_in (show k < 2147483648 by omega) hk), nI_clamp (show k < 2147483648 by omega), m1]
  rw [if_neg (mt (zc_el (k := 0) (by decide) (by omega)).mp (by omega)), if_neg (mt (zc_le (k := 4) (by decide) (by omega)).mp (by omega)), hbg, Option.bind_some]
end
