/-! The judge: the model gives a block's own cells. -/
def yg_w (p kd : Nat) (v : Int32) : Nat := if p = 0 then (if kd = 16 ∨ kd = 19 then 1 else 0) else (if kd = 25 ∧ 2 ≤ v then 1 else 0)
def yg_c (p : Nat) : zt_T → Nat
  | .leaf => 0
  | .inner kd kv _ l r => (if 30 ≤ zt_km kd then 0 else yg_w p kd kv.2 + yg_c p l) + yg_c p r
/-- the cells are told in this order -/
def yg_G (p : Nat) (g : zs_H) (Q : Nat → Prop) : Nat → zt_T → Int32 → Prop
  | _, .leaf, _ => True
  | n, .inner kd kv _ l r, x => ∃ b, Q b ∧ b < 33500 ∧ x = nI b ∧ (g.2.1 72) b = nI (zt_km kd) ∧ (30 ≤ zt_km kd ∨ ((p = 0 → kd = 16 → (g.2.1 101) b = nI n) ∧ (p = 0 → kd = 19 → (g.2.1 102) b = nI n) ∧ (p = 1 → kd = 25 → 2 ≤ kv.2 → (g.2.1 101) b = nI n) ∧ yg_G p g Q (n + yg_w p kd kv.2) l ((g.2.1 76) b))) ∧ yg_G p g Q (n + (if 30 ≤ zt_km kd then 0 else yg_w p kd kv.2 + yg_c p l)) r ((g.2.1 78) b)
theorem yg_Gf {p : Nat} {g g' : zs_H} {Q Q' : Nat → Prop} (hQ : ∀ j, Q j → Q' j) (e72 : g'.2.1 72 = g.2.1 72) (e76 : g'.2.1 76 = g.2.1 76) (e78 : g'.2.1 78 = g.2.1 78) (H : ∀ j, Q j → (p = 0 → (g.2.1 72) j = 16 → (g'.2.1 101) j = (g.2.1 101) j) ∧ (p = 0 → (g.2.1 72) j = 19 → (g'.2.1 102) j = (g.2.1 102) j) ∧ (p = 1 → (g.2.1 72) j = 25 → (g'.2.1 101) j = (g.2.1 101) j)) : ∀ (t : zt_T) (n : Nat) (x : Int32), yg_G p g Q n t x → yg_G p g' Q' n t x := by
  intro t
  induction t with
  | leaf => intro _ _ _; trivial
  | inner kd kv o l r ihl ihr =>
    intro n x ⟨b, b1, b2, b3, b4, b5, b6⟩
    obtain ⟨c1, c2, c3⟩ := H b b1
    refine ⟨b, hQ b b1, b2, b3, by rw [e72]; exact b4, ?_, by rw [e78]; exact ihr _ _ b6⟩
    rcases b5 with z | ⟨d1, d2, d3, d4⟩
    · exact .inl z
    · refine .inr ⟨fun h1 h2 => ?_, fun h1 h2 => ?_, fun h1 h2 h3 => ?_, by rw [e76]; exact ihl _ _ d4⟩
      · rw [c1 h1 (by rw [b4, h2]; rfl)]; exact d1 h1 h2
      · rw [c2 h1 (by rw [b4, h2]; rfl)]; exact d2 h1 h2
      · rw [c3 h1 (by rw [b4, h2]; rfl)]; exact d3 h1 h2 h3
/-- what it writes -/
def yg_O (p he m : Nat) (Q : Nat → Prop) (g g' : zs_H) : Prop := zfr [] [88, 101, 102] [] g g' ∧ (∀ j, (g'.2.1 88) j = if j = he then nI m else (g.2.1 88) j) ∧ (∀ j, ¬ Q j → (g'.2.1 101) j = (g.2.1 101) j ∧ (g'.2.1 102) j = (g.2.1 102) j) ∧ (∀ j, (p = 0 → ¬ (g.2.1 72) j = 16) → (p = 1 → ¬ (g.2.1 72) j = 25) → (g'.2.1 101) j = (g.2.1 101) j) ∧ (∀ j, (p = 0 → ¬ (g.2.1 72) j = 19) → (g'.2.1 102) j = (g.2.1 102) j)
theorem yg_Ot {p he m m' : Nat} {Q1 Q2 Q : Nat → Prop} {g g1 g2 : zs_H} (a : yg_O p he m Q1 g g1) (b : yg_O p he m' Q2 g1 g2) (h1 : ∀ j, Q1 j → Q j) (h2 : ∀ j, Q2 j → Q j) : yg_O p he m' Q g g2 := by
  obtain ⟨a1, a2, a3, a4, a5⟩ := a
  obtain ⟨b1, b2, b3, b4, b5⟩ := b
  have e72 : g1.2.1 72 = g.2.1 72 := a1.2.1 _ (by decide)
  refine ⟨zfr_trans a1 b1, fun j => ?_, fun j hj => ?_, fun j u v => ?_, fun j u => ?_⟩
  · rw [b2]
    by_cases z : j = he
    · rw [if_pos z, if_pos z]
    · rw [if_neg z, if_neg z, a2, if_neg z]
  · obtain ⟨x1, x2⟩ := a3 j (fun z => hj (h1 j z))
    obtain ⟨y1, y2⟩ := b3 j (fun z => hj (h2 j z))
    exact ⟨y1.trans x1, y2.trans x2⟩
  · exact (b4 j (by rw [e72]; exact u) (by rw [e72]; exact v)).trans (a4 j u v)
  · exact (b5 j (by rw [e72]; exact u)).trans (a5 j u)
theorem yg_uM {h : zs_H} {k i : Nat} {v : Int32} (j : Nat) : (zs_uM h k i v).2.1 k j = if j = i then v else h.2.1 k j := by
  rw [zu_MM]
  by_cases z : j = i
  · rw [if_pos ⟨rfl, z⟩, if_pos z]
  · rw [if_neg (fun q => z q.2), if_neg z]
section YD
variable {g : zs_H} {p he n b kd : Nat} {v : Int32}
theorem yg_v2 : ¬ v ≤ 1 ↔ 2 ≤ v := by
  rw [Int32.le_iff_toInt_le, Int32.le_iff_toInt_le]
  have e1 : (1 : Int32).toInt = 1 := by decide
  have e2 : (2 : Int32).toInt = 2 := by decide
  rw [e1, e2]
  omega
theorem yg_123 {K : zs_H → Int32 → Int32 → Option zs_H} {y0 : Int32} {w : Nat} (hb : b < 33500) (hhe : he < 2100) (hw : y0 = nI w) : f_Mo_give_123 K g (nI b) (nI p) y0 (nI n) (nI he) = f_Mo_give_L133 K zF (zs_uM g 88 he (nI (n + w))) (nI p) ((g.2.1 76) b) := by
  unfold f_Mo_give_123
  rw [if_pos (zi_in (by omega) hhe), if_pos (zi_in (by omega) hb), nI_clamp (show b < 2147483648 by omega), nI_clamp (show he < 2147483648 by omega), hw, show nI n + nI w = nI (n + w) from (Int32.ofNat_add n w).symm]
/-- a node -/
theorem yg_node {D : Nat} (hp : p = 0 ∨ p = 1) (hb : b < 33500) (hhe : he < 2100) (hkd : kd < 100) (e1 : (g.1 68 54) = nI he) (e2 : (g.2.1 88) he = nI n) (e3 : (g.2.1 72) b = nI kd) (e4 : kd = 25 → (g.2.1 74) b = v) :
    ∃ g1, f_Mo_give (D + 1) g (nI b) (nI p) = f_Mo_give_L133 (f_Mo_give D) zF g1 (nI p) ((g1.2.1 76) b) ∧ yg_O p he (n + yg_w p kd v) (fun j => j = b) g g1 ∧ (p = 0 → kd = 16 → (g1.2.1 101) b = nI n) ∧ (p = 0 → kd = 19 → (g1.2.1 102) b = nI n) ∧ (p = 1 → kd = 25 → 2 ≤ v → (g1.2.1 101) b = nI n) := by
  have hz1 := zi_in (a := b) (n := 33500) (by omega) hb
  have hz2 := zi_in (a := he) (n := 2100) (by omega) hhe
  have cb : (nI b).toNatClampNeg = b := nI_clamp (by omega)
  have ch : (nI he).toNatClampNeg = he := nI_clamp (by omega)
  have k16 : (nI kd = 16) ↔ kd = 16 := zc_eq (k := 16) (by decide) (by omega)
  have k19 : (nI kd = 19) ↔ kd = 19 := zc_eq (k := 19) (by decide) (by omega)
  have k25 : (nI kd = 25) ↔ kd = 25 := zc_eq (k := 25) (by decide) (by omega)
  have u : f_Mo_give (D + 1) g (nI b) (nI p) = g_Mo_give (f_Mo_give D) g (nI b) (nI p) := rfl
  have e0 : f_Mo_give_52 (f_Mo_give D) g (nI b) (nI p) (nI kd) 0 = f_Mo_give_L133 (f_Mo_give D) zF (zs_uM g 88 he (nI (n + 0))) (nI p) ((g.2.1 76) b) := by
    unfold f_Mo_give_52 f_Mo_give_83 f_Mo_give_103
    rw [if_pos rfl, if_pos rfl, e1, if_pos hz2, if_pos rfl, ch, e2]
    exact yg_123 hb hhe rfl
  have e103 : ∀ g' : zs_H, (g'.1 68 54) = nI he → (g'.2.1 88) he = nI n → f_Mo_give_103 (f_Mo_give D) g' (nI b) (nI p) 1 = f_Mo_give_L133 (f_Mo_give D) zF (zs_uM g' 88 he (nI (n + 1))) (nI p) ((g'.2.1 76) b) := by
    intro g' q1 q2
    unfold f_Mo_give_103
    rw [q1, if_pos hz2, if_neg (by decide), ch, q2]
    exact yg_123 hb hhe rfl
  have e19 : kd = 19 → f_Mo_give_52 (f_Mo_give D) g (nI b) (nI p) (nI kd) 1 = f_Mo_give_L133 (f_Mo_give D) zF (zs_uM (zs_uM g 102 b (nI n)) 88 he (nI (n + 1))) (nI p) ((g.2.1 76) b) := by
    intro z
    unfold f_Mo_give_52
    rw [if_neg (by decide), if_pos (k19.mpr z), e1, if_pos hz2, if_pos hz1, cb, ch, e2]
    exact e103 _ e1 e2
  have e16 : ¬ kd = 19 → f_Mo_give_52 (f_Mo_give D) g (nI b) (nI p) (nI kd) 1 = f_Mo_give_L133 (f_Mo_give D) zF (zs_uM (zs_uM g 101 b (nI n)) 88 he (nI (n + 1))) (nI p) ((g.2.1 76) b) := by
    intro z
    unfold f_Mo_give_52 f_Mo_give_83
    rw [if_neg (by decide), if_neg (mt k19.mp z), if_neg (by decide), e1, if_pos hz2, if_pos hz1, cb, ch, e2]
    exact e103 _ e1 e2
  have O0 : yg_O p he (n + 0) (fun j => j = b) g (zs_uM g 88 he (nI (n + 0))) := ⟨zfr_M (by decide) zfr_rfl, yg_uM, fun _ _ => ⟨rfl, rfl⟩, fun _ _ _ => rfl, fun _ _ => rfl⟩
  have O1 : (p = 0 → (g.2.1 72) b = 16) → (p = 1 → (g.2.1 72) b = 25) → yg_O p he (n + 1) (fun j => j = b) g (zs_uM (zs_uM g 101 b (nI n)) 88 he (nI (n + 1))) := fun q1 q2 => ⟨zfr_M (by decide) (zfr_M (by decide) zfr_rfl), yg_uM, fun j hj => ⟨(yg_uM (h := g) j).trans (if_neg hj), rfl⟩, fun j z1 z2 => (yg_uM (h := g) j).trans (if_neg fun z => by
    subst z
    rcases hp with e | e
    · exact z1 e (q1 e)
    · exact z2 e (q2 e)), fun _ _ => rfl⟩
  have O2 : p = 0 → (g.2.1 72) b = 19 → yg_O p he (n + 1) (fun j => j = b) g (zs_uM (zs_uM g 102 b (nI n)) 88 he (nI (n + 1))) := fun q1 q2 => ⟨zfr_M (by decide) (zfr_M (by decide) zfr_rfl), yg_uM, fun j hj => ⟨rfl, (yg_uM (h := g) j).trans (if_neg hj)⟩, fun _ _ _ => rfl, fun j z1 => (yg_uM (h := g) j).trans (if_neg fun z => by
    subst z
    exact z1 q1 q2)⟩
  rw [u]
  unfold g_Mo_give f_Mo_give_47 f_Mo_give_31
  rw [if_pos hz1, cb, e3]
  rcases hp with hp | hp
  · subst hp
    rw [if_pos (show nI 0 = 0 from rfl)]
    by_cases z16 : kd = 16
    · rw [if_pos (k16.mpr z16), e16 (by omega), show yg_w 0 kd v = 1 by unfold yg_w; rw [if_pos rfl, if_pos (.inl z16)]]
      exact ⟨_, rfl, O1 (fun _ => by rw [e3, z16]; rfl) (fun z => absurd z (by decide)), fun _ _ => (yg_uM (h := g) b).trans (if_pos rfl), fun _ z => absurd z (by omega), fun z => absurd z (by decide)⟩
    · rw [if_neg (mt k16.mp z16)]
      by_cases z19 : kd = 19
      · rw [if_pos (k19.mpr z19), e19 z19, show yg_w 0 kd v = 1 by unfold yg_w; rw [if_pos rfl, if_pos (.inr z19)]]
        exact ⟨_, rfl, O2 rfl (by rw [e3, z19]; rfl), fun _ z => absurd z z16, fun _ _ => (yg_uM (h := g) b).trans (if_pos rfl), fun z => absurd z (by decide)⟩
      · rw [if_neg (mt k19.mp z19), e0, show yg_w 0 kd v = 0 by unfold yg_w; rw [if_pos rfl, if_neg (by omega)]]
        exact ⟨_, rfl, O0, fun _ z => absurd z z16, fun _ z => absurd z z19, fun z => absurd z (by decide)⟩
  · subst hp
    rw [if_neg (show ¬ nI 1 = 0 by decide)]
    by_cases z25 : kd = 25
    · rw [if_pos (k25.mpr z25), e4 z25]
      by_cases zv : v ≤ 1
      · have zv' : ¬ 2 ≤ v := fun z => (yg_v2.mpr z) zv
        rw [if_pos zv, e0, show yg_w 1 kd v = 0 by unfold yg_w; rw [if_neg (by decide), if_neg (fun z => zv' z.2)]]
        exact ⟨_, rfl, O0, fun z => absurd z (by decide), fun z => absurd z (by decide), fun _ _ z => absurd z zv'⟩
      · rw [if_neg zv, e16 (by omega), show yg_w 1 kd v = 1 by unfold yg_w; rw [if_neg (by decide), if_pos ⟨z25, yg_v2.mp zv⟩]]
        exact ⟨_, rfl, O1 (fun z => absurd z (by decide)) (fun _ => by rw [e3, z25]; rfl), fun z => absurd z (by decide), fun z => absurd z (by decide), fun _ _ _ => (yg_uM (h := g) b).trans (if_pos rfl)⟩
    · rw [if_neg (mt k25.mp z25), e0, show yg_w 1 kd v = 0 by unfold yg_w; rw [if_neg (by decide), if_neg (fun z => z25 z.1)]]
      exact ⟨_, rfl, O0, fun z => absurd z (by decide), fun z => absurd z (by decide), fun _ z => absurd z z25⟩
end YD
theorem yg_km {p kd : Nat} {v : Int32} : yg_w p (zt_km kd) v = yg_w p kd v := by
  have k0 : ∀ c, c = 6 ∨ c = 37 ∨ c = 38 → yg_w p c v = 0 := by
    intro c hc
    unfold yg_w
    rw [if_neg (show ¬ (c = 16 ∨ c = 19) by omega), if_neg (show ¬ (c = 25 ∧ 2 ≤ v) from fun z => by omega), ite_self]
  unfold zt_km
  by_cases a : kd = 37
  · rw [if_pos a, a, k0 6 (by omega), k0 37 (by omega)]
  · rw [if_neg a]
    by_cases b : kd = 38
    · rw [if_pos b, b, k0 6 (by omega), k0 38 (by omega)]
    · rw [if_neg b]
theorem yg_kmc {kd c : Nat} (hc : c = 16 ∨ c = 19 ∨ c = 25) : zt_km kd = c ↔ kd = c := by
  unfold zt_km
  by_cases a : kd = 37
  · rw [if_pos a, a]; rcases hc with e | e | e <;> rw [e] <;> decide
  · rw [if_neg a]
    by_cases b : kd = 38
    · rw [if_pos b, b]; rcases hc with e | e | e <;> rw [e] <;> decide
    · rw [if_neg b]
theorem zg_A100 {kd st : Nat} (h : zg_A kd st = true) : kd < 100 := by
  have key : ∀ r ∈ [(0, 0), (1, 2), (2, 2), (3, 2), (4, 0), (5, 3), (5, 4), (6, 0), (7, 0), (8, 0), (9, 3), (10, 0), (11, 0), (12, 2), (13, 0), (14, 1), (15, 2), (15, 3), (16, 1), (16, 2), (17, 2), (18, 1), (18, 2), (19, 4), (20, 0), (21, 0), (22, 0), (23, 1), (24, 1), (25, 1), (26, 0), (27, 0), (28, 1), (29, 0), (30, 0), (31, 0), (32, 1), (33, 1), (34, 0), (35, 2), (36, 1), (37, 0), (38, 0)], r.1 < 100 := by decide +kernel
  unfold zg_A at h
  rw [List.elem_eq_mem, decide_eq_true_eq] at h
  exact key _ h
/-- a forest -/
theorem yg_give {LC LM : List (List Int32)} {p he : Nat} (hp : p = 0 ∨ p = 1) (hhe : he < 2100) : ∀ (t : zt_T) (D N n : Nat) (g : zs_H) (Q : Nat → Prop) (up x y : Int32), zg_ok t → zt_M LC LM g t Q up x y → (∀ j, Q j → j < 33500) → (g.1 68 54) = nI he → (g.2.1 88) he = nI n → zg_d t ≤ D → zt_ln t < N → zt_sz t < zF → ∃ g', f_Mo_give_L133 (f_Mo_give D) N g (nI p) x = some g' ∧ yg_O p he (n + yg_c p t) Q g g' ∧ yg_G p g' Q n t x := by
  have uL : ∀ (D N : Nat) (g : zs_H) (x1 x : Int32), f_Mo_give_L133 (f_Mo_give D) (N + 1) g x1 x = f_Mo_give_133 (f_Mo_give D) (f_Mo_give_L133 (f_Mo_give D) N) g x1 x := fun _ _ _ _ _ => rfl
  intro t
  induction t with
  | leaf =>
    intro D N n g Q up x y _ hM _ e1 e2 _ hN _
    obtain ⟨N, rfl⟩ : ∃ z, N = z + 1 := ⟨N - 1, by have : zt_ln .leaf = 0 := rfl; omega⟩
    rw [(show x = -1 ∧ y = -1 from hM).1, uL]
    unfold f_Mo_give_133
    rw [if_pos (by decide)]
    refine ⟨g, rfl, ⟨zfr_rfl, fun j => ?_, fun _ _ => ⟨rfl, rfl⟩, fun _ _ _ => rfl, fun _ _ => rfl⟩, trivial⟩
    by_cases z : j = he
    · rw [if_pos z, z]; exact e2
    · rw [if_neg z]
  | inner kd kv o l r ihl ihr =>
    intro D N n g Q up x y ⟨⟨hA, _⟩, okl, okr⟩ hM hQ e1 e2 hD hN hs
    have hl : zt_ln (.inner kd kv o l r) = 1 + zt_ln r := rfl
    have hs' : 1 + zt_sz l + zt_sz r < zF := hs
    have hlz := zv_lnsz l
    have hD' : max (zg_d l + 1) (zg_d r) ≤ D := Nat.le_trans zg_d1 hD
    have hkd : kd < 100 := zg_A100 hA
    have hkm : zt_km kd < 100 := by unfold zt_km; split; decide; split; decide; exact hkd
    obtain ⟨N, rfl⟩ : ∃ z, N = z + 1 := ⟨N - 1, by omega⟩
    obtain ⟨D, rfl⟩ : ∃ z, D = z + 1 := ⟨D - 1, by omega⟩
    obtain ⟨b, Q1, Q2, z2, b0, _, b2, b3, _, b5, _, b7, b8, b9, b10, _⟩ := zv_hM hM
    have hb := hQ b b2
    have q30 : ((30 : Int32) ≤ nI (zt_km kd)) ↔ 30 ≤ zt_km kd := zc_le (k := 30) (by decide) (by omega)
    have kp : ∀ (g' : zs_H) (u : zt_T) (Qu : Nat → Prop) (a c d : Int32), zfr [] [88, 101, 102] [] g g' → zt_M LC LM g u Qu a c d → zt_M LC LM g' u Qu a c d := by
      intro g' u Qu a c d f hu
      refine zt_fr u Qu Qu a c d (fun i _ => ?_) (fun i hi => hi) hu
      exact ⟨fun kd k up z hz => by unfold zt_NM at hz ⊢; rw [f.2.1 72 (by decide), f.2.1 73 (by decide), f.2.1 74 (by decide), f.2.1 75 (by decide), f.2.1 77 (by decide)]; exact hz, by rw [f.2.1 _ (by decide)], by rw [f.2.1 _ (by decide)]⟩
    have e157 : ∀ g2 : zs_H, (g2.2.1 78) b = (g.2.1 78) b → f_Mo_give_157 (f_Mo_give (D + 1)) (f_Mo_give_L133 (f_Mo_give (D + 1)) N) g2 (nI p) (nI b) = f_Mo_give_L133 (f_Mo_give (D + 1)) N g2 (nI p) ((g.2.1 78) b) := by
      intro g2 q
      unfold f_Mo_give_157
      rw [if_pos (zi_in (by omega) hb), nI_clamp (show b < 2147483648 by omega), q]
    rw [b0, uL]
    unfold f_Mo_give_133
    rw [if_neg (zv_neg (show b < 2147483648 by omega)).2, if_pos (zi_in (by omega) hb), nI_clamp (show b < 2147483648 by omega), b3]
    by_cases z30 : 30 ≤ zt_km kd
    · obtain ⟨g', r1, r2, r3⟩ := ihr (D + 1) N n g Q2 up _ z2 okr b10 (fun j hj => hQ j (b8 j hj).1) e1 e2 (by omega) (by omega) (by omega)
      rw [if_pos (q30.mpr z30), e157 g rfl]
      have ec : n + yg_c p (.inner kd kv o l r) = n + yg_c p r := by
        show n + ((if 30 ≤ zt_km kd then 0 else yg_w p kd kv.2 + yg_c p l) + yg_c p r) = _
        rw [if_pos z30]; omega
      have e72 : g'.2.1 72 = g.2.1 72 := r2.1.2.1 _ (by decide)
      have e78 : g'.2.1 78 = g.2.1 78 := r2.1.2.1 _ (by decide)
      refine ⟨g', r1, ?_, b, b2, hb, rfl, by rw [e72]; exact b3, .inl z30, ?_⟩
      · rw [ec]
        exact ⟨r2.1, r2.2.1, fun j hj => r2.2.2.1 j (fun z => hj (b8 j z).1), r2.2.2.2⟩
      · rw [if_pos z30, e78]
        exact yg_Gf (fun j z => (b8 j z).1) rfl rfl rfl (fun j _ => ⟨fun _ _ => rfl, fun _ _ => rfl, fun _ _ => rfl⟩) r _ _ r3
    · obtain ⟨g1, r1, O1, w1, w2, w3⟩ := yg_node (D := D) (v := kv.2) hp hb hhe hkm e1 e2 b3 (fun z => by
        have z' := (yg_kmc (.inr (.inr rfl))).mp z
        rw [z', if_neg (show ¬ zt_nk 25 = true by decide)] at b5
        exact b5)
      rw [yg_km] at O1
      have f1 := O1.1
      have g1a : ∀ z, ¬ z ∈ [88, 101, 102] → g1.2.1 z = g.2.1 z := fun z hz => f1.2.1 z hz
      obtain ⟨g2, s1, O2, G2⟩ := ihl D zF (n + yg_w p kd kv.2) g1 Q1 (nI b) _ _ okl (kp g1 l Q1 _ _ _ f1 b9) (fun j hj => hQ j (b7 j hj).1) ((f1.1 _ _ List.not_mem_nil).trans e1) (by rw [O1.2.1, if_pos rfl]) (by omega) (by omega) (by omega)
      have O12 := yg_Ot O1 O2 (Q := fun j => j = b ∨ Q1 j) (fun j z => .inl z) (fun j z => .inr z)
      obtain ⟨g3, t1, O3, G3⟩ := ihr (D + 1) N (n + yg_w p kd kv.2 + yg_c p l) g2 Q2 up _ z2 okr (kp g2 r Q2 _ _ _ O12.1 b10) (fun j hj => hQ j (b8 j hj).1) ((O12.1.1 _ _ List.not_mem_nil).trans e1) (by rw [O12.2.1, if_pos rfl]) (by omega) (by omega) (by omega)
      have O := yg_Ot O12 O3 (Q := Q) (fun j z => by rcases z with z | z; exact z ▸ b2; exact (b7 j z).1) (fun j z => (b8 j z).1)
      have ec : n + yg_c p (.inner kd kv o l r) = n + yg_w p kd kv.2 + yg_c p l + yg_c p r := by
        show n + ((if 30 ≤ zt_km kd then 0 else yg_w p kd kv.2 + yg_c p l) + yg_c p r) = _
        rw [if_neg z30]; omega
      have g3a : ∀ z, ¬ z ∈ [88, 101, 102] → g3.2.1 z = g.2.1 z := fun z hz => O.1.2.1 z hz
      have g23 : ∀ z, ¬ z ∈ [88, 101, 102] → g3.2.1 z = g2.2.1 z := fun z hz => O3.1.2.1 z hz
      have nb2 : ¬ Q2 b := fun z => (b8 b z).2 rfl
      have nb1 : ¬ Q1 b := fun z => (b7 b z).2.1 rfl
      have c3 : (g3.2.1 101) b = (g1.2.1 101) b := (O3.2.2.1 b nb2).1.trans (O2.2.2.1 b nb1).1
      have c4 : (g3.2.1 102) b = (g1.2.1 102) b := (O3.2.2.1 b nb2).2.trans (O2.2.2.1 b nb1).2
      have fst : (g1.2.1 76) b = (g.2.1 76) b := by rw [g1a _ (by decide)]
      rw [if_neg (mt q30.mp z30), r1, fst]
      refine ⟨g3, ?_, ?_, b, b2, hb, rfl, by rw [g3a _ (by decide)]; exact b3, .inr ⟨fun h1 h2 => ?_, fun h1 h2 => ?_, fun h1 h2 h3 => ?_, ?_⟩, ?_⟩
      · rw [s1, Option.bind_some, e157 g2 (by rw [O12.1.2.1 _ (by decide)])]
        exact t1
      · rw [ec]; exact O
      · rw [c3]; exact w1 h1 ((yg_kmc (.inl rfl)).mpr h2)
      · rw [c4]; exact w2 h1 ((yg_kmc (.inr (.inl rfl))).mpr h2)
      · rw [c3]; exact w3 h1 ((yg_kmc (.inr (.inr rfl))).mpr h2) h3
      · rw [g3a 76 (by decide)]
        exact yg_Gf (fun j z => (b7 j z).1) (g23 _ (by decide)) (g23 _ (by decide)) (g23 _ (by decide)) (fun j hj => ⟨fun _ _ => (O3.2.2.1 j (b7 j hj).2.2).1, fun _ _ => (O3.2.2.1 j (b7 j hj).2.2).2, fun _ _ => (O3.2.2.1 j (b7 j hj).2.2).1⟩) l _ _ G2
      · rw [if_neg z30, g3a 78 (by decide), ← Nat.add_assoc]
        exact yg_Gf (fun j z => (b8 j z).1) rfl rfl rfl (fun j _ => ⟨fun _ _ => rfl, fun _ _ => rfl, fun _ _ => rfl⟩) r _ _ G3
