section
/-! The coder: the branches of a choice. -/
def yz_n : ys → Nat
  | .leaf => 0
  | .inner _ _ _ _ r => 1 + yz_n r
/-- the branches of a choice, on both sides; CI, MI: how a condition is coded -/
def yk_GL (h0 g0 : zs_H) (b dl : Nat) (CI MI : Nat → Nat → Nat → List yI → Prop) : ys → Int32 → Int32 → Nat → Nat → Nat → Nat → Prop
  | .leaf, x, x', ow, ow', _, _ => x = -1 ∧ x' = -1 ∧ ow' = ow
  | .inner tg p _ T Br, x, x', ow, ow', c20, c11 => ∃ (i k ib kb xi xk oc d20 d11 e20 e11 : Nat), (i < 32784 ∧ x = nI i ∧ xi < 32784) ∧ (k < 33500 ∧ x' = nI k ∧ xk < 33500) ∧ (yk_BC h0 dl ib ow oc T ∧ yk_BM g0 b dl kb T d20 d11) ∧ (yz_st T ∧ ∀ n, (yz_x T n).length ≤ d20) ∧ ((tg = 6 ∧ p = ([], 0, 0) ∧ Br = .leaf ∧ ib = i ∧ kb = k ∧ xi = i ∧ xk = k ∧ (h0.2.1 13) i = 11 ∧ (g0.2.1 72) k = 11) ∨ (tg = 5 ∧ p.2 = (0, 0) ∧ CI i ib xi p.1 ∧ MI k kb xk p.1 ∧ (Br = .leaf → (h0.2.1 18) xi = -1) ∧ (¬ Br = .leaf → (∃ y, y < 32784 ∧ (h0.2.1 18) xi = nI y) ∧ ∃ y, y < 33500 ∧ (g0.2.1 78) xk = nI y))) ∧ (d20 + e20 ≤ c20 ∧ d11 + 1 + e11 ≤ c11) ∧ yk_GL h0 g0 b dl CI MI Br ((h0.2.1 18) xi) ((g0.2.1 78) xk) (ow + oc) ow' e20 e11
theorem yz_fl {B : ys} : yz_f B = true ↔ B = .leaf := by
  cases B with
  | leaf => exact ⟨fun _ => rfl, fun _ => rfl⟩
  | inner => exact ⟨fun z => (by cases z), fun z => (by cases z)⟩
/-- an EXIT is no jump to the end of the choice -/
theorem yz_xg : ∀ (t : ys) (n j : Nat), j ∈ yz_x t n → ¬ j ∈ yz_g t n := by
  intro t
  induction t with
  | leaf => intro n j hj; cases hj
  | inner k p o l r ihl ihr =>
    intro n j hx hg
    by_cases k5 : k = 5
    · subst k5
      have hx' : j ∈ yz_x r (n + (p.1.length + 1 + yz_l l + (if yz_f r = true then 0 else 1))) ++ yz_x l (n + p.1.length + 1) := hx
      have hg' : j ∈ yz_g r (n + (p.1.length + 1 + yz_l l + (if yz_f r = true then 0 else 1))) ++ (if yz_f r = true then [] else [n + p.1.length + 1 + yz_l l]) := hg
      obtain ⟨t, ht⟩ : ∃ t, t = if yz_f r = true then 0 else 1 := ⟨_, rfl⟩
      rw [← ht] at hx' hg'
      rcases List.mem_append.mp hx' with a | a
      · rcases List.mem_append.mp hg' with c | c
        · exact ihr _ _ a c
        · have := yz_xr _ _ _ a
          by_cases w : yz_f r = true
          · rw [if_pos w] at c; cases c
          · rw [if_neg w] at c ht
            have := List.mem_singleton.mp c
            omega
      · have := yz_xr _ _ _ a
        rcases List.mem_append.mp hg' with c | c
        · have := yz_gr _ _ _ c; omega
        · by_cases w : yz_f r = true
          · rw [if_pos w] at c; cases c
          · rw [if_neg w] at c
            have := List.mem_singleton.mp c
            omega
    · have : yz_g (.inner k p o l r) n = [] := if_neg k5
      rw [this] at hg
      cases hg
section YGL
variable {h0 g0 : zs_H} {b dl : Nat} {n v q e ow ow2 : Nat} {c0 c1 c2 : Int32} {L : List yI} {T Br : ys} {h h1 h2 h3 : zs_H}
theorem yv_m : (yv v L).map Prod.fst = L := by
  unfold yv
  rw [List.map_map]
  exact List.map_id L
/-- a branch and the next ones -/
theorem yC_Bc (A : yC_E n L h h1) (hb : yC_H (n + L.length) ([(11, nI (n + L.length + (1 + yz_l T + (if yz_f Br = true then 0 else 1))), 0, 0)] ++ ((yz_c T (n + L.length + 1) v q 0).map Prod.fst ++ (if yz_f Br = true then [] else [(10, nI e, 0, 0)]))) (yz_x T (n + L.length + 1) ++ (if yz_f Br = true then [] else [n + L.length + 1 + yz_l T])) h1 h2) (ch : n + L.length + (1 + yz_l T + (if yz_f Br = true then 0 else 1)) ≤ 4000 → yC_ch h2 ((h1.1 47 6)) (n + L.length + 1 + yz_l T) (yz_x T (n + L.length + 1)) ((h2.1 47 6)) ∧ yC_ch h2 c0 (n + L.length + (1 + yz_l T + (if yz_f Br = true then 0 else 1))) (if yz_f Br = true then [] else [n + L.length + 1 + yz_l T]) c1) (R : yC_B (n + (L.length + 1 + yz_l T + (if yz_f Br = true then 0 else 1))) v q e Br ow c1 c2 h2 h3) : yC_B n v q e (.inner 5 (L, 0, 0) () T Br) ow c0 c2 h h3 := by
  obtain ⟨t, ht⟩ : ∃ t, t = if yz_f Br = true then 0 else 1 := ⟨_, rfl⟩
  have ht1 : t ≤ 1 := by rw [ht]; split <;> omega
  have hm : n + L.length + (1 + yz_l T + (if yz_f Br = true then 0 else 1)) = n + (L.length + 1 + yz_l T + (if yz_f Br = true then 0 else 1)) := by omega
  obtain ⟨r1, r2, r3⟩ := R
  have gl : (if yz_f Br = true then ([] : List yI) else [(10, nI e, 0, 0)]).length = if yz_f Br = true then 0 else 1 := by split <;> rfl
  have bl : ([((11, nI (n + L.length + (1 + yz_l T + (if yz_f Br = true then 0 else 1))), 0, 0) : yI)] ++ ((yz_c T (n + L.length + 1) v q 0).map Prod.fst ++ (if yz_f Br = true then [] else [(10, nI e, 0, 0)]))).length = 1 + yz_l T + (if yz_f Br = true then 0 else 1) := by
    rw [List.length_append, List.length_append, yz_ml, gl]; show 1 + (yz_l T + _) = _; omega
  have ec : (yz_c (.inner 5 (L, 0, 0) () T Br) n v q e).map Prod.fst = L ++ (([(11, nI (n + L.length + (1 + yz_l T + (if yz_f Br = true then 0 else 1))), 0, 0)] ++ ((yz_c T (n + L.length + 1) v q 0).map Prod.fst ++ (if yz_f Br = true then [] else [(10, nI e, 0, 0)]))) ++ (yz_c Br (n + (L.length + 1 + yz_l T + (if yz_f Br = true then 0 else 1))) v q e).map Prod.fst) := by
    show (yv v L ++ ([((11, nI (n + (L.length + 1 + yz_l T + (if yz_f Br = true then 0 else 1))), 0, 0), v)] ++ (yz_c T (n + L.length + 1) v q 0 ++ ((if yz_f Br = true then [] else [((10, nI e, 0, 0), v)]) ++ yz_c Br (n + (L.length + 1 + yz_l T + (if yz_f Br = true then 0 else 1))) v q e)))).map Prod.fst = _
    rw [List.map_append, List.map_append, List.map_append, List.map_append, yv_m, hm, List.append_assoc, List.append_assoc]
    have : ((if yz_f Br = true then [] else [((10, nI e, 0, 0), v)]) : List yJ).map Prod.fst = if yz_f Br = true then [] else [(10, nI e, 0, 0)] := by split <;> rfl
    rw [this]
    rfl
  have ex : yz_x (.inner 5 (L, 0, 0) () T Br) n = yz_x Br (n + (L.length + 1 + yz_l T + (if yz_f Br = true then 0 else 1))) ++ yz_x T (n + L.length + 1) := rfl
  have eg : yz_g (.inner 5 (L, 0, 0) () T Br) n = yz_g Br (n + (L.length + 1 + yz_l T + (if yz_f Br = true then 0 else 1))) ++ (if yz_f Br = true then [] else [n + L.length + 1 + yz_l T]) := rfl
  have el : yz_l (.inner 5 (L, 0, 0) () T Br) = L.length + 1 + yz_l T + (if yz_f Br = true then 0 else 1) + yz_l Br := rfl
  refine ⟨?_, r2, fun h4 => ?_⟩
  · rw [ec, ex, eg]
    refine yC_Hm (yC_Hap (yC_EH A) (yC_Hap hb (by rw [bl, hm]; exact r1))) (fun j hj => ?_)
    simp only [List.mem_append] at hj ⊢
    rcases hj with z | (z | z) | (z | z)
    · cases z
    · exact .inl (.inr z)
    · exact .inr (.inr z)
    · exact .inl (.inl z)
    · exact .inr (.inl z)
  · rw [el] at h4 ⊢
    rw [← ht] at h4 ch r1 r3 ex eg hm ⊢
    obtain ⟨k1, k2⟩ := ch (by omega)
    obtain ⟨k3, k4⟩ := r3 (by omega)
    have x1 : (h1.1 47 6) = (h.1 47 6) := A.2.1.1 _ _ (by decide)
    have ea : ∀ j, j < n + (L.length + 1 + yz_l T + t) → (h3.2.1 43) j = (h2.2.1 43) j := fun j hj => (r1.2.2 (by rw [List.length_map, yz_len]; omega)).1 j hj _ (by decide)
    rw [ex, eg, show n + (L.length + 1 + yz_l T + t + yz_l Br) = n + (L.length + 1 + yz_l T + t) + yz_l Br by omega]
    constructor
    · refine yC_cha _ _ _ (n + (L.length + 1 + yz_l T + t)) _ _ (fun j hj => (yz_xr _ _ _ hj).1) k3 ?_ (by omega)
      rw [x1] at k1
      exact yC_chm (by omega) (yC_chf _ _ _ (fun j hj => ea j (by omega)) k1)
    · refine yC_cha _ _ _ (n + (L.length + 1 + yz_l T + t)) _ _ (fun j hj => (yz_gr _ _ _ hj).1) k4 ?_ (by omega)
      rw [hm] at k2
      exact yC_chf _ _ _ ea k2
theorem yC_B6 (A : yC_R n v q T ow h h1) : yC_B n v q e (.inner 6 ([], 0, 0) () T .leaf) ow c0 c0 h h1 := by
  obtain ⟨a1, a2, a3⟩ := A
  have ec : yz_c (.inner 6 ([], 0, 0) () T .leaf) n v q e = yz_c T n v q 0 := List.append_nil _
  have ex : yz_x (.inner 6 ([], 0, 0) () T .leaf) n ++ yz_g (.inner 6 ([], 0, 0) () T .leaf) n = yz_x T n := by
    show ([] ++ yz_x T n) ++ [] = _
    rw [List.append_nil, List.nil_append]
  refine ⟨by rw [ec, ex]; exact a1, a2, fun h4 => ⟨?_, rfl⟩⟩
  exact a3 h4
theorem yC_B0 (ho : (h.1 47 4) = nI ow) (es : (h.1 41 5) = nI n) : yC_B n v q e .leaf ow c0 c0 h h := ⟨⟨es, zfr_rfl, fun _ => ⟨fun _ _ _ _ => rfl, fun k i z => by cases z⟩⟩, ho, fun _ => ⟨rfl, rfl⟩⟩
/-- the choice is done -/
theorem yC_Bj (hn : n + yz_l T < 90000001) (A : yC_B n v q (n + yz_l T) T ow (-1) c1 h h1) : ∃ h', f_Cd_joinHere h1 c1 = some h' ∧ yC_R n v q (.inner 1 ([], 0, 0) () T .leaf) ow h h' := by
  obtain ⟨a1, a2, a3⟩ := A
  have ml : ((yz_c T n v q (n + yz_l T)).map Prod.fst).length = yz_l T := by rw [List.length_map, yz_len]
  obtain ⟨h', j1, j2, j3, j4⟩ := yC_join (js := yz_g T n) (x := c1) (by rw [ml]; omega) a1 (fun h4 => by
    rw [ml] at h4 ⊢
    refine ⟨(a3 h4).2, fun j hj => (yz_gr _ _ _ hj).1, fun k i ei hk => ?_⟩
    rw [List.getElem?_map] at ei
    cases hj : (yz_c T n v q (n + yz_l T))[k]? with
    | none => rw [hj] at ei; cases ei
    | some i' =>
      rw [hj] at ei
      cases ei
      exact (yz_gP T n v q (n + yz_l T) k i' hj hk).2)
  have ec : yz_c (.inner 1 ([], 0, 0) () T .leaf) n v q 0 = yz_c T n v q (n + yz_l T) := List.append_nil _
  have ex : yz_x (.inner 1 ([], 0, 0) () T .leaf) n = yz_x T n := List.nil_append _
  have el : yz_l (.inner 1 ([], 0, 0) () T .leaf) = yz_l T := rfl
  refine ⟨h', j1, ?_, (j2.1 _ _ List.not_mem_nil).trans a2, fun h4 => ?_⟩
  · rw [ec, ex]
    exact j4 _ (fun j hj => (List.mem_append.mp hj).elim .inr .inl)
  · rw [el] at h4 ⊢
    rw [ex, show (h'.1 47 6) = (h1.1 47 6) from j2.1 _ _ List.not_mem_nil]
    exact yC_chg _ _ _ (fun j hj => j3 (by rw [ml]; exact h4) j (yz_xg _ _ _ hj)) (a3 h4).1
theorem yM_Bc {s w ww : Nat} {g g1 g2 g3 : zs_H} (hw : (g.1 68 66) = nI ww) (hl : (g.1 68 68) = nI w) (A : yM_E s n (yv v L) g g1) (hb : yM_H s (n + L.length) ([((11, nI (n + L.length + (1 + yz_l T + (if yz_f Br = true then 0 else 1))), 0, 0), v)] ++ (yz_c T (n + L.length + 1) v q 0 ++ (if yz_f Br = true then [] else [((10, nI e, 0, 0), v)]))) (yz_x T (n + L.length + 1) ++ (if yz_f Br = true then [] else [n + L.length + 1 + yz_l T])) g1 g2) (h1 : (g2.1 68 64) = (g1.1 68 64)) (h3 : yM_st ((g2.2.1 110)) s ww (if yz_f Br = true then [] else [n + L.length + 1 + yz_l T])) (h4 : yM_st ((g2.2.1 111)) s w (yz_x T (n + L.length + 1)) ∧ ∀ k, k < w → (g2.2.1 111) k = (g1.2.1 111) k) (h5 : ∀ k, k < ww → (g2.2.1 110) k = (g1.2.1 110) k) (R : yM_Bx s (n + (L.length + 1 + yz_l T + (if yz_f Br = true then 0 else 1))) v q e Br (w + (yz_x T (n + L.length + 1)).length) (ww + (if yz_f Br = true then ([] : List Nat) else [n + L.length + 1 + yz_l T]).length) g2 g3) : yM_Bx s n v q e (.inner 5 (L, 0, 0) () T Br) w ww g g3 := by
  have hm : n + L.length + (1 + yz_l T + (if yz_f Br = true then 0 else 1)) = n + (L.length + 1 + yz_l T + (if yz_f Br = true then 0 else 1)) := by omega
  obtain ⟨r1, r2, r3, r4, ⟨r5, r6, r7⟩, r8⟩ := R
  have gl : (if yz_f Br = true then ([] : List yJ) else [((10, nI e, 0, 0), v)]).length = if yz_f Br = true then 0 else 1 := by split <;> rfl
  have bl : ([(((11, nI (n + L.length + (1 + yz_l T + (if yz_f Br = true then 0 else 1))), 0, 0), v) : yJ)] ++ (yz_c T (n + L.length + 1) v q 0 ++ (if yz_f Br = true then [] else [((10, nI e, 0, 0), v)]))).length = 1 + yz_l T + (if yz_f Br = true then 0 else 1) := by
    rw [List.length_append, List.length_append, yz_len, gl]; show 1 + (yz_l T + _) = _; omega
  have ec : yz_c (.inner 5 (L, 0, 0) () T Br) n v q e = yv v L ++ (([((11, nI (n + L.length + (1 + yz_l T + (if yz_f Br = true then 0 else 1))), 0, 0), v)] ++ (yz_c T (n + L.length + 1) v q 0 ++ (if yz_f Br = true then [] else [((10, nI e, 0, 0), v)]))) ++ yz_c Br (n + (L.length + 1 + yz_l T + (if yz_f Br = true then 0 else 1))) v q e) := by
    show yv v L ++ ([((11, nI (n + (L.length + 1 + yz_l T + (if yz_f Br = true then 0 else 1))), 0, 0), v)] ++ (yz_c T (n + L.length + 1) v q 0 ++ ((if yz_f Br = true then [] else [((10, nI e, 0, 0), v)]) ++ yz_c Br (n + (L.length + 1 + yz_l T + (if yz_f Br = true then 0 else 1))) v q e))) = _
    rw [hm, List.append_assoc, List.append_assoc]
  have ex : yz_x (.inner 5 (L, 0, 0) () T Br) n = yz_x Br (n + (L.length + 1 + yz_l T + (if yz_f Br = true then 0 else 1))) ++ yz_x T (n + L.length + 1) := rfl
  have eg : yz_g (.inner 5 (L, 0, 0) () T Br) n = yz_g Br (n + (L.length + 1 + yz_l T + (if yz_f Br = true then 0 else 1))) ++ (if yz_f Br = true then [] else [n + L.length + 1 + yz_l T]) := rfl
  refine ⟨?_, ?_, ?_, ?_, ⟨?_, ?_, fun k hk => ?_⟩, fun k hk => ?_⟩
  · rw [ec, ex, eg]
    refine yM_Hm (yM_Hap (yM_EH A) (by rw [yv_len]; exact yM_Hap hb (by rw [bl, hm]; exact r1))) (fun j hj => ?_)
    simp only [List.mem_append] at hj ⊢
    rcases hj with z | (z | z) | (z | z)
    · cases z
    · exact .inl (.inr z)
    · exact .inr (.inr z)
    · exact .inl (.inl z)
    · exact .inr (.inl z)
  · rw [r2, h1]; exact A.2.1.1 _ _ (by decide)
  · rw [r3, eg, List.length_append]; congr 1; omega
  · rw [eg]
    exact yM_sta _ _ r4 (yM_stf _ (fun k hk => r8 k hk) h3)
  · rw [r5, ex, List.length_append]; congr 1; omega
  · rw [ex]
    exact yM_sta _ _ r6 (yM_stf _ (fun k hk => r7 k hk) h4.1)
  · rw [r7 k (by omega), h4.2 k hk, A.2.1.2.1 _ (by decide)]
  · rw [r8 k (by omega), h5 k hk, A.2.1.2.1 _ (by decide)]
theorem yM_B6 {s w ww : Nat} {g g1 : zs_H} (hw : (g.1 68 66) = nI ww) (A : yM_R s n v q T w ww g g1) : yM_Bx s n v q e (.inner 6 ([], 0, 0) () T .leaf) w ww g g1 := by
  obtain ⟨a1, a2, a3, a4, a5, a6, a7⟩ := A
  have ec : yz_c (.inner 6 ([], 0, 0) () T .leaf) n v q e = yz_c T n v q 0 := List.append_nil _
  have ex : yz_x (.inner 6 ([], 0, 0) () T .leaf) n = yz_x T n := List.nil_append _
  refine ⟨by rw [ec, ex]; exact yM_Hm a1 (fun j hj => List.mem_append.mpr (.inl hj)), a2, a3.trans hw, trivial, ⟨by rw [ex]; exact a4, by rw [ex]; exact a5, a6⟩, a7⟩
theorem yM_B0 {s w ww : Nat} {g : zs_H} (hw : (g.1 68 66) = nI ww) (hl : (g.1 68 68) = nI w) (es : (g.1 68 56) = nI n) : yM_Bx s n v q e .leaf w ww g g := ⟨⟨es, zfr_rfl, fun _ => ⟨fun _ _ _ _ => rfl, fun k i z => by cases z⟩⟩, rfl, hw, trivial, ⟨hl, trivial, fun _ _ => rfl⟩, fun _ _ => rfl⟩
theorem yM_Bj {s w ww u : Nat} {g g1 : zs_H} (c : yM_c g n s u v) (hn : n + yz_l T < 90000001) (h84 : ww + (yz_g T n).length ≤ 8400) (hw : (g.1 68 66) = nI ww) (A : yM_Bx s n v q (n + yz_l T) T w ww g g1) : ∃ g', f_Mo_choiceCode_L174 zF g1 (nI ww) = some g' ∧ yM_R s n v q (.inner 1 ([], 0, 0) () T .leaf) w ww g g' := by
  have hz := zF_big
  obtain ⟨a1, a2, a3, a4, ⟨a5, a6, a7⟩, a8⟩ := A
  have e1 := a1.1
  rw [yz_len] at e1
  have c1 : yM_c g1 (n + yz_l T) s u v := by
    obtain ⟨⟨q1, q2⟩, ⟨q3, q4, q5⟩, q6, q7⟩ := c
    exact ⟨⟨e1, by omega⟩, ⟨(a1.2.1.1 _ _ (by decide)).trans q3, q4, by rw [a1.2.1.2.1 _ (by decide)]; exact q5⟩, a2.trans q6, (a1.2.1.1 _ _ (by decide)).trans q7⟩
  obtain ⟨g', b1, b2, b3, b4⟩ := yM_pop (m0 := 0) (yz_g T n) g1 zF c1 a3 h84 a4 (yz_gn T n) (by omega)
  have ec : yz_c (.inner 1 ([], 0, 0) () T .leaf) n v q 0 = yz_c T n v q (n + yz_l T) := List.append_nil _
  have ex : yz_x (.inner 1 ([], 0, 0) () T .leaf) n = yz_x T n := List.nil_append _
  have J := yM_join (fs := [(68, 66)]) (fun x hx => by rw [List.mem_singleton.mp hx]; decide) a1 (by rw [yz_len]; exact b2) (fun a b hab => b4 a b (fun z => hab (List.mem_singleton.mpr z))) (b4 _ _ (by decide)) c.1.2 (fun h4 => ⟨fun j hj => (yz_gr _ _ _ hj).1, fun k i ei hk => by
    obtain ⟨p1, p2⟩ := yz_gP T n v q (n + yz_l T) k i ei hk
    exact ⟨by rw [yz_len]; exact p2, .inl p1⟩⟩)
  refine ⟨g', b1, ?_, (b4 _ _ (by decide)).trans a2, b3.trans hw.symm, ?_, ?_, fun k hk => ?_, fun k hk => ?_⟩
  · rw [ec, ex]
    exact J _ (fun j hj => (List.mem_append.mp hj).elim .inr .inl)
  · rw [ex]; exact (b4 _ _ (by decide)).trans a5
  · rw [ex, b2.1 _ (by decide)]; exact a6
  · rw [b2.1 _ (by decide)]; exact a7 k hk
  · rw [b2.1 _ (by decide)]; exact a8 k hk
end YGL
end
section
/-! The coder: how both sides go through the branches of a choice. -/
def yk_ci (h0 : zs_H) (i ib xi : Nat) (L : List yI) : Prop := xi = ib ∧ ib < 32784 ∧ ¬ (h0.2.1 13) i = 11 ∧ (h0.2.1 18) i = nI ib ∧ ∃ dlc, dlc ≤ 190 ∧ yk_C h0 dlc (nI i) L
def yk_cc (h0 : zs_H) (own i ib xi : Nat) (L : List yI) : Prop := xi = i ∧ ¬ (h0.2.1 13) i = 11 ∧ ∀ (n : Nat) (h : zs_H), yC_f h0 h → (h.1 41 5) = nI n → n + L.length ≤ 90000000 → ∃ h', f_Cr_codeRanges h (nI i) (nI own) = some (nI ib, h') ∧ yC_E n L h h'
def yk_mi (g0 : zs_H) (b : Nat) (cell : Int32) (k kb xk : Nat) (L : List yI) : Prop := ∀ (D n s v : Nat) (g : zs_H) (K : zs_H → Int32 → Int32 → Int32 → Option zs_H) (x4 : Int32), yM_f g0 g → yM_c g n s b v → n + L.length ≤ 90000000 → ∃ (g1 : zs_H) (CT : Int32 → zs_H → Option zs_H), yM_E s n (yv v L) g g1 ∧ f_Mo_choiceCode_9 (f_Mo_bodyCode D) K g cell x4 (nI k) = zd_B (f_Mo_emit g1 (nI 11) 0 0 0) CT ∧ ∀ w h15, yM_f g0 h15 → CT w h15 = f_Mo_choiceCode_108 (f_Mo_bodyCode D) K h15 cell x4 (nI xk) (nI kb) w
section YLP
variable {h0 g0 : zs_H} {b dl : Nat} {CI MI : Nat → Nat → Nat → List yI → Prop}
theorem yk_GLl : ∀ (B : ys) (x x' : Int32) (ow ow' c20 c11 : Nat), yk_GL h0 g0 b dl CI MI B x x' ow ow' c20 c11 → ∀ n, (yz_x B n).length ≤ c20 ∧ (yz_g B n).length ≤ c11 := by
  intro B
  induction B with
  | leaf => intro x x' ow ow' c20 c11 _ n; exact ⟨Nat.zero_le _, Nat.zero_le _⟩
  | inner tg p o T Br _ ih =>
    intro x x' ow ow' c20 c11 ⟨i, k, ib, kb, xi, xk, oc, d20, d11, e20, e11, _, _, _, ⟨_, hx⟩, hk, ⟨s1, s2⟩, R⟩ n
    rcases hk with ⟨rfl, _, rfl, _⟩ | ⟨rfl, _⟩
    · have ex : yz_x (.inner 6 p o T .leaf) n = yz_x T n := List.nil_append _
      have eg : yz_g (.inner 6 p o T .leaf) n = [] := rfl
      rw [ex, eg]
      have := hx n
      exact ⟨by omega, Nat.zero_le _⟩
    · have ex : yz_x (.inner 5 p o T Br) n = yz_x Br (n + (p.1.length + 1 + yz_l T + (if yz_f Br = true then 0 else 1))) ++ yz_x T (n + p.1.length + 1) := rfl
      have eg : yz_g (.inner 5 p o T Br) n = yz_g Br (n + (p.1.length + 1 + yz_l T + (if yz_f Br = true then 0 else 1))) ++ (if yz_f Br = true then [] else [n + p.1.length + 1 + yz_l T]) := rfl
      have h1 : (if yz_f Br = true then ([] : List Nat) else [n + p.1.length + 1 + yz_l T]).length ≤ 1 := by
        split
        · exact Nat.zero_le _
        · exact Nat.le_refl _
      obtain ⟨q1, q2⟩ := ih _ _ _ _ _ _ R (n + (p.1.length + 1 + yz_l T + (if yz_f Br = true then 0 else 1)))
      have := hx (n + p.1.length + 1)
      rw [ex, eg, List.length_append, List.length_append]
      exact ⟨by omega, by omega⟩
theorem yk_u16 {D N : Nat} {h : zs_H} {x2 x3 x4 x5 : Int32} : f_Cr_codeIf_L16 (f_Cr_codeBody D) (f_Cr_codeBranch D) (N + 1) h x2 x3 x4 x5 = f_Cr_codeIf_16 (f_Cr_codeBody D) (f_Cr_codeBranch D) (f_Cr_codeIf_L16 (f_Cr_codeBody D) (f_Cr_codeBranch D) N) h x2 x3 x4 x5 := rfl
theorem yk_u61 {D N : Nat} {h : zs_H} {x2 x3 x4 x5 x6 : Int32} : f_Cr_codeCase_L61 (f_Cr_codeBody D) (f_Cr_codeBranch D) (N + 1) h x2 x3 x4 x5 x6 = f_Cr_codeCase_61 (f_Cr_codeBody D) (f_Cr_codeBranch D) (f_Cr_codeCase_L61 (f_Cr_codeBody D) (f_Cr_codeBranch D) N) h x2 x3 x4 x5 x6 := rfl
theorem yk_u9 {D N : Nat} {g : zs_H} {x3 x4 x5 : Int32} : f_Mo_choiceCode_L9 (f_Mo_bodyCode D) (N + 1) g x3 x4 x5 = f_Mo_choiceCode_9 (f_Mo_bodyCode D) (f_Mo_choiceCode_L9 (f_Mo_bodyCode D) N) g x3 x4 x5 := rfl
theorem yk_l5 {p : List yI × Int32 × Int32} {o : Unit} {T Br : ys} : yz_l (.inner 5 p o T Br) = p.1.length + 1 + yz_l T + (if yz_f Br = true then 0 else 1) + yz_l Br := rfl
/-- the class at an IF -/
theorem yk_ifC {sz : Nat} (hsz : (h0.1 12 6) = nI sz) (hs2 : sz < 100000) : ∀ (B : ys) (x x' : Int32) (ow ow' c20 c11 : Nat), yk_GL h0 g0 b dl (yk_ci h0) MI B x x' ow ow' c20 c11 → ∀ (D d n v q e tt N : Nat) (h : zs_H) (c0 : Int32), yC_f h0 h → (h.1 41 5) = nI n → (h.1 47 4) = nI ow → n + yz_l B ≤ 90000000 → 2 * dl + 2 ≤ D → d + 1 + dl ≤ 240 → tt + yz_n B ≤ sz → yz_n B < N → ∃ c1 h', f_Cr_codeIf_L16 (f_Cr_codeBody D) (f_Cr_codeBranch D) N h (nI d) c0 x (nI tt) = f_Cr_codeIf_126 h' c1 ∧ yC_B n v q e B ow' c0 c1 h h' := by
  intro B
  induction B with
  | leaf =>
    intro x x' ow ow' c20 c11 ⟨e1, _, e3⟩ D d n v q e tt N h c0 f es ho hn hD hd ht hN
    obtain ⟨N, rfl⟩ : ∃ z, N = z + 1 := ⟨N - 1, by omega⟩
    refine ⟨c0, h, ?_, yC_B0 (by rw [e3]; exact ho) es⟩
    rw [yk_u16, e1]
    unfold f_Cr_codeIf_16
    rw [if_pos (show (-1 : Int32) = -1 from rfl), ite_self]
  | inner tg p o T Br _ ih =>
    intro x x' ow ow' c20 c11 ⟨i, k, ib, kb, xi, xk, oc, d20, d11, e20, e11, ⟨i1, i2, i3⟩, _, ⟨BC, _⟩, ⟨sT, _⟩, hk, _, R⟩ D d n v q e tt N h c0 f es ho hn hD hd ht hN
    have hn0 : yz_n (.inner tg p o T Br) = 1 + yz_n Br := rfl
    obtain ⟨N, rfl⟩ : ∃ z, N = z + 1 := ⟨N - 1, by omega⟩
    have f' : ∀ a, ¬ a ∈ yC_M → h.2.1 a = h0.2.1 a := fun a ha => f.2.1 a ha
    rcases hk with ⟨rfl, rfl, rfl, rfl, rfl, rfl, _, k11, _⟩ | ⟨rfl, hp, ⟨c1, c2, c3, c4, dlc, c5, CC⟩, _, last, more⟩
    · obtain ⟨h1, a1, a2⟩ := BC D (d + 1) n v q h f es ho (by show n + yz_l T ≤ _; have : yz_l (.inner 6 (([], 0, 0) : List yI × Int32 × Int32) o T .leaf) = yz_l T + 0 := rfl; omega) (by omega) (by omega)
      obtain ⟨f1, e1, o1⟩ := yC_Rf f a2
      obtain ⟨R1, _, R3⟩ := R
      refine ⟨c0, h1, ?_, by rw [R3]; exact yC_B6 a2⟩
      obtain ⟨N, rfl⟩ : ∃ z, N = z + 1 := ⟨N - 1, by omega⟩
      rw [yk_u16, i2]
      unfold f_Cr_codeIf_16 f_Cr_codeIf_108
      rw [f.1 _ _ (by decide), hsz, if_neg (mt (nI_leI (by omega) (by omega)).mp (by omega)), if_neg (zc_m1 (by omega))]
      simp only [if_pos (zi_in (show xi < 2147483648 by omega) i1), nI_clamp (show xi < 2147483648 by omega), f' 13 (by decide)]
      rw [k11, if_pos rfl, nI_1, a1, Option.bind_some, f1.2.1 18 (by decide), R1, yk_u16]
      unfold f_Cr_codeIf_16
      rw [if_pos (show (-1 : Int32) = -1 from rfl), ite_self]
    · subst c1
      rw [yk_l5] at hn
      obtain ⟨L, p2⟩ := p
      have hp' : p2 = (0, 0) := hp
      subst hp'
      have hn' : n + (L.length + 1 + yz_l T + (if yz_f Br = true then 0 else 1) + yz_l Br) ≤ 90000000 := hn
      obtain ⟨h1, a1, a2⟩ := CC 400 0 n h f es (by show n + L.length ≤ _; omega) (by omega) (by omega)
      have f1 := yC_fE f a2
      have f1' : ∀ a, ¬ a ∈ yC_M → h1.2.1 a = h0.2.1 a := fun a ha => f1.2.1 a ha
      obtain ⟨cm, h2, b1, b2, b3, b4⟩ := yC_br (la := yz_f Br) (v := v) (q := q) (e := e) (c0 := c0) (d := d) (D := D) f1 a2.1 ((a2.2.1.1 _ _ (by decide)).trans ho) (by show n + L.length + 1 + yz_l T + 1 ≤ _; omega) hD hd BC
      have f2 : yC_f h0 h2 := zfr_trans f1 (zfr_w b2.2.1 (by decide) (by decide) (by decide))
      have s2 : (h2.1 41 5) = nI (n + (L.length + 1 + yz_l T + (if yz_f Br = true then 0 else 1))) := by
        rw [b2.1, List.length_append, List.length_append, yz_ml]
        have : (if yz_f Br = true then ([] : List yI) else [(10, nI e, 0, 0)]).length = if yz_f Br = true then 0 else 1 := by split <;> rfl
        rw [this]
        congr 1
        show n + L.length + (1 + _) = _
        omega
      obtain ⟨c1, h3, r1, r2⟩ := ih _ _ _ _ _ _ R D d _ v q e (tt + 1) N h2 cm f2 s2 b3 (by omega) hD hd (by omega) (by omega)
      refine ⟨c1, h3, ?_, yC_Bc a2 b2 b4 r2⟩
      rw [yk_u16, i2]
      unfold f_Cr_codeIf_16 f_Cr_codeIf_102 f_Cr_codeIf_108
      rw [f.1 _ _ (by decide), hsz, if_neg (mt (nI_leI (by omega) (by omega)).mp (by omega)), if_neg (zc_m1 (by omega))]
      simp only [if_pos (zi_in (show i < 2147483648 by omega) i1), nI_clamp (show i < 2147483648 by omega), f' 13 (by decide)]
      rw [if_neg c3, show f_Cr_codeExpression 400 h (nI i) 0 = some h1 from a1, Option.bind_some]
      simp only [f1' 18 (by decide), c4, if_pos (zi_in (show xi < 2147483648 by omega) c2), nI_clamp (show xi < 2147483648 by omega)]
      have key : (zd_B (f_Cr_codeBranch D h1 (nI xi) (if yz_f Br = true then 1 else 0) c0 (nI d)) fun v2 h3 => f_Cr_codeIf_L16 (f_Cr_codeBody D) (f_Cr_codeBranch D) N h3 (nI d) v2 (h3.2.1 18 xi) (nI tt + 1)) = f_Cr_codeIf_126 h3 c1 := by
        rw [b1]
        show f_Cr_codeIf_L16 (f_Cr_codeBody D) (f_Cr_codeBranch D) N h2 (nI d) cm (h2.2.1 18 xi) (nI tt + 1) = _
        rw [f2.2.1 18 (by decide), nI_1, r1]
      by_cases z : Br = .leaf
      · rw [if_pos (last z)]
        rw [if_pos (yz_fl.mpr z)] at key
        exact key
      · obtain ⟨⟨y, y1, y2⟩, _⟩ := more z
        rw [if_neg (by rw [y2]; exact zc_m1 (by omega))]
        rw [if_neg (fun w => z (yz_fl.mp w))] at key
        exact key
/-- the class at a CASE -/
theorem yk_caC {sz own : Nat} (hsz : (h0.1 12 6) = nI sz) (hs2 : sz < 100000) : ∀ (B : ys) (x x' : Int32) (ow ow' c20 c11 : Nat), yk_GL h0 g0 b dl (yk_cc h0 own) MI B x x' ow ow' c20 c11 → ∀ (D d n v q e tt N : Nat) (h : zs_H) (c0 : Int32), yC_f h0 h → (h.1 41 5) = nI n → (h.1 47 4) = nI ow → n + yz_l B ≤ 90000000 → 2 * dl + 2 ≤ D → d + 1 + dl ≤ 240 → tt + yz_n B ≤ sz → yz_n B < N → ∃ c1 h', f_Cr_codeCase_L61 (f_Cr_codeBody D) (f_Cr_codeBranch D) N h (nI d) (nI own) x c0 (nI tt) = f_Cr_codeCase_163 h' c1 ∧ yC_B n v q e B ow' c0 c1 h h' := by
  intro B
  induction B with
  | leaf =>
    intro x x' ow ow' c20 c11 ⟨e1, _, e3⟩ D d n v q e tt N h c0 f es ho hn hD hd ht hN
    obtain ⟨N, rfl⟩ : ∃ z, N = z + 1 := ⟨N - 1, by omega⟩
    refine ⟨c0, h, ?_, yC_B0 (by rw [e3]; exact ho) es⟩
    rw [yk_u61, e1]
    unfold f_Cr_codeCase_61
    rw [if_pos (show (-1 : Int32) = -1 from rfl), ite_self]
  | inner tg p o T Br _ ih =>
    intro x x' ow ow' c20 c11 ⟨i, k, ib, kb, xi, xk, oc, d20, d11, e20, e11, ⟨i1, i2, i3⟩, _, ⟨BC, _⟩, ⟨sT, _⟩, hk, _, R⟩ D d n v q e tt N h c0 f es ho hn hD hd ht hN
    have hn0 : yz_n (.inner tg p o T Br) = 1 + yz_n Br := rfl
    obtain ⟨N, rfl⟩ : ∃ z, N = z + 1 := ⟨N - 1, by omega⟩
    have f' : ∀ a, ¬ a ∈ yC_M → h.2.1 a = h0.2.1 a := fun a ha => f.2.1 a ha
    rcases hk with ⟨rfl, rfl, rfl, rfl, rfl, rfl, _, k11, _⟩ | ⟨rfl, hp, ⟨c1, c3, CC⟩, _, last, more⟩
    · obtain ⟨h1, a1, a2⟩ := BC D (d + 1) n v q h f es ho (by show n + yz_l T ≤ _; have : yz_l (.inner 6 (([], 0, 0) : List yI × Int32 × Int32) o T .leaf) = yz_l T + 0 := rfl; omega) (by omega) (by omega)
      obtain ⟨f1, e1, o1⟩ := yC_Rf f a2
      obtain ⟨R1, _, R3⟩ := R
      refine ⟨c0, h1, ?_, by rw [R3]; exact yC_B6 a2⟩
      obtain ⟨N, rfl⟩ : ∃ z, N = z + 1 := ⟨N - 1, by omega⟩
      rw [yk_u61, i2]
      unfold f_Cr_codeCase_61 f_Cr_codeCase_145
      rw [f.1 _ _ (by decide), hsz, if_neg (mt (nI_leI (by omega) (by omega)).mp (by omega)), if_neg (zc_m1 (by omega))]
      simp only [if_pos (zi_in (show xi < 2147483648 by omega) i1), nI_clamp (show xi < 2147483648 by omega), f' 13 (by decide)]
      rw [k11, if_pos rfl, nI_1, a1, Option.bind_some, f1.2.1 18 (by decide), R1, yk_u61]
      unfold f_Cr_codeCase_61
      rw [if_pos (show (-1 : Int32) = -1 from rfl), ite_self]
    · subst c1
      rw [yk_l5] at hn
      obtain ⟨L, p2⟩ := p
      have hp' : p2 = (0, 0) := hp
      subst hp'
      have hn' : n + (L.length + 1 + yz_l T + (if yz_f Br = true then 0 else 1) + yz_l Br) ≤ 90000000 := hn
      obtain ⟨h1, a1, a2⟩ := CC n h f es (by show n + L.length ≤ _; omega)
      have f1 := yC_fE f a2
      have f1' : ∀ a, ¬ a ∈ yC_M → h1.2.1 a = h0.2.1 a := fun a ha => f1.2.1 a ha
      obtain ⟨cm, h2, b1, b2, b3, b4⟩ := yC_br (la := yz_f Br) (v := v) (q := q) (e := e) (c0 := c0) (d := d) (D := D) f1 a2.1 ((a2.2.1.1 _ _ (by decide)).trans ho) (by show n + L.length + 1 + yz_l T + 1 ≤ _; omega) hD hd BC
      have f2 : yC_f h0 h2 := zfr_trans f1 (zfr_w b2.2.1 (by decide) (by decide) (by decide))
      have s2 : (h2.1 41 5) = nI (n + (L.length + 1 + yz_l T + (if yz_f Br = true then 0 else 1))) := by
        rw [b2.1, List.length_append, List.length_append, yz_ml]
        have : (if yz_f Br = true then ([] : List yI) else [(10, nI e, 0, 0)]).length = if yz_f Br = true then 0 else 1 := by split <;> rfl
        rw [this]
        congr 1
        show n + L.length + (1 + _) = _
        omega
      obtain ⟨c1, h3, r1, r2⟩ := ih _ _ _ _ _ _ R D d _ v q e (tt + 1) N h2 cm f2 s2 b3 (by omega) hD hd (by omega) (by omega)
      refine ⟨c1, h3, ?_, yC_Bc a2 b2 b4 r2⟩
      rw [yk_u61, i2]
      unfold f_Cr_codeCase_61 f_Cr_codeCase_137 f_Cr_codeCase_145
      rw [f.1 _ _ (by decide), hsz, if_neg (mt (nI_leI (by omega) (by omega)).mp (by omega)), if_neg (zc_m1 (by omega))]
      simp only [if_pos (zi_in (show xi < 2147483648 by omega) i1), nI_clamp (show xi < 2147483648 by omega), f' 13 (by decide)]
      rw [if_neg c3]
      refine (congrArg (fun z => zd_B z _) a1).trans ?_
      show (if (h1.2.1 18) xi = -1 then (zd_B (f_Cr_codeBranch D h1 (nI ib) 1 c0 (nI d)) fun v2 h3 => f_Cr_codeCase_L61 (f_Cr_codeBody D) (f_Cr_codeBranch D) N h3 (nI d) (nI own) (h3.2.1 18 xi) v2 (nI tt + 1)) else (zd_B (f_Cr_codeBranch D h1 (nI ib) 0 c0 (nI d)) fun v2 h3 => f_Cr_codeCase_L61 (f_Cr_codeBody D) (f_Cr_codeBranch D) N h3 (nI d) (nI own) (h3.2.1 18 xi) v2 (nI tt + 1))) = _
      have key : (zd_B (f_Cr_codeBranch D h1 (nI ib) (if yz_f Br = true then 1 else 0) c0 (nI d)) fun v2 h3 => f_Cr_codeCase_L61 (f_Cr_codeBody D) (f_Cr_codeBranch D) N h3 (nI d) (nI own) (h3.2.1 18 xi) v2 (nI tt + 1)) = f_Cr_codeCase_163 h3 c1 := by
        rw [b1]
        show f_Cr_codeCase_L61 (f_Cr_codeBody D) (f_Cr_codeBranch D) N h2 (nI d) (nI own) (h2.2.1 18 xi) cm (nI tt + 1) = _
        rw [f2.2.1 18 (by decide), nI_1, r1]
      rw [f1' 18 (by decide)]
      by_cases z : Br = .leaf
      · rw [if_pos (last z)]
        rw [if_pos (yz_fl.mpr z)] at key
        exact key
      · obtain ⟨⟨y, y1, y2⟩, _⟩ := more z
        rw [if_neg (by rw [y2]; exact zc_m1 (by omega))]
        rw [if_neg (fun w => z (yz_fl.mp w))] at key
        exact key
/-- the model at a choice -/
theorem yk_chM {cell : Int32} : ∀ (B : ys) (x x' : Int32) (ow ow' c20 c11 : Nat), yk_GL h0 g0 b dl CI (yk_mi g0 b cell) B x x' ow ow' c20 c11 → ∀ (D n s v q e w ww N : Nat) (g : zs_H) (x4 : Int32), yM_f g0 g → yM_c g n s b v → (g.1 68 68) = nI w → (g.1 68 66) = nI ww → n + yz_l B ≤ 90000000 → w + c20 ≤ 4000 → ww + c11 ≤ 8400 → 2 * dl + 1 ≤ D → yz_n B < N → ∃ g', f_Mo_choiceCode_L9 (f_Mo_bodyCode D) N g cell x4 x' = f_Mo_choiceCode_L174 zF g' x4 ∧ yM_Bx s n v q e B w ww g g' := by
  intro B
  induction B with
  | leaf =>
    intro x x' ow ow' c20 c11 ⟨_, e2, _⟩ D n s v q e w ww N g x4 f c hl hw hn h20 h11 hD hN
    obtain ⟨N, rfl⟩ : ∃ z, N = z + 1 := ⟨N - 1, by omega⟩
    refine ⟨g, ?_, yM_B0 hw hl c.1.1⟩
    rw [yk_u9, e2]
    unfold f_Mo_choiceCode_9
    rw [if_pos (show (-1 : Int32) < 0 by decide)]
  | inner tg p o T Br _ ih =>
    intro x x' ow ow' c20 c11 ⟨i, k, ib, kb, xi, xk, oc, d20, d11, e20, e11, _, ⟨k1, k2, k3⟩, ⟨_, BM⟩, ⟨sT, hx⟩, hk, ⟨s1, s2⟩, R⟩ D n s v q e w ww N g x4 f c hl hw hn h20 h11 hD hN
    have hn0 : yz_n (.inner tg p o T Br) = 1 + yz_n Br := rfl
    obtain ⟨N, rfl⟩ : ∃ z, N = z + 1 := ⟨N - 1, by omega⟩
    have f' : ∀ a, ¬ a ∈ yM_M → g.2.1 a = g0.2.1 a := fun a ha => f.2.1 a ha
    rcases hk with ⟨rfl, rfl, rfl, _, rfl, _, rfl, _, k11⟩ | ⟨rfl, hp, _, MM, last, more⟩
    · obtain ⟨g1, a1, a2⟩ := BM D n s v q w ww g f c hl hw (by show n + yz_l T ≤ _; have : yz_l (.inner 6 (([], 0, 0) : List yI × Int32 × Int32) o T .leaf) = yz_l T + 0 := rfl; omega) (by omega) (by omega) hD
      obtain ⟨f1, c1, l1, w1⟩ := yM_Rf f c a2
      obtain ⟨_, R2, _⟩ := R
      refine ⟨g1, ?_, yM_B6 hw a2⟩
      obtain ⟨N, rfl⟩ : ∃ z, N = z + 1 := ⟨N - 1, by omega⟩
      rw [yk_u9, k2]
      unfold f_Mo_choiceCode_9 f_Mo_choiceCode_108 f_Mo_choiceCode_156 f_Mo_choiceCode_171
      rw [if_neg (nI_pos (by omega))]
      simp only [if_pos (zi_in (show xk < 2147483648 by omega) k1), nI_clamp (show xk < 2147483648 by omega), f' 72 (by decide)]
      rw [k11, if_neg (by decide), if_pos rfl, a1, Option.bind_some, f1.2.1 78 (by decide), R2, if_pos (show (-1 : Int32) < 0 by decide), if_pos (show (-1 : Int32) < 0 by decide), yk_u9]
      unfold f_Mo_choiceCode_9
      rw [if_pos (show (-1 : Int32) < 0 by decide)]
    · rw [yk_l5] at hn
      obtain ⟨L, p2⟩ := p
      have hp' : p2 = (0, 0) := hp
      subst hp'
      have hn' : n + (L.length + 1 + yz_l T + (if yz_f Br = true then 0 else 1) + yz_l Br) ≤ 90000000 := hn
      obtain ⟨g1, CT, a1, a2, a3⟩ := MM D n s v g (f_Mo_choiceCode_L9 (f_Mo_bodyCode D) N) x4 f c (by show n + L.length ≤ _; omega)
      have f1 := yM_fE f a1
      have c1 : yM_c g1 (n + L.length) s b v := yM_cL c a1
      have hl1 : (g1.1 68 68) = nI w := (a1.2.1.1 _ _ (by decide)).trans hl
      have hw1 : (g1.1 68 66) = nI ww := (a1.2.1.1 _ _ (by decide)).trans hw
      have hla : if yz_f Br = true then (g0.2.1 78) xk = -1 else ∃ y, y < 33500 ∧ (g0.2.1 78) xk = nI y := by
        by_cases z : Br = .leaf
        · rw [if_pos (yz_fl.mpr z)]
          rw [z] at R
          exact R.2.1
        · rw [if_neg (fun w => z (yz_fl.mp w))]
          exact (more z).2
      obtain ⟨g2, b1, b2, g3, b3, b4, b5, b6, b7, b8, b9⟩ := yM_br (la := yz_f Br) (q := q) (e := e) (D := D) f1 c1 hl1 hw1 (by omega) (show w + d20 ≤ 4000 by omega) (show ww + d11 ≤ 8400 by omega) (by omega) hD BM k3 hla
      have f3 : yM_f g0 g3 := zfr_trans f1 (zfr_w b4.2.1 (by decide) (by decide) (by decide))
      have gl : (if yz_f Br = true then ([] : List yJ) else [((10, nI e, 0, 0), v)]).length = if yz_f Br = true then 0 else 1 := by split <;> rfl
      have s3 : (g3.1 68 56) = nI (n + (L.length + 1 + yz_l T + (if yz_f Br = true then 0 else 1))) := by
        rw [b4.1, List.length_append, List.length_append, yz_len, gl]
        congr 1
        show n + L.length + (1 + _) = _
        omega
      have c3 : yM_c g3 (n + (L.length + 1 + yz_l T + (if yz_f Br = true then 0 else 1))) s b v := by
        obtain ⟨⟨q1, q2⟩, ⟨q3, q4, q5⟩, q6, q7⟩ := c1
        exact ⟨⟨s3, by omega⟩, ⟨(b4.2.1.1 _ _ (by decide)).trans q3, q4, by rw [b4.2.1.2.1 _ (by decide)]; exact q5⟩, b5.trans q6, (b4.2.1.1 _ _ (by decide)).trans q7⟩
      have hxl := hx (n + L.length + 1)
      have hg1 : (if yz_f Br = true then ([] : List Nat) else [n + L.length + 1 + yz_l T]).length ≤ 1 := by
        split
        · exact Nat.zero_le _
        · exact Nat.le_refl _
      obtain ⟨g4, r1, r2⟩ := ih _ _ _ _ _ _ R D _ s v q e _ _ N g3 x4 f3 c3 b8.1 b6 (by omega) (by omega) (by omega) hD (by omega)
      refine ⟨g4, ?_, yM_Bc hw hl a1 b4 b5 b7 b8.2 b9 r2⟩
      rw [yk_u9, k2, a2, b1]
      show CT (nI (n + L.length - s)) g2 = _
      rw [a3 _ _ b2, b3, r1]
end YLP
end
section
/-! The coder: IF and CASE. -/
/-- the condition of a choice of a CASE -/
def yr_1 (own : Nat) (r : Int32 × Option Int32) : List yI := match r.2 with
  | none => [(1, nI own, 0, 0)] ++ ([(0, r.1, 0, 0)] ++ [(7, 13, 0, 0)])
  | some w => [(1, nI own, 0, 0)] ++ ([(0, r.1, 0, 0)] ++ ([(7, 18, 0, 0)] ++ ([(1, nI own, 0, 0)] ++ ([(0, w, 0, 0)] ++ ([(7, 17, 0, 0)] ++ [(7, 10, 0, 0)])))))
def yr_s (own : Nat) : Nat → List (Int32 × Option Int32) → List yI
  | _, [] => []
  | t, r :: rs => yr_1 own r ++ ((if t = 0 then [] else [(7, 11, 0, 0)]) ++ yr_s own (t + 1) rs)
def yr_C (h0 : zs_H) : List (Int32 × Option Int32) → Int32 → Nat → Prop
  | [], x, ib => x = nI ib ∧ ib < 32784 ∧ ¬ (h0.2.1 13) ib = 18
  | r :: rs, x, ib => ∃ a lo, a < 32784 ∧ x = nI a ∧ (h0.2.1 13) a = 18 ∧ (h0.2.1 17) a = nI lo ∧ lo < 32784 ∧ (h0.2.1 16) lo = r.1 ∧ ((r.2 = none ∧ (h0.2.1 18) lo = -1) ∨ ∃ w hi, r.2 = some w ∧ hi < 32784 ∧ (h0.2.1 18) lo = nI hi ∧ (h0.2.1 16) hi = w) ∧ yr_C h0 rs ((h0.2.1 18) a) ib
def yr_M (g0 : zs_H) : List (Int32 × Option Int32) → Int32 → Nat → Prop
  | [], x, kb => x = nI kb ∧ kb < 33500 ∧ ¬ (g0.2.1 72) kb = 18
  | r :: rs, x, kb => ∃ a lo, a < 33500 ∧ x = nI a ∧ (g0.2.1 72) a = 18 ∧ (g0.2.1 76) a = nI lo ∧ lo < 33500 ∧ (g0.2.1 74) lo = r.1 ∧ ((r.2 = none ∧ (g0.2.1 77) a = nI lo) ∨ ∃ w hi, r.2 = some w ∧ hi < 33500 ∧ ¬ hi = lo ∧ (g0.2.1 77) a = nI hi ∧ (g0.2.1 74) hi = w) ∧ yr_M g0 rs ((g0.2.1 78) a) kb
section YRA
variable {h0 h g0 g : zs_H} {b : Nat}
theorem yr_uC {N : Nat} {x2 x3 x4 : Int32} : f_Cr_codeRanges_L13 (N + 1) h x2 x3 x4 = f_Cr_codeRanges_13 (f_Cr_codeRanges_L13 N) h x2 x3 x4 := rfl
theorem yr_uM {N : Nat} {x2 x3 x5 : Int32} : f_Mo_rangesCode_L13 (N + 1) g x2 x3 x5 = f_Mo_rangesCode_13 (f_Mo_rangesCode_L13 N) g x2 x3 x5 := rfl
theorem yr_1l {own : Nat} {r : Int32 × Option Int32} : (yr_1 own r).length ≤ 7 := by
  unfold yr_1
  split
  · exact (by decide : 3 ≤ 7)
  · exact Nat.le_refl _
theorem yr_ran {sz own : Nat} (hsz : (h0.1 12 6) = nI sz) (hs2 : sz < 100000) : ∀ (rs : List (Int32 × Option Int32)) (x : Int32) (ib n t N : Nat) (h : zs_H), yr_C h0 rs x ib → yC_f h0 h → (h.1 41 5) = nI n → n + (yr_s own t rs).length ≤ 90000000 → t + rs.length < sz → rs.length < N → ∃ h', f_Cr_codeRanges_L13 N h (nI own) x (nI t) = some (nI ib, h') ∧ yC_E n (yr_s own t rs) h h' := by
  intro rs
  induction rs with
  | nil =>
    intro x ib n t N h ⟨e1, e2, e3⟩ f es hn ht hN
    obtain ⟨N, rfl⟩ : ∃ z, N = z + 1 := ⟨N - 1, by omega⟩
    have ht' : t + 0 < sz := ht
    refine ⟨h, ?_, yC_nil es⟩
    rw [yr_uC, e1]
    unfold f_Cr_codeRanges_13
    rw [f.1 _ _ (by decide), hsz, if_neg (mt (nI_leI (by omega) (by omega)).mp (by omega))]
    simp only [if_pos (zi_in (show ib < 2147483648 by omega) e2), nI_clamp (show ib < 2147483648 by omega), f.2.1 13 (by decide)]
    rw [if_neg e3]
  | cons r rs ih =>
    intro x ib n t N h ⟨a, lo, a1, a2, a3, a4, a5, a6, a7, R⟩ f es hn ht hN
    have ht' : t + (rs.length + 1) < sz := ht
    have hN' : rs.length + 1 < N := hN
    obtain ⟨N, rfl⟩ : ∃ z, N = z + 1 := ⟨N - 1, by omega⟩
    have hn' : n + (yr_1 own r ++ ((if t = 0 then [] else [((7, 11, 0, 0) : yI)]) ++ yr_s own (t + 1) rs)).length ≤ 90000000 := hn
    rw [List.length_append, List.length_append] at hn'
    have f' : ∀ a, ¬ a ∈ yC_M → h.2.1 a = h0.2.1 a := fun a ha => f.2.1 a ha
    have tail : ∀ (h2 : zs_H), yC_f h0 h2 → (h2.1 41 5) = nI (n + (yr_1 own r).length) → ∃ h', f_Cr_codeRanges_177 (f_Cr_codeRanges_L13 N) h2 (nI own) (nI a) (nI t) = some (nI ib, h') ∧ yC_E (n + (yr_1 own r).length) ((if t = 0 then [] else [(7, 11, 0, 0)]) ++ yr_s own (t + 1) rs) h2 h' := by
      intro h2 f2 s2
      have e194 : ∀ h3, yC_f h0 h3 → f_Cr_codeRanges_194 (f_Cr_codeRanges_L13 N) h3 (nI own) (nI a) (nI t) = f_Cr_codeRanges_L13 N h3 (nI own) ((h0.2.1 18) a) (nI (t + 1)) := by
        intro h3 f3
        unfold f_Cr_codeRanges_194
        rw [if_pos (zi_in (by omega) a1), nI_clamp (show a < 2147483648 by omega), f3.2.1 18 (by decide), nI_1]
      unfold f_Cr_codeRanges_177
      by_cases z : t = 0
      · rw [if_pos z] at hn' ⊢
        obtain ⟨h3, r1, r2⟩ := ih _ ib _ (t + 1) N h2 R f2 s2 (by have : ([] : List yI).length = 0 := rfl; omega) (by omega) (by omega)
        rw [if_pos ((zc_el (k := 0) (by decide) (by omega)).mpr (by omega)), e194 h2 f2, r1]
        exact ⟨h3, rfl, r2⟩
      · rw [if_neg z] at hn' ⊢
        have hn2 : n + ((yr_1 own r).length + (1 + (yr_s own (t + 1) rs).length)) ≤ 90000000 := hn'
        obtain ⟨h3, d1, d2⟩ := yC_emit s2 (by omega) 7 (by decide) 11
        have f3 := yC_fE f2 d2
        obtain ⟨h4, r1, r2⟩ := ih _ ib _ (t + 1) N h3 R f3 d2.1 (by show n + (yr_1 own r).length + 1 + _ ≤ _; omega) (by omega) (by omega)
        rw [if_neg (mt (zc_el (k := 0) (by decide) (by omega)).mp (by omega))]
        refine ⟨h4, ?_, yC_ap d2 r2⟩
        refine (congrArg (fun z => zd_B z _) d1).trans ?_
        show f_Cr_codeRanges_194 (f_Cr_codeRanges_L13 N) h3 (nI own) (nI a) (nI t) = _
        rw [e194 h3 f3, r1]
    have l7 := yr_1l (own := own) (r := r)
    obtain ⟨h1, b1, b2⟩ := yC_emit es (by omega) 1 (by decide) (nI own)
    have f1 := yC_fE f b2
    obtain ⟨h2, d1, d2⟩ := yC_emit b2.1 (show n + 1 < 100000000 by omega) 0 (by decide) r.1
    have f2 := yC_fE f1 d2
    rw [yr_uC, a2]
    unfold f_Cr_codeRanges_13
    rw [f.1 _ _ (by decide), hsz, if_neg (mt (nI_leI (by omega) (by omega)).mp (by omega))]
    simp only [if_pos (zi_in (show a < 2147483648 by omega) a1), nI_clamp (show a < 2147483648 by omega), f' 13 (by decide), f' 17 (by decide), f' 18 (by decide), a4, if_pos (zi_in (show lo < 2147483648 by omega) a5), nI_clamp (show lo < 2147483648 by omega)]
    rw [if_pos a3]
    rcases a7 with ⟨o1, o2⟩ | ⟨w, hi, o1, o2, o3, o4⟩
    · have e1 : yr_1 own r = [(1, nI own, 0, 0)] ++ ([(0, r.1, 0, 0)] ++ [(7, 13, 0, 0)]) := by unfold yr_1; rw [o1]
      obtain ⟨h3, p1, p2⟩ := yC_emit d2.1 (show n + 1 + 1 < 100000000 by omega) 7 (by decide) 13
      have f3 := yC_fE f2 p2
      have E := yC_ap b2 (yC_ap d2 p2)
      rw [← e1] at E
      obtain ⟨h4, t1, t2⟩ := tail h3 f3 E.1
      refine ⟨h4, ?_, yC_ap E t2⟩
      refine (congrArg (fun z => zd_B z _) b1).trans ?_
      show zd_B (f_Cd_emit h1 0 ((h1.2.1 16) lo)) _ = _
      rw [f1.2.1 16 (by decide), a6]
      refine (congrArg (fun z => zd_B z _) d1).trans ?_
      show (if (h0.2.1 18) lo = -1 then (zd_B (f_Cd_emit h2 7 13) fun v30 h31 => f_Cr_codeRanges_177 (f_Cr_codeRanges_L13 N) h31 (nI own) (nI a) (nI t)) else _) = _
      rw [if_pos o2]
      exact (congrArg (fun z => zd_B z _) p1).trans t1
    · have e1 : yr_1 own r = [(1, nI own, 0, 0)] ++ ([(0, r.1, 0, 0)] ++ ([(7, 18, 0, 0)] ++ ([(1, nI own, 0, 0)] ++ ([(0, w, 0, 0)] ++ ([(7, 17, 0, 0)] ++ [(7, 10, 0, 0)]))))) := by unfold yr_1; rw [o1]
      obtain ⟨h3, p1, p2⟩ := yC_emit d2.1 (show n + 1 + 1 < 100000000 by omega) 7 (by decide) 18
      have f3 := yC_fE f2 p2
      obtain ⟨h4, q1, q2⟩ := yC_emit p2.1 (show n + 1 + 1 + 1 < 100000000 by omega) 1 (by decide) (nI own)
      have f4 := yC_fE f3 q2
      obtain ⟨h5, u1, u2⟩ := yC_emit q2.1 (show n + 1 + 1 + 1 + 1 < 100000000 by omega) 0 (by decide) w
      have f5 := yC_fE f4 u2
      obtain ⟨h6, v1, v2⟩ := yC_emit u2.1 (show n + 1 + 1 + 1 + 1 + 1 < 100000000 by omega) 7 (by decide) 17
      have f6 := yC_fE f5 v2
      obtain ⟨h7, w1, w2⟩ := yC_emit v2.1 (show n + 1 + 1 + 1 + 1 + 1 + 1 < 100000000 by omega) 7 (by decide) 10
      have f7 := yC_fE f6 w2
      have E := yC_ap b2 (yC_ap d2 (yC_ap p2 (yC_ap q2 (yC_ap u2 (yC_ap v2 w2)))))
      rw [← e1] at E
      obtain ⟨h8, t1, t2⟩ := tail h7 f7 E.1
      refine ⟨h8, ?_, yC_ap E t2⟩
      refine (congrArg (fun z => zd_B z _) b1).trans ?_
      show zd_B (f_Cd_emit h1 0 ((h1.2.1 16) lo)) _ = _
      rw [f1.2.1 16 (by decide), a6]
      refine (congrArg (fun z => zd_B z _) d1).trans ?_
      show (if (h0.2.1 18) lo = -1 then _ else (zd_B (f_Cd_emit h2 7 18) fun v14 h15 => (zd_B (f_Cd_emit h15 1 (nI own)) fun v17 h18 => (if zd_in ((h0.2.1 18) lo) 32784 then (zd_B (f_Cd_emit h18 0 (h18.2.1 16 ((h0.2.1 18) lo).toNatClampNeg)) fun v21 h22 => (zd_B (f_Cd_emit h22 7 17) fun v24 h25 => (zd_B (f_Cd_emit h25 7 10) fun v27 h28 => f_Cr_codeRanges_177 (f_Cr_codeRanges_L13 N) h28 (nI own) (nI a) (nI t)))) else none)))) = _
      rw [o3, if_neg (zc_m1 (by omega))]
      refine (congrArg (fun z => zd_B z _) p1).trans ?_
      refine (show zd_B (f_Cd_emit h3 1 (nI own)) _ = _ from (congrArg (fun z => zd_B z _) q1).trans ?_)
      show (if zd_in (nI hi) 32784 then (zd_B (f_Cd_emit h4 0 (h4.2.1 16 (nI hi).toNatClampNeg)) fun v21 h22 => (zd_B (f_Cd_emit h22 7 17) fun v24 h25 => (zd_B (f_Cd_emit h25 7 10) fun v27 h28 => f_Cr_codeRanges_177 (f_Cr_codeRanges_L13 N) h28 (nI own) (nI a) (nI t)))) else none) = _
      rw [if_pos (zi_in (by omega) o2), nI_clamp (show hi < 2147483648 by omega), f4.2.1 16 (by decide), o4]
      refine (congrArg (fun z => zd_B z _) u1).trans ?_
      refine (show zd_B (f_Cd_emit h5 7 17) _ = _ from (congrArg (fun z => zd_B z _) v1).trans ?_)
      exact (show zd_B (f_Cd_emit h6 7 10) _ = _ from (congrArg (fun z => zd_B z _) w1).trans t1)
end YRA
end
section
/-! The coder: IF and CASE, to their ends. -/
section YRB
variable {h0 h g0 g : zs_H} {b : Nat}
theorem yr_ranM {own : Nat} : ∀ (rs : List (Int32 × Option Int32)) (x : Int32) (kb n s v t N : Nat) (g : zs_H), yr_M g0 rs x kb → yM_f g0 g → yM_c g n s b v → n + (yr_s own t rs).length ≤ 90000000 → t + rs.length < 90000 → rs.length < N → ∃ g', f_Mo_rangesCode_L13 N g (nI own) (nI t) x = some g' ∧ yM_E s n (yv v (yr_s own t rs)) g g' := by
  intro rs
  induction rs with
  | nil =>
    intro x kb n s v t N g ⟨e1, e2, e3⟩ f c hn ht hN
    obtain ⟨N, rfl⟩ : ∃ z, N = z + 1 := ⟨N - 1, by omega⟩
    refine ⟨g, ?_, yM_nil c.1.1⟩
    rw [yr_uM, e1]
    unfold f_Mo_rangesCode_13
    simp only [if_pos (zi_in (show kb < 2147483648 by omega) e2), nI_clamp (show kb < 2147483648 by omega), f.2.1 72 (by decide)]
    rw [if_neg e3]
  | cons r rs ih =>
    intro x kb n s v t N g ⟨a, lo, a1, a2, a3, a4, a5, a6, a7, R⟩ f c hn ht hN
    have ht' : t + (rs.length + 1) < 90000 := ht
    have hN' : rs.length + 1 < N := hN
    obtain ⟨N, rfl⟩ : ∃ z, N = z + 1 := ⟨N - 1, by omega⟩
    have hn' : n + (yr_1 own r ++ ((if t = 0 then [] else [((7, 11, 0, 0) : yI)]) ++ yr_s own (t + 1) rs)).length ≤ 90000000 := hn
    rw [List.length_append, List.length_append] at hn'
    have f' : ∀ a, ¬ a ∈ yM_M → g.2.1 a = g0.2.1 a := fun a ha => f.2.1 a ha
    have tail : ∀ (g2 : zs_H), yM_f g0 g2 → yM_c g2 (n + (yr_1 own r).length) s b v → ∃ g', f_Mo_rangesCode_155 (f_Mo_rangesCode_L13 N) g2 (nI own) (nI t) (nI a) = some g' ∧ yM_E s (n + (yr_1 own r).length) (yv v ((if t = 0 then [] else [(7, 11, 0, 0)]) ++ yr_s own (t + 1) rs)) g2 g' := by
      intro g2 f2 c2
      have e171 : ∀ g3, yM_f g0 g3 → f_Mo_rangesCode_171 (f_Mo_rangesCode_L13 N) g3 (nI own) (nI t) (nI a) = f_Mo_rangesCode_L13 N g3 (nI own) (nI (t + 1)) ((g0.2.1 78) a) := by
        intro g3 f3
        unfold f_Mo_rangesCode_171
        rw [if_pos (zi_in (by omega) a1), nI_clamp (show a < 2147483648 by omega), f3.2.1 78 (by decide), nI_1]
      unfold f_Mo_rangesCode_155
      by_cases z : t = 0
      · rw [if_pos z] at hn' ⊢
        obtain ⟨g3, r1, r2⟩ := ih _ kb _ s v (t + 1) N g2 R f2 c2 (by have : ([] : List yI).length = 0 := rfl; omega) (by omega) (by omega)
        rw [if_pos ((zc_el (k := 0) (by decide) (by omega)).mpr (by omega)), e171 g2 f2, r1]
        exact ⟨g3, rfl, r2⟩
      · rw [if_neg z] at hn' ⊢
        have hn2 : n + ((yr_1 own r).length + (1 + (yr_s own (t + 1) rs).length)) ≤ 90000000 := hn'
        obtain ⟨g3, d1, d2⟩ := yM_e c2 (by omega) 7 11 0 0 (by decide)
        have f3 := yM_fE f2 d2
        obtain ⟨g4, r1, r2⟩ := ih _ kb _ s v (t + 1) N g3 R f3 (yM_cL c2 d2) (by show n + (yr_1 own r).length + 1 + _ ≤ _; omega) (by omega) (by omega)
        rw [if_neg (mt (zc_el (k := 0) (by decide) (by omega)).mp (by omega))]
        refine ⟨g4, ?_, yM_aL d2 r2⟩
        refine (congrArg (fun z => zd_B z _) d1).trans ?_
        show f_Mo_rangesCode_171 (f_Mo_rangesCode_L13 N) g3 (nI own) (nI t) (nI a) = _
        rw [e171 g3 f3, r1]
    have l7 := yr_1l (own := own) (r := r)
    obtain ⟨g1, b1, b2⟩ := yM_e c (by omega) 1 (nI own) 0 0 (by decide)
    have f1 := yM_fE f b2
    have c1 := yM_cL c b2
    obtain ⟨g2, d1, d2⟩ := yM_e c1 (show n + 1 < 100000000 by omega) 0 r.1 0 0 (by decide)
    have f2 := yM_fE f1 d2
    have c2 := yM_cL c1 d2
    have f1' : ∀ a, ¬ a ∈ yM_M → g1.2.1 a = g0.2.1 a := fun a ha => f1.2.1 a ha
    have f2' : ∀ a, ¬ a ∈ yM_M → g2.2.1 a = g0.2.1 a := fun a ha => f2.2.1 a ha
    rw [yr_uM, a2]
    unfold f_Mo_rangesCode_13
    simp only [if_pos (zi_in (show a < 2147483648 by omega) a1), nI_clamp (show a < 2147483648 by omega), f' 72 (by decide)]
    rw [if_pos a3]
    rcases a7 with ⟨o1, o2⟩ | ⟨w, hi, o1, o2, o2', o3, o4⟩
    · have e1 : yr_1 own r = [(1, nI own, 0, 0)] ++ ([(0, r.1, 0, 0)] ++ [(7, 13, 0, 0)]) := by unfold yr_1; rw [o1]
      obtain ⟨g3, p1, p2⟩ := yM_e c2 (show n + 1 + 1 < 100000000 by omega) 7 13 0 0 (by decide)
      have f3 := yM_fE f2 p2
      have E := yM_aL b2 (yM_aL d2 p2)
      rw [← e1] at E
      obtain ⟨g4, t1, t2⟩ := tail g3 f3 (yM_cL c E)
      refine ⟨g4, ?_, yM_aL E t2⟩
      refine (congrArg (fun z => zd_B z _) b1).trans ?_
      show (if zd_in ((g1.2.1 76) a) 33500 then _ else none) = _
      rw [f1' 76 (by decide), a4, if_pos (zi_in (by omega) a5), nI_clamp (show lo < 2147483648 by omega), f1' 74 (by decide), a6]
      refine (congrArg (fun z => zd_B z _) d1).trans ?_
      show (if (g2.2.1 76) a = (g2.2.1 77) a then (zd_B (f_Mo_emit g2 7 13 0 0) fun v31 h32 => f_Mo_rangesCode_155 (f_Mo_rangesCode_L13 N) h32 (nI own) (nI t) (nI a)) else _) = _
      rw [f2' 76 (by decide), f2' 77 (by decide), a4, o2, if_pos rfl]
      exact (congrArg (fun z => zd_B z _) p1).trans t1
    · have e1 : yr_1 own r = [(1, nI own, 0, 0)] ++ ([(0, r.1, 0, 0)] ++ ([(7, 18, 0, 0)] ++ ([(1, nI own, 0, 0)] ++ ([(0, w, 0, 0)] ++ ([(7, 17, 0, 0)] ++ [(7, 10, 0, 0)]))))) := by unfold yr_1; rw [o1]
      obtain ⟨g3, p1, p2⟩ := yM_e c2 (show n + 1 + 1 < 100000000 by omega) 7 18 0 0 (by decide)
      have f3 := yM_fE f2 p2
      have c3 := yM_cL c2 p2
      obtain ⟨g4, q1, q2⟩ := yM_e c3 (show n + 1 + 1 + 1 < 100000000 by omega) 1 (nI own) 0 0 (by decide)
      have f4 := yM_fE f3 q2
      have c4 := yM_cL c3 q2
      obtain ⟨g5, u1, u2⟩ := yM_e c4 (show n + 1 + 1 + 1 + 1 < 100000000 by omega) 0 w 0 0 (by decide)
      have f5 := yM_fE f4 u2
      have c5 := yM_cL c4 u2
      obtain ⟨g6, v1, v2⟩ := yM_e c5 (show n + 1 + 1 + 1 + 1 + 1 < 100000000 by omega) 7 17 0 0 (by decide)
      have f6 := yM_fE f5 v2
      have c6 := yM_cL c5 v2
      obtain ⟨g7, w1, w2⟩ := yM_e c6 (show n + 1 + 1 + 1 + 1 + 1 + 1 < 100000000 by omega) 7 10 0 0 (by decide)
      have f7 := yM_fE f6 w2
      have E := yM_aL b2 (yM_aL d2 (yM_aL p2 (yM_aL q2 (yM_aL u2 (yM_aL v2 w2)))))
      rw [← e1] at E
      obtain ⟨g8, t1, t2⟩ := tail g7 f7 (yM_cL c E)
      refine ⟨g8, ?_, yM_aL E t2⟩
      refine (congrArg (fun z => zd_B z _) b1).trans ?_
      show (if zd_in ((g1.2.1 76) a) 33500 then _ else none) = _
      rw [f1' 76 (by decide), a4, if_pos (zi_in (by omega) a5), nI_clamp (show lo < 2147483648 by omega), f1' 74 (by decide), a6]
      refine (congrArg (fun z => zd_B z _) d1).trans ?_
      show (if (g2.2.1 76) a = (g2.2.1 77) a then _ else (zd_B (f_Mo_emit g2 7 18 0 0) fun v14 h15 => (zd_B (f_Mo_emit h15 1 (nI own) 0 0) fun v17 h18 => (if zd_in (h18.2.1 77 a) 33500 then (zd_B (f_Mo_emit h18 0 (h18.2.1 74 (h18.2.1 77 a).toNatClampNeg) 0 0) fun v22 h23 => (zd_B (f_Mo_emit h23 7 17 0 0) fun v25 h26 => (zd_B (f_Mo_emit h26 7 10 0 0) fun v28 h29 => f_Mo_rangesCode_155 (f_Mo_rangesCode_L13 N) h29 (nI own) (nI t) (nI a)))) else none)))) = _
      rw [f2' 76 (by decide), f2' 77 (by decide), a4, o3, if_neg (fun z => o2' ((nI_eq (by omega) (by omega)).mp z).symm)]
      refine (congrArg (fun z => zd_B z _) p1).trans ?_
      refine (show zd_B (f_Mo_emit g3 1 (nI own) 0 0) _ = _ from (congrArg (fun z => zd_B z _) q1).trans ?_)
      show (if zd_in ((g4.2.1 77) a) 33500 then (zd_B (f_Mo_emit g4 0 ((g4.2.1 74) ((g4.2.1 77) a).toNatClampNeg) 0 0) fun v22 h23 => (zd_B (f_Mo_emit h23 7 17 0 0) fun v25 h26 => (zd_B (f_Mo_emit h26 7 10 0 0) fun v28 h29 => f_Mo_rangesCode_155 (f_Mo_rangesCode_L13 N) h29 (nI own) (nI t) (nI a)))) else none) = _
      rw [f4.2.1 77 (by decide), o3, if_pos (zi_in (by omega) o2), nI_clamp (show hi < 2147483648 by omega), f4.2.1 74 (by decide), o4]
      refine (congrArg (fun z => zd_B z _) u1).trans ?_
      refine (show zd_B (f_Mo_emit g5 7 17 0 0) _ = _ from (congrArg (fun z => zd_B z _) v1).trans ?_)
      exact (show zd_B (f_Mo_emit g6 7 10 0 0) _ = _ from (congrArg (fun z => zd_B z _) w1).trans t1)
/-- conditions, for the model -/
theorem yk_miI {k kb dlc : Nat} {L : List yI} {Q : Nat → Prop} {cell : Int32} (hk : k < 33500) (m1 : ¬ (g0.2.1 72) k = 17) (m2 : ¬ (g0.2.1 72) k = 11) (m3 : (g0.2.1 78) k = nI kb) (hd : dlc ≤ 190) (hQ : ¬ Q k) (A : yk_M g0 b Q dlc k L) : yk_mi g0 b cell k kb kb L := by
  intro D n s v g K x4 f c hn
  obtain ⟨g1, a1, a2⟩ := yk_M1 (D := 600) (by omega) hk hQ A f c hn (by omega)
  refine ⟨g1, fun w h15 => f_Mo_choiceCode_108 (f_Mo_bodyCode D) K h15 cell x4 (h15.2.1 78 k) (h15.2.1 78 k) w, a2, ?_, ?_⟩
  · unfold f_Mo_choiceCode_9
    rw [if_neg (nI_pos (by omega))]
    simp only [if_pos (zi_in (show k < 2147483648 by omega) hk), nI_clamp (show k < 2147483648 by omega), f.2.1 72 (by decide)]
    rw [if_neg m1, if_neg m2, a1, Option.bind_some]
    rfl
  · intro w h15 f15
    show f_Mo_choiceCode_108 (f_Mo_bodyCode D) K h15 cell x4 (h15.2.1 78 k) (h15.2.1 78 k) w = _
    rw [f15.2.1 78 (by decide), m3]
theorem yk_miC {k kb own : Nat} {rs : List (Int32 × Option Int32)} (hk : k < 33500) (m1 : (g0.2.1 72) k = 17) (m3 : (g0.2.1 77) k = nI kb) (hl : rs.length < 40000) (R : yr_M g0 rs ((g0.2.1 76) k) kb) : yk_mi g0 b (nI own) k kb k (yr_s own 0 rs) := by
  have hz := zF_big
  intro D n s v g K x4 f c hn
  obtain ⟨g1, a1, a2⟩ := yr_ranM rs _ kb n s v 0 zF g R f c hn (by omega) (by omega)
  refine ⟨g1, fun w h15 => f_Mo_choiceCode_108 (f_Mo_bodyCode D) K h15 (nI own) x4 (nI k) (h15.2.1 77 k) w, a2, ?_, ?_⟩
  · have er : f_Mo_rangesCode g (nI k) (nI own) = some g1 := by
      unfold f_Mo_rangesCode
      rw [if_pos (zi_in (by omega) hk), nI_clamp (show k < 2147483648 by omega), f.2.1 76 (by decide)]
      exact a1
    unfold f_Mo_choiceCode_9
    rw [if_neg (nI_pos (by omega))]
    simp only [if_pos (zi_in (show k < 2147483648 by omega) hk), nI_clamp (show k < 2147483648 by omega), f.2.1 72 (by decide)]
    rw [if_pos m1, er, Option.bind_some]
    rfl
  · intro w h15 f15
    show f_Mo_choiceCode_108 (f_Mo_bodyCode D) K h15 (nI own) x4 (nI k) (h15.2.1 77 k) w = _
    rw [f15.2.1 77 (by decide), m3]
theorem yk_ccC {i ib own sz : Nat} {rs : List (Int32 × Option Int32)} (hsz : (h0.1 12 6) = nI sz) (hs2 : sz < 100000) (hi : i < 32784) (k11 : ¬ (h0.2.1 13) i = 11) (hl : rs.length < sz) (R : yr_C h0 rs ((h0.2.1 17) i) ib) : yk_cc h0 own i ib i (yr_s own 0 rs) := by
  have hz := zF_big
  refine ⟨rfl, k11, fun n h f es hn => ?_⟩
  obtain ⟨h', a1, a2⟩ := yr_ran hsz hs2 rs _ ib n 0 zF h R f es hn (by omega) (by omega)
  refine ⟨h', ?_, a2⟩
  unfold f_Cr_codeRanges
  rw [if_pos (zi_in (by omega) hi), nI_clamp (show i < 2147483648 by omega), f.2.1 17 (by decide)]
  exact a1
/-- IF -/
theorem yk_S15 {i dl dlb ow ow' c20 c11 sz : Nat} {B : ys} {x' : Int32} {MI : Nat → Nat → Nat → List yI → Prop} (hsz : (h0.1 12 6) = nI sz) (hs2 : sz < 100000) (hi : i < 32784) (hd : dlb < dl) (hl : yz_n B ≤ sz) (how : ow ≤ ow') (G : yk_GL h0 g0 b dlb (yk_ci h0) MI B ((h0.2.1 17) i) x' ow ow' c20 c11) : yk_SC h0 dl 15 i ow (ow' - ow) (.inner 1 ([], 0, 0) () B .leaf) := by
  have hz := zF_big
  intro D d n v q h f es ho hn hD hdd
  have hn' : n + yz_l B ≤ 90000000 := hn
  obtain ⟨D, rfl⟩ : ∃ z, D = z + 1 := ⟨D - 1, by omega⟩
  obtain ⟨c1, h1, a1, a2⟩ := yk_ifC hsz hs2 B _ _ _ _ _ _ G D (d + 1) n v q (n + yz_l B) 0 zF h (-1) f es ho hn' (by omega) (by omega) (by omega) (by omega)
  obtain ⟨h2, b1, b2⟩ := yC_Bj (by omega) a2
  refine ⟨h2, ?_, by rw [show ow + (ow' - ow) = ow' by omega]; exact b2⟩
  show g_Cr_codeIf (f_Cr_codeBody D) (f_Cr_codeBranch D) h (nI i) (nI (d + 1)) = _
  unfold g_Cr_codeIf
  rw [if_pos (zi_in (by omega) hi), nI_clamp (show i < 2147483648 by omega), f.2.1 17 (by decide), show (0 : Int32) = nI 0 from rfl, a1]
  unfold f_Cr_codeIf_126
  rw [b1, Option.bind_some]
theorem yk_T15 {k dl dlb ow ow' c20 c11 : Nat} {B : ys} {x : Int32} {CI : Nat → Nat → Nat → List yI → Prop} (hk : k < 33500) (m0 : (g0.2.1 72) k = 15) (hd : dlb < dl) (hl : yz_n B < 90000) (G : yk_GL h0 g0 b dlb CI (yk_mi g0 b (-1)) B x ((g0.2.1 76) k) ow ow' c20 c11) : yk_SM g0 b dl k (.inner 1 ([], 0, 0) () B .leaf) c20 c11 := by
  have hz := zF_big
  intro D n s v q w ww g f c hl hw hn h20 h11 hD
  have hn' : n + yz_l B ≤ 90000000 := hn
  obtain ⟨D, rfl⟩ : ∃ z, D = z + 1 + 1 := ⟨D - 2, by omega⟩
  have f' : ∀ a, ¬ a ∈ yM_M → g.2.1 a = g0.2.1 a := fun a ha => f.2.1 a ha
  obtain ⟨g1, a1, a2⟩ := yk_chM B _ _ _ _ _ _ G D n s v q (n + yz_l B) w ww zF g (nI ww) f c hl hw hn' h20 h11 (by omega) (by omega)
  obtain ⟨_, gl⟩ := yk_GLl B _ _ _ _ _ _ G n
  obtain ⟨g2, b1, b2⟩ := yM_Bj c (by omega) (by omega) hw a2
  refine ⟨g2, ?_, b2⟩
  rw [yk_sS]
  unfold g_Mo_statementCode
  simp only [if_pos (zi_in (show k < 2147483648 by omega) hk), nI_clamp (show k < 2147483648 by omega), f' 72 (by decide), f' 76 (by decide)]
  rw [m0, if_neg (by decide), if_neg (by decide), if_pos rfl]
  show (g_Mo_choiceCode (f_Mo_bodyCode D) g (nI k) ((g0.2.1 76) k) (-1)).bind _ = _
  unfold g_Mo_choiceCode
  rw [hw, a1, b1]
  rfl
/-- CASE -/
theorem yk_S16 {i c dl dlb dlc ow ow' c20 c11 sz : Nat} {L : List yI} {B : ys} {x' : Int32} {MI : Nat → Nat → Nat → List yI → Prop} (hsz : (h0.1 12 6) = nI sz) (hs2 : sz < 100000) (hi : i < 32784) (ec : (h0.2.1 17) i = nI c) (hc : c < 32784) (hdc : dlc ≤ 190) (A : yk_C h0 dlc (nI c) L) (hd : dlb < dl) (hl : yz_n B ≤ sz) (how : ow + 1 ≤ ow') (G : yk_GL h0 g0 b dlb (yk_cc h0 ow) MI B ((h0.2.1 18) c) x' (ow + 1) ow' c20 c11) : yk_SC h0 dl 16 i ow (ow' - ow) (yz_ap (yz_i (L ++ [(2, nI ow, 0, 0)])) (.inner 1 ([], 0, 0) () B .leaf)) := by
  have hz := zF_big
  intro D d n v q h f es ho hn hD hdd
  have hn' : n + ((L ++ [((2, nI ow, 0, 0) : yI)]).length + (yz_l B + 0)) ≤ 90000000 := hn
  rw [List.length_append] at hn'
  have hn2 : n + (L.length + 1 + (yz_l B + 0)) ≤ 90000000 := hn'
  obtain ⟨D, rfl⟩ : ∃ z, D = z + 1 := ⟨D - 1, by omega⟩
  obtain ⟨h1, hh1⟩ : ∃ h1, h1 = zs_uF h 47 4 (nI (ow + 1)) := ⟨_, rfl⟩
  have f1 : yC_f h0 h1 := by rw [hh1]; exact zfr_F (by decide) f
  have es1 : (h1.1 41 5) = nI n := by rw [hh1]; exact es
  have ho1 : (h1.1 47 4) = nI (ow + 1) := by rw [hh1]; rfl
  obtain ⟨h2, a1, a2⟩ := A 400 0 n h1 f1 es1 (by omega) (by omega) (by omega)
  have f2 := yC_fE f1 a2
  obtain ⟨h3, b1, b2⟩ := yC_emit a2.1 (by omega) 2 (by decide) (nI ow)
  have f3 := yC_fE f2 b2
  have E := yC_ap a2 b2
  have el : (L ++ [((2, nI ow, 0, 0) : yI)]).length = L.length + 1 := by rw [List.length_append]; rfl
  have R1 : yC_R n v q (yz_i (L ++ [(2, nI ow, 0, 0)])) (ow + 1) h h3 := by
    have R := yC_R0 (v := v) (q := q) ho1 E
    obtain ⟨r1, r2, r3⟩ := R
    refine ⟨⟨r1.1, zfr_trans (show zfr yC_g yC_w [] h h1 by rw [hh1]; exact zfr_F (by decide) zfr_rfl) r1.2.1, fun h4 => ⟨fun j hj a ha => ?_, (r1.2.2 h4).2⟩⟩, r2, fun h4 => ?_⟩
    · rw [(r1.2.2 h4).1 j hj a ha, hh1]; rfl
    · have := r3 h4
      rw [hh1] at this
      exact this
  obtain ⟨f3', e3, o3⟩ := yC_Rf f R1
  obtain ⟨c1, h4, p1, p2⟩ := yk_caC hsz hs2 B _ _ _ _ _ _ G D (d + 1) _ v q (n + yz_l (yz_i (L ++ [(2, nI ow, 0, 0)])) + yz_l B) 0 zF h3 (-1) f3 e3 o3 (by rw [yz_il, el]; omega) (by omega) (by omega) (by omega) (by omega)
  obtain ⟨h5, q1, q2⟩ := yC_Bj (by rw [yz_il, el]; omega) p2
  refine ⟨h5, ?_, by rw [show ow + (ow' - ow) = ow' by omega]; exact yC_Rap ⟨by decide, trivial⟩ R1 q2⟩
  show g_Cr_codeCase (f_Cr_codeBody D) (f_Cr_codeBranch D) h (nI i) (nI (d + 1)) = _
  unfold g_Cr_codeCase
  simp only [if_pos (zi_in (show i < 2147483648 by omega) hi), nI_clamp (show i < 2147483648 by omega), f.2.1 17 (by decide), ec, if_pos (zi_in (show c < 2147483648 by omega) hc), nI_clamp (show c < 2147483648 by omega), ho, nI_1]
  rw [← hh1, show f_Cr_codeExpression 400 h1 (nI c) 0 = some h2 from a1, Option.bind_some]
  refine (congrArg (fun z => zd_B z _) b1).trans ?_
  show f_Cr_codeCase_L61 (f_Cr_codeBody D) (f_Cr_codeBranch D) zF h3 (nI (d + 1)) (nI ow) ((h3.2.1 18) c) (-1) (nI 0) = _
  rw [f3.2.1 18 (by decide), p1]
  unfold f_Cr_codeCase_163
  rw [q1, Option.bind_some]
theorem yk_T16 {k ke dl dlb dlc ow ow1 ow' c20 c11 : Nat} {L : List yI} {B : ys} {x : Int32} {Q1 : Nat → Prop} {CI : Nat → Nat → Nat → List yI → Prop} (hk : k < 33500) (m0 : (g0.2.1 72) k = 16) (m1 : (g0.2.1 76) k = nI ke) (hke : ke < 33500) (m2 : (g0.2.1 101) k = nI ow) (hdc : dlc ≤ 190) (hQ : ¬ Q1 ke) (A : yk_M g0 b Q1 dlc ke L) (hd : dlb < dl) (hl : yz_n B < 90000) (G : yk_GL h0 g0 b dlb CI (yk_mi g0 b (nI ow)) B x ((g0.2.1 78) ke) ow1 ow' c20 c11) : yk_SM g0 b dl k (yz_ap (yz_i (L ++ [(2, nI ow, 0, 0)])) (.inner 1 ([], 0, 0) () B .leaf)) c20 c11 := by
  have hz := zF_big
  intro D n s v q w ww g f c hlv hw hn h20 h11 hD
  have hn' : n + ((L ++ [((2, nI ow, 0, 0) : yI)]).length + (yz_l B + 0)) ≤ 90000000 := hn
  rw [List.length_append] at hn'
  have hn2 : n + (L.length + 1 + (yz_l B + 0)) ≤ 90000000 := hn'
  obtain ⟨D, rfl⟩ : ∃ z, D = z + 1 + 1 := ⟨D - 2, by omega⟩
  have f' : ∀ a, ¬ a ∈ yM_M → g.2.1 a = g0.2.1 a := fun a ha => f.2.1 a ha
  obtain ⟨g1, a1, a2⟩ := yk_M1 (D := 600) (by omega) hke hQ A f c (by omega) (by omega)
  have f1 := yM_fE f a2
  have c1 := yM_cL c a2
  obtain ⟨g2, b1, b2⟩ := yM_e c1 (by omega) 2 (nI ow) 0 0 (by decide)
  have f2 := yM_fE f1 b2
  have f2' : ∀ a, ¬ a ∈ yM_M → g2.2.1 a = g0.2.1 a := fun a ha => f2.2.1 a ha
  have R1 : yM_R s n v q (yz_i (L ++ [(2, nI ow, 0, 0)])) w ww g g2 := yM_R0 hlv (yM_aL a2 b2)
  have el : (L ++ [((2, nI ow, 0, 0) : yI)]).length = L.length + 1 := by rw [List.length_append]; rfl
  obtain ⟨f3, c3, l3, w3⟩ := yM_Rf f c R1
  have ex : (yz_x (yz_i (L ++ [(2, nI ow, 0, 0)])) n).length = 0 := rfl
  obtain ⟨g4, p1, p2⟩ := yk_chM B _ _ _ _ _ _ G D _ s v q (n + yz_l (yz_i (L ++ [(2, nI ow, 0, 0)])) + yz_l B) _ ww zF g2 (nI ww) f3 c3 l3 (w3.trans hw) (by rw [yz_il, el]; omega) (by rw [ex]; exact h20) h11 (by omega) (by omega)
  obtain ⟨_, gl⟩ := yk_GLl B _ _ _ _ _ _ G (n + yz_l (yz_i (L ++ [(2, nI ow, 0, 0)])))
  obtain ⟨g5, q1, q2⟩ := yM_Bj c3 (by rw [yz_il, el]; omega) (by omega) (w3.trans hw) p2
  refine ⟨g5, ?_, yM_Rap ⟨by decide, trivial⟩ hw R1 q2⟩
  rw [yk_sS]
  unfold g_Mo_statementCode
  simp only [if_pos (zi_in (show k < 2147483648 by omega) hk), nI_clamp (show k < 2147483648 by omega), f' 72 (by decide), f' 76 (by decide), m1]
  rw [m0, if_neg (by decide), if_neg (by decide), if_neg (by decide), if_pos rfl, a1, Option.bind_some, f1.2.1 101 (by decide), m2]
  refine (congrArg (fun z => zd_B z _) b1).trans ?_
  show (if zd_in ((g2.2.1 76) k) 33500 then ((f_Mo_choiceCode (D + 1) g2 (nI k) ((g2.2.1 78) ((g2.2.1 76) k).toNatClampNeg) ((g2.2.1 101) k)).bind fun h19 => some h19) else none) = _
  rw [f2' 76 (by decide), f2' 78 (by decide), f2' 101 (by decide), m1, if_pos (zi_in (by omega) hke), nI_clamp (show ke < 2147483648 by omega), m2]
  show (g_Mo_choiceCode (f_Mo_bodyCode D) g2 (nI k) ((g0.2.1 78) ke) (nI ow)).bind _ = _
  unfold g_Mo_choiceCode
  rw [w3, hw, p1, q1]
  rfl
end YRB
end
section
/-! The coder: FOR. -/
section YFO
variable {h0 h g0 g : zs_H} {b : Nat}
theorem yC_Hu {n k : Nat} {L : List yI} {H : List Nat} {x : Int32} {h' : zs_H} (hk : (47, k) ∈ yC_g) (A : yC_H n L H (zs_uF h 47 k x) h') : yC_H n L H h h' := ⟨A.1, zfr_trans (zfr_F hk zfr_rfl) A.2.1, fun h4 => ⟨fun j hj a ha => ((A.2.2 h4).1 j hj a ha).trans rfl, (A.2.2 h4).2⟩⟩
theorem yM_Hu {s n : Nat} {L : List yJ} {H : List Nat} {x : Int32} {g' : zs_H} (A : yM_H s n L H (zs_uF g 68 64 x) g') : yM_H s n L H g g' := ⟨A.1, zfr_trans (zfr_F (by decide) zfr_rfl) A.2.1, fun h4 => ⟨fun j hj a ha => ((A.2.2 h4).1 j hj a ha).trans rfl, (A.2.2 h4).2⟩⟩
/-- a loop, for the class -/
theorem yC_loop {m v q ow o2 : Nat} {Tm : Int32} {l : ys} {h1 h2 h4 h5 : zs_H} (hm : m + (3 + yz_l l) < 100000000) (E1 : yC_E m [(12, nI ow, Tm, 0)] h h1) (E2 : yC_E (m + 1) [(13, -1, nI ow, 0)] h1 h2) (R : yC_R (m + 2) (v + 1) (m + (3 + yz_l l)) l o2 (zs_uF h2 47 6 (-1)) h4) (E3 : yC_E (m + 2 + yz_l l) [(14, nI (m + 1), 0, 0)] h4 h5) : ∃ h6 h7, f_Cd_joinHere h5 (nI (m + 1)) = some h6 ∧ f_Cd_joinHere h6 ((h6.1 47 6)) = some h7 ∧ yC_R m v q (.inner 2 ([], nI ow, Tm) () l .leaf) o2 h (zs_uF h7 47 6 ((h2.1 47 6))) := by
  obtain ⟨r1, r2, r3⟩ := R
  obtain ⟨C, hC⟩ : ∃ C, C = (yz_c l (m + 2) (v + 1) (m + (3 + yz_l l)) 0).map Prod.fst := ⟨_, rfl⟩
  have hCl : C.length = yz_l l := by rw [hC, List.length_map, yz_len]
  rw [← hC] at r1
  obtain ⟨LL, hLL⟩ : ∃ LL : List yI, LL = [(12, nI ow, Tm, 0)] ++ ([(13, nI (m + (3 + yz_l l)), nI ow, 0)] ++ (C ++ [(14, nI (m + 1), 0, 0)])) := ⟨_, rfl⟩
  have hl : LL.length = 3 + yz_l l := by
    rw [hLL, List.length_append, List.length_append, List.length_append, hCl]
    show 1 + (1 + (yz_l l + 1)) = _
    omega
  have A : yC_H m LL ([] ++ ([m + 1] ++ (yz_x l (m + 2) ++ []))) h h5 := by
    rw [hLL]
    exact yC_Hap (yC_EH E1) (yC_Hap (yC_EHh E2) (yC_Hap (yC_Hu (by decide) r1) (by rw [hCl]; exact yC_EH E3)))
  have ea : m + LL.length ≤ 4000 → (h5.2.1 43) (m + 1) = -1 := fun h4' => by
    rw [hl] at h4'
    rw [(E3.2.2 (by show m + 2 + yz_l l + 1 ≤ _; omega)).1 (m + 1) (by omega) _ (by decide), (r1.2.2 (by rw [hCl]; omega)).1 (m + 1) (by omega) _ (by decide)]
    exact ((E2.2.2 (by show m + 1 + 1 ≤ _; omega)).2 0 _ rfl).2.1
  obtain ⟨h6, j1, j2, j3, j4⟩ := yC_join (js := [m + 1]) (x := nI (m + 1)) (by rw [hl]; omega) A (fun h4' => by
    refine ⟨⟨by rw [hl]; omega, rfl, ea h4'⟩, fun j hj => by have := List.mem_singleton.mp hj; omega, fun k i ei hk => ?_⟩
    have : k = 1 := by have := List.mem_singleton.mp hk; omega
    subst this
    rw [hl]
    rw [hLL] at ei
    have ei' : some ((13, nI (m + (3 + yz_l l)), nI ow, 0) : yI) = some i := ei
    cases ei'
    rfl)
  have B := j4 (yz_x l (m + 2)) (fun j hj => by
    rcases List.mem_append.mp hj with z | z
    · cases z
    rcases List.mem_append.mp z with z | z
    · exact .inl z
    rcases List.mem_append.mp z with z | z
    · exact .inr z
    · cases z)
  have ex6 : (h6.1 47 6) = (h4.1 47 6) := (j2.1 _ _ List.not_mem_nil).trans (E3.2.1.1 _ _ (by decide))
  obtain ⟨h7, k1, k2, _, k4⟩ := yC_join (js := yz_x l (m + 2)) (x := (h6.1 47 6)) (by rw [hl]; omega) B (fun h4' => by
    have h4'' := h4'
    rw [hl] at h4''
    refine ⟨?_, fun j hj => by have := yz_xr _ _ _ hj; omega, fun k i ei hk => ?_⟩
    · rw [ex6]
      have c1 := r3 (by omega)
      have c2 := yC_chf (h' := h5) _ _ _ (fun j hj => (E3.2.2 (by show m + 2 + yz_l l + 1 ≤ _; omega)).1 j hj _ (by decide)) c1
      exact yC_chm (by rw [hl]; omega) (yC_chg _ _ _ (fun j hj => j3 h4' j (fun z => by have := yz_xr _ _ _ hj; have := List.mem_singleton.mp z; omega)) c2)
    · have hr := yz_xr _ _ _ hk
      obtain ⟨k, rfl⟩ : ∃ z, k = z + 1 + 1 := ⟨k - 2, by omega⟩
      rw [hLL] at ei
      have ei' : (C ++ [(14, nI (m + 1), 0, 0)])[k]? = some i := ei
      rw [List.getElem?_append, if_pos (by rw [hCl]; omega), hC, List.getElem?_map] at ei'
      cases hj : (yz_c l (m + 2) (v + 1) (m + (3 + yz_l l)) 0)[k]? with
      | none => rw [hj] at ei'; cases ei'
      | some i' =>
        rw [hj] at ei'
        cases ei'
        rw [hl]
        exact (yz_xP l (m + 2) (v + 1) (m + (3 + yz_l l)) 0 k i' hj (by rw [show m + 2 + k = m + (k + 1 + 1) by omega]; exact hk)).2)
  have D := k4 [] (fun j hj => .inl hj)
  have ec : (yz_c (.inner 2 ([], nI ow, Tm) () l .leaf) m v q 0).map Prod.fst = LL := by
    show ([((12, nI ow, Tm, 0), v)] ++ ([((13, nI (m + (3 + yz_l l)), nI ow, 0), v)] ++ (yz_c l (m + 2) (v + 1) (m + (3 + yz_l l)) 0 ++ ([((14, nI (m + 1), 0, 0), v + 1)] ++ []))) : List yJ).map Prod.fst = LL
    rw [List.append_nil, List.map_append, List.map_append, List.map_append, hLL, hC]
    rfl
  have eh : (h2.1 47 6) = (h.1 47 6) := (E2.2.1.1 _ _ (by decide)).trans (E1.2.1.1 _ _ (by decide))
  refine ⟨h6, h7, j1, k1, ?_, ?_, fun _ => eh⟩
  · rw [ec]
    exact ⟨D.1, zfr_trans D.2.1 (zfr_F (by decide) zfr_rfl), fun h4' => ⟨fun j hj a ha => (D.2.2 h4').1 j hj a ha, (D.2.2 h4').2⟩⟩
  · exact (k2.1 _ _ List.not_mem_nil).trans ((j2.1 _ _ List.not_mem_nil).trans ((E3.2.1.1 _ _ (by decide)).trans r2))
/-- and for the model -/
theorem yM_loop {s m v q ow w ww : Nat} {Tm : Int32} {l : ys} {g1 g2 g4 : zs_H} (c : yM_c g m s b v) (hl0 : (g.1 68 68) = nI w) (hm : m + (3 + yz_l l) < 100000000) (hx : w + (yz_x l (m + 2)).length ≤ 4000) (E1 : yM_E s m (yv v [(12, nI ow, Tm, 0)]) g g1) (E2 : yM_E s (m + 1) [((13, nI s, nI ow, 0), v)] g1 g2) (R : yM_R s (m + 2) (v + 1) (m + (3 + yz_l l)) l w ww (zs_uF g2 68 64 (nI (v + 1))) g4) : ∃ g5 g6 g8, f_Mo_emit g4 14 (nI (m + 1 - s)) 0 0 = some (nI (m + 2 + yz_l l - s), g5) ∧ f_Mo_here g5 = some (nI (m + (3 + yz_l l) - s)) ∧ f_Mo_aim g5 (nI (m + 1 - s)) (nI (m + (3 + yz_l l) - s)) = some g6 ∧ f_Mo_loopCode_L235 zF g6 (nI w) = some g8 ∧ yM_R s m v q (.inner 2 ([], nI ow, Tm) () l .leaf) w ww g g8 := by
  have hz := zF_big
  have c2 : yM_c g2 (m + 2) s b v := yM_cL (yM_cL c E1) (show yM_E s (m + 1) (yv v [(13, nI s, nI ow, 0)]) g1 g2 from E2)
  have c2' : yM_c (zs_uF g2 68 64 (nI (v + 1))) (m + 2) s b (v + 1) := ⟨c2.1, c2.2.1, rfl, c2.2.2.2⟩
  obtain ⟨_, c4, l4, w4⟩ := yM_Rf (show yM_f (zs_uF g2 68 64 (nI (v + 1))) (zs_uF g2 68 64 (nI (v + 1))) from zfr_rfl) c2' R
  obtain ⟨r1, r2, r3, r4, r5, r6, r7⟩ := R
  have hs := c.1.2
  obtain ⟨C, hC⟩ : ∃ C, C = yz_c l (m + 2) (v + 1) (m + (3 + yz_l l)) 0 := ⟨_, rfl⟩
  have hCl : C.length = yz_l l := by rw [hC, yz_len]
  rw [← hC] at r1
  obtain ⟨⟨q1, q2⟩, ⟨q3, q4, q5⟩, q6, q7⟩ := id c4
  obtain ⟨g5, b1, b2⟩ := yM_emit q1 (by omega) q3 (by omega) q5 q2 q6 (14, nI (m + 1), 0, 0)
  have eA : yM_A s (14, nI (m + 1), 0, 0) = nI (m + 1 - s) := by
    unfold yM_A
    rw [if_pos (.inr (.inr rfl))]
    show nI (m + 1) - nI s = _
    rw [zi_sub (by omega)]
  rw [eA] at b1
  have c5 : yM_c g5 (m + (3 + yz_l l)) s b (v + 1) := by
    have := yM_cL c4 (show yM_E s (m + 2 + yz_l l) (yv (v + 1) [(14, nI (m + 1), 0, 0)]) g4 g5 from b2)
    rw [show m + (3 + yz_l l) = m + 2 + yz_l l + 1 by omega]
    exact this
  obtain ⟨M, hM⟩ : ∃ M : List yJ, M = [((12, nI ow, Tm, 0), v)] ++ ([((13, nI (m + (3 + yz_l l)), nI ow, 0), v)] ++ (C ++ [((14, nI (m + 1), 0, 0), v + 1)])) := ⟨_, rfl⟩
  have hl : M.length = 3 + yz_l l := by
    rw [hM, List.length_append, List.length_append, List.length_append, hCl]
    show 1 + (1 + (yz_l l + 1)) = _
    omega
  have A : yM_H s m M ([] ++ ([m + 1] ++ (yz_x l (m + 2) ++ []))) g g5 := by
    rw [hM]
    exact yM_Hap (yM_EH E1) (yM_Hap (yM_EH13 E2) (yM_Hap (yM_Hu r1) (by rw [hCl]; exact yM_EH b2)))
  obtain ⟨g6, d1, d2⟩ := yM_aim (j := m + 1) (nI (m + (3 + yz_l l) - s)) c5 (by omega) (by omega)
  have B := yM_join (fs := []) (fun x hx => by cases hx) A (by rw [hl]; exact yM_aj1 d2) (fun a b _ => d2.1.1 a b List.not_mem_nil) (d2.1.1 _ _ List.not_mem_nil) hs (fun h4' => ⟨fun j hj => by have := List.mem_singleton.mp hj; omega, fun k i ei hk => by
    have : k = 1 := by have := List.mem_singleton.mp hk; omega
    subst this
    rw [hM] at ei
    have ei' : some ((((13, nI (m + (3 + yz_l l)), nI ow, 0), v)) : yJ) = some i := ei
    cases ei'
    exact ⟨by rw [hl], .inr (.inr rfl)⟩⟩) (yz_x l (m + 2)) (fun j hj => by
    rcases List.mem_append.mp hj with z | z
    · cases z
    rcases List.mem_append.mp z with z | z
    · exact .inl z
    rcases List.mem_append.mp z with z | z
    · exact .inr z
    · cases z)
  have c6 : yM_c g6 (m + (3 + yz_l l)) s b (v + 1) := by
    obtain ⟨⟨p1, p2⟩, ⟨p3, p4, p5⟩, p6, p7⟩ := c5
    exact ⟨⟨(d2.1.1 _ _ List.not_mem_nil).trans p1, p2⟩, ⟨(d2.1.1 _ _ List.not_mem_nil).trans p3, p4, by rw [d2.1.2.1 _ (by decide)]; exact p5⟩, (d2.1.1 _ _ List.not_mem_nil).trans p6, (d2.1.1 _ _ List.not_mem_nil).trans p7⟩
  have l6 : (g6.1 68 68) = nI (w + (yz_x l (m + 2)).length) := (d2.1.1 _ _ List.not_mem_nil).trans ((b2.2.1.1 _ _ (by decide)).trans r4)
  have x6 : (g6.2.1 111) = (g4.2.1 111) := (d2.1.2.1 _ (by decide)).trans (b2.2.1.2.1 _ (by decide))
  have n6 : (g6.2.1 110) = (g4.2.1 110) := (d2.1.2.1 _ (by decide)).trans (b2.2.1.2.1 _ (by decide))
  have xn : (yz_x l (m + 2)).Nodup := yz_xn _ _
  obtain ⟨g7, p1, p2, p3, p4⟩ := yM_popx (w := w) (yz_x l (m + 2)) g6 zF c6 l6 hx (by rw [x6]; exact r5) xn (by omega)
  have D := yM_join (fs := [(68, 68)]) (fun x hx => by rw [List.mem_singleton.mp hx]; decide) B (by rw [hl]; exact p2) (fun a b hab => p4 a b (fun z => hab (List.mem_singleton.mpr z))) (p4 _ _ (by decide)) hs (fun h4' => ⟨fun j hj => by have := yz_xr _ _ _ hj; omega, fun k i ei hk => by
    have hr := yz_xr _ _ _ hk
    obtain ⟨k, rfl⟩ : ∃ z, k = z + 1 + 1 := ⟨k - 2, by omega⟩
    rw [hM] at ei
    have ei' : (C ++ [((14, nI (m + 1), 0, 0), v + 1)])[k]? = some i := ei
    rw [List.getElem?_append, if_pos (by rw [hCl]; omega), hC] at ei'
    obtain ⟨u1, u2⟩ := yz_xP l (m + 2) (v + 1) (m + (3 + yz_l l)) 0 k i ei' (by rw [show m + 2 + k = m + (k + 1 + 1) by omega]; exact hk)
    exact ⟨by rw [hl]; exact u2, .inl u1⟩⟩) [] (fun j hj => .inl hj)
  have ev : nI (v + 1) - 1 = nI v := by
    rw [show (1 : Int32) = nI 1 from rfl, zi_sub (by omega)]; rfl
  rw [ev] at p1
  have ec : yz_c (.inner 2 ([], nI ow, Tm) () l .leaf) m v q 0 = M := by
    show ([((12, nI ow, Tm, 0), v)] ++ ([((13, nI (m + (3 + yz_l l)), nI ow, 0), v)] ++ (yz_c l (m + 2) (v + 1) (m + (3 + yz_l l)) 0 ++ ([((14, nI (m + 1), 0, 0), v + 1)] ++ []))) : List yJ) = M
    rw [List.append_nil, hM, hC]
  have wg : (g7.1 68 66) = (g.1 68 66) := (p4 _ _ (by decide)).trans ((d2.1.1 _ _ List.not_mem_nil).trans ((b2.2.1.1 _ _ (by decide)).trans (r3.trans ((E2.2.1.1 _ _ (by decide)).trans (E1.2.1.1 _ _ (by decide))))))
  refine ⟨g5, g6, zs_uF g7 68 64 (nI v), b1, yM_here c5, d1, p1, ?_, c.2.2.1.symm, wg, p3, trivial, fun k hk => ?_, fun k hk => ?_⟩
  · rw [ec]
    exact ⟨D.1, zfr_trans D.2.1 (zfr_F (by decide) zfr_rfl), fun h4' => ⟨fun j hj a ha => (D.2.2 h4').1 j hj a ha, (D.2.2 h4').2⟩⟩
  · show (g7.2.1 111) k = _
    rw [p2.1 _ (by decide), x6, r6 k hk]
    show (g2.2.1 111) k = _
    rw [E2.2.1.2.1 _ (by decide), E1.2.1.2.1 _ (by decide)]
  · show (g7.2.1 110) k = _
    rw [p2.1 _ (by decide), n6, r7 k hk]
    show (g2.2.1 110) k = _
    rw [E2.2.1.2.1 _ (by decide), E1.2.1.2.1 _ (by decide)]
end YFO
end
