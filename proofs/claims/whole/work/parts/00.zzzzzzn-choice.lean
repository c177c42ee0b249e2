/-! The coder: the branches of a choice. -/
def yz_n : ys → Nat
  | .leaf => 0
  | .inner _ _ _ _ r => 1 + yz_n r
/-- the branches of a choice, on both sides; CI, MI: how a condition is coded -/
def yk_GL (h0 g0 : zs_H) (b dl : Nat) (CI MI : Nat → Nat → Nat → List yI → Prop) : ys → Int32 → Int32 → Nat → Nat → Nat → Nat → Prop
  | .leaf, x, x', ow, ow', _, _ => x = -1 ∧ x' = -1 ∧ ow' = ow
  | .inner tg p _ T Br, x, x', ow, ow', c20, c11 => ∃ (i k ib kb xi xk oc d20 d11 e20 e11 : Nat), (i < 32784 ∧ x = nI i ∧ xi < 32784) ∧ (k < 33500 ∧ x' = nI k ∧ xk < 33500) ∧ (yk_BC h0 dl ib ow oc T ∧ yk_BM g0 b dl kb T d20 d11) ∧ (yz_st T ∧ ∀ n, (yz_x T n).length ≤ d20) ∧ ((tg = 6 ∧ p = ([], 0, 0) ∧ Br = .leaf ∧ ib = i ∧ kb = k ∧ xi = i ∧ xk = k ∧ (h0.2.1 13) i = 11 ∧ (g0.2.1 72) k = 11) ∨ (tg = 5 ∧ p.2 = (0, 0) ∧ CI i ib xi p.1 ∧ MI k kb xk p.1 ∧ (Br = .leaf → (h0.2.1 18) xi = -1) ∧ (¬ Br = .leaf → (∃ y, y < 32784 ∧ (h0.2.1 18) xi = nI y) ∧ ∃ y, y < 33500 ∧ (g0.2.1 78) xk = nI y))) ∧ (d20 + e20 ≤ c20 ∧ d11 + 1 + e11 ≤ c11) ∧ yk_GL h0 g0 b dl CI MI Br ((h0.2.1 18) xi) ((g0.2.1 78) xk) (ow + oc) ow' e20 e11
theorem yz_fl {B : ys} : yz_f B = true ↔ B = .leaf := by
  cases B with
  | leaf => exact ⟨fun _ => rfl, fun _ => rfl⟩
  | inner => exact ⟨fun z => (by cases z), fun z => (by cases z)⟩
/-- an EXIT is no jump to the end of the choice -/
theorem yz_xg : ∀ (t : ys) (n j : Nat), j ∈ yz_x t n → ¬ j ∈ yz_g t n := by
  intro t
  induction t with
  | leaf => intro n j hj; cases hj
  | inner k p o l r ihl ihr =>
    intro n j hx hg
    by_cases k5 : k = 5
    · subst k5
      have hx' : j ∈ yz_x r (n + (p.1.length + 1 + yz_l l + (if yz_f r = true then 0 else 1))) ++ yz_x l (n + p.1.length + 1) := hx
      have hg' : j ∈ yz_g r (n + (p.1.length + 1 + yz_l l + (if yz_f r = true then 0 else 1))) ++ (if yz_f r = true then [] else [n + p.1.length + 1 + yz_l l]) := hg
      obtain ⟨t, ht⟩ : ∃ t, t = if yz_f r = true then 0 else 1 := ⟨_, rfl⟩
      rw [← ht] at hx' hg'
      rcases List.mem_append.mp hx' with a | a
      · rcases List.mem_append.mp hg' with c | c
        · exact ihr _ _ a c
        · have := yz_xr _ _ _ a
          by_cases w : yz_f r = true
          · rw [if_pos w] at c; cases c
          · rw [if_neg w] at c ht
            have := List.mem_singleton.mp c
            omega
      · have := yz_xr _ _ _ a
        rcases List.mem_append.mp hg' with c | c
        · have := yz_gr _ _ _ c; omega
        · by_cases w : yz_f r = true
          · rw [if_pos w] at c; cases c
          · rw [if_neg w] at c
            have := List.mem_singleton.mp c
            omega
    · have : yz_g (.inner k p o l r) n = [] := if_neg k5
      rw [this] at hg
      cases hg
section YGL
variable {h0 g0 : zs_H} {b dl : Nat} {n v q e ow ow2 : Nat} {c0 c1 c2 : Int32} {L : List yI} {T Br : ys} {h h1 h2 h3 : zs_H}
theorem yv_m : (yv v L).map Prod.fst = L := by
  unfold yv
  rw [List.map_map]
  exact List.map_id L
/-- a branch and the next ones -/
theorem yC_Bc (A : yC_E n L h h1) (hb : yC_H (n + L.length) ([(11, nI (n + L.length + (1 + yz_l T + (if yz_f Br = true then 0 else 1))), 0, 0)] ++ ((yz_c T (n + L.length + 1) v q 0).map Prod.fst ++ (if yz_f Br = true then [] else [(10, nI e, 0, 0)]))) (yz_x T (n + L.length + 1) ++ (if yz_f Br = true then [] else [n + L.length + 1 + yz_l T])) h1 h2) (ch : n + L.length + (1 + yz_l T + (if yz_f Br = true then 0 else 1)) ≤ 4000 → yC_ch h2 ((h1.1 47 6)) (n + L.length + 1 + yz_l T) (yz_x T (n + L.length + 1)) ((h2.1 47 6)) ∧ yC_ch h2 c0 (n + L.length + (1 + yz_l T + (if yz_f Br = true then 0 else 1))) (if yz_f Br = true then [] else [n + L.length + 1 + yz_l T]) c1) (R : yC_B (n + (L.length + 1 + yz_l T + (if yz_f Br = true then 0 else 1))) v q e Br ow c1 c2 h2 h3) : yC_B n v q e (.inner 5 (L, 0, 0) () T Br) ow c0 c2 h h3 := by
  obtain ⟨t, ht⟩ : ∃ t, t = if yz_f Br = true then 0 else 1 := ⟨_, rfl⟩
  have ht1 : t ≤ 1 := by rw [ht]; split <;> omega
  have hm : n + L.length + (1 + yz_l T + (if yz_f Br = true then 0 else 1)) = n + (L.length + 1 + yz_l T + (if yz_f Br = true then 0 else 1)) := by omega
  obtain ⟨r1, r2, r3⟩ := R
  have gl : (if yz_f Br = true then ([] : List yI) else [(10, nI e, 0, 0)]).length = if yz_f Br = true then 0 else 1 := by split <;> rfl
  have bl : ([((11, nI (n + L.length + (1 + yz_l T + (if yz_f Br = true then 0 else 1))), 0, 0) : yI)] ++ ((yz_c T (n + L.length + 1) v q 0).map Prod.fst ++ (if yz_f Br = true then [] else [(10, nI e, 0, 0)]))).length = 1 + yz_l T + (if yz_f Br = true then 0 else 1) := by
    rw [List.length_append, List.length_append, yz_ml, gl]; show 1 + (yz_l T + _) = _; omega
  have ec : (yz_c (.inner 5 (L, 0, 0) () T Br) n v q e).map Prod.fst = L ++ (([(11, nI (n + L.length + (1 + yz_l T + (if yz_f Br = true then 0 else 1))), 0, 0)] ++ ((yz_c T (n + L.length + 1) v q 0).map Prod.fst ++ (if yz_f Br = true then [] else [(10, nI e, 0, 0)]))) ++ (yz_c Br (n + (L.length + 1 + yz_l T + (if yz_f Br = true then 0 else 1))) v q e).map Prod.fst) := by
    show (yv v L ++ ([((11, nI (n + (L.length + 1 + yz_l T + (if yz_f Br = true then 0 else 1))), 0, 0), v)] ++ (yz_c T (n + L.length + 1) v q 0 ++ ((if yz_f Br = true then [] else [((10, nI e, 0, 0), v)]) ++ yz_c Br (n + (L.length + 1 + yz_l T + (if yz_f Br = true then 0 else 1))) v q e)))).map Prod.fst = _
    rw [List.map_append, List.map_append, List.map_append, List.map_append, yv_m, hm, List.append_assoc, List.append_assoc]
    have : ((if yz_f Br = true then [] else [((10, nI e, 0, 0), v)]) : List yJ).map Prod.fst = if yz_f Br = true then [] else [(10, nI e, 0, 0)] := by split <;> rfl
    rw [this]
    rfl
  have ex : yz_x (.inner 5 (L, 0, 0) () T Br) n = yz_x Br (n + (L.length + 1 + yz_l T + (if yz_f Br = true then 0 else 1))) ++ yz_x T (n + L.length + 1) := rfl
  have eg : yz_g (.inner 5 (L, 0, 0) () T Br) n = yz_g Br (n + (L.length + 1 + yz_l T + (if yz_f Br = true then 0 else 1))) ++ (if yz_f Br = true then [] else [n + L.length + 1 + yz_l T]) := rfl
  have el : yz_l (.inner 5 (L, 0, 0) () T Br) = L.length + 1 + yz_l T + (if yz_f Br = true then 0 else 1) + yz_l Br := rfl
  refine ⟨?_, r2, fun h4 => ?_⟩
  · rw [ec, ex, eg]
    refine yC_Hm (yC_Hap (yC_EH A) (yC_Hap hb (by rw [bl, hm]; exact r1))) (fun j hj => ?_)
    simp only [List.mem_append] at hj ⊢
    rcases hj with z | (z | z) | (z | z)
    · cases z
    · exact .inl (.inr z)
    · exact .inr (.inr z)
    · exact .inl (.inl z)
    · exact .inr (.inl z)
  · rw [el] at h4 ⊢
    rw [← ht] at h4 ch r1 r3 ex eg hm ⊢
    obtain ⟨k1, k2⟩ := ch (by omega)
    obtain ⟨k3, k4⟩ := r3 (by omega)
    have x1 : (h1.1 47 6) = (h.1 47 6) := A.2.1.1 _ _ (by decide)
    have ea : ∀ j, j < n + (L.length + 1 + yz_l T + t) → (h3.2.1 43) j = (h2.2.1 43) j := fun j hj => (r1.2.2 (by rw [List.length_map, yz_len]; omega)).1 j hj _ (by decide)
    rw [ex, eg, show n + (L.length + 1 + yz_l T + t + yz_l Br) = n + (L.length + 1 + yz_l T + t) + yz_l Br by omega]
    constructor
    · refine yC_cha _ _ _ (n + (L.length + 1 + yz_l T + t)) _ _ (fun j hj => (yz_xr _ _ _ hj).1) k3 ?_ (by omega)
      rw [x1] at k1
      exact yC_chm (by omega) (yC_chf _ _ _ (fun j hj => ea j (by omega)) k1)
    · refine yC_cha _ _ _ (n + (L.length + 1 + yz_l T + t)) _ _ (fun j hj => (yz_gr _ _ _ hj).1) k4 ?_ (by omega)
      rw [hm] at k2
      exact yC_chf _ _ _ ea k2
theorem yC_B6 (A : yC_R n v q T ow h h1) : yC_B n v q e (.inner 6 ([], 0, 0) () T .leaf) ow c0 c0 h h1 := by
  obtain ⟨a1, a2, a3⟩ := A
  have ec : yz_c (.inner 6 ([], 0, 0) () T .leaf) n v q e = yz_c T n v q 0 := List.append_nil _
  have ex : yz_x (.inner 6 ([], 0, 0) () T .leaf) n ++ yz_g (.inner 6 ([], 0, 0) () T .leaf) n = yz_x T n := by
    show ([] ++ yz_x T n) ++ [] = _
    rw [List.append_nil, List.nil_append]
  refine ⟨by rw [ec, ex]; exact a1, a2, fun h4 => ⟨?_, rfl⟩⟩
  exact a3 h4
theorem yC_B0 (ho : (h.1 47 4) = nI ow) (es : (h.1 41 5) = nI n) : yC_B n v q e .leaf ow c0 c0 h h := ⟨⟨es, zfr_rfl, fun _ => ⟨fun _ _ _ _ => rfl, fun k i z => by cases z⟩⟩, ho, fun _ => ⟨rfl, rfl⟩⟩
/-- the choice is done -/
theorem yC_Bj (hn : n + yz_l T < 90000001) (A : yC_B n v q (n + yz_l T) T ow (-1) c1 h h1) : ∃ h', f_Cd_joinHere h1 c1 = some h' ∧ yC_R n v q (.inner 1 ([], 0, 0) () T .leaf) ow h h' := by
  obtain ⟨a1, a2, a3⟩ := A
  have ml : ((yz_c T n v q (n + yz_l T)).map Prod.fst).length = yz_l T := by rw [List.length_map, yz_len]
  obtain ⟨h', j1, j2, j3, j4⟩ := yC_join (js := yz_g T n) (x := c1) (by rw [ml]; omega) a1 (fun h4 => by
    rw [ml] at h4 ⊢
    refine ⟨(a3 h4).2, fun j hj => (yz_gr _ _ _ hj).1, fun k i ei hk => ?_⟩
    rw [List.getElem?_map] at ei
    cases hj : (yz_c T n v q (n + yz_l T))[k]? with
    | none => rw [hj] at ei; cases ei
    | some i' =>
      rw [hj] at ei
      cases ei
      exact (yz_gP T n v q (n + yz_l T) k i' hj hk).2)
  have ec : yz_c (.inner 1 ([], 0, 0) () T .leaf) n v q 0 = yz_c T n v q (n + yz_l T) := List.append_nil _
  have ex : yz_x (.inner 1 ([], 0, 0) () T .leaf) n = yz_x T n := List.nil_append _
  have el : yz_l (.inner 1 ([], 0, 0) () T .leaf) = yz_l T := rfl
  refine ⟨h', j1, ?_, (j2.1 _ _ List.not_mem_nil).trans a2, fun h4 => ?_⟩
  · rw [ec, ex]
    exact j4 _ (fun j hj => (List.mem_append.mp hj).elim .inr .inl)
  · rw [el] at h4 ⊢
    rw [ex, show (h'.1 47 6) = (h1.1 47 6) from j2.1 _ _ List.not_mem_nil]
    exact yC_chg _ _ _ (fun j hj => j3 (by rw [ml]; exact h4) j (yz_xg _ _ _ hj)) (a3 h4).1
theorem yM_Bc {s w ww : Nat} {g g1 g2 g3 : zs_H} (hw : (g.1 68 66) = nI ww) (hl : (g.1 68 68) = nI w) (A : yM_E s n (yv v L) g g1) (hb : yM_H s (n + L.length) ([((11, nI (n + L.length + (1 + yz_l T + (if yz_f Br = true then 0 else 1))), 0, 0), v)] ++ (yz_c T (n + L.length + 1) v q 0 ++ (if yz_f Br = true then [] else [((10, nI e, 0, 0), v)]))) (yz_x T (n + L.length + 1) ++ (if yz_f Br = true then [] else [n + L.length + 1 + yz_l T])) g1 g2) (h1 : (g2.1 68 64) = (g1.1 68 64)) (h3 : yM_st ((g2.2.1 110)) s ww (if yz_f Br = true then [] else [n + L.length + 1 + yz_l T])) (h4 : yM_st ((g2.2.1 111)) s w (yz_x T (n + L.length + 1)) ∧ ∀ k, k < w → (g2.2.1 111) k = (g1.2.1 111) k) (h5 : ∀ k, k < ww → (g2.2.1 110) k = (g1.2.1 110) k) (R : yM_Bx s (n + (L.length + 1 + yz_l T + (if yz_f Br = true then 0 else 1))) v q e Br (w + (yz_x T (n + L.length + 1)).length) (ww + (if yz_f Br = true then ([] : List Nat) else [n + L.length + 1 + yz_l T]).length) g2 g3) : yM_Bx s n v q e (.inner 5 (L, 0, 0) () T Br) w ww g g3 := by
  have hm : n + L.length + (1 + yz_l T + (if yz_f Br = true then 0 else 1)) = n + (L.length + 1 + yz_l T + (if yz_f Br = true then 0 else 1)) := by omega
  obtain ⟨r1, r2, r3, r4, ⟨r5, r6, r7⟩, r8⟩ := R
  have gl : (if yz_f Br = true then ([] : List yJ) else [((10, nI e, 0, 0), v)]).length = if yz_f Br = true then 0 else 1 := by split <;> rfl
  have bl : ([(((11, nI (n + L.length + (1 + yz_l T + (if yz_f Br = true then 0 else 1))), 0, 0), v) : yJ)] ++ (yz_c T (n + L.length + 1) v q 0 ++ (if yz_f Br = true then [] else [((10, nI e, 0, 0), v)]))).length = 1 + yz_l T + (if yz_f Br = true then 0 else 1) := by
    rw [List.length_append, List.length_append, yz_len, gl]; show 1 + (yz_l T + _) = _; omega
  have ec : yz_c (.inner 5 (L, 0, 0) () T Br) n v q e = yv v L ++ (([((11, nI (n + L.length + (1 + yz_l T + (if yz_f Br = true then 0 else 1))), 0, 0), v)] ++ (yz_c T (n + L.length + 1) v q 0 ++ (if yz_f Br = true then [] else [((10, nI e, 0, 0), v)]))) ++ yz_c Br (n + (L.length + 1 + yz_l T + (if yz_f Br = true then 0 else 1))) v q e) := by
    show yv v L ++ ([((11, nI (n + (L.length + 1 + yz_l T + (if yz_f Br = true then 0 else 1))), 0, 0), v)] ++ (yz_c T (n + L.length + 1) v q 0 ++ ((if yz_f Br = true then [] else [((10, nI e, 0, 0), v)]) ++ yz_c Br (n + (L.length + 1 + yz_l T + (if yz_f Br = true then 0 else 1))) v q e))) = _
    rw [hm, List.append_assoc, List.append_assoc]
  have ex : yz_x (.inner 5 (L, 0, 0) () T Br) n = yz_x Br (n + (L.length + 1 + yz_l T + (if yz_f Br = true then 0 else 1))) ++ yz_x T (n + L.length + 1) := rfl
  have eg : yz_g (.inner 5 (L, 0, 0) () T Br) n = yz_g Br (n + (L.length + 1 + yz_l T + (if yz_f Br = true then 0 else 1))) ++ (if yz_f Br = true then [] else [n + L.length + 1 + yz_l T]) := rfl
  refine ⟨?_, ?_, ?_, ?_, ⟨?_, ?_, fun k hk => ?_⟩, fun k hk => ?_⟩
  · rw [ec, ex, eg]
    refine yM_Hm (yM_Hap (yM_EH A) (by rw [yv_len]; exact yM_Hap hb (by rw [bl, hm]; exact r1))) (fun j hj => ?_)
    simp only [List.mem_append] at hj ⊢
    rcases hj with z | (z | z) | (z | z)
    · cases z
    · exact .inl (.inr z)
    · exact .inr (.inr z)
    · exact .inl (.inl z)
    · exact .inr (.inl z)
  · rw [r2, h1]; exact A.2.1.1 _ _ (by decide)
  · rw [r3, eg, List.length_append]; congr 1; omega
  · rw [eg]
    exact yM_sta _ _ r4 (yM_stf _ (fun k hk => r8 k hk) h3)
  · rw [r5, ex, List.length_append]; congr 1; omega
  · rw [ex]
    exact yM_sta _ _ r6 (yM_stf _ (fun k hk => r7 k hk) h4.1)
  · rw [r7 k (by omega), h4.2 k hk, A.2.1.2.1 _ (by decide)]
  · rw [r8 k (by omega), h5 k hk, A.2.1.2.1 _ (by decide)]
theorem yM_B6 {s w ww : Nat} {g g1 : zs_H} (hw : (g.1 68 66) = nI ww) (A : yM_R s n v q T w ww g g1) : yM_Bx s n v q e (.inner 6 ([], 0, 0) () T .leaf) w ww g g1 := by
  obtain ⟨a1, a2, a3, a4, a5, a6, a7⟩ := A
  have ec : yz_c (.inner 6 ([], 0, 0) () T .leaf) n v q e = yz_c T n v q 0 := List.append_nil _
  have ex : yz_x (.inner 6 ([], 0, 0) () T .leaf) n = yz_x T n := List.nil_append _
  refine ⟨by rw [ec, ex]; exact yM_Hm a1 (fun j hj => List.mem_append.mpr (.inl hj)), a2, a3.trans hw, trivial, ⟨by rw [ex]; exact a4, by rw [ex]; exact a5, a6⟩, a7⟩
theorem yM_B0 {s w ww : Nat} {g : zs_H} (hw : (g.1 68 66) = nI ww) (hl : (g.1 68 68) = nI w) (es : (g.1 68 56) = nI n) : yM_Bx s n v q e .leaf w ww g g := ⟨⟨es, zfr_rfl, fun _ => ⟨fun _ _ _ _ => rfl, fun k i z => by cases z⟩⟩, rfl, hw, trivial, ⟨hl, trivial, fun _ _ => rfl⟩, fun _ _ => rfl⟩
theorem yM_Bj {s w ww u : Nat} {g g1 : zs_H} (c : yM_c g n s u v) (hn : n + yz_l T < 90000001) (h84 : ww + (yz_g T n).length ≤ 8400) (hw : (g.1 68 66) = nI ww) (A : yM_Bx s n v q (n + yz_l T) T w ww g g1) : ∃ g', f_Mo_choiceCode_L174 zF g1 (nI ww) = some g' ∧ yM_R s n v q (.inner 1 ([], 0, 0) () T .leaf) w ww g g' := by
  have hz := zF_big
  obtain ⟨a1, a2, a3, a4, ⟨a5, a6, a7⟩, a8⟩ := A
  have e1 := a1.1
  rw [yz_len] at e1
  have c1 : yM_c g1 (n + yz_l T) s u v := by
    obtain ⟨⟨q1, q2⟩, ⟨q3, q4, q5⟩, q6, q7⟩ := c
    exact ⟨⟨e1, by omega⟩, ⟨(a1.2.1.1 _ _ (by decide)).trans q3, q4, by rw [a1.2.1.2.1 _ (by decide)]; exact q5⟩, a2.trans q6, (a1.2.1.1 _ _ (by decide)).trans q7⟩
  obtain ⟨g', b1, b2, b3, b4⟩ := yM_pop (m0 := 0) (yz_g T n) g1 zF c1 a3 h84 a4 (yz_gn T n) (by omega)
  have ec : yz_c (.inner 1 ([], 0, 0) () T .leaf) n v q 0 = yz_c T n v q (n + yz_l T) := List.append_nil _
  have ex : yz_x (.inner 1 ([], 0, 0) () T .leaf) n = yz_x T n := List.nil_append _
  have J := yM_join (fs := [(68, 66)]) (fun x hx => by rw [List.mem_singleton.mp hx]; decide) a1 (by rw [yz_len]; exact b2) (fun a b hab => b4 a b (fun z => hab (List.mem_singleton.mpr z))) (b4 _ _ (by decide)) c.1.2 (fun h4 => ⟨fun j hj => (yz_gr _ _ _ hj).1, fun k i ei hk => by
    obtain ⟨p1, p2⟩ := yz_gP T n v q (n + yz_l T) k i ei hk
    exact ⟨by rw [yz_len]; exact p2, .inl p1⟩⟩)
  refine ⟨g', b1, ?_, (b4 _ _ (by decide)).trans a2, b3.trans hw.symm, ?_, ?_, fun k hk => ?_, fun k hk => ?_⟩
  · rw [ec, ex]
    exact J _ (fun j hj => (List.mem_append.mp hj).elim .inr .inl)
  · rw [ex]; exact (b4 _ _ (by decide)).trans a5
  · rw [ex, b2.1 _ (by decide)]; exact a6
  · rw [b2.1 _ (by decide)]; exact a7 k hk
  · rw [b2.1 _ (by decide)]; exact a8 k hk
end YGL
