/-! The machine: BOOLs are 0 or 1. -/
abbrev yJ_01 (v : Int32) : Prop := v = 0 ∨ v = 1
def yJ_g (Bc : Nat → Nat → Prop) (u base : Nat) (c : Nat → Int32) : Prop := ∀ j, Bc u j → yJ_01 (c (base + j))
/-- the BOOLs of block b, and of the FUNCTIONs below it -/
def yJ_G (Bc : Nat → Nat → Prop) (kb : Nat → yK) (pl : Nat → Nat) (b base : Nat) (c : Nat → Int32) : Prop := yJ_g Bc b base c ∧ ∀ w, w < b → (kb w).1 = 1 → yJ_g Bc w (pl w) c
/-- a stack -/
def yJ_s : List Prop → List Int32 → Prop
  | [], _ => True
  | p :: st, x :: S => (p → yJ_01 x) ∧ yJ_s st S
  | _ :: _, [] => False
def yJ_U (X : Nat → Nat) (kb : Nat → yK) (pl : Nat → Nat) (Bc : Nat → Nat → Prop) (b : Nat) (U : Nat → Nat → yE → yE × Nat) : Prop := ∀ (u base : Nat) (s : yE), u < b → yE_dj X kb pl u base → ((U u base s).2 = 0 → (U u base s).1.2.1 = s.2.1) ∧ (yJ_G Bc kb pl u base s.1 → yJ_G Bc kb pl u base (U u base s).1.1)
def yJ_t (tm : Nat → Nat → (Nat → Int32) → Nat → Int32) : Prop := ∀ (B p : Nat) (c : Nat → Int32) (t : Nat), B < 9 → t < (zt_2.getD B 0).toNatClampNeg → yq_sB B t → yJ_01 (c (p + t)) → yJ_01 (tm B p c (p + t))
/-- where BOOLs are -/
def yJ_q (X Y : Nat → Nat) (Bc : Nat → Nat → Prop) (b : Nat) : Prop := ∀ u, u ≤ b → (Y u ≤ X u ∧ X u ≤ 100000 ∧ u < 16) ∧ (∀ j, Bc u j → j < X u) ∧ ∀ j, Bc (1000 + u) j ↔ j < X u
def yJ_h (X Y : Nat → Nat) (kb : Nat → yK) (pl : Nat → Nat) (tm : Nat → Nat → (Nat → Int32) → Nat → Int32) (Bc : Nat → Nat → Prop) (b base : Nat) (U : Nat → Nat → yE → yE × Nat) : Prop := yJ_q X Y Bc b ∧ yE_hU X kb pl b U ∧ yE_ht tm ∧ yJ_t tm ∧ yJ_U X kb pl Bc b U ∧ yE_dj X kb pl b base ∧ (∀ u, u < b → (kb u).1 = 1 → yE_dj X kb pl u (pl u))
section YJG
variable {X Y : Nat → Nat} {kb : Nat → yK} {pl : Nat → Nat} {tm : Nat → Nat → (Nat → Int32) → Nat → Int32} {Bc : Nat → Nat → Prop} {U : Nat → Nat → yE → yE × Nat} {b base lo : Nat}
/-- a cell of the block's own is written -/
theorem yJ_w {c : Nat → Int32} {x : Nat} {v : Int32} (H : yJ_h X Y kb pl tm Bc b base U) (hx : x < X b) (G : yJ_G Bc kb pl b base c) (h : Bc b x → yJ_01 v) : yJ_G Bc kb pl b base (yE_u c (base + x) v) := by
  obtain ⟨H1, H2, H3, H4, H5, H6, H7⟩ := H
  refine ⟨fun j hj => ?_, fun w hw hk j hj => ?_⟩
  · by_cases z : j = x
    · subst z
      rw [show yE_u c (base + j) v (base + j) = v from if_pos rfl]; exact h hj
    · rw [show yE_u c (base + x) v (base + j) = c (base + j) from if_neg (by omega)]; exact G.1 j hj
  · have hj2 := (H1 w (by omega)).2.1 j hj
    rw [show yE_u c (base + x) v (pl w + j) = c (pl w + j) from if_neg (by rcases H6 w hw hk with z | z <;> omega)]
    exact G.2 w hw hk j hj
/-- a FUNCTION's cell is written -/
theorem yJ_wf {c : Nat → Int32} {u x : Nat} {v : Int32} (H : yJ_h X Y kb pl tm Bc b base U) (hu : u < b) (hk : (kb u).1 = 1) (hx : x < X u) (G : yJ_G Bc kb pl b base c) (h : Bc u x → yJ_01 v) : yJ_G Bc kb pl b base (yE_u c (pl u + x) v) := by
  obtain ⟨H1, H2, H3, H4, H5, H6, H7⟩ := H
  refine ⟨fun j hj => ?_, fun w hw hkw j hj => ?_⟩
  · have hj2 := (H1 b (Nat.le_refl _)).2.1 j hj
    rw [show yE_u c (pl u + x) v (base + j) = c (base + j) from if_neg (by rcases H6 u hu hk with z | z <;> omega)]
    exact G.1 j hj
  · have hj2 := (H1 w (by omega)).2.1 j hj
    by_cases e : w = u
    · subst e
      by_cases z : j = x
      · subst z
        rw [show yE_u c (pl w + j) v (pl w + j) = v from if_pos rfl]; exact h hj
      · rw [show yE_u c (pl w + x) v (pl w + j) = c (pl w + j) from if_neg (by omega)]; exact G.2 w hw hkw j hj
    · rw [show yE_u c (pl u + x) v (pl w + j) = c (pl w + j) from if_neg (by
        rcases Nat.lt_or_gt_of_ne e with z | z
        · rcases H7 u hu hk w z hkw with q | q <;> omega
        · rcases H7 w hw hkw u z hk with q | q <;> omega)]
      exact G.2 w hw hkw j hj
/-- a FUNCTION runs -/
theorem yJ_16 {u : Nat} {s : yE} (H : yJ_h X Y kb pl tm Bc b base U) (hu : u < b) (hk : (kb u).1 = 1) (G : yJ_G Bc kb pl b base s.1) : yJ_G Bc kb pl b base (U u (pl u) s).1.1 := by
  obtain ⟨H1, H2, H3, H4, H5, H6, H7⟩ := H
  have g1 : yJ_G Bc kb pl u (pl u) s.1 := ⟨G.2 u hu hk, fun w hw hkw => G.2 w (by omega) hkw⟩
  have g2 := (H5 u (pl u) s hu (H7 u hu hk)).2 g1
  refine ⟨fun j hj => ?_, fun w hw hkw j hj => ?_⟩
  · have hj2 := (H1 b (Nat.le_refl _)).2.1 j hj
    rw [H2 u (pl u) s (base + j) hu (by rcases H6 u hu hk with z | z <;> omega) (fun w hw hkw => by rcases H6 w (by omega) hkw with z | z <;> omega)]
    exact G.1 j hj
  · have hj2 := (H1 w (by omega)).2.1 j hj
    rcases Nat.lt_trichotomy w u with z | z | z
    · exact g2.2 w z hkw j hj
    · subst z; exact g2.1 j hj
    · rw [H2 u (pl u) s (pl w + j) hu (by rcases H7 w hw hkw u z hk with q | q <;> omega) (fun w' hw' hkw' => by rcases H7 w hw hkw w' (by omega) hkw' with q | q <;> omega)]
      exact G.2 w hw hkw j hj
/-- a part runs -/
theorem yJ_15 {u x : Nat} {s : yE} (H : yJ_h X Y kb pl tm Bc b base U) (hu : u < b) (hx : x + X u ≤ X b) (hq : ∀ j : Nat, Bc (1000 + u) j → (Bc b (x + j) ↔ Bc u j)) (G : yJ_G Bc kb pl b base s.1) : yE_dj X kb pl u (base + x) ∧ yJ_G Bc kb pl b base (U u (base + x) s).1.1 := by
  obtain ⟨H1, H2, H3, H4, H5, H6, H7⟩ := H
  have hz := (H1 u (by omega)).2.2
  have d1 : yE_dj X kb pl u (base + x) := fun w hw hk => by
    rcases H6 w (by omega) hk with z | z
    · exact .inl (by omega)
    · exact .inr (by omega)
  have g1 : yJ_G Bc kb pl u (base + x) s.1 := by
    refine ⟨fun j hj => ?_, fun w hw hkw => G.2 w (by omega) hkw⟩
    have hj2 := (H1 u (by omega)).2.1 j hj
    have := G.1 (x + j) ((hq j ((hz j).mpr hj2)).mpr hj)
    rwa [← Nat.add_assoc] at this
  have g2 := (H5 u (base + x) s hu d1).2 g1
  refine ⟨d1, fun j hj => ?_, fun w hw hkw j hj => ?_⟩
  · have hj2 := (H1 b (Nat.le_refl _)).2.1 j hj
    by_cases z : x ≤ j ∧ j < x + X u
    · obtain ⟨t, rfl⟩ : ∃ t, j = x + t := ⟨j - x, by omega⟩
      have := g2.1 t ((hq t ((hz t).mpr (by omega))).mp hj)
      rwa [Nat.add_assoc] at this
    · rw [H2 u (base + x) s (base + j) hu (by omega) (fun w hw hkw => by rcases H6 w (by omega) hkw with q | q <;> omega)]
      exact G.1 j hj
  · have hj2 := (H1 w (by omega)).2.1 j hj
    by_cases z : w < u
    · exact g2.2 w z hkw j hj
    · rw [H2 u (base + x) s (pl w + j) hu (by rcases H6 w hw hkw with q | q <;> omega) (fun w' hw' hkw' => by rcases H7 w hw hkw w' (by omega) hkw' with q | q <;> omega)]
      exact G.2 w hw hkw j hj
/-- a standard block runs -/
theorem yJ_17 {B x : Nat} {c : Nat → Int32} (H : yJ_h X Y kb pl tm Bc b base U) (hB : B < 9) (hx : x + (zt_2.getD B 0).toNatClampNeg ≤ X b) (hq : ∀ j : Nat, j < (zt_2.getD B 0).toNatClampNeg → (Bc b (x + j) ↔ yq_sB B j)) (G : yJ_G Bc kb pl b base c) : yJ_G Bc kb pl b base (tm B (base + x) c) := by
  obtain ⟨H1, H2, H3, H4, H5, H6, H7⟩ := H
  refine ⟨fun j hj => ?_, fun w hw hkw j hj => ?_⟩
  · by_cases z : x ≤ j ∧ j < x + (zt_2.getD B 0).toNatClampNeg
    · obtain ⟨t, rfl⟩ : ∃ t, j = x + t := ⟨j - x, by omega⟩
      have := H4 B (base + x) c t hB (by omega) ((hq t (by omega)).mp hj) (by rw [Nat.add_assoc]; exact G.1 _ hj)
      rwa [Nat.add_assoc] at this
    · rw [H3 B (base + x) c (base + j) hB (by omega)]
      exact G.1 j hj
  · have hj2 := (H1 w (by omega)).2.1 j hj
    rw [H3 B (base + x) c (pl w + j) hB (by rcases H6 w hw hkw with q | q <;> omega)]
    exact G.2 w hw hkw j hj
/-- one instruction -/
theorem yJ_1 (H : yJ_h X Y kb pl tm Bc b base U) {i : yI} (W : yw_i X Y kb b lo i) {K : List Prop → Prop} {st : List Prop} (A : yo_w Bc b i K st) (s : yE) (G : yJ_G Bc kb pl b base s.1) (M : yJ_s st s.2.1) : yJ_G Bc kb pl b base (yE_1 pl tm U base i s).1.1 ∧ ((yE_1 pl tm U base i s).2 = 0 → ∃ st', K st' ∧ yJ_s st' (yE_1 pl tm U base i s).1.2.1) := by
  obtain ⟨c, S, n⟩ := s
  have G' : yJ_G Bc kb pl b base c := G
  have M' : yJ_s st S := M
  obtain ⟨H1, H2, H3, H4, H5, H6, H7⟩ := id H
  have hYX := (H1 b (Nat.le_refl _)).1
  rcases W with W | ⟨e, x, e1, W⟩ | ⟨e, x, s, e1, e2, W, Wq⟩ | ⟨e, u, x, e1, e2, W1, W2, W3, Wq⟩ | ⟨e, B', x, e1, e2, W1, W2, Wq⟩
  · rcases W with e | e | ⟨e, x, e1, W⟩ | ⟨e, x, s, e1, e2, W⟩ | ⟨e, e0, u, e1, W1, W2⟩ | ⟨e, u, x, e1, e2, W1, W2, W3⟩ | ⟨e, k, e1, W⟩ | ⟨e, k, e1, W⟩ | ⟨e, u, e1, W1, W2⟩
    · -- PUSH
      unfold yo_w at A; rw [if_pos e] at A
      unfold yE_1; rw [if_pos e]
      exact ⟨G', fun _ => ⟨_, A, fun z => z, M'⟩⟩
    · -- CHOOSE
      unfold yo_w at A
      unfold yE_1
      simp (config := { decide := true }) only [e, if_false, if_true] at A ⊢
      match st, S, A, M' with
      | q :: p :: r :: st', y :: x :: z :: S', A, M' =>
        refine ⟨G', fun _ => ⟨_, A, fun w => ?_, M'.2.2.2⟩⟩
        by_cases zz : z = 0
        · rw [if_pos zz]; exact M'.2.1 w.1
        · rw [if_neg zz]; exact M'.1 w.2
      | [], _, A, _ => exact A.elim
      | [_], _, A, _ => exact A.elim
      | [_, _], _, A, _ => exact A.elim
      | _ :: _ :: _ :: _, [], _, M' => exact M'.elim
      | _ :: _ :: _ :: _, [_], _, M' => exact M'.2.elim
      | _ :: _ :: _ :: _, [_, _], _, M' => exact M'.2.2.elim
    · -- LOAD
      unfold yo_w at A
      unfold yE_1
      simp (config := { decide := true }) only [e, if_false, if_true, e1, nI_clamp (show x < 2147483648 by omega)] at A ⊢
      exact ⟨G', fun _ => ⟨_, A, fun z => G'.1 x z, M'⟩⟩
    · -- TAKE
      unfold yo_w at A
      unfold yE_1
      simp (config := { decide := true }) only [e, if_false, if_true, e1, e2, nI_clamp (show x < 2147483648 by omega), nI_clamp (show s < 2147483648 by omega)] at A ⊢
      match st, S, A, M' with
      | q :: st', v :: S', A, M' =>
        show yJ_G Bc kb pl b base (if yE_bad i v then _ else _ : yE × Nat).1.1 ∧ ((if yE_bad i v then _ else _ : yE × Nat).2 = 0 → ∃ st', K st' ∧ yJ_s st' (if yE_bad i v then _ else _ : yE × Nat).1.2.1)
        by_cases z : yE_bad i v
        · rw [if_pos z]
          exact ⟨G', fun w => absurd w (show ¬ (4 : Nat) = 0 by decide)⟩
        · rw [if_neg z]
          have il := yE_ixl e2 (by omega) z
          refine ⟨G', fun _ => ⟨_, A, fun w => ?_, M'.2⟩⟩
          have := G'.1 (x + yE_ix i v) (w _ il)
          rwa [← Nat.add_assoc] at this
      | [], _, A, _ => exact A.elim
      | _ :: _, [], _, M' => exact M'.elim
    · -- READ
      unfold yo_w at A
      unfold yE_1
      simp (config := { decide := true }) only [e, if_false, if_true, e1, e0, nI_clamp (show u < 2147483648 by omega)] at A ⊢
      exact ⟨G', fun _ => ⟨_, A, fun z => G'.2 u W1 W2 _ z, M'⟩⟩
    · -- WRITE
      have xu := (H1 u (by omega)).1
      unfold yo_w at A
      unfold yE_1
      simp (config := { decide := true }) only [e, if_false, if_true, e1, e2, nI_clamp (show u < 2147483648 by omega), nI_clamp (show x < 2147483648 by omega)] at A ⊢
      match st, S, A, M' with
      | q :: st', v :: S', A, M' => exact ⟨yJ_wf H W1 W2 W3 G' (fun z => M'.1 (A.1 z)), fun _ => ⟨_, A.2, M'.2⟩⟩
      | [], _, A, _ => exact A.elim
      | _ :: _, [], _, M' => exact M'.elim
    · -- TWO
      unfold yo_w at A
      unfold yE_1
      simp (config := { decide := true }) only [e, if_false, if_true] at A ⊢
      match st, S, A, M' with
      | q :: p :: st', y :: x :: S', A, M' =>
        show yJ_G Bc kb pl b base (if f_Cd_isByZero i.2.1 y = 0 then _ else _ : yE × Nat).1.1 ∧ ((if f_Cd_isByZero i.2.1 y = 0 then _ else _ : yE × Nat).2 = 0 → ∃ st', K st' ∧ yJ_s st' (if f_Cd_isByZero i.2.1 y = 0 then _ else _ : yE × Nat).1.2.1)
        by_cases z : f_Cd_isByZero i.2.1 y = 0
        · rw [if_pos z]
          obtain ⟨v, ev⟩ := zv_two i.2.1 x y
          rw [ev]
          refine ⟨G', fun _ => ⟨_, A, fun w => ?_, M'.2.2⟩⟩
          rcases w with w | ⟨w1, w2, w3⟩
          · exact yk_c01 w ev
          · exact yk_b01 w1 (M'.2.1 w2) (M'.1 w3) ev
        · rw [if_neg z]
          exact ⟨G', fun w => absurd w (show ¬ (3 : Nat) = 0 by decide)⟩
      | [], _, A, _ => exact A.elim
      | [_], _, A, _ => exact A.elim
      | _ :: _ :: _, [], _, M' => exact M'.elim
      | _ :: _ :: _, [_], _, M' => exact M'.2.elim
    · -- ONE
      unfold yo_w at A
      unfold yE_1
      simp (config := { decide := true }) only [e, if_false, if_true] at A ⊢
      match st, S, A, M' with
      | q :: st', x :: S', A, M' => exact ⟨G', fun _ => ⟨_, A, fun w => yk_o01 w, M'.2⟩⟩
      | [], _, A, _ => exact A.elim
      | _ :: _, [], _, M' => exact M'.elim
    · -- CALL
      unfold yo_w at A
      unfold yE_1
      simp (config := { decide := true }) only [e, if_false, if_true, e1, nI_clamp (show u < 2147483648 by omega)] at A ⊢
      refine ⟨yJ_16 (s := (c, S, n + 1)) H W1 W2 G', fun z => ⟨st, A, ?_⟩⟩
      rw [(H5 u (pl u) (c, S, n + 1) W1 (H7 u W1 W2)).1 z]
      exact M'
  · -- STORE
    unfold yo_w at A
    unfold yE_1
    have xb : x < X b := by
      rcases W with z | z
      · omega
      · omega
    simp (config := { decide := true }) only [e, if_false, if_true, e1, nI_clamp (show x < 2147483648 by omega)] at A ⊢
    match st, S, A, M' with
    | q :: st', v :: S', A, M' => exact ⟨yJ_w H xb G' (fun z => M'.1 (A.1 z)), fun _ => ⟨_, A.2, M'.2⟩⟩
    | [], _, A, _ => exact A.elim
    | _ :: _, [], _, M' => exact M'.elim
  · -- PUT
    unfold yo_w at A
    unfold yE_1
    simp (config := { decide := true }) only [e, if_false, if_true, e1, e2, nI_clamp (show x < 2147483648 by omega), nI_clamp (show s < 2147483648 by omega)] at A ⊢
    match st, S, A, M' with
    | q :: p :: st', v :: w :: S', A, M' =>
      show yJ_G Bc kb pl b base (if yE_bad i w then _ else _ : yE × Nat).1.1 ∧ ((if yE_bad i w then _ else _ : yE × Nat).2 = 0 → ∃ st', K st' ∧ yJ_s st' (if yE_bad i w then _ else _ : yE × Nat).1.2.1)
      by_cases z : yE_bad i w
      · rw [if_pos z]
        exact ⟨G', fun w => absurd w (show ¬ (4 : Nat) = 0 by decide)⟩
      · rw [if_neg z]
        have il := yE_ixl e2 (by omega) z
        rw [Nat.add_assoc]
        exact ⟨yJ_w H (by omega) G' (fun h => M'.1 (A.1 _ il h)), fun _ => ⟨_, A.2, M'.2.2⟩⟩
    | [], _, A, _ => exact A.elim
    | [_], _, A, _ => exact A.elim
    | _ :: _ :: _, [], _, M' => exact M'.elim
    | _ :: _ :: _, [_], _, M' => exact M'.2.elim
  · -- ENTER
    have xu := (H1 u (by omega)).1
    unfold yo_w at A
    unfold yE_1
    simp (config := { decide := true }) only [e, if_false, if_true, e1, e2, nI_clamp (show u < 2147483648 by omega), nI_clamp (show x < 2147483648 by omega)] at A ⊢
    obtain ⟨d1, g1⟩ := yJ_15 (s := (c, S, n + 1)) H W1 (by omega) A.1 G'
    refine ⟨g1, fun z => ⟨st, A.2, ?_⟩⟩
    rw [(H5 u (base + x) (c, S, n + 1) W1 d1).1 z]
    exact M'
  · -- BLOCK
    unfold yo_w at A
    unfold yE_1
    simp (config := { decide := true }) only [e, if_false, if_true, e1, e2, nI_clamp (show B' < 2147483648 by omega), nI_clamp (show x < 2147483648 by omega)] at A ⊢
    exact ⟨yJ_17 H W1 (by omega) A.1 G', fun _ => ⟨st, A.2, M'⟩⟩
theorem yJ_L (H : yJ_h X Y kb pl tm Bc b base U) : ∀ (L : List yI) (s : yE) (K : List Prop → Prop) (st : List Prop), (∀ i, i ∈ L → yw_i X Y kb b lo i) → yo_W Bc b L K st → yJ_G Bc kb pl b base s.1 → yJ_s st s.2.1 → yJ_G Bc kb pl b base (yE_L pl tm U base L s).1.1 := by
  intro L
  induction L with
  | nil => intro s K st _ _ G _; exact G
  | cons i L ih =>
    intro s K st W A G M
    obtain ⟨g1, m1⟩ := yJ_1 H (W i (List.mem_cons_self ..)) (K := yo_W Bc b L K) A s G M
    rw [yE_L]
    split
    · rename_i z
      obtain ⟨st', a1, a2⟩ := m1 z
      exact ih _ K st' (fun i hi => W i (List.mem_cons_of_mem _ hi)) a1 g1 a2
    · exact g1
theorem yJ_l {body : yE → yE × Nat} {cc : Nat} (H : yJ_h X Y kb pl tm Bc b base U) (hc : cc < X b) (nc : ¬ Bc b cc) (Hb : ∀ s, yJ_G Bc kb pl b base s.1 → yJ_G Bc kb pl b base (body s).1.1) : ∀ (f : Nat) (s : yE), yJ_G Bc kb pl b base s.1 → yJ_G Bc kb pl b base (yE_l body (base + cc) f s).1.1 := by
  intro f
  induction f with
  | zero => intro s G; exact G
  | succ f ih =>
    intro s G
    rw [yE_l]
    have gb := Hb (yE_u s.1 (base + cc) (s.1 (base + cc) - 1), s.2.1, s.2.2 + 1) (yJ_w H hc G (fun z => absurd z nc))
    split
    · exact G
    · split
      · exact ih _ gb
      · split <;> exact gb
theorem yJ_T (H : yJ_h X Y kb pl tm Bc b base U) : ∀ (T : ys) (lo : Nat) (s : yE), yz_W X Y kb b T lo → yz_B Bc b T → yJ_G Bc kb pl b base s.1 → yJ_G Bc kb pl b base (yE_T pl tm U base T s).1.1 := by
  intro T
  induction T with
  | leaf => intro lo s _ _ G; exact G
  | inner k p o l r ihl ihr =>
    intro lo s ⟨W1, W2⟩ ⟨B1, B2⟩ G
    rw [yE_T]
    by_cases k0 : k = 0
    · rw [if_pos k0] at W1 B1 ⊢
      have g1 := yJ_L H p.1 s (fun _ => True) [] W1.2 (B1 _ _ trivial) G trivial
      split
      · exact ihr lo _ W2 B2 g1
      · exact g1
    rw [if_neg k0] at W1 B1 ⊢
    by_cases k2 : k = 2
    · rw [if_pos k2] at W1 B1
      rw [if_neg (show ¬ k = 1 by omega), if_pos k2]
      obtain ⟨cc, N, w1, w2, w3, w4, w5, w6, w7⟩ := W1
      have xb := (H.1 b (Nat.le_refl _)).1.2
      have ecl : p.2.1.toNatClampNeg = cc := by rw [w1, nI_clamp (show cc < 2147483648 by omega)]
      rw [ecl] at B1 ⊢
      have g1 := yJ_l (body := yE_T pl tm U base l) (cc := cc) H w4 B1.1 (fun s g => ihl (cc + 1) s w7 B1.2 g) (p.2.2.toNatClampNeg + 1) (yE_u s.1 (base + cc) p.2.2, s.2.1, s.2.2 + 1) (yJ_w H w4 G (fun z => absurd z B1.1))
      split
      · exact ihr lo _ W2 B2 g1
      · exact g1
    rw [if_neg k2] at W1 B1
    by_cases k5 : k = 5
    · rw [if_pos k5] at W1 B1
      rw [if_neg (show ¬ k = 1 by omega), if_neg k2, if_neg (show ¬ k = 3 by omega), if_neg (show ¬ k = 4 by omega), if_pos k5]
      have g1 := yJ_L (lo := lo) H p.1 s (fun _ => True) [] (fun i hi => .inl (W1.2.1 i hi)) (B1.1 _ _ (fun _ _ => trivial)) G trivial
      generalize yE_L pl tm U base p.1 s = q at g1
      split
      · split
        · rename_i y S _
          have gl := ihl lo (q.1.1, S, q.1.2.2 + 1) W1.2.2.2 B1.2 g1
          split
          · exact ihr lo _ W2 B2 g1
          · split
            · split
              · exact gl
              · exact gl
            · exact gl
        · exact G
      · exact g1
    rw [if_neg k5] at W1 B1
    by_cases k1 : k = 1
    · rw [if_pos k1] at W1 ⊢
      have g1 := ihl lo s W1.2 B1 G
      split
      · exact ihr lo _ W2 B2 g1
      · exact g1
    rw [if_neg k1] at W1 ⊢
    rw [if_neg k2]
    by_cases k3 : k = 3
    · rw [if_pos k3]; exact G
    rw [if_neg k3]
    by_cases k4 : k = 4
    · rw [if_pos k4]; exact G
    rw [if_neg k4, if_neg k5]
    have g1 := ihl lo s W1.2 B1 G
    split
    · exact ihr lo _ W2 B2 g1
    · exact g1
theorem yJ_Us {T : Nat → ys} {nb : Nat} (hn : nb ≤ 16) (hq : yJ_q X Y Bc (nb - 1)) (ht : yE_ht tm) (hm : yJ_t tm) (W : ∀ u, u < nb → yz_st (T u) ∧ (∀ n, yz_x (T u) n = []) ∧ yz_W X Y kb u (T u) (Y u)) (hB : ∀ u, u < nb → yz_B Bc u (T u)) (hP : ∀ u, u < nb → (kb u).1 = 1 → yE_dj X kb pl u (pl u)) : ∀ b, b ≤ nb → yJ_U X kb pl Bc b (yE_U T pl tm b) := by
  have hX : ∀ u, u < nb → Y u ≤ X u ∧ X u ≤ 100000 := fun u hu => ⟨(hq u (by omega)).1.1, (hq u (by omega)).1.2.1⟩
  have hw : ∀ b, b ≤ nb → yE_hU X kb pl b (yE_U T pl tm b) := yE_Uw hn hX ht (fun u hu => (W u hu).2.2)
  have hs := yG_Us hn hX ht W hP
  intro b
  induction b with
  | zero => intro _ u base s hu; omega
  | succ b ih =>
    intro hb u base s hu dj
    refine ⟨fun z => ?_, fun G => ?_⟩
    · obtain ⟨_, r2, _, _⟩ := hs (b + 1) hb u base s hu dj
      exact r2 z
    · rw [yE_U]
      by_cases z : u = b
      · rw [if_pos z]
        subst z
        exact yJ_T ⟨fun w hw => hq w (by omega), hw u (by omega), ht, hm, ih (by omega), dj, fun w hw hk => hP w (by omega) hk⟩ (T u) (Y u) s (W u (by omega)).2.2 (hB u (by omega)) G
      · rw [if_neg z]
        exact (ih (by omega) u base s (by omega) dj).2 G
end YJG
