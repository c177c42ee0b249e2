/-! The judge: a rung's form (38). -/
def yl_top : zt_T → Prop
  | .leaf => True
  | .inner kd _ _ _ r => (kd = 25 ∨ kd = 26 ∨ kd = 27 ∨ kd = 28 ∨ kd = 29) ∧ yl_top r
section YL
variable {F : Nat → Nat} {bb : Nat} {h g : zs_H} {P Q : Nat → Prop} {sz i k : Nat}
/-- a plain node -/
theorem yl_pl {kd i k n : Nat} {v xl : Int32} (hk : kd ∈ [22, 23, 24, 25, 26, 27, 28, 29]) (N : yb_N F bb h g P Q kd v i k xl n) : (h.2.1 13) i = nI kd ∧ (h.2.1 17) i = xl ∧ (h.2.1 16) i = v := by
  have key : ∀ z ∈ [22, 23, 24, 25, 26, 27, 28, 29], ¬ z = 38 ∧ ¬ z = 13 ∧ ¬ z = 14 ∧ ¬ z = 19 ∧ ¬ z = 6 ∧ ¬ (z = 30 ∨ z = 31) ∧ ¬ z = 32 ∧ ¬ z = 33 ∧ ¬ z = 34 ∧ ¬ z = 35 ∧ ¬ z = 36 := by decide
  obtain ⟨k1, k2, k3, k4, k5, k6, k7, k8, k9, k10, k11⟩ := key kd hk
  rcases N with N | ⟨t, t1, t2, t3, N⟩
  · rcases N with e | ⟨_, e⟩ | ⟨e, _⟩ | ⟨e, _⟩ | ⟨e, _⟩
    · exact absurd e k1
    · exact ⟨e.1, e.2.1, e.2.2.1⟩
    · exact absurd e k2
    · exact absurd e k3
    · exact absurd e k4
  · rcases N with ⟨e, _⟩ | ⟨e, _⟩ | ⟨e, _⟩ | ⟨e, _⟩ | ⟨e, _⟩ | ⟨e, _⟩ | ⟨e, _⟩ | ⟨e, _⟩
    · exact absurd e k5
    · exact absurd e k6
    · exact absurd e k7
    · exact absurd e k8
    · exact absurd e k9
    · exact absurd e k9
    · exact absurd e k10
    · exact absurd e k11
theorem yl_cC (hsz : (h.1 12 6) = nI sz) (hs2 : sz < 100000) : ∀ (t : zt_T) (x x' : Int32) (n turn N : Nat), yl_top t → yb_F F bb h g P Q t x x' (-1) (-1) → turn + zt_ln t ≤ sz → zt_ln t < N → f_Jd_cellsIn_L15 h N (nI n) x (nI turn) = some (nI (n + yl_n t)) := by
  have uL : ∀ (N : Nat) (x2 x4 x : Int32), f_Jd_cellsIn_L15 h (N + 1) x2 x x4 = f_Jd_cellsIn_15 h (f_Jd_cellsIn_L15 h N) x2 x x4 := fun _ _ _ _ => rfl
  intro t
  induction t with
  | leaf =>
    intro x x' n turn N _ A h1 h2
    obtain ⟨N, rfl⟩ : ∃ z, N = z + 1 := ⟨N - 1, by omega⟩
    rw [A.1, uL]
    unfold f_Jd_cellsIn_15
    rw [if_pos rfl, ite_self]
    rfl
  | inner kd kv o l r _ ihr =>
    intro x x' n turn N ⟨hk, hr⟩ ⟨a, b, xl, ⟨a1, a2, a3⟩, _, Nn, _, B⟩ h1 h2
    have hl : zt_ln (.inner kd kv o l r) = 1 + zt_ln r := rfl
    obtain ⟨N, rfl⟩ : ∃ z, N = z + 1 := ⟨N - 1, by omega⟩
    have ek := (yl_pl (by rcases hk with e | e | e | e | e <;> rw [e] <;> decide) Nn).1
    have e29 : (nI kd = 29) ↔ kd = 29 := zc_eq (k := 29) (by decide) (by omega)
    have e52 : ∀ z : Nat, f_Jd_cellsIn_52 h (f_Jd_cellsIn_L15 h N) (nI a) (nI turn) (nI z) (nI n) = some (nI (n + z + yl_n r)) := by
      intro z
      unfold f_Jd_cellsIn_52
      rw [if_pos (zi_in (by omega) a2), nI_clamp (show a < 2147483648 by omega), nI_1, show nI n + nI z = nI (n + z) from (Int32.ofNat_add n z).symm]
      exact ihr _ _ (n + z) (turn + 1) N hr B (by omega) (by omega)
    rw [uL, a3]
    unfold f_Jd_cellsIn_15
    rw [hsz, if_neg (mt (nI_leI (by omega) (by omega)).mp (by omega)), if_neg (zc_m1 (show a < 2147483648 by omega)), if_pos (zi_in (by omega) a2)]
    simp only [nI_clamp (show a < 2147483648 by omega), ek, e29]
    show (if kd = 29 then _ else _) = some (nI (n + ((if kd = 29 then 0 else 1) + yl_n r)))
    by_cases z : kd = 29
    · rw [if_pos z, if_pos z, show n + (0 + yl_n r) = n + 0 + yl_n r by omega]; exact e52 0
    · rw [if_neg z, if_neg z, show n + (1 + yl_n r) = n + 1 + yl_n r by omega]; exact e52 1
theorem yl_cM : ∀ (t : zt_T) (x x' : Int32) (n N : Nat), yl_top t → yb_F F bb h g P Q t x x' (-1) (-1) → zt_ln t < N → f_Mo_cellsIn_L9 g N (nI n) x' = some (nI (n + yl_n t)) := by
  have uL : ∀ (N : Nat) (x2 x : Int32), f_Mo_cellsIn_L9 g (N + 1) x2 x = f_Mo_cellsIn_9 g (f_Mo_cellsIn_L9 g N) x2 x := fun _ _ _ => rfl
  intro t
  induction t with
  | leaf =>
    intro x x' n N _ A h2
    obtain ⟨N, rfl⟩ : ∃ z, N = z + 1 := ⟨N - 1, by omega⟩
    rw [A.2, uL]
    unfold f_Mo_cellsIn_9
    rw [if_pos (by decide)]
    rfl
  | inner kd kv o l r _ ihr =>
    intro x x' n N ⟨hk, hr⟩ ⟨a, b, xl, _, ⟨b1, b2, b3, b4⟩, Nn, _, B⟩ h2
    have hl : zt_ln (.inner kd kv o l r) = 1 + zt_ln r := rfl
    obtain ⟨N, rfl⟩ : ∃ z, N = z + 1 := ⟨N - 1, by omega⟩
    have ekm : zt_km kd = kd := by rcases hk with e | e | e | e | e <;> rw [e] <;> rfl
    rw [ekm] at b4
    have e29 : (nI kd = 29) ↔ kd = 29 := zc_eq (k := 29) (by decide) (by omega)
    have e30 : ∀ z : Nat, f_Mo_cellsIn_30 g (f_Mo_cellsIn_L9 g N) (nI b) (nI z) (nI n) = some (nI (n + z + yl_n r)) := by
      intro z
      unfold f_Mo_cellsIn_30
      rw [if_pos (zi_in (by omega) b2), nI_clamp (show b < 2147483648 by omega), show nI n + nI z = nI (n + z) from (Int32.ofNat_add n z).symm]
      exact ihr _ _ (n + z) N hr B (by omega)
    rw [uL, b3]
    unfold f_Mo_cellsIn_9
    rw [if_neg (zv_neg (show b < 2147483648 by omega)).2, if_pos (zi_in (by omega) b2)]
    simp only [nI_clamp (show b < 2147483648 by omega), b4, e29]
    show (if kd = 29 then _ else _) = some (nI (n + ((if kd = 29 then 0 else 1) + yl_n r)))
    by_cases z : kd = 29
    · rw [if_pos z, if_pos z, show n + (0 + yl_n r) = n + 0 + yl_n r by omega]; exact e30 0
    · rw [if_neg z, if_neg z, show n + (1 + yl_n r) = n + 1 + yl_n r by omega]; exact e30 1
/-- the rows of a rung: how many cells each has -/
def yl_C (h : zs_H) : List Nat → Int32 → Prop
  | [], x => x = -1
  | n :: L, x => ∃ a, a < 32784 ∧ x = nI a ∧ n < 100000 ∧ f_Jd_cellsIn h (nI a) = some (nI n) ∧ yl_C h L ((h.2.1 18) a)
def yl_M (g : zs_H) : List Nat → Int32 → Prop
  | [], x => x = -1
  | n :: L, x => ∃ b, b < 33500 ∧ x = nI b ∧ n < 100000 ∧ f_Mo_cellsIn g (nI b) = some (nI n) ∧ yl_M g L ((g.2.1 78) b)
theorem yl_fC {h' : zs_H} (e1 : h'.2 = h.2) (e2 : (h'.1 12 6) = (h.1 12 6)) (x : Int32) : f_Jd_cellsIn h' x = f_Jd_cellsIn h x := by
  have e15 : f_Jd_cellsIn_15 h' = f_Jd_cellsIn_15 h := by
    funext k15 x2 x3 x4
    unfold f_Jd_cellsIn_15 f_Jd_cellsIn_52
    rw [e1, e2]
  have eL : f_Jd_cellsIn_L15 h' = f_Jd_cellsIn_L15 h := by
    unfold f_Jd_cellsIn_L15
    rw [e15]
  unfold f_Jd_cellsIn
  rw [eL, e1]
def yl_b (n0 : Nat) (M : List Nat) : Bool := M.any fun n => decide (12 < n) || decide (¬ n = n0)
theorem yl_38C (hsz : (h.1 12 6) = nI sz) (hs2 : sz < 100000) (hi : i < 32784) {n0 : Nat} : ∀ (M : List Nat) (x w : Int32) (r turn N : Nat) (q : Bool), (∀ n L, M = n :: L → (w = -1 ∧ n = n0) ∨ (w = nI n0 ∧ n0 < 100000)) → yl_C h M x → turn + M.length ≤ sz → M.length < N → r + M.length < 100000 → f_Jd_judgeRung_L18 N (yc_R q 38 i h) (nI i) (nI r) w x (nI turn) = some (yc_R (q || yl_b n0 M || decide (¬ M = [] ∧ 12 < r + M.length)) 38 i h) := by
  have uL : ∀ (N : Nat) (hh : zs_H) (x1 x2 x3 x x5 : Int32), f_Jd_judgeRung_L18 (N + 1) hh x1 x2 x3 x x5 = f_Jd_judgeRung_18 (f_Jd_judgeRung_L18 N) hh x1 x2 x3 x x5 := fun _ _ _ _ _ _ _ => rfl
  have R1 : ∀ q : Bool, ((yc_R q 38 i h).1 12 6) = nI sz := fun q => (yc_R2.2 _ _ (by decide) (by decide)).trans hsz
  intro M
  induction M with
  | nil =>
    intro x w r turn N q _ hC h1 h2 h3
    obtain ⟨N, rfl⟩ : ∃ z, N = z + 1 := ⟨N - 1, by omega⟩
    rw [show x = -1 from hC, uL]
    unfold f_Jd_judgeRung_18
    rw [if_pos rfl, ite_self, show (q || yl_b n0 [] || decide (¬ ([] : List Nat) = [] ∧ 12 < r + [].length)) = q from by rw [show yl_b n0 [] = false from rfl, decide_eq_false (fun z => z.1 rfl), Bool.or_false, Bool.or_false]]
  | cons n M ih =>
    intro x w r turn N q hw hC h1 h2 h3
    have hl : (n :: M).length = M.length + 1 := rfl
    obtain ⟨N, rfl⟩ : ∃ z, N = z + 1 := ⟨N - 1, by omega⟩
    obtain ⟨a, a1, a2, a3, a4, a5⟩ := hC
    have cI : f_Jd_cellsIn (yc_R q 38 i h) (nI a) = some (nI n) := by rw [yl_fC yc_R2.1 ((R1 q).trans hsz.symm)]; exact a4
    have w0 : ∃ w', w' = nI n0 ∧ n0 < 100000 ∧ f_Jd_judgeRung_L18 (N + 1) (yc_R q 38 i h) (nI i) (nI r) w x (nI turn) = f_Jd_judgeRung_55 (f_Jd_judgeRung_L18 N) (yc_R q 38 i h) (nI i) (nI r) (nI a) (nI turn) (nI n) w' := by
      rw [uL]
      unfold f_Jd_judgeRung_18
      rw [R1 q, if_neg (mt (nI_leI (by omega) (by omega)).mp (by omega)), a2, if_neg (zc_m1 (show a < 2147483648 by omega)), cI, Option.bind_some]
      rcases hw n M rfl with ⟨z1, z2⟩ | ⟨z1, z2⟩
      · rw [if_pos z1, z2]; exact ⟨_, rfl, by omega, rfl⟩
      · rw [z1, if_neg (zc_m1 (show n0 < 2147483648 by omega))]; exact ⟨_, rfl, z2, rfl⟩
    obtain ⟨w', w1, w2, w3⟩ := w0
    subst w1
    have e84 : ∀ (y : Int32) (b : Bool), y = (if b = true then 1 else 0) → f_Jd_judgeRung_84 (f_Jd_judgeRung_L18 N) (yc_R q 38 i h) (nI i) (nI (r + 1)) (nI n0) (nI a) (nI turn) y = some (yc_R ((q || b) || yl_b n0 M || decide (¬ M = [] ∧ 12 < (r + 1) + M.length)) 38 i h) := by
      intro y b hy
      unfold f_Jd_judgeRung_84
      rw [show (38 : Int32) = nI 38 from rfl, yc_Rf hi hy, Option.bind_some, if_pos (zi_in (by omega) a1), nI_clamp (show a < 2147483648 by omega), yc_RR (by decide) (by decide), yc_R2.1, nI_1]
      exact ih _ _ (r + 1) (turn + 1) N (q || b) (fun _ _ _ => .inr ⟨rfl, w2⟩) a5 (by omega) (by omega) (by omega)
    rw [w3]
    unfold f_Jd_judgeRung_55 f_Jd_judgeRung_79
    rw [nI_1]
    have t1 : ((12 : Int32) < nI (r + 1)) ↔ 12 < r + 1 := zc_lt (k := 12) (by decide) (by omega)
    have t2 : ((12 : Int32) < nI n) ↔ 12 < n := zc_lt (k := 12) (by decide) (by omega)
    have t3 : (nI n = nI n0) ↔ n = n0 := nI_eq (by omega) (by omega)
    have main : ∀ b : Bool, (b = true ↔ (12 < r + 1 ∨ 12 < n ∨ ¬ n = n0)) → (((q || b) || yl_b n0 M || decide (¬ M = [] ∧ 12 < (r + 1) + M.length)) = (q || yl_b n0 (n :: M) || decide (¬ (n :: M) = [] ∧ 12 < r + (n :: M).length))) := by
      intro b hb
      have e1 : yl_b n0 (n :: M) = ((decide (12 < n) || decide (¬ n = n0)) || yl_b n0 M) := rfl
      rw [e1, hl]
      have e2 : decide (¬ (n :: M) = [] ∧ 12 < r + (M.length + 1)) = decide (12 < r + (M.length + 1)) := by
        by_cases z : 12 < r + (M.length + 1)
        · rw [decide_eq_true z, decide_eq_true ⟨List.cons_ne_nil _ _, z⟩]
        · rw [decide_eq_false z, decide_eq_false (fun u => z u.2)]
      rw [e2]
      apply Bool.eq_iff_iff.mpr
      simp only [Bool.or_eq_true, decide_eq_true_eq, hb]
      constructor
      · rintro (((z | z | z | z) | z) | z)
        · exact .inl (.inl z)
        · exact .inr (by omega)
        · exact .inl (.inr (.inl (.inl z)))
        · exact .inl (.inr (.inl (.inr z)))
        · exact .inl (.inr (.inr z))
        · exact .inr (by omega)
      · rintro ((z | (z | z) | z) | z)
        · exact .inl (.inl (.inl z))
        · exact .inl (.inl (.inr (.inr (.inl z))))
        · exact .inl (.inl (.inr (.inr (.inr z))))
        · exact .inl (.inr z)
        · by_cases zM : M = []
          · subst zM
            exact .inl (.inl (.inr (.inl (by simpa using z))))
          · exact .inr ⟨zM, by omega⟩
    by_cases z1 : 12 < r + 1
    · rw [if_pos (t1.mpr z1), e84 1 true rfl, main true ⟨fun _ => .inl z1, fun _ => rfl⟩]
    · rw [if_neg (mt t1.mp z1)]
      by_cases z2 : 12 < n
      · rw [if_pos (t2.mpr z2), e84 1 true rfl, main true ⟨fun _ => .inr (.inl z2), fun _ => rfl⟩]
      · rw [if_neg (mt t2.mp z2)]
        by_cases z3 : n = n0
        · rw [if_pos (t3.mpr z3), e84 0 false rfl, main false ⟨fun z => absurd z (by decide), fun z => by omega⟩]
        · rw [if_neg (mt t3.mp z3), e84 1 true rfl, main true ⟨fun _ => .inr (.inr z3), fun _ => rfl⟩]
theorem yl_38M {n0 : Nat} (hk : k < 33500) (hn0 : n0 < 100000) (e0 : f_Mo_cellsIn g ((g.2.1 76) k) = some (nI n0)) : ∀ (M : List Nat) (x : Int32) (r N : Nat) (q : Bool), yl_M g M x → M.length < N → r + M.length < 100000 → f_Mo_lookAtRungs_L60 N g (nI k) (nI r) (if q = true then 1 else 0) x = f_Mo_rule g (if (q || yl_b n0 M || decide (12 < r + M.length)) = true then 1 else 0) 38 (nI k) := by
  have uL : ∀ (N : Nat) (x1 x2 x3 x : Int32), f_Mo_lookAtRungs_L60 (N + 1) g x1 x2 x3 x = f_Mo_lookAtRungs_60 (f_Mo_lookAtRungs_L60 N) g x1 x2 x3 x := fun _ _ _ _ _ => rfl
  intro M
  induction M with
  | nil =>
    intro x r N q hM h2 h3
    obtain ⟨N, rfl⟩ : ∃ z, N = z + 1 := ⟨N - 1, by omega⟩
    rw [show x = -1 from hM, uL]
    unfold f_Mo_lookAtRungs_60 f_Mo_lookAtRungs_131 f_Mo_lookAtRungs_136
    rw [if_pos (by decide), Option.bind_fun_some, Option.bind_fun_some]
    have t1 : (nI r ≤ (12 : Int32)) ↔ r ≤ 12 := zc_el (k := 12) (by decide) (by have : ([] : List Nat).length = 0 := rfl; omega)
    cases q with
    | true => rw [if_neg (by decide)]; rfl
    | false =>
      rw [if_pos (show (if false = true then (1 : Int32) else 0) = 0 from rfl)]
      have hr : r + ([] : List Nat).length = r := rfl
      rw [hr, show yl_b n0 [] = false from rfl, Bool.false_or, Bool.false_or]
      by_cases z : r ≤ 12
      · rw [if_pos (t1.mpr z), decide_eq_false (by omega)]; rfl
      · rw [if_neg (mt t1.mp z), decide_eq_true (by omega)]; rfl
  | cons n M ih =>
    intro x r N q hM h2 h3
    have hl : (n :: M).length = M.length + 1 := rfl
    obtain ⟨N, rfl⟩ : ∃ z, N = z + 1 := ⟨N - 1, by omega⟩
    obtain ⟨b, b1, b2, b3, b4, b5⟩ := hM
    have e107 : ∀ (c : Bool), f_Mo_lookAtRungs_107 (f_Mo_lookAtRungs_L60 N) g (nI k) (nI (r + 1)) (nI b) (if c = true then 1 else 0) = f_Mo_rule g (if (c || yl_b n0 M || decide (12 < r + 1 + M.length)) = true then 1 else 0) 38 (nI k) := by
      intro c
      unfold f_Mo_lookAtRungs_107
      rw [if_pos (zi_in (by omega) b1), nI_clamp (show b < 2147483648 by omega)]
      exact ih _ (r + 1) N c b5 (by omega) (by omega)
    have e1 : yl_b n0 (n :: M) = ((decide (12 < n) || decide (¬ n = n0)) || yl_b n0 M) := rfl
    rw [uL, b2, hl, e1, show r + (M.length + 1) = r + 1 + M.length by omega]
    unfold f_Mo_lookAtRungs_60 f_Mo_lookAtRungs_102
    rw [if_neg (zv_neg (show b < 2147483648 by omega)).2, nI_1, b4, Option.bind_some, Option.bind_some, if_pos (zi_in (by omega) hk), nI_clamp (show k < 2147483648 by omega), e0, Option.bind_some]
    have t2 : ((12 : Int32) < nI n) ↔ 12 < n := zc_lt (k := 12) (by decide) (by omega)
    have t3 : (nI n = nI n0) ↔ n = n0 := nI_eq (by omega) (by omega)
    have a1 := e107 true
    have a0 := e107 false
    rw [if_pos rfl] at a1
    rw [if_neg (by decide)] at a0
    cases q with
    | true => rw [if_neg (by decide), a1]; simp only [Bool.true_or]
    | false =>
      rw [if_pos (show (if false = true then (1 : Int32) else 0) = 0 from rfl)]
      by_cases z2 : 12 < n
      · rw [if_pos (t2.mpr z2), a1, decide_eq_true z2]; simp only [Bool.true_or, Bool.false_or]
      · rw [if_neg (mt t2.mp z2), decide_eq_false z2]
        by_cases z3 : n = n0
        · rw [if_pos (t3.mpr z3), a0, decide_eq_false (show ¬ ¬ n = n0 from fun q => q z3)]; simp only [Bool.false_or]
        · rw [if_neg (mt t3.mp z3), a1, decide_eq_true z3]; simp only [Bool.true_or, Bool.false_or]
end YL
