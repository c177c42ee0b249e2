/-! The coder: constants. The model finds them when it codes, the class has found them before. -/
/-- the value of a node, on the way up to n -/
def yk_v (g : zs_H) (Q : Nat → Prop) (dl k : Nat) (v : Int32) : Prop := ∀ D n N, 2 * dl + 1 ≤ D → n < 33500 → ¬ Q n → dl < N → ∃ N2, zF ≤ N2 + dl ∧ f_Mo_valueOf_L2 (f_Mo_valueAlone D) (f_Mo_valueOf D) g N (nI n) (nI k) = f_Mo_valueOf_L29 (f_Mo_valueOf D) g N2 (nI n) (nI k) v
def yk_k (g : zs_H) (dl k : Nat) (c : Int32) : Prop := ∀ D N, dl ≤ D → dl < N → f_Mo_isConstant_L2 (f_Mo_isConstant D) g N (nI k) = some c
def yk_n (h g : zs_H) (Q : Nat → Prop) (dl i k : Nat) : Prop := (zv_kc h i ∧ yk_k g dl k 1 ∧ yk_v g Q dl k ((h.2.1 16) i)) ∨ (¬ zv_kc h i ∧ yk_k g dl k 0)
/-- all nodes of a forest -/
def yk_T (h g : zs_H) : zt_T → (Nat → Prop) → Int32 → Int32 → Prop
  | .leaf, _, x, x' => x = -1 ∧ x' = -1
  | .inner _ _ _ l r, Q, x, x' => ∃ (i k : Nat) (Q1 Q2 : Nat → Prop), (i < 32784 ∧ x = nI i) ∧ (Q k ∧ k < 33500 ∧ x' = nI k) ∧ (∀ j, Q1 j → Q j ∧ ¬ j = k) ∧ (∀ j, Q2 j → Q j) ∧ yk_n h g Q1 (zg_d l) i k ∧ yk_T h g r Q2 ((h.2.1 18) i) ((g.2.1 78) k)
section YKC
variable {g h : zs_H} {Q Q1 : Nat → Prop} {dl k : Nat} {v c : Int32}
theorem yk_uc {D N : Nat} {x : Int32} : f_Mo_isConstant_L2 (f_Mo_isConstant D) g (N + 1) x = f_Mo_isConstant_2 (f_Mo_isConstant D) g (f_Mo_isConstant_L2 (f_Mo_isConstant D) g N) x := rfl
theorem yk_ul {D N : Nat} {x : Int32} : f_Mo_isConstant_L133 (f_Mo_isConstant D) g (N + 1) x = f_Mo_isConstant_133 (f_Mo_isConstant D) g (f_Mo_isConstant_L133 (f_Mo_isConstant D) g N) x := rfl
theorem yk_u2 {D N : Nat} {x y : Int32} : f_Mo_valueOf_L2 (f_Mo_valueAlone D) (f_Mo_valueOf D) g (N + 1) x y = f_Mo_valueOf_2 (f_Mo_valueAlone D) (f_Mo_valueOf D) g (f_Mo_valueOf_L2 (f_Mo_valueAlone D) (f_Mo_valueOf D) g N) x y := rfl
theorem yk_u29 {D N : Nat} {x y z : Int32} : f_Mo_valueOf_L29 (f_Mo_valueOf D) g (N + 1) x y z = f_Mo_valueOf_29 (f_Mo_valueOf D) g (f_Mo_valueOf_L29 (f_Mo_valueOf D) g N) x y z := rfl
theorem yk_ic (D : Nat) : f_Mo_isConstant (D + 1) = g_Mo_isConstant (f_Mo_isConstant D) := by
  unfold f_Mo_isConstant zy_Mo_isConstant
  rw [zd_s]
theorem yk_k1 (hd : dl < 100000) (H : yk_k g dl k c) {D : Nat} (hD : dl < D) : f_Mo_isConstant D g (nI k) = some c := by
  obtain ⟨D, rfl⟩ : ∃ z, D = z + 1 := ⟨D - 1, by omega⟩
  have hz := zF_big
  rw [yk_ic]
  unfold g_Mo_isConstant
  exact H D zF (by omega) (by omega)
theorem yk_v1 (hd : dl < 100000) (hk : k < 33500) (hQ : ¬ Q k) (H : yk_v g Q dl k v) {D : Nat} (hD : 2 * dl + 1 < D) : f_Mo_valueOf D g (nI k) = some v := by
  obtain ⟨D, rfl⟩ : ∃ z, D = z + 1 := ⟨D - 1, by omega⟩
  have hz := zF_big
  obtain ⟨N2, a1, a2⟩ := H D k zF (by omega) hk hQ (by omega)
  obtain ⟨N2, rfl⟩ : ∃ z, N2 = z + 1 := ⟨N2 - 1, by omega⟩
  show g_Mo_valueOf (f_Mo_valueAlone D) (f_Mo_valueOf D) g (nI k) = _
  unfold g_Mo_valueOf
  rw [a2, yk_u29]
  unfold f_Mo_valueOf_29
  rw [if_pos rfl]
/-- a node that is no 35: its own value -/
theorem yk_v0 {km : Nat} (hk : k < 33500) (hkm : km < 100) (h35 : ¬ km = 35) (m1 : (g.2.1 72) k = nI km) (e : ∀ D, 2 * dl + 1 ≤ D → f_Mo_valueAlone D g (nI k) = some v) : yk_v g Q dl k v := by
  intro D n N hD _ _ hN
  obtain ⟨N, rfl⟩ : ∃ z, N = z + 1 := ⟨N - 1, by omega⟩
  refine ⟨zF, by omega, ?_⟩
  rw [yk_u2]
  unfold f_Mo_valueOf_2
  rw [if_pos (zi_in (by omega) hk), nI_clamp (show k < 2147483648 by omega), m1, if_neg (fun z => h35 ((zc_eq (k := 35) (by decide) (by omega)).mp z)), e D hD, Option.bind_some]
theorem yk_v35 {k1 k2 dl1 dl2 : Nat} {va vb cd : Int32} (hk : k < 33500) (hk1 : k1 < 33500) (hk2 : k2 < 33500) (hd1 : dl1 < dl) (hd2 : dl2 < dl) (hs : dl < 10000) (m1 : (g.2.1 72) k = 35) (m2 : (g.2.1 76) k = nI k1) (m3 : (g.2.1 75) k1 = nI k) (m4 : (g.2.1 77) k = nI k2) (hQ : ∀ j, Q1 j → Q j) (hQ1 : Q k1) {Q2 : Nat → Prop} (hQ2 : ¬ Q2 k2) (A : yk_v g Q1 dl1 k1 va) (B : yk_v g Q2 dl2 k2 vb) (es : f_Mo_signCode g (nI k) = some cd) (et : f_Mo_two cd va vb = some v) : yk_v g Q dl k v := by
  have hz := zF_big
  intro D n N hD hn hQn hN
  obtain ⟨N, rfl⟩ : ∃ z, N = z + 1 := ⟨N - 1, by omega⟩
  obtain ⟨N2, b1, b2⟩ := A D n N (by omega) hn (fun z => hQn (hQ _ z)) (by omega)
  obtain ⟨N2, rfl⟩ : ∃ z, N2 = z + 1 + 1 := ⟨N2 - 2, by omega⟩
  have hne : ¬ nI k1 = nI n := fun z => hQn (by rw [← (nI_eq (by omega) (by omega)).mp z]; exact hQ1)
  refine ⟨N2 + 1, by omega, ?_⟩
  rw [yk_u2]
  unfold f_Mo_valueOf_2
  rw [if_pos (zi_in (by omega) hk), nI_clamp (show k < 2147483648 by omega), m1, if_pos rfl, m2, b2, yk_u29]
  unfold f_Mo_valueOf_29
  rw [if_neg hne, if_pos (zi_in (by omega) hk1), nI_clamp (show k1 < 2147483648 by omega), m3, es, Option.bind_some, if_pos (zi_in (by omega) hk), nI_clamp (show k < 2147483648 by omega), m4, yk_v1 (by omega) hk2 hQ2 B (show 2 * dl2 + 1 < D by omega), Option.bind_some, et, Option.bind_some]
theorem yk_k35 {k1 k2 dl1 dl2 s : Nat} {vb c1 c2 : Int32} (hk : k < 33500) (hk2 : k2 < 33500) (hd1 : dl1 < dl) (hd2 : dl2 < dl) (hdl : dl < 199) (hs : s < 14) (m1 : (g.2.1 72) k = 35) (m2 : (g.2.1 76) k = nI k1) (m4 : (g.2.1 77) k = nI k2) (m5 : (g.2.1 74) k = nI s) (A : yk_k g dl1 k1 c1) (B : yk_k g dl2 k2 c2) {Q2 : Nat → Prop} (hQ2 : ¬ Q2 k2) (Bv : c2 = 0 ∨ yk_v g Q2 dl2 k2 vb) (ec : c = if c2 = 0 then 0 else if 12 ≤ s ∧ vb = 0 then 0 else c1) : yk_k g dl k c := by
  have hz := zF_big
  intro D N hD hN
  obtain ⟨N, rfl⟩ : ∃ z, N = z + 1 := ⟨N - 1, by omega⟩
  rw [yk_uc]
  unfold f_Mo_isConstant_2
  rw [if_pos (zi_in (by omega) hk), nI_clamp (show k < 2147483648 by omega), m1, if_pos rfl, m4, yk_k1 (by omega) B (show dl2 < D by omega), Option.bind_some, m5]
  have e52 : f_Mo_isConstant_52 (f_Mo_isConstant D) g (f_Mo_isConstant_L2 (f_Mo_isConstant D) g N) (nI k) = f_Mo_isConstant_L2 (f_Mo_isConstant D) g N (nI k1) := by
    unfold f_Mo_isConstant_52
    rw [if_pos (zi_in (by omega) hk), nI_clamp (show k < 2147483648 by omega), m2]
  rw [e52]
  by_cases z : c2 = 0
  · rw [if_pos z, ec, if_pos z]
  · rw [if_neg z, ec, if_neg z]
    have ea := A D N (by omega) (by omega)
    by_cases y : 12 ≤ s
    · rw [if_neg (mt (zc_el (k := 11) (by decide) (by omega)).mp (by omega)), yk_v1 (by omega) hk2 hQ2 (Bv.resolve_left z) (show 2 * dl2 + 1 < 400 by omega), Option.bind_some]
      by_cases w : vb = 0
      · rw [if_pos w, if_pos ⟨y, w⟩]
      · rw [if_neg w, if_neg (fun q => w q.2), ea]
    · rw [if_pos ((zc_el (k := 11) (by decide) (by omega)).mpr (by omega)), if_neg (fun q => y q.1), ea]
/-- leaves -/
theorem yk_kl {km : Nat} (hk : k < 33500) (hkm : km < 34) (m1 : (g.2.1 72) k = nI km) : yk_k g dl k (if km = 30 ∨ km = 31 then 1 else 0) := by
  intro D N hD hN
  obtain ⟨N, rfl⟩ : ∃ z, N = z + 1 := ⟨N - 1, by omega⟩
  rw [yk_uc]
  unfold f_Mo_isConstant_2
  rw [if_pos (zi_in (by omega) hk), nI_clamp (show k < 2147483648 by omega), m1, if_neg (mt (zc_eq (k := 35) (by decide) (by omega)).mp (by omega))]
  by_cases z : km = 30
  · rw [if_pos ((zc_eq (k := 30) (by decide) (by omega)).mpr z), if_pos (.inl z)]
  · rw [if_neg (mt (zc_eq (k := 30) (by decide) (by omega)).mp z)]
    by_cases y : km = 31
    · rw [if_pos ((zc_eq (k := 31) (by decide) (by omega)).mpr y), if_pos (.inr y)]
    · rw [if_neg (mt (zc_eq (k := 31) (by decide) (by omega)).mp y), if_neg (show ¬ (km = 30 ∨ km = 31) by omega), if_pos ((zc_tl (k := 34) (by decide) (by omega)).mpr hkm)]
/-- a call of another kind than a standard one -/
theorem yk_k34 (hk : k < 33500) (m1 : (g.2.1 72) k = 34) (m2 : f_Mo_wordOf_s11 g ((g.2.1 74) k) = some (-1)) : yk_k g dl k 0 := by
  intro D N hD hN
  obtain ⟨N, rfl⟩ : ∃ z, N = z + 1 := ⟨N - 1, by omega⟩
  rw [yk_uc]
  unfold f_Mo_isConstant_2
  rw [if_pos (zi_in (by omega) hk), nI_clamp (show k < 2147483648 by omega), m1, if_neg (by decide), if_neg (by decide), if_neg (by decide), if_neg (by decide), if_pos rfl, m2, Option.bind_some, if_neg (by decide)]
/-- one whose arguments are looked at -/
theorem yk_kL {km s : Nat} (hk : k < 33500) (hkm : km = 36 ∨ (km = 34 ∧ s < 10 ∧ f_Mo_wordOf_s11 g ((g.2.1 74) k) = some (nI s))) (m1 : (g.2.1 72) k = nI km) (H : ∀ D, dl ≤ D → f_Mo_isConstant_L133 (f_Mo_isConstant D) g zF ((g.2.1 76) k) = some c) : yk_k g dl k c := by
  intro D N hD hN
  obtain ⟨N, rfl⟩ : ∃ z, N = z + 1 := ⟨N - 1, by omega⟩
  rw [yk_uc]
  have e126 : f_Mo_isConstant_126 (f_Mo_isConstant D) g (nI k) = some c := by
    unfold f_Mo_isConstant_126
    rw [if_pos (zi_in (by omega) hk), nI_clamp (show k < 2147483648 by omega), H D hD]
  unfold f_Mo_isConstant_2
  rcases hkm with rfl | ⟨rfl, hs, ew⟩
  · rw [if_pos (zi_in (by omega) hk), nI_clamp (show k < 2147483648 by omega), m1, if_neg (by decide), if_neg (by decide), if_neg (by decide), if_neg (by decide), if_neg (by decide), e126]
  · rw [if_pos (zi_in (by omega) hk), nI_clamp (show k < 2147483648 by omega), m1, if_neg (by decide), if_neg (by decide), if_neg (by decide), if_neg (by decide), if_pos (by decide), ew, Option.bind_some, if_pos ((zc_le (k := 0) (by decide) (by omega)).mpr (by omega)), e126]
/-- all arguments are constants -/
def yk_co (h : zs_H) : zt_T → Int32 → Prop
  | .leaf, _ => True
  | .inner _ _ _ _ r, x => zv_kc h x.toNatClampNeg ∧ yk_co h r ((h.2.1 18) x.toNatClampNeg)
theorem yk_loop : ∀ (t : zt_T) (Q : Nat → Prop) (x x' : Int32) (D N : Nat), yk_T h g t Q x x' → zg_d t ≤ D → zg_d t < 1000 → zt_ln t < N → (yk_co h t x ∧ f_Mo_isConstant_L133 (f_Mo_isConstant D) g N x' = some 1) ∨ (¬ yk_co h t x ∧ f_Mo_isConstant_L133 (f_Mo_isConstant D) g N x' = some 0) := by
  intro t
  induction t with
  | leaf =>
    intro Q x x' D N ⟨_, e⟩ _ _ hN
    obtain ⟨N, rfl⟩ : ∃ z, N = z + 1 := ⟨N - 1, by have : zt_ln .leaf = 0 := rfl; omega⟩
    refine .inl ⟨trivial, ?_⟩
    rw [yk_ul, e]
    unfold f_Mo_isConstant_133
    rw [if_pos (by decide)]
  | inner kd kv o l r _ ihr =>
    intro Q x x' D N ⟨i, k, Q1, Q2, ⟨i1, i2⟩, ⟨k1, k2, k3⟩, q1, q2, A, B⟩ hD hD2 hN
    have hd : max (zg_d l + 1) (zg_d r) ≤ zg_d (.inner kd kv o l r) := zg_d1
    have hl : zt_ln (.inner kd kv o l r) = 1 + zt_ln r := rfl
    obtain ⟨N, rfl⟩ : ∃ z, N = z + 1 := ⟨N - 1, by omega⟩
    have hc : yk_co h (.inner kd kv o l r) x ↔ zv_kc h i ∧ yk_co h r ((h.2.1 18) i) := by
      show zv_kc h x.toNatClampNeg ∧ _ ↔ _
      rw [i2, nI_clamp (show i < 2147483648 by omega)]
    rw [hc, yk_ul, k3]
    unfold f_Mo_isConstant_133
    rw [if_neg (nI_pos (by omega))]
    rcases A with ⟨a1, a2, _⟩ | ⟨a1, a2⟩
    · rw [yk_k1 (by omega) a2 (show zg_d l < D by omega), Option.bind_some, if_neg (by decide), if_pos (zi_in (by omega) k2), nI_clamp (show k < 2147483648 by omega)]
      rcases ihr Q2 _ _ D N B (by omega) (by omega) (by omega) with ⟨b1, b2⟩ | ⟨b1, b2⟩
      · exact .inl ⟨⟨a1, b1⟩, b2⟩
      · exact .inr ⟨fun z => b1 z.2, b2⟩
    · rw [yk_k1 (by omega) a2 (show zg_d l < D by omega), Option.bind_some, if_pos rfl]
      exact .inr ⟨fun z => a1 z.1, rfl⟩
end YKC
