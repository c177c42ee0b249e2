/-! The line: what is refused, on both sides. -/
/-- what a request says: function, number of data bytes, two numbers, the fifth data byte -/
def zln_ok (fn c d : Nat) : Bool := if fn ≤ 2 then decide (1 ≤ c ∧ c ≤ 2000) else if fn ≤ 4 then decide (1 ≤ c ∧ c ≤ 125) else if fn = 5 then decide (c = 0 ∨ c = 65280) else if fn = 15 then decide (1 ≤ c ∧ c ≤ 1968 ∧ d = (c + 7) / 8) else if fn = 16 then decide (1 ≤ c ∧ c ≤ 123 ∧ d = 2 * c) else true
def zln_ts (fn : Nat) : Nat := if fn = 1 then 256 else if fn = 2 then 512 else if fn = 4 then 128 else if fn = 5 then 256 else if fn = 15 then 256 else 64
def zln_is (fn : Nat) : Prop := fn = 1 ∨ fn = 2 ∨ fn = 3 ∨ fn = 4 ∨ fn = 5 ∨ fn = 6 ∨ fn = 15 ∨ fn = 16
section ZLN
variable {h g : zs_H} {fn s a c d : Nat}
theorem zln_rg {k : Nat} {A B : Option Int32} (hc : c < 65536) (hk : k < 65536) : (if nI c < 1 then A else if nI k < nI c then A else B) = if 1 ≤ c ∧ c ≤ k then B else A := by
  by_cases z : 1 ≤ c ∧ c ≤ k
  · rw [if_pos z, if_neg (mt (zc_tl (k := 1) (by decide) (by omega)).mp (by omega)), if_neg (mt (nI_ltI (by omega) (by omega)).mp (by omega))]
  · rw [if_neg z]
    by_cases y : c < 1
    · rw [if_pos ((zc_tl (k := 1) (by decide) (by omega)).mpr y)]
    · rw [if_neg (mt (zc_tl (k := 1) (by decide) (by omega)).mp y), if_pos ((nI_ltI (by omega) (by omega)).mpr (by omega))]
theorem zln_rm {k : Nat} {A B : Option Int32} (hc : c < 65536) (hk : k < 65536) : (if nI c < 1 then A else if nI c ≤ nI k then B else A) = if 1 ≤ c ∧ c ≤ k then B else A := by
  by_cases z : 1 ≤ c ∧ c ≤ k
  · rw [if_pos z, if_neg (mt (zc_tl (k := 1) (by decide) (by omega)).mp (by omega)), if_pos ((nI_leI (by omega) (by omega)).mpr z.2)]
  · rw [if_neg z]
    by_cases y : c < 1
    · rw [if_pos ((zc_tl (k := 1) (by decide) (by omega)).mpr y)]
    · rw [if_neg (mt (zc_tl (k := 1) (by decide) (by omega)).mp y), if_neg (mt (nI_leI (by omega) (by omega)).mp (by omega))]
theorem zln_p1 {A : Int32} {P : Prop} [Decidable P] : (if P then some (1 : Int32) else some 0) = some (if P then 1 else 0) := by split <;> rfl
theorem zln_q {q : Nat} {x : Int32} {P : Prop} [Decidable P] {A B : Option Int32} (e : (nI d = x) ↔ P) : (if nI d = x then A else B) = if P then A else B := by
  by_cases z : P
  · rw [if_pos z, if_pos (e.mpr z)]
  · rw [if_neg z, if_neg (mt e.mp z)]
theorem zln_and {P Q : Prop} [Decidable P] [Decidable Q] {A B : Option Int32} : (if P then (if Q then A else B) else B) = if P ∧ Q then A else B := by
  by_cases p : P <;> by_cases q : Q <;> simp only [p, q, if_true, if_false, and_self, and_true, and_false, true_and, false_and]
theorem zln_e7 (hc : c < 65536) (hd : d < 256) : (nI d = (nI c + 7) / 8) ↔ d = (c + 7) / 8 := by
  rw [show nI c + 7 = nI (c + 7) from nI_add c 7, show nI (c + 7) / 8 = nI ((c + 7) / 8) from zln_d (b := 8) (by omega) (by decide)]
  exact nI_eq (by omega) (by omega)
theorem zln_e2 (hc : c < 65536) (hd : d < 256) : (nI d = 2 * nI c) ↔ d = 2 * c := by
  rw [show 2 * nI c = nI (2 * c) from zi_mul 2 c]
  exact nI_eq (by omega) (by omega)
theorem zln_num (hf : zln_is fn) (hc : c < 65536) (hd : d < 256) (e4 : 15 ≤ fn → f_Ln_data h 4 = some (nI d)) : f_Ln_isNumberFor h (nI fn) (nI c) = some (if zln_ok fn c d = true then 1 else 0) := by
  unfold f_Ln_isNumberFor
  rcases hf with z | z | z | z | z | z | z | z <;> subst z
  · rw [if_pos (show (nI 1 : Int32) = 1 by decide), show (2000 : Int32) = nI 2000 from rfl, zln_rg hc (by decide), show zln_ok 1 c d = decide (1 ≤ c ∧ c ≤ 2000) from rfl]
    by_cases z : 1 ≤ c ∧ c ≤ 2000
    · rw [if_pos z, if_pos (decide_eq_true z)]
    · rw [if_neg z, if_neg (by rw [decide_eq_false z]; decide)]
  · rw [if_neg (show ¬ (nI 2 : Int32) = 1 by decide), if_pos (show (nI 2 : Int32) = 2 by decide), show (2000 : Int32) = nI 2000 from rfl, zln_rg hc (by decide), show zln_ok 2 c d = decide (1 ≤ c ∧ c ≤ 2000) from rfl]
    by_cases z : 1 ≤ c ∧ c ≤ 2000
    · rw [if_pos z, if_pos (decide_eq_true z)]
    · rw [if_neg z, if_neg (by rw [decide_eq_false z]; decide)]
  · rw [if_neg (show ¬ (nI 3 : Int32) = 1 by decide), if_neg (show ¬ (nI 3 : Int32) = 2 by decide), if_pos (show (nI 3 : Int32) = 3 by decide), show (125 : Int32) = nI 125 from rfl, zln_rg hc (by decide), show zln_ok 3 c d = decide (1 ≤ c ∧ c ≤ 125) from rfl]
    by_cases z : 1 ≤ c ∧ c ≤ 125
    · rw [if_pos z, if_pos (decide_eq_true z)]
    · rw [if_neg z, if_neg (by rw [decide_eq_false z]; decide)]
  · rw [if_neg (show ¬ (nI 4 : Int32) = 1 by decide), if_neg (show ¬ (nI 4 : Int32) = 2 by decide), if_neg (show ¬ (nI 4 : Int32) = 3 by decide), if_pos (show (nI 4 : Int32) = 4 by decide), show (125 : Int32) = nI 125 from rfl, zln_rg hc (by decide), show zln_ok 4 c d = decide (1 ≤ c ∧ c ≤ 125) from rfl]
    by_cases z : 1 ≤ c ∧ c ≤ 125
    · rw [if_pos z, if_pos (decide_eq_true z)]
    · rw [if_neg z, if_neg (by rw [decide_eq_false z]; decide)]
  · rw [if_neg (show ¬ (nI 5 : Int32) = 1 by decide), if_neg (show ¬ (nI 5 : Int32) = 2 by decide), if_neg (show ¬ (nI 5 : Int32) = 3 by decide), if_neg (show ¬ (nI 5 : Int32) = 4 by decide), if_pos (show (nI 5 : Int32) = 5 by decide), show zln_ok 5 c d = decide (c = 0 ∨ c = 65280) from rfl]
    by_cases z : c = 0
    · rw [if_pos (by rw [z]; rfl), if_pos (decide_eq_true (.inl z))]
    · rw [if_neg (fun q => z ((zc_eq (k := 0) (by decide) (by omega)).mp q))]
      by_cases y : c = 65280
      · rw [if_pos (by rw [y]; rfl), if_pos (decide_eq_true (.inr y))]
      · rw [if_neg (fun q => y ((zc_eq (k := 65280) (by decide) (by omega)).mp q)), if_neg (by rw [decide_eq_false (by omega)]; decide)]
  · rw [if_neg (show ¬ (nI 6 : Int32) = 1 by decide), if_neg (show ¬ (nI 6 : Int32) = 2 by decide), if_neg (show ¬ (nI 6 : Int32) = 3 by decide), if_neg (show ¬ (nI 6 : Int32) = 4 by decide), if_neg (show ¬ (nI 6 : Int32) = 5 by decide), if_neg (show ¬ (nI 6 : Int32) = 15 by decide), if_neg (show ¬ (nI 6 : Int32) = 16 by decide)]
    rfl
  · rw [if_neg (show ¬ (nI 15 : Int32) = 1 by decide), if_neg (show ¬ (nI 15 : Int32) = 2 by decide), if_neg (show ¬ (nI 15 : Int32) = 3 by decide), if_neg (show ¬ (nI 15 : Int32) = 4 by decide), if_neg (show ¬ (nI 15 : Int32) = 5 by decide), if_pos (show (nI 15 : Int32) = 15 by decide), show (1968 : Int32) = nI 1968 from rfl, zln_rg hc (by decide), e4 (by decide), Option.bind_some, zln_q (q := 0) (zln_e7 hc hd), zln_and, show zln_ok 15 c d = decide (1 ≤ c ∧ c ≤ 1968 ∧ d = (c + 7) / 8) from rfl]
    by_cases z : (1 ≤ c ∧ c ≤ 1968) ∧ d = (c + 7) / 8
    · rw [if_pos z, if_pos (decide_eq_true ⟨z.1.1, z.1.2, z.2⟩)]
    · rw [if_neg z, if_neg (by rw [decide_eq_false (fun q => z ⟨⟨q.1, q.2.1⟩, q.2.2⟩)]; decide)]
  · rw [if_neg (show ¬ (nI 16 : Int32) = 1 by decide), if_neg (show ¬ (nI 16 : Int32) = 2 by decide), if_neg (show ¬ (nI 16 : Int32) = 3 by decide), if_neg (show ¬ (nI 16 : Int32) = 4 by decide), if_neg (show ¬ (nI 16 : Int32) = 5 by decide), if_neg (show ¬ (nI 16 : Int32) = 15 by decide), if_pos (show (nI 16 : Int32) = 16 by decide), show (123 : Int32) = nI 123 from rfl, zln_rg hc (by decide), e4 (by decide), Option.bind_some, zln_q (q := 0) (zln_e2 hc hd), zln_and, show zln_ok 16 c d = decide (1 ≤ c ∧ c ≤ 123 ∧ d = 2 * c) from rfl]
    by_cases z : (1 ≤ c ∧ c ≤ 123) ∧ d = 2 * c
    · rw [if_pos z, if_pos (decide_eq_true ⟨z.1.1, z.1.2, z.2⟩)]
    · rw [if_neg z, if_neg (by rw [decide_eq_false (fun q => z ⟨⟨q.1, q.2.1⟩, q.2.2⟩)]; decide)]
theorem zln_59 (hf : zln_is fn) (hc : c < 65536) (hd : d < 256) (ec : f_Mo_dataTwo g 2 = some (nI c)) (e4 : 15 ≤ fn → f_Mo_heard g 6 = some (nI d)) : f_Mo_refusal_59 g (nI fn) = f_Mo_refusal_214 g (nI fn) (nI c) (if zln_ok fn c d = true then 0 else 1) := by
  unfold f_Mo_refusal_59 f_Mo_refusal_82 f_Mo_refusal_106 f_Mo_refusal_134 f_Mo_refusal_172 f_Mo_refusal_209 f_Mo_refusal_213
  rw [ec, Option.bind_some]
  rcases hf with z | z | z | z | z | z | z | z <;> subst z
  · rw [if_neg (show ¬ (3 : Int32) ≤ nI 1 by decide), show (2000 : Int32) = nI 2000 from rfl, zln_rm hc (by decide), show zln_ok 1 c d = decide (1 ≤ c ∧ c ≤ 2000) from rfl]
    by_cases z : 1 ≤ c ∧ c ≤ 2000
    · rw [if_pos z, if_pos (decide_eq_true z)]
    · rw [if_neg z, if_neg (by rw [decide_eq_false z]; decide)]
  · rw [if_neg (show ¬ (3 : Int32) ≤ nI 2 by decide), show (2000 : Int32) = nI 2000 from rfl, zln_rm hc (by decide), show zln_ok 2 c d = decide (1 ≤ c ∧ c ≤ 2000) from rfl]
    by_cases z : 1 ≤ c ∧ c ≤ 2000
    · rw [if_pos z, if_pos (decide_eq_true z)]
    · rw [if_neg z, if_neg (by rw [decide_eq_false z]; decide)]
  · rw [if_pos (show (3 : Int32) ≤ nI 3 by decide), if_neg (show ¬ (5 : Int32) ≤ nI 3 by decide), show (125 : Int32) = nI 125 from rfl, zln_rm hc (by decide), show zln_ok 3 c d = decide (1 ≤ c ∧ c ≤ 125) from rfl]
    by_cases z : 1 ≤ c ∧ c ≤ 125
    · rw [if_pos z, if_pos (decide_eq_true z)]
    · rw [if_neg z, if_neg (by rw [decide_eq_false z]; decide)]
  · rw [if_pos (show (3 : Int32) ≤ nI 4 by decide), if_neg (show ¬ (5 : Int32) ≤ nI 4 by decide), show (125 : Int32) = nI 125 from rfl, zln_rm hc (by decide), show zln_ok 4 c d = decide (1 ≤ c ∧ c ≤ 125) from rfl]
    by_cases z : 1 ≤ c ∧ c ≤ 125
    · rw [if_pos z, if_pos (decide_eq_true z)]
    · rw [if_neg z, if_neg (by rw [decide_eq_false z]; decide)]
  · rw [if_pos (show (3 : Int32) ≤ nI 5 by decide), if_pos (show (5 : Int32) ≤ nI 5 by decide), if_pos (show (nI 5 : Int32) = 5 by decide), show zln_ok 5 c d = decide (c = 0 ∨ c = 65280) from rfl]
    by_cases z : c = 0
    · rw [if_pos (by rw [z]; rfl), if_pos (decide_eq_true (.inl z))]
    · rw [if_neg (fun q => z ((zc_eq (k := 0) (by decide) (by omega)).mp q))]
      by_cases y : c = 65280
      · rw [if_pos (by rw [y]; rfl), if_pos (decide_eq_true (.inr y))]
      · rw [if_neg (fun q => y ((zc_eq (k := 65280) (by decide) (by omega)).mp q)), if_neg (by rw [decide_eq_false (by omega)]; decide)]
  · rw [if_pos (show (3 : Int32) ≤ nI 6 by decide), if_pos (show (5 : Int32) ≤ nI 6 by decide), if_neg (show ¬ (nI 6 : Int32) = 5 by decide), if_neg (show ¬ (nI 6 : Int32) = 15 by decide), if_neg (show ¬ (nI 6 : Int32) = 16 by decide)]
    rfl
  · rw [if_pos (show (3 : Int32) ≤ nI 15 by decide), if_pos (show (5 : Int32) ≤ nI 15 by decide), if_neg (show ¬ (nI 15 : Int32) = 5 by decide), if_pos (show (nI 15 : Int32) = 15 by decide), show (1968 : Int32) = nI 1968 from rfl, zln_rg hc (by decide), e4 (by decide), Option.bind_some, zln_q (q := 0) (zln_e7 hc hd), zln_and, show zln_ok 15 c d = decide (1 ≤ c ∧ c ≤ 1968 ∧ d = (c + 7) / 8) from rfl]
    by_cases z : (1 ≤ c ∧ c ≤ 1968) ∧ d = (c + 7) / 8
    · rw [if_pos z, if_pos (decide_eq_true ⟨z.1.1, z.1.2, z.2⟩)]
    · rw [if_neg z, if_neg (by rw [decide_eq_false (fun q => z ⟨⟨q.1, q.2.1⟩, q.2.2⟩)]; decide)]
  · rw [if_pos (show (3 : Int32) ≤ nI 16 by decide), if_pos (show (5 : Int32) ≤ nI 16 by decide), if_neg (show ¬ (nI 16 : Int32) = 5 by decide), if_neg (show ¬ (nI 16 : Int32) = 15 by decide), if_pos (show (nI 16 : Int32) = 16 by decide), show (123 : Int32) = nI 123 from rfl, zln_rg hc (by decide), e4 (by decide), Option.bind_some, zln_q (q := 0) (zln_e2 hc hd), zln_and, show zln_ok 16 c d = decide (1 ≤ c ∧ c ≤ 123 ∧ d = 2 * c) from rfl]
    by_cases z : (1 ≤ c ∧ c ≤ 123) ∧ d = 2 * c
    · rw [if_pos z, if_pos (decide_eq_true ⟨z.1.1, z.1.2, z.2⟩)]
    · rw [if_neg z, if_neg (by rw [decide_eq_false (fun q => z ⟨⟨q.1, q.2.1⟩, q.2.2⟩)]; decide)]
theorem zln_tsz (hf : zln_is fn) : f_Ln_tableSize (nI fn) = nI (zln_ts fn) ∧ f_Mo_tableSize (nI fn) = nI (zln_ts fn) ∧ zln_ts fn ≤ 512 := by
  rcases hf with z | z | z | z | z | z | z | z <;> subst z <;> decide
/-- what is refused -/
def zln_R (fn s a c d : Nat) : Nat := if zln_ok fn c d = true then (if a + (if fn = 5 ∨ fn = 6 then 1 else c) ≤ zln_ts fn then 0 else 2) else 3
theorem zln_110 {k : Nat} (hf : zln_is fn) (ha : a < 65536) (hk : k < 65536) (e0 : f_Ln_number h 0 = some (nI a)) : f_Ln_refusal_110 h (nI fn) (nI k) = some (if a + k ≤ zln_ts fn then 0 else 2) := by
  obtain ⟨t1, _, t3⟩ := zln_tsz hf
  unfold f_Ln_refusal_110
  rw [e0, Option.bind_some, nI_add, t1]
  by_cases z : a + k ≤ zln_ts fn
  · rw [if_pos z, if_pos ((nI_leI (by omega) (by omega)).mpr z)]
  · rw [if_neg z, if_neg (mt (nI_leI (by omega) (by omega)).mp z)]
theorem zln_244 {k : Nat} (hf : zln_is fn) (ha : a < 65536) (hk : k < 65536) : f_Mo_refusal_244 g (nI fn) (nI k) (nI a) = some (if a + k ≤ zln_ts fn then 0 else 2) := by
  obtain ⟨_, t2, t3⟩ := zln_tsz hf
  unfold f_Mo_refusal_244
  rw [nI_add, t2]
  by_cases z : a + k ≤ zln_ts fn
  · rw [if_pos z, if_pos ((nI_leI (by omega) (by omega)).mpr z)]
  · rw [if_neg z, if_neg (mt (nI_leI (by omega) (by omega)).mp z)]
theorem zln_77 (hf : zln_is fn) (ha : a < 65536) (hc : c < 65536) (hd : d < 256) (e0 : f_Ln_number h 0 = some (nI a)) (e2 : f_Ln_number h 2 = some (nI c)) (e4 : 15 ≤ fn → f_Ln_data h 4 = some (nI d)) (m0 : f_Mo_dataTwo g 0 = some (nI a)) (m2 : f_Mo_dataTwo g 2 = some (nI c)) (m4 : 15 ≤ fn → f_Mo_heard g 6 = some (nI d)) : f_Ln_refusal_77 h (nI fn) = some (nI (zln_R fn s a c d)) ∧ f_Mo_refusal_59 g (nI fn) = some (nI (zln_R fn s a c d)) := by
  have f56 : (nI fn = 5 ↔ fn = 5) ∧ (nI fn = 6 ↔ fn = 6) := by
    unfold zln_is at hf
    exact ⟨zc_eq (k := 5) (by decide) (by omega), zc_eq (k := 6) (by decide) (by omega)⟩
  have o1 := zln_110 (k := 1) hf ha (by decide) e0
  have o2 := zln_110 (k := c) hf ha hc e0
  have p1 := zln_244 (g := g) (k := 1) hf ha (by decide)
  have p2 := zln_244 (g := g) (k := c) hf ha hc
  rw [zln_59 hf hc hd m2 m4]
  unfold f_Ln_refusal_77 f_Mo_refusal_214 f_Ln_refusal_105 f_Mo_refusal_239 zln_R
  rw [e2, Option.bind_some, zln_num hf hc hd e4, Option.bind_some]
  by_cases z : zln_ok fn c d = true
  · rw [if_pos z, if_pos z, if_pos z, if_neg (show ¬ (1 : Int32) = 0 by decide), if_pos (show (0 : Int32) = 0 from rfl), m0, Option.bind_some]
    by_cases y5 : fn = 5
    · rw [if_pos (f56.1.mpr y5), if_pos (f56.1.mpr y5), if_pos (show fn = 5 ∨ fn = 6 from .inl y5), show (1 : Int32) = nI 1 from rfl, o1, p1]
      constructor <;> split <;> rfl
    · rw [if_neg (mt f56.1.mp y5), if_neg (mt f56.1.mp y5)]
      by_cases y6 : fn = 6
      · rw [if_pos (f56.2.mpr y6), if_pos (f56.2.mpr y6), if_pos (show fn = 5 ∨ fn = 6 from .inr y6), show (1 : Int32) = nI 1 from rfl, o1, p1]
        constructor <;> split <;> rfl
      · rw [if_neg (mt f56.2.mp y6), if_neg (mt f56.2.mp y6), if_neg (show ¬ (fn = 5 ∨ fn = 6) by omega), o2, p2]
        constructor <;> split <;> rfl
  · rw [if_neg z, if_neg z, if_neg z, if_pos (show (0 : Int32) = 0 from rfl), if_neg (show ¬ (1 : Int32) = 0 by decide)]
    exact ⟨rfl, rfl⟩
end ZLN
