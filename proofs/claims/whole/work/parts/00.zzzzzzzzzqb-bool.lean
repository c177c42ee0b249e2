/-! A text begins anew: BOOLs are 0 or 1. -/
def yB_j (Bc : Nat → Nat → Prop) (b : Nat) (fl : Nat → Nat → (Nat → Int32) → Nat → Int32) : Prop := ∀ (u base : Nat) (c : Nat → Int32), u < b → yJ_g Bc u base c → yJ_g Bc u base (fl u base c)
section YBJ
variable {LC LM : List (List Int32)} {nb b : Nat} {F X Y K : Nat → Nat} {h0 g0 : zs_H} {LD : Nat → Prop}
theorem yB_co {v : Nat} (C : yk_cx LC LM nb F X Y h0 g0) (hb : b < nb) (h1 : F b ≤ v ∧ v < F (b + 1)) (ht : (h0.2.1 31) (32 + v) = 0) : yJ_01 ((h0.2.1 35) (32 + v)) := by
  have hF := C.1.2.1.2.2.2.1 b hb
  obtain ⟨ty, x', s', y', ⟨t1, t2⟩, _, _, _, ⟨_, _, _, r5, _⟩, _⟩ := C.1.2.2.2.1.2.1 b v hb h1.1 h1.2 (by omega)
  exact r5 ((zc_eq (k := 0) (by decide) (by omega)).mp (t2.symm.trans ht))
theorem yB_vj {fl : Nat → Nat → (Nat → Int32) → Nat → Int32} {v base : Nat} {c : Nat → Int32} (C : yk_cx LC LM nb F X Y h0 g0) (hb : b < nb) (h1 : F b ≤ v ∧ v < F (b + 1)) (O : yB_o X b fl) (S : yB_j (yq_b LD h0) b fl) (G : yJ_g (yq_b LD h0) b base c) : yJ_g (yq_b LD h0) b base (yB_v fl h0 base v c) := by
  intro j hj
  obtain ⟨x, s, ⟨q1, _⟩, ⟨q2, _⟩, _, ⟨q4, q5, _⟩, q6⟩ := yB_var C hb h1.1 h1.2
  have B3 : nb ≤ 568 := C.1.2.1.1.2.2
  rcases q6 with ⟨i1, _, i3⟩ | ⟨B, _, _, _, _, i5⟩ | ⟨u, u1, i2, _, _, es, _, i5⟩
  · rw [i3]
    show yJ_01 (if _ then _ else _)
    by_cases z : base + x ≤ base + j ∧ base + j < base + x + s
    · rw [if_pos z]
      exact yB_co C hb h1 (yq_bc (LD := LD) (j := j - x) C hb h1 i1 q1 (by omega) q2 (by omega) (by omega) (by rw [show x + (j - x) = j by omega]; exact hj))
    · rw [if_neg z]; exact G j hj
  · rw [i5]; exact G j hj
  · rw [i5]
    by_cases z : x ≤ j ∧ j < x + s
    · obtain ⟨t, rfl⟩ : ∃ t, j = x + t := ⟨j - x, by omega⟩
      have key : ∀ t, t < s → (yq_b LD h0 b (x + t) ↔ yq_b LD h0 u t) := fun t ht => by
        rw [yq_bi (LD := LD) (j := t) C hb h1 i2 (by omega) q1 (by omega) q2 (by omega) ht, show 9 + u - 9 = u by omega]
        exact ⟨fun q => q.elim (fun q => absurd q.1 (by omega)) (fun q => q.2), fun q => .inr ⟨by omega, q⟩⟩
      have g1 : yJ_g (yq_b LD h0) u (base + x) c := fun t' ht' => by
        have := yq_bX C (show u < nb by omega) ht'
        have := G (x + t') ((key t' (by omega)).mpr ht')
        rwa [← Nat.add_assoc] at this
      have := S u (base + x) c u1 g1 t ((key t (by omega)).mp hj)
      rwa [Nat.add_assoc] at this
    · rw [O u (base + x) c (base + j) u1 (by omega)]; exact G j hj
theorem yB_rj {fl : Nat → Nat → (Nat → Int32) → Nat → Int32} {base : Nat} (C : yk_cx LC LM nb F X Y h0 g0) (hb : b < nb) (O : yB_o X b fl) (S : yB_j (yq_b LD h0) b fl) : ∀ (m v : Nat) (c : Nat → Int32), v + m = F (b + 1) → F b ≤ v → yJ_g (yq_b LD h0) b base c → yJ_g (yq_b LD h0) b base (yB_r fl h0 base m v c) := by
  intro m
  induction m with
  | zero => intro v c _ _ G; exact G
  | succ m ih =>
    intro v c e hv G
    exact ih (v + 1) _ (by omega) (by omega) (yB_vj C hb ⟨hv, by omega⟩ O S G)
theorem yB_Fj (C : yk_cx LC LM nb F X Y h0 g0) : ∀ (d b : Nat), b ≤ nb → b ≤ d → yB_j (yq_b LD h0) b (yB_F F h0 d) := by
  intro d
  induction d with
  | zero => intro b _ h u base c hu; omega
  | succ d ih =>
    intro b hb hd u base c hu G
    have hF := (C.1.2.1.2.2.2.1 u (by omega)).1
    exact yB_rj C (show u < nb by omega) (yB_FO C d u (by omega) (by omega)).1 (ih u (by omega) (by omega)) (F (u + 1) - F u) (F u) c (by omega) (Nat.le_refl _) G
theorem yB_Aj (C : yk_cx LC LM nb F X Y h0 g0) (n0 : 0 < nb) (hK : K (nb - 1) = 3 ∧ ∀ j, j < nb → (K j = 1 ∨ K j = 2 ∨ K j = 3) ∧ (K j = 3 → j = nb - 1)) : ∀ (m k : Nat) (c : Nat → Int32), k + m = nb → (∀ u, u < nb → ¬ K u = 2 → yJ_g (yq_b LD h0) u (yB_l X K nb u) c) → ∀ u, u < nb → ¬ K u = 2 → yJ_g (yq_b LD h0) u (yB_l X K nb u) (yB_A F X K h0 nb m k c) := by
  intro m
  induction m with
  | zero => intro k c _ G; exact G
  | succ m ih =>
    intro k c e G
    refine ih (k + 1) _ (by omega) (fun u hu hk => ?_)
    by_cases z : K k = 2
    · rw [if_pos z]; exact G u hu hk
    · rw [if_neg z]
      by_cases y : u = k
      · subst y
        exact yB_Fj C (u + 1) (u + 1) (by omega) (Nat.le_refl _) u _ c (by omega) (G u hu hk)
      · intro j hj
        have hx := yq_bX C hu hj
        rw [(yB_FO C (k + 1) (k + 1) (by omega) (Nat.le_refl _)).1 k _ c _ (by omega) (by
          rcases Nat.lt_or_gt_of_ne y with q | q
          · have := yB_ld (X := X) n0 hK (show k < nb by omega) q z hk
            omega
          · have := yB_ld (X := X) n0 hK hu q hk z
            omega)]
        exact G u hu hk j hj
end YBJ
