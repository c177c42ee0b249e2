/-! The coder: the rows of a rung out of the tree. -/
section YUN
variable {LC LM : List (List Int32)} {nb b sz ow : Nat} {F Fb X Y : Nat → Nat} {h0 g0 : zs_H} {P Q Qm : Nat → Prop} {up x x' y : Int32} {kd : Nat} {kv : Int32 × Int32} {o : Unit} {l r : zt_T}
/-- the cell that a contact sees, a coil writes -/
theorem yu_see (C : yj_cx LC LM nb b sz F Fb X Y h0 g0 P) {c : Nat} {xl xm : Int32} {lc : zt_T} (hc : c = 6 ∨ c = 33) (ok : zg_ok (.inner c kv o lc .leaf)) (A : yb_F Fb b h0 g0 P Q (.inner c kv o lc .leaf) xl xm (-1) (-1)) : ∃ (a ka S : Nat), (xl = nI a ∧ a < 32784) ∧ (xm = nI ka ∧ ka < 33500) ∧ f_Cr_cellOf h0 xl = some (nI S) ∧ (g0.2.1 101) ka = nI S ∧ S < Y b ∧ (c = 6 → ∃ w, (h0.2.1 16) a = nI w ∧ w < 6000 ∧ (h0.2.1 32) w = nI S ∧ ¬ (yq_k h0 b).2 S) ∧ ((h0.2.1 14) a = 0 → ∀ LD : Nat → Prop, yq_b LD h0 b S) := by
  obtain ⟨a, ka, xa, ⟨pa, ha, ea⟩, ⟨qa, hka, eka, _⟩, N, _, _⟩ := A
  have kB := (C.1.2.2 b C.2.1).1
  rcases hc with e | e
  · subst e
    obtain ⟨k6, u, xx, V, a1, a2, a3, a3t⟩ := yj_6 N
    obtain ⟨x0, s, ty, ⟨v1, v2⟩, ⟨v3, _⟩, _, ⟨v5, v6⟩, _, v8, _⟩ := yj_var C V
    have s1 := (v8 a3).1
    refine ⟨a, ka, x0, ⟨ea, ha⟩, ⟨eka, hka⟩, ?_, a2.trans v1, by omega, fun _ => ⟨32 + u, a1, by omega, v2, yj_ni C V a3 v2 (by omega)⟩, fun z LD => yq_bv (j := 0) C.1 C.2.1 (yj_ra C V).1 (.inl a3) (a3t.symm.trans z) v2 (by omega) v3 (by omega) (by omega)⟩
    unfold f_Cr_cellOf
    simp only [ea, if_pos (zi_in (show a < 2147483648 by omega) ha), nI_clamp (show a < 2147483648 by omega), a1, if_pos (zi_in (show 32 + u < 2147483648 by omega) (show 32 + u < 6000 by omega)), nI_clamp (show 32 + u < 2147483648 by omega), v2]
    rw [k6, if_neg (by decide)]
  · subst e
    rcases N with N | ⟨ty, _, t2, _, N⟩
    · exact absurd (yb_SE N) (fun z => z (by decide))
    · rcases N with ⟨e, _⟩ | ⟨e, _⟩ | ⟨e, _⟩ | ⟨_, k33, ech, e', u, xx, off, n3, n4, V, n6, n7, n8, n9, B, cv, d1, d2, d3, d4, d5, d6, d6t⟩ | ⟨e, _⟩ | ⟨e, _⟩ | ⟨e, _⟩ | ⟨e, _⟩
      · exact absurd e (by decide)
      · rcases e with e | e <;> exact absurd e (by decide)
      · exact absurd e (by decide)
      · have B3 : nb ≤ 568 := C.1.1.2.1.1.2.2
        have hbn := C.2.1
        have he := C.2.2.2.1 e' n4
        obtain ⟨x0, s, ty', ⟨v1, v2⟩, ⟨v3, _⟩, _, ⟨v5, v6⟩, _, _, v9⟩ := yj_var C V
        obtain ⟨_, _, w3⟩ := v9 B (by omega) d1
        obtain ⟨off', f1, f2, f3⟩ := yk_pin C.1 C.2.1 C.2.2.1 d2 d3 d6 w3 (by omega)
        have eo : off = off' := (nI_eq (by omega) (by omega)).mp (d5.symm.trans f1)
        subst eo
        refine ⟨a, ka, x0 + off, ⟨ea, ha⟩, ⟨eka, hka⟩, ?_, ?_, by omega, fun z => absurd z (by decide), fun z LD => (yq_bp C.1 C.2.1 C.2.2.1 (yj_ra C V).1 d1 d2 v2 (by omega) v3 (by omega) d3 d6 f1 f2).mpr (d6t.trans (t2.symm.trans z))⟩
        · unfold f_Cr_cellOf
          simp only [ea, if_pos (zi_in (show a < 2147483648 by omega) ha), nI_clamp (show a < 2147483648 by omega), n6, if_pos (zi_in (show 32 + u < 2147483648 by omega) (show 32 + u < 6000 by omega)), nI_clamp (show 32 + u < 2147483648 by omega), v2, ech, n3, if_pos (zi_in (show e' < 2147483648 by omega) he), nI_clamp (show e' < 2147483648 by omega), n7, nI_add]
          rw [k33, if_pos rfl]
        · rw [n8, ← nI_add, v1, nI_add]
      all_goals exact absurd e (by decide)
end YUN
