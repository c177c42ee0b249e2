/-! The coder: a ladder's grids are in their bounds. -/
section YUV
variable {X Y : Nat → Nat} {b lo hi pw m : Nat} {rows : List (List yT)}
theorem yu_mkH (Fm : yu_F m rows) (hB : ∀ cs, cs ∈ rows → ∀ u, u ∈ cs → yu_B (Y b) lo hi u) (h1 : lo ≤ pw) (h2 : pw + 156 ≤ X b) (h3 : Y b ≤ X b) (h4 : hi ≤ X b) : yu_H X Y b lo pw rows.length m (yu_q rows) := by
  refine ⟨Fm.1, ⟨h1, h2, h3⟩, fun r c hr hc => ?_⟩
  obtain ⟨cs, e1, e2, _⟩ := yu_Fg Fm hr hc
  obtain ⟨a1, a2, a3⟩ := hB cs (List.mem_of_getElem? e1) _ (List.mem_of_getElem? e2)
  exact ⟨⟨a1, fun h25 hv => by have := a2 h25 hv; omega, a3⟩, a3⟩
end YUV
