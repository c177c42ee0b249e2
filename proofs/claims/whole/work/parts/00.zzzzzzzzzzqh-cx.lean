/-! CX: the class's reader, part 7. -/
theorem cx_f_Ps_invocation_L62' {E : zcx_T} {a : Int}   {N : Nat} {h : zs_H} {x1 : Int32} {x2 : Int32} {x3 : Int32} {x4 : Int32} (H : zcx_P E a h) : zcx_2 E a (f_Ps_invocation_L62  N h x1 x2 x3 x4) := cx_f_Ps_invocation_L62  N h x1 x2 x3 x4 H
theorem cx_f_Ps_invocation_58 {E : zcx_T} {a : Int} {h : zs_H} {x1 : Int32} {x2 : Int32} {y0 : Int32}  (H : zcx_P E a h) : zcx_2 E a (f_Ps_invocation_58 h x1 x2 y0) := by
  unfold f_Ps_invocation_58
  repeat' first
    | with_reducible assumption
    | with_reducible exact zcx_2n
    | with_reducible refine zcx_2s ?_
    | with_reducible refine zcx_2i ?_ ?_
    | with_reducible refine cx_f_Ps_invocation_L62'  ?_
    | with_reducible refine zcx_B2e (cx_f_Ps_invocation_L62'  ?_) ?_
    | intro _
theorem cx_f_Ps_invocation {E : zcx_T} {a : Int} {h : zs_H}  (H : zcx_P E a h) : zcx_2 E a (f_Ps_invocation h) := by
  unfold f_Ps_invocation
  repeat' first
    | with_reducible assumption
    | (with_reducible refine zcx_uK ?_ ?_; · decide +kernel)
    | with_reducible exact zcx_2n
    | with_reducible refine zcx_2s ?_
    | with_reducible refine zcx_2i ?_ ?_
    | with_reducible refine cx_f_Tr_add ?_ ?_
    | with_reducible refine zcx_B2e (cx_f_Tr_add ?_ ?_) ?_
    | with_reducible refine cx_f_Ps_take  ?_
    | with_reducible refine zcx_b2e (cx_f_Ps_take  ?_) ?_
    | with_reducible refine cx_f_Ps_deepen  ?_
    | with_reducible refine zcx_b2e (cx_f_Ps_deepen  ?_) ?_
    | with_reducible refine cx_f_Ps_invocation_58  ?_
    | with_reducible refine zcx_B2e (cx_f_Ps_invocation_58  ?_) ?_
    | intro _
    | decide +kernel
theorem cx_f_Ps_assignment_92 {E : zcx_T} {a : Int} {h : zs_H} {x1 : Int32}  (H : zcx_P E a h) : zcx_2 E a (f_Ps_assignment_92 h x1) := by
  unfold f_Ps_assignment_92
  repeat' first
    | with_reducible assumption
    | with_reducible exact zcx_2n
    | with_reducible refine zcx_2s ?_
    | with_reducible refine zcx_2i ?_ ?_
    | with_reducible refine cx_f_Tr_add ?_ ?_
    | with_reducible refine zcx_B2e (cx_f_Tr_add ?_ ?_) ?_
    | with_reducible refine cx_f_Ps_take  ?_
    | with_reducible refine zcx_b2e (cx_f_Ps_take  ?_) ?_
    | with_reducible refine cx_f_Tr_hang  ?_
    | with_reducible refine zcx_B2e (cx_f_Tr_hang  ?_) ?_
    | with_reducible refine cx_f_Ps_wholeExpression  ?_
    | with_reducible refine zcx_B2e (cx_f_Ps_wholeExpression  ?_) ?_
    | intro _
    | decide +kernel
theorem cx_f_Ps_assignment {E : zcx_T} {a : Int} {h : zs_H}  (H : zcx_P E a h) : zcx_2 E a (f_Ps_assignment h) := by
  unfold f_Ps_assignment
  repeat' first
    | with_reducible assumption
    | (with_reducible refine zcx_uF ?_ ?_; · decide)
    | (with_reducible refine zcx_uM ?_ ?_; · decide)
    | (with_reducible refine zcx_uK ?_ ?_; · decide +kernel)
    | with_reducible exact zcx_2n
    | with_reducible refine zcx_2s ?_
    | with_reducible refine zcx_2i ?_ ?_
    | with_reducible refine cx_f_Tr_add ?_ ?_
    | with_reducible refine zcx_B2e (cx_f_Tr_add ?_ ?_) ?_
    | with_reducible refine cx_f_Ps_take  ?_
    | with_reducible refine zcx_b2e (cx_f_Ps_take  ?_) ?_
    | with_reducible refine cx_f_Ps_deepen  ?_
    | with_reducible refine zcx_b2e (cx_f_Ps_deepen  ?_) ?_
    | with_reducible refine cx_f_Ps_wholeExpression  ?_
    | with_reducible refine zcx_B2e (cx_f_Ps_wholeExpression  ?_) ?_
    | with_reducible refine cx_f_Tr_hang  ?_
    | with_reducible refine zcx_B2e (cx_f_Tr_hang  ?_) ?_
    | with_reducible refine cx_f_Ps_assignment_92  ?_
    | with_reducible refine zcx_B2e (cx_f_Ps_assignment_92  ?_) ?_
    | intro _
    | decide +kernel
theorem cx_f_Ps_caseStatement_152 {E : zcx_T} {a : Int} {h : zs_H} {x1 : Int32}  (H : zcx_P E a h) : zcx_2 E a (f_Ps_caseStatement_152 h x1) := by
  unfold f_Ps_caseStatement_152
  repeat' first
    | with_reducible assumption
    | (with_reducible refine zcx_uF ?_ ?_; · decide)
    | with_reducible exact zcx_2n
    | with_reducible refine zcx_2s ?_
    | with_reducible refine zcx_2i ?_ ?_
    | with_reducible refine cx_f_Ps_take  ?_
    | with_reducible refine zcx_b2e (cx_f_Ps_take  ?_) ?_
    | intro _
theorem cx_f_Ps_ifStatement_125 {E : zcx_T} {a : Int} {h : zs_H} {x1 : Int32}  (H : zcx_P E a h) : zcx_2 E a (f_Ps_ifStatement_125 h x1) := by
  unfold f_Ps_ifStatement_125
  repeat' first
    | with_reducible assumption
    | (with_reducible refine zcx_uF ?_ ?_; · decide)
    | with_reducible exact zcx_2n
    | with_reducible refine zcx_2s ?_
    | with_reducible refine zcx_2i ?_ ?_
    | with_reducible refine cx_f_Ps_take  ?_
    | with_reducible refine zcx_b2e (cx_f_Ps_take  ?_) ?_
    | intro _
theorem cx_f_Ps_statement_103 {E : zcx_T} {a : Int} {h : zs_H} {y0 : Int32}  (H : zcx_P E a h) : zcx_2 E a (f_Ps_statement_103 h y0) := by
  unfold f_Ps_statement_103
  repeat' first
    | with_reducible assumption
    | with_reducible exact zcx_2n
    | with_reducible refine zcx_2s ?_
    | with_reducible refine zcx_2i ?_ ?_
    | with_reducible refine cx_f_Ps_assignment  ?_
    | with_reducible refine zcx_B2e (cx_f_Ps_assignment  ?_) ?_
    | with_reducible refine cx_f_Ps_invocation  ?_
    | with_reducible refine zcx_B2e (cx_f_Ps_invocation  ?_) ?_
    | intro _
theorem cx_f_Ps_statement_102 {E : zcx_T} {a : Int} {h : zs_H}  (H : zcx_P E a h) : zcx_2 E a (f_Ps_statement_102 h) := by
  unfold f_Ps_statement_102
  repeat' first
    | with_reducible assumption
    | with_reducible exact zcx_2n
    | with_reducible refine zcx_2s ?_
    | with_reducible refine zcx_2i ?_ ?_
    | with_reducible refine cx_f_Ps_statement_103  ?_
    | with_reducible refine zcx_B2e (cx_f_Ps_statement_103  ?_) ?_
    | intro _
section ZXT
variable {E : zcx_T} {h : zs_H} {r rc rf ri : zs_H → Option (Int32 × zs_H)}
abbrev zcx_R (E : zcx_T) (r : zs_H → Option (Int32 × zs_H)) : Prop := ∀ h, zcx_P E 2 h → zcx_2 E 0 (r h)
abbrev zcx_S (E : zcx_T) (r : zs_H → Option (Int32 × zs_H)) : Prop := ∀ h, zcx_P E 0 h → zcx_2 E 0 (r h)
theorem zcx_K0 {x : Int32} (hx : (128 : Int32) ≤ x) (H : zcx_P E 0 h) : zcx_1 E 2 (f_Ps_take h x) := cx_takeK hx H
theorem cx_case121 {x1 x2 : Int32} (Hr : zcx_R E r) (H : zcx_P E 0 h) : zcx_2 E 0 (f_Ps_caseStatement_121 r h x1 x2) := by
  unfold f_Ps_caseStatement_121
  refine zcx_2i (fun _ => ?_) (fun _ => cx_f_Ps_caseStatement_152 H)
  refine zcx_b2 (zcx_K0 (by decide) H) ?_
  intro h3 H3
  refine zcx_B2 (Hr _ H3) ?_
  intro v5 h6 H6
  refine zcx_B2 (cx_f_Tr_hang H6) ?_
  intro v8 h9 H9
  exact cx_f_Ps_caseStatement_152 H9
theorem cx_case49 (Hr : zcx_R E r) : ∀ (N : Nat) (h : zs_H) (x1 x2 x3 : Int32), zcx_P E 0 h → zcx_2 E 0 (f_Ps_caseStatement_L49 r N h x1 x2 x3) := by
  intro N
  induction N with
  | zero => intro h x1 x2 x3 _; exact zcx_2n
  | succ N ih =>
    intro h x1 x2 x3 H
    show zcx_2 E 0 (f_Ps_caseStatement_49 r (f_Ps_caseStatement_L49 r N) h x1 x2 x3)
    unfold f_Ps_caseStatement_49
    refine zcx_2i (fun _ => cx_case121 Hr H) (fun _ => zcx_2i (fun _ => cx_case121 Hr H) (fun _ => ?_))
    refine zcx_B2 (cx_f_Tr_add (by decide +kernel) H) ?_
    intro v5 h6 H6
    refine zcx_B2 (cx_f_Tr_hang H6) ?_
    intro v8 h9 H9
    refine zcx_B2 (cx_ranges H9) ?_
    intro v11 h12 H12
    refine zcx_B2 (Hr _ H12) ?_
    intro v14 h15 H15
    refine zcx_B2 (cx_f_Tr_hang H15) ?_
    intro v17 h18 H18
    exact ih _ _ _ _ H18
theorem cx_case (Hr : zcx_R E r) (H : zcx_P E 0 h) : zcx_2 E 0 (g_Ps_caseStatement r h) := by
  unfold g_Ps_caseStatement
  refine zcx_B2 (cx_f_Tr_add (by decide +kernel) H) ?_
  intro v2 h3 H3
  refine zcx_b2 (cx_f_Ps_deepen H3) ?_
  intro h5 H5
  refine zcx_b2 (cx_f_Ps_take H5) ?_
  intro h7 H7
  refine zcx_B2 (cx_f_Ps_wholeExpression H7) ?_
  intro v9 h10 H10
  refine zcx_B2 (cx_f_Tr_hang H10) ?_
  intro v12 h13 H13
  refine zcx_b2 (cx_f_Ps_take H13) ?_
  intro h15 H15
  exact cx_case49 Hr _ _ _ _ _ H15
theorem cx_for124 {x1 x2 : Int32} (Hr : zcx_R E r) (H : zcx_P E 0 h) : zcx_2 E 0 (f_Ps_forStatement_124 r h x1 x2) := by
  unfold f_Ps_forStatement_124
  refine zcx_b2 (zcx_K0 (by decide) H) ?_
  intro h3 H3
  refine zcx_B2 (Hr _ H3) ?_
  intro v5 h6 H6
  refine zcx_B2 (cx_f_Tr_hang H6) ?_
  intro v8 h9 H9
  refine zcx_b2 (cx_f_Ps_take H9) ?_
  intro h10 H10
  exact zcx_2s (zcx_uF (by decide) H10)
theorem cx_for (Hr : zcx_R E r) (H : zcx_P E 0 h) : zcx_2 E 0 (g_Ps_forStatement r h) := by
  unfold g_Ps_forStatement
  refine zcx_B2 (cx_f_Tr_add (by decide +kernel) H) ?_
  intro v2 h3 H3
  refine zcx_b2 (cx_f_Ps_deepen H3) ?_
  intro h5 H5
  refine zcx_b2 (cx_f_Ps_take H5) ?_
  intro h7 H7
  refine zcx_2i (fun _ => zcx_2i (fun _ => ?_) (fun _ => zcx_2n)) (fun _ => zcx_2n)
  refine zcx_b2 (cx_f_Ps_take (zcx_uM (by decide) H7)) ?_
  intro h11 H11
  refine zcx_b2 (cx_f_Ps_take H11) ?_
  intro h13 H13
  refine zcx_B2 (cx_f_Ps_constant H13) ?_
  intro v15 h16 H16
  refine zcx_B2 (cx_f_Tr_hang H16) ?_
  intro v18 h19 H19
  refine zcx_b2 (cx_f_Ps_take H19) ?_
  intro h21 H21
  refine zcx_B2 (cx_f_Ps_constant H21) ?_
  intro v23 h24 H24
  refine zcx_B2 (cx_f_Tr_hang H24) ?_
  intro v26 h27 H27
  refine zcx_2i (fun _ => ?_) (fun _ => cx_for124 Hr H27)
  refine zcx_b2 (cx_f_Ps_take H27) ?_
  intro h30 H30
  refine zcx_B2 (cx_f_Ps_constant H30) ?_
  intro v32 h33 H33
  refine zcx_B2 (cx_f_Tr_hang H33) ?_
  intro v35 h36 H36
  exact cx_for124 Hr H36
theorem cx_if94 {x1 x2 : Int32} (Hr : zcx_R E r) (H : zcx_P E 0 h) : zcx_2 E 0 (f_Ps_ifStatement_94 r h x1 x2) := by
  unfold f_Ps_ifStatement_94
  refine zcx_2i (fun _ => ?_) (fun _ => cx_f_Ps_ifStatement_125 H)
  refine zcx_b2 (zcx_K0 (by decide) H) ?_
  intro h3 H3
  refine zcx_B2 (Hr _ H3) ?_
  intro v5 h6 H6
  refine zcx_B2 (cx_f_Tr_hang H6) ?_
  intro v8 h9 H9
  exact cx_f_Ps_ifStatement_125 H9
theorem cx_if28 (Hr : zcx_R E r) : ∀ (N : Nat) (h : zs_H) (x1 x2 x3 x4 : Int32), zcx_P E 0 h → zcx_2 E 0 (f_Ps_ifStatement_L28 r N h x1 x2 x3 x4) := by
  intro N
  induction N with
  | zero => intro h x1 x2 x3 x4 _; exact zcx_2n
  | succ N ih =>
    intro h x1 x2 x3 x4 H
    show zcx_2 E 0 (f_Ps_ifStatement_28 r (f_Ps_ifStatement_L28 r N) h x1 x2 x3 x4)
    unfold f_Ps_ifStatement_28
    refine zcx_2i (fun _ => cx_if94 Hr H) (fun _ => zcx_2i (fun _ => ?_) (fun _ => cx_if94 Hr H))
    refine zcx_b2 (cx_f_Ps_take H) ?_
    intro h4 H4
    refine zcx_B2 (cx_f_Ps_wholeExpression H4) ?_
    intro v6 h7 H7
    refine zcx_B2 (cx_f_Tr_hang H7) ?_
    intro v9 h10 H10
    refine zcx_b2 (zcx_K0 (by decide) H10) ?_
    intro h12 H12
    refine zcx_B2 (Hr _ H12) ?_
    intro v14 h15 H15
    refine zcx_B2 (cx_f_Tr_hang H15) ?_
    intro v17 h18 H18
    exact ih _ _ _ _ _ H18
theorem cx_if (Hr : zcx_R E r) (H : zcx_P E 0 h) : zcx_2 E 0 (g_Ps_ifStatement r h) := by
  unfold g_Ps_ifStatement
  refine zcx_B2 (cx_f_Tr_add (by decide +kernel) H) ?_
  intro v2 h3 H3
  refine zcx_b2 (cx_f_Ps_deepen H3) ?_
  intro h5 H5
  exact cx_if28 Hr _ _ _ _ _ _ H5
theorem cx_statement (Hc : zcx_S E rc) (Hf : zcx_S E rf) (Hi : zcx_S E ri) (H : zcx_P E 0 h) : zcx_2 E 0 (g_Ps_statement rc rf ri h) := by
  unfold g_Ps_statement
  have w : ∀ (r : zs_H → Option (Int32 × zs_H)), zcx_S E r → zcx_2 E 0 (zd_B (r h) fun v7 h8 => (some (v7, h8))) := fun r Hr => by
    refine zcx_B2 (Hr _ H) ?_
    intro v h' H'
    exact zcx_2s H'
  refine zcx_2i (fun _ => zcx_2i (fun _ => cx_f_Ps_statement_102 H) (fun _ => zcx_2i (fun _ => zcx_2i (fun _ => cx_f_Ps_statement_103 H) (fun _ => cx_f_Ps_statement_102 H)) (fun _ => zcx_2n))) (fun _ => zcx_2i (fun _ => w _ Hi) (fun _ => zcx_2i (fun _ => w _ Hc) (fun _ => zcx_2i (fun _ => w _ Hf) (fun _ => zcx_2i (fun c => ?_) (fun _ => ?_)))))
  · unfold f_Ps_statement_141
    have A : zcx_2 E (-4) (f_Tr_add h 20 (h.1 19 6) 0) := zcx_add H (by rw [if_neg (by decide +kernel), if_pos (by decide +kernel)]; decide)
    intro x h' e
    cases q : f_Tr_add h 20 (h.1 19 6) 0 with
    | none => rw [q] at e; cases e
    | some p =>
      have t5 : p.2.1 19 5 = 156 := by
        unfold f_Tr_add at q
        split at q
        · cases q; exact c
        · cases q
      rw [q] at e
      have B := A p.1 p.2 q
      have e' : ((f_Ps_take p.2 (p.2.1 19 5)).bind fun h5 => some (p.1, h5)) = some (x, h') := e
      rw [t5] at e'
      exact zcx_b2 (cx_takeX B) (fun h5 H5 => zcx_2s (zcx_le H5 (by decide))) x h' e'
  · unfold f_Ps_statement_141
    refine zcx_B2 (cx_f_Tr_add (by decide +kernel) H) ?_
    intro v2 h3 H3
    refine zcx_b2 (cx_f_Ps_take H3) ?_
    intro h5 H5
    exact zcx_2s H5
theorem cx_statements (Hs : zcx_S E r) (H : zcx_P E 2 h) : zcx_2 E 0 (g_Ps_statements r h) := by
  have L : ∀ (N : Nat) (h : zs_H) (x1 x2 x3 : Int32), zcx_P E 0 h → zcx_2 E 0 (f_Ps_statements_L19 r N h x1 x2 x3) := by
    intro N
    induction N with
    | zero => intro h x1 x2 x3 _; exact zcx_2n
    | succ N ih =>
      intro h x1 x2 x3 H
      show zcx_2 E 0 (f_Ps_statements_19 r (f_Ps_statements_L19 r N) h x1 x2 x3)
      unfold f_Ps_statements_19
      have f56 : ∀ (h : zs_H) (x1 x2 x3 : Int32), zcx_P E 0 h → zcx_2 E 0 (f_Ps_statements_56 r (f_Ps_statements_L19 r N) h x1 x2 x3) := fun h x1 x2 x3 H => by
        unfold f_Ps_statements_56
        refine zcx_b2 (cx_f_Ps_take H) ?_
        intro h2 H2
        exact ih _ _ _ _ H2
      refine zcx_2i (fun _ => zcx_2s H) (fun _ => zcx_2i (fun _ => zcx_2s H) (fun _ => zcx_2i (fun _ => f56 _ _ _ _ H) (fun _ => ?_)))
      refine zcx_B2 (Hs _ H) ?_
      intro v6 h7 H7
      refine zcx_B2 (cx_f_Tr_hang H7) ?_
      intro v9 h10 H10
      exact f56 _ _ _ _ H10
  unfold g_Ps_statements
  have A : zcx_2 E 0 (f_Tr_add h 11 (h.1 19 6) 0) := zcx_add H (by rw [if_pos (by decide +kernel), if_neg (by decide +kernel)]; decide)
  refine zcx_B2 A ?_
  intro v2 h3 H3
  exact L _ _ _ _ _ H3
theorem cx_rec2 : ∀ d, zcx_S E (f_Ps_caseStatement d) ∧ zcx_S E (f_Ps_forStatement d) ∧ zcx_S E (f_Ps_ifStatement d) ∧ zcx_S E (f_Ps_statement d) ∧ zcx_R E (f_Ps_statements d) := by
  intro d
  induction d with
  | zero => exact ⟨fun _ _ => zcx_2n, fun _ _ => zcx_2n, fun _ _ => zcx_2n, fun _ _ => zcx_2n, fun _ _ => zcx_2n⟩
  | succ d ih =>
    obtain ⟨a, b, c, e, f⟩ := ih
    rw [zy_ps, zy_pt, zy_pi, zy_pc, zy_pf]
    exact ⟨fun h H => cx_case f H, fun h H => cx_for f H, fun h H => cx_if f H, fun h H => cx_statement a b c H, fun h H => cx_statements e H⟩
end ZXT
