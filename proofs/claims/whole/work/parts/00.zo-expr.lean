/-! Both readers in step: what is to be shown of operands and expressions; whole expressions. -/
section ZO
variable (h0 g0 : zs_H) (T : Nat → Int32) (n K : Nat) (LC : List (List Int32))
def zk_OP (d0 : Nat) : Prop := ∀ {h g : zs_H} {LM : List (List Int32)} {j d s m o q D D' : Nat}, zk_L h0 g0 T n K LC h g LM j d s m o q → d0 ≤ d → o ≤ d → q ≤ d + 1 → 1 ≤ q → 3 * (60 - d) + 4 ≤ D → 4 * (60 - d) + 4 ≤ D' → s ≤ 2 * j + 12 → m ≤ 2 * j + 12 → zk_G h0 g0 T n K LC m 20900 (o + 1) (zk_X h0 g0 T n K LC LM j d s m o q 0 0 h g) (f_Ps_operand D h) (f_Mo_operand D' g)
def zk_EX (d0 : Nat) : Prop := ∀ {h g : zs_H} {LM : List (List Int32)} {j d s m o q D D' lv : Nat}, zk_L h0 g0 T n K LC h g LM j d s m o q → d0 ≤ d → o ≤ d → q ≤ d + 1 → 1 ≤ q → 3 * (60 - d) + 5 ≤ D → 4 * (60 - d) + 4 ≤ D' → s ≤ 2 * j + 12 → m ≤ 2 * j + 12 → lv ≤ 7 → ∃ x h' g' k, d + k ≤ 61 ∧ f_Ps_expression D h (nI lv) = some (x, h') ∧ (∀ N x1 x2 x3, ((f_Mo_operand D' g).bind fun h9 => f_Mo_expression_L38 (f_Mo_operand D') (N + k) h9 x1 x2 x3 (f_Mo_signAt h9)) = f_Mo_expression_L38 (f_Mo_operand D') N g' x1 x2 x3 (f_Mo_signAt g')) ∧ ((zk_X h0 g0 T n K LC LM j d s m o q lv k h g x h' g' ∧ (f_Ps_operator h' = -1 ∨ ∃ sg, sg < 14 ∧ f_Ps_operator h' = nI sg ∧ zo_lv sg < lv)) ∨ zk_Z h0 g0 T n K LC m 20900 (o + k + 1) x h' g')
def zk_EP (d0 : Nat) : Prop := ∀ {h g : zs_H} {LM : List (List Int32)} {j d s m o q D D' b : Nat}, zk_L h0 g0 T n K LC h g LM j d s m o q → d0 ≤ d → o ≤ d → q ≤ d → 1 ≤ q → 3 * (60 - d) + 5 ≤ D → 4 * (60 - d) + 5 ≤ D' → s ≤ 2 * j + 12 → m ≤ 2 * j + 12 → b < m → zk_G h0 g0 T n K LC m 20900 o (zk_E h0 g0 T n K LC LM j d s m o q b h g) (f_Ps_expression D h 0) (f_Mo_expression D' g (nI b))
end ZO
theorem zy_me (d : Nat) : f_Mo_expression (d + 1) = g_Mo_expression (f_Mo_operand d) := rfl
theorem zy_mo (d : Nat) : f_Mo_operand (d + 1) = g_Mo_operand (f_Mo_bracket d) (f_Mo_nameOperand d) (f_Mo_operand d) := rfl
theorem zy_mb (d : Nat) : f_Mo_bracket (d + 1) = g_Mo_bracket (f_Mo_expression d) := rfl
theorem zy_mn (d : Nat) : f_Mo_nameOperand (d + 1) = g_Mo_nameOperand (f_Mo_call d) (f_Mo_element d) := rfl
theorem zy_mc (d : Nat) : f_Mo_call (d + 1) = g_Mo_call (f_Mo_expression d) := rfl
theorem zy_ml (d : Nat) : f_Mo_element (d + 1) = g_Mo_element (f_Mo_expression d) := rfl
theorem zx_uO {g0 g : zs_H} {T : Nat → Int32} {n φ w m O o : Nat} (H : zx_B g0 T n φ w m O g) : zx_B g0 T n φ w m o (zs_uF g 68 25 (nI o)) := by
  obtain ⟨h2, h3, h4, h5, h6, h7, h8, ⟨LM, b, b1, b2, b3, b4⟩, h9, h10, o', h11, h12⟩ := H
  exact ⟨zfr_F (by decide) h2, h3, h4, h5, h6, h7, h8, ⟨LM, b, b1, b2, b3, b4⟩, h9, h10, o, rfl, Nat.le_refl o⟩
/-- behind a fault: the loop ends -/
theorem zxb_L38 {g0 g : zs_H} {T : Nat → Int32} {n φ w m O o N : Nat} {r : zs_H → Option zs_H} {x1 x3 : Int32} (H : zx_B g0 T n φ w m O g) : zw (f_Mo_expression_L38 r (N + 1) g x1 (nI o) x3 (f_Mo_signAt g)) (zx_B g0 T n φ w m o) := by
  show zw (f_Mo_expression_38 r (f_Mo_expression_L38 r N) g x1 (nI o) x3 (f_Mo_signAt g)) _
  rw [zx_signAt H]
  unfold f_Mo_expression_38
  rw [if_pos (by decide)]
  have key : ∀ y : Int32, zw (f_Mo_expression_118 (zs_uF g 68 13 ((g.1 68 13) - 1)) x1 (nI o) y) (zx_B g0 T n φ w m o) := by
    intro y
    have H2 := zx_uF (v := (g.1 68 13) - 1) H (k := 68) (j := 13) (Or.inr rfl)
    unfold f_Mo_expression_118 f_Mo_expression_144
    rw [if_neg (zx_ne H2), zw_some]
    exact zx_uO (zx_uF H2 (Or.inl rfl))
  split
  · exact key _
  · exact key _
section ZO2
variable {h0 g0 h g : zs_H} {T : Nat → Int32} {n K : Nat} {LC LM : List (List Int32)} {j d s m o q : Nat}
/-- an expression, from the loop on; df: how many are open behind it -/
theorem zk_expr0 {d0 D D' b : Nat} (EX : zk_EX h0 g0 T n K LC d0) (H : zk_L h0 g0 T n K LC h g LM j d s m o q) (h1 : d0 ≤ d) (h2 : o ≤ d) (h3 : q ≤ d) (h5 : 3 * (60 - d) + 5 ≤ D) (h6 : 4 * (60 - d) + 5 ≤ D') (h7 : s ≤ 2 * j + 12) (h8 : m ≤ 2 * j + 12) (hb : b < m) : ∃ x h' g', f_Ps_expression D h 0 = some (x, h') ∧ f_Mo_expression D' g (nI b) = some g' ∧ ((∃ (t : zt_T) (LM' : List (List Int32)) (j' d' s' m' a : Nat), (zg_T zg_E ((60 - d) + (d' - d) + 2) t ∧ zg_c t = 0) ∧ LM <+: LM' ∧ (d ≤ d' ∧ d' ≤ 60 ∧ (h'.1 19 7) = nI d') ∧ (∀ h2 df, df = (if q = 0 then d else d') → zfr [(19, 7)] [] [] h' h2 → (h2.1 19 7) = nI df → zk_L h0 g0 T n K LC h2 g' LM' j' df s' m' o q) ∧ (j < j' ∧ s < s' ∧ s' ≤ s + 2 * (j' - j) ∧ m < m' ∧ m' ≤ m + 2 * (j' - j)) ∧ (x = nI a ∧ s ≤ a ∧ a < s') ∧ zt_C h' t (fun i => s ≤ i ∧ i < s') (nI a) (nI a) ∧ zq_kp s h h' ∧ zx_AP LC LM LM' b m m' t g g' ∧ zo_fr o g g') ∨ zk_Z h0 g0 T n K LC m 20900 o x h' g') := by
  obtain ⟨x1, x2, x3, x4, x5, x6, x7⟩ := zk_dd H
  have m2 := H.2.2.2.2.2.2.1
  obtain ⟨D', rfl⟩ : ∃ z, D' = z + 1 := ⟨D' - 1, by omega⟩
  have fg : zfr zo_fs zo_ms [] g (zs_uF g 68 13 (nI (q + 1))) := zfr_F (by decide) zfr_rfl
  have H1 := zk_hg H zfr_rfl fg x1 x2 x3 x4 x5 x6 rfl
  obtain ⟨x, h', g', k, hk, e1, e2, R⟩ := EX (D := D) (D' := D') (lv := 0) H1 h1 h2 (by omega) (by omega) h5 (by omega) h7 h8 (by omega)
  rw [zy_me]
  unfold g_Mo_expression
  rw [if_pos (show (g.1 68 10) ≤ 0 by rw [m2]; decide), x2, x6, x7, nI_1]
  have ez : zF = (18446744073709551615 - k) + k + 1 := by
    have : zF = 18446744073709551616 := rfl
    omega
  rw [ez, show 18446744073709551615 - k + k + 1 = (18446744073709551615 - k + 1) + k by omega, e2 (18446744073709551615 - k + 1) (nI b) (nI o) (nI d)]
  rcases R with ⟨⟨t, LM', j', d', s', m', a, ⟨r0, r0c⟩, r1, r2, ⟨r3, r4, r5, r6, r7, r8⟩, r9, r10, r11, r12, r13, r14⟩, r15⟩ | ⟨vx, φ, w, m', w1, w2, z1, z2⟩
  · have hop : f_Ps_operator h' = -1 := by
      rcases r15 with z | ⟨sg, _, _, z⟩
      · exact z
      · omega
    obtain ⟨y1, y2, y3, y4, y5, y6, y7⟩ := zk_dd r2
    have hKb := zk_bK r2
    rw [zk_oper r2, hop]
    show ∃ x h' g'', _ ∧ f_Mo_expression_38 (f_Mo_operand D') (f_Mo_expression_L38 (f_Mo_operand D') (18446744073709551615 - k)) g' (nI b) (nI o) (nI d) (-1) = some g'' ∧ _
    unfold f_Mo_expression_38
    rw [if_pos (by decide), y7, show nI (q + 1) - 1 = nI q by rw [show (1 : Int32) = nI 1 from rfl, zi_sub (by omega)]; rfl, y2]
    have fin : ∀ df : Nat, df = (if q = 0 then d else d') → ∃ g2, f_Mo_expression_118 (zs_uF g' 68 13 (nI q)) (nI b) (nI o) (nI df) = some g2 ∧ zx_AP LC LM LM' b m (m' + k) t g g2 ∧ zo_fr o g g2 ∧ (∀ h2, zfr [(19, 7)] [] [] h' h2 → (h2.1 19 7) = nI df → df ≤ 60 → zk_L h0 g0 T n K LC h2 g2 LM' j' df s' (m' + k) o q) := by
      intro df hdf
      exact zk_xend (df := df) (g := g) (LM := LM) (b := b) (q := q) (m := m) (m' := m') (o := o) (k := k) r2 r1 r12 r13 r14 r7 (by omega) (by omega) (by omega) hb (by omega) rfl
    have fin2 : ∀ df : Nat, df = (if q = 0 then d else d') → ∃ x h' g'', f_Ps_expression D h 0 = some (x, h') ∧ f_Mo_expression_118 (zs_uF g' 68 13 (nI q)) (nI b) (nI o) (nI df) = some g'' ∧ ((∃ (t : zt_T) (LM' : List (List Int32)) (j' d' s' m' a : Nat), (zg_T zg_E ((60 - d) + (d' - d) + 2) t ∧ zg_c t = 0) ∧ LM <+: LM' ∧ (d ≤ d' ∧ d' ≤ 60 ∧ (h'.1 19 7) = nI d') ∧ (∀ h2 df, df = (if q = 0 then d else d') → zfr [(19, 7)] [] [] h' h2 → (h2.1 19 7) = nI df → zk_L h0 g0 T n K LC h2 g'' LM' j' df s' m' o q) ∧ (j < j' ∧ s < s' ∧ s' ≤ s + 2 * (j' - j) ∧ m < m' ∧ m' ≤ m + 2 * (j' - j)) ∧ (x = nI a ∧ s ≤ a ∧ a < s') ∧ zt_C h' t (fun i => s ≤ i ∧ i < s') (nI a) (nI a) ∧ zq_kp s h h' ∧ zx_AP LC LM LM' b m m' t g g'' ∧ zo_fr o g g'') ∨ zk_Z h0 g0 T n K LC m 20900 o x h' g'') := by
      intro df hdf
      obtain ⟨g2, e3, ap, fr, hL⟩ := fin df hdf
      have hmm : m < m' + k := zo_Sne k r12
      exact ⟨x, h', g2, e1, e3, Or.inl ⟨t, LM', j', d', s', m' + k, a, ⟨r0, r0c⟩, r1, ⟨by omega, y3, y1⟩, fun h2 df2 hd2 f1 f2 => by rw [hd2, ← hdf] at f2 ⊢; exact hL h2 f1 f2 (by rw [hdf]; split <;> omega), ⟨r3, r5, r6, hmm, by omega⟩, r9, r10, r11, ap, fr⟩⟩
    by_cases hq : q = 0
    · rw [if_pos (show nI q = 0 by rw [hq]; rfl)]
      exact fin2 d (by rw [if_pos hq])
    · rw [if_neg (fun z => hq ((zc_eq (k := 0) (by decide) (by omega)).mp z))]
      exact fin2 d' (by rw [if_neg hq])
  · obtain ⟨g2, e3, z3⟩ := zxb_L38 (o := o) (r := f_Mo_operand D') (N := 18446744073709551615 - k) (x1 := nI b) (x3 := nI d) z2
    exact ⟨x, h', g2, e1, e3, Or.inr ⟨vx, φ, w, m', w1, w2, z1, z3⟩⟩
theorem zk_EPof {d0 : Nat} (EX : zk_EX h0 g0 T n K LC d0) : zk_EP h0 g0 T n K LC d0 := by
  intro h g LM j d s m o q D D' b H h1 h2 h3 h4 h5 h6 h7 h8 hb
  obtain ⟨x, h', g', e1, e2, R⟩ := zk_expr0 EX H h1 h2 h3 h5 h6 h7 h8 hb
  refine ⟨x, h', g', e1, e2, ?_⟩
  rcases R with ⟨t, LM', j', d', s', m', a, r0, r1, ⟨r2, r2a, r2b⟩, r3, ⟨r4, r5, r6, r7, r8⟩, r9, r10, r11, r12, r13⟩ | R
  · exact Or.inl ⟨t, LM', j', d', s', m', a, r0, r1, r3 h' d' (by rw [if_neg (by omega)]) zfr_rfl r2b, ⟨r4, r2, r5, r6, r7, r8⟩, r9, r10, r11, r12, r13⟩
  · exact Or.inr R
/-- a whole expression -/
theorem zk_whole {b : Nat} (EX : zk_EX h0 g0 T n K LC 0) (H : zk_L h0 g0 T n K LC h g LM j d s m 0 0) (h7 : s ≤ 2 * j + 12) (h8 : m ≤ 2 * j + 12) (hb : b < m) : zk_G h0 g0 T n K LC m 20900 0 (zk_T h0 g0 T n K LC LM (zg_T zg_E (2 * (60 - d) + 2)) j d s m 0 0 b h g) (f_Ps_wholeExpression h) (f_Mo_expression 400 g (nI b)) := by
  obtain ⟨x1, x2, x3, x4, x5, x6, x7⟩ := zk_dd H
  obtain ⟨x, h', g', e1, e2, R⟩ := zk_expr0 (D := 400) (D' := 400) EX H (Nat.zero_le _) (Nat.zero_le _) (Nat.zero_le _) (by omega) (by omega) h7 h8 hb
  unfold f_Ps_wholeExpression
  rw [e1, zo_B, e2]
  refine ⟨x, _, g', rfl, rfl, ?_⟩
  rcases R with ⟨t, LM', j', d', s', m', a, ⟨r0, r0c⟩, r1, ⟨r2, r2a, r2b⟩, r3, ⟨r4, r5, r6, r7, r8⟩, ⟨r9, r9a, r9b⟩, r10, r11, r12, r13⟩ | ⟨vx, φ, w, m', w1, w2, z1, z2⟩
  · refine Or.inl ⟨t, LM', j', s', m', a, ⟨zg_Tm r0 (fun _ z => z) (by omega), by omega⟩, r1, r3 _ d (by rw [if_pos rfl]) (zfr_F (by decide) zfr_rfl) (by rw [← x1]; rfl), r4, r5, r6, r7, r8, r9, r9a, r9b, r10, r11, r12⟩
  · exact Or.inr ⟨vx, φ, w, m', w1, w2, zz_open z1, z2⟩
end ZO2
