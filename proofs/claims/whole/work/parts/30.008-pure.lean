section
/-! Both readers in step: what is to be shown of operands and expressions; whole expressions. -/
section ZO
variable (h0 g0 : zs_H) (T : Nat → Int32) (n K : Nat) (LC : List (List Int32))
def zk_OP (d0 : Nat) : Prop := ∀ {h g : zs_H} {LM : List (List Int32)} {j d s m o q D D' : Nat}, zk_L h0 g0 T n K LC h g LM j d s m o q → d0 ≤ d → o ≤ d → q ≤ d + 1 → 1 ≤ q → 3 * (60 - d) + 4 ≤ D → 4 * (60 - d) + 4 ≤ D' → s ≤ 2 * j + 12 → m ≤ 2 * j + 12 → zk_G h0 g0 T n K LC m 20900 (o + 1) (zk_X h0 g0 T n K LC LM j d s m o q 0 0 h g) (f_Ps_operand D h) (f_Mo_operand D' g)
def zk_EX (d0 : Nat) : Prop := ∀ {h g : zs_H} {LM : List (List Int32)} {j d s m o q D D' lv : Nat}, zk_L h0 g0 T n K LC h g LM j d s m o q → d0 ≤ d → o ≤ d → q ≤ d + 1 → 1 ≤ q → 3 * (60 - d) + 5 ≤ D → 4 * (60 - d) + 4 ≤ D' → s ≤ 2 * j + 12 → m ≤ 2 * j + 12 → lv ≤ 7 → ∃ x h' g' k, d + k ≤ 61 ∧ f_Ps_expression D h (nI lv) = some (x, h') ∧ (∀ N x1 x2 x3, ((f_Mo_operand D' g).bind fun h9 => f_Mo_expression_L38 (f_Mo_operand D') (N + k) h9 x1 x2 x3 (f_Mo_signAt h9)) = f_Mo_expression_L38 (f_Mo_operand D') N g' x1 x2 x3 (f_Mo_signAt g')) ∧ ((zk_X h0 g0 T n K LC LM j d s m o q lv k h g x h' g' ∧ (f_Ps_operator h' = -1 ∨ ∃ sg, sg < 14 ∧ f_Ps_operator h' = nI sg ∧ zo_lv sg < lv)) ∨ zk_Z h0 g0 T n K LC m 20900 (o + k + 1) x h' g')
def zk_EP (d0 : Nat) : Prop := ∀ {h g : zs_H} {LM : List (List Int32)} {j d s m o q D D' b : Nat}, zk_L h0 g0 T n K LC h g LM j d s m o q → d0 ≤ d → o ≤ d → q ≤ d → 1 ≤ q → 3 * (60 - d) + 5 ≤ D → 4 * (60 - d) + 5 ≤ D' → s ≤ 2 * j + 12 → m ≤ 2 * j + 12 → b < m → zk_G h0 g0 T n K LC m 20900 o (zk_E h0 g0 T n K LC LM j d s m o q b h g) (f_Ps_expression D h 0) (f_Mo_expression D' g (nI b))
end ZO
theorem zy_me (d : Nat) : f_Mo_expression (d + 1) = g_Mo_expression (f_Mo_operand d) := rfl
theorem zy_mo (d : Nat) : f_Mo_operand (d + 1) = g_Mo_operand (f_Mo_bracket d) (f_Mo_nameOperand d) (f_Mo_operand d) := rfl
theorem zy_mb (d : Nat) : f_Mo_bracket (d + 1) = g_Mo_bracket (f_Mo_expression d) := rfl
theorem zy_mn (d : Nat) : f_Mo_nameOperand (d + 1) = g_Mo_nameOperand (f_Mo_call d) (f_Mo_element d) := rfl
theorem zy_mc (d : Nat) : f_Mo_call (d + 1) = g_Mo_call (f_Mo_expression d) := rfl
theorem zy_ml (d : Nat) : f_Mo_element (d + 1) = g_Mo_element (f_Mo_expression d) := rfl
theorem zx_uO {g0 g : zs_H} {T : Nat → Int32} {n φ w m O o : Nat} (H : zx_B g0 T n φ w m O g) : zx_B g0 T n φ w m o (zs_uF g 68 25 (nI o)) := by
  obtain ⟨h2, h3, h4, h5, h6, h7, h8, ⟨LM, b, b1, b2, b3, b4⟩, h9, h10, o', h11, h12⟩ := H
  exact ⟨zfr_F (by decide) h2, h3, h4, h5, h6, h7, h8, ⟨LM, b, b1, b2, b3, b4⟩, h9, h10, o, rfl, Nat.le_refl o⟩
/-- behind a fault: the loop ends -/
theorem zxb_L38 {g0 g : zs_H} {T : Nat → Int32} {n φ w m O o N : Nat} {r : zs_H → Option zs_H} {x1 x3 : Int32} (H : zx_B g0 T n φ w m O g) : zw (f_Mo_expression_L38 r (N + 1) g x1 (nI o) x3 (f_Mo_signAt g)) (zx_B g0 T n φ w m o) := by
  show zw (f_Mo_expression_38 r (f_Mo_expression_L38 r N) g x1 (nI o) x3 (f_Mo_signAt g)) _
  rw [zx_signAt H]
  unfold f_Mo_expression_38
  rw [if_pos (by decide)]
  have key : ∀ y : Int32, zw (f_Mo_expression_118 (zs_uF g 68 13 ((g.1 68 13) - 1)) x1 (nI o) y) (zx_B g0 T n φ w m o) := by
    intro y
    have H2 := zx_uF (v := (g.1 68 13) - 1) H (k := 68) (j := 13) (Or.inr rfl)
    unfold f_Mo_expression_118 f_Mo_expression_144
    rw [if_neg (zx_ne H2), zw_some]
    exact zx_uO (zx_uF H2 (Or.inl rfl))
  split
  · exact key _
  · exact key _
section ZO2
variable {h0 g0 h g : zs_H} {T : Nat → Int32} {n K : Nat} {LC LM : List (List Int32)} {j d s m o q : Nat}
/-- an expression, from the loop on; df: how many are open behind it -/
theorem zk_expr0 {d0 D D' b : Nat} (EX : zk_EX h0 g0 T n K LC d0) (H : zk_L h0 g0 T n K LC h g LM j d s m o q) (h1 : d0 ≤ d) (h2 : o ≤ d) (h3 : q ≤ d) (h5 : 3 * (60 - d) + 5 ≤ D) (h6 : 4 * (60 - d) + 5 ≤ D') (h7 : s ≤ 2 * j + 12) (h8 : m ≤ 2 * j + 12) (hb : b < m) : ∃ x h' g', f_Ps_expression D h 0 = some (x, h') ∧ f_Mo_expression D' g (nI b) = some g' ∧ ((∃ (t : zt_T) (LM' : List (List Int32)) (j' d' s' m' a : Nat), (zg_T zg_E ((60 - d) + (d' - d) + 2) t ∧ zg_c t = 0) ∧ LM <+: LM' ∧ (d ≤ d' ∧ d' ≤ 60 ∧ (h'.1 19 7) = nI d') ∧ (∀ h2 df, df = (if q = 0 then d else d') → zfr [(19, 7)] [] [] h' h2 → (h2.1 19 7) = nI df → zk_L h0 g0 T n K LC h2 g' LM' j' df s' m' o q) ∧ (j < j' ∧ s < s' ∧ s' ≤ s + 2 * (j' - j) ∧ m < m' ∧ m' ≤ m + 2 * (j' - j)) ∧ (x = nI a ∧ s ≤ a ∧ a < s') ∧ zt_C h' t (fun i => s ≤ i ∧ i < s') (nI a) (nI a) ∧ zq_kp s h h' ∧ zx_AP LC LM LM' b m m' t g g' ∧ zo_fr o g g') ∨ zk_Z h0 g0 T n K LC m 20900 o x h' g') := by
  obtain ⟨x1, x2, x3, x4, x5, x6, x7⟩ := zk_dd H
  have m2 := H.2.2.2.2.2.2.1
  obtain ⟨D', rfl⟩ : ∃ z, D' = z + 1 := ⟨D' - 1, by omega⟩
  have fg : zfr zo_fs zo_ms [] g (zs_uF g 68 13 (nI (q + 1))) := zfr_F (by decide) zfr_rfl
  have H1 := zk_hg H zfr_rfl fg x1 x2 x3 x4 x5 x6 rfl
  obtain ⟨x, h', g', k, hk, e1, e2, R⟩ := EX (D := D) (D' := D') (lv := 0) H1 h1 h2 (by omega) (by omega) h5 (by omega) h7 h8 (by omega)
  rw [zy_me]
  unfold g_Mo_expression
  rw [if_pos (show (g.1 68 10) ≤ 0 by rw [m2]; decide), x2, x6, x7, nI_1]
  have ez : zF = (18446744073709551615 - k) + k + 1 := by
    have : zF = 18446744073709551616 := rfl
    omega
  rw [ez, show 18446744073709551615 - k + k + 1 = (18446744073709551615 - k + 1) + k by omega, e2 (18446744073709551615 - k + 1) (nI b) (nI o) (nI d)]
  rcases R with ⟨⟨t, LM', j', d', s', m', a, ⟨r0, r0c⟩, r1, r2, ⟨r3, r4, r5, r6, r7, r8⟩, r9, r10, r11, r12, r13, r14⟩, r15⟩ | ⟨vx, φ, w, m', w1, w2, z1, z2⟩
  · have hop : f_Ps_operator h' = -1 := by
      rcases r15 with z | ⟨sg, _, _, z⟩
      · exact z
      · omega
    obtain ⟨y1, y2, y3, y4, y5, y6, y7⟩ := zk_dd r2
    have hKb := zk_bK r2
    rw [zk_oper r2, hop]
    show ∃ x h' g'', _ ∧ f_Mo_expression_38 (f_Mo_operand D') (f_Mo_expression_L38 (f_Mo_operand D') (18446744073709551615 - k)) g' (nI b) (nI o) (nI d) (-1) = some g'' ∧ _
    unfold f_Mo_expression_38
    rw [if_pos (by decide), y7, show nI (q + 1) - 1 = nI q by rw [show (1 : Int32) = nI 1 from rfl, zi_sub (by omega)]; rfl, y2]
    have fin : ∀ df : Nat, df = (if q = 0 then d else d') → ∃ g2, f_Mo_expression_118 (zs_uF g' 68 13 (nI q)) (nI b) (nI o) (nI df) = some g2 ∧ zx_AP LC LM LM' b m (m' + k) t g g2 ∧ zo_fr o g g2 ∧ (∀ h2, zfr [(19, 7)] [] [] h' h2 → (h2.1 19 7) = nI df → df ≤ 60 → zk_L h0 g0 T n K LC h2 g2 LM' j' df s' (m' + k) o q) := by
      intro df hdf
      exact zk_xend (df := df) (g := g) (LM := LM) (b := b) (q := q) (m := m) (m' := m') (o := o) (k := k) r2 r1 r12 r13 r14 r7 (by omega) (by omega) (by omega) hb (by omega) rfl
    have fin2 : ∀ df : Nat, df = (if q = 0 then d else d') → ∃ x h' g'', f_Ps_expression D h 0 = some (x, h') ∧ f_Mo_expression_118 (zs_uF g' 68 13 (nI q)) (nI b) (nI o) (nI df) = some g'' ∧ ((∃ (t : zt_T) (LM' : List (List Int32)) (j' d' s' m' a : Nat), (zg_T zg_E ((60 - d) + (d' - d) + 2) t ∧ zg_c t = 0) ∧ LM <+: LM' ∧ (d ≤ d' ∧ d' ≤ 60 ∧ (h'.1 19 7) = nI d') ∧ (∀ h2 df, df = (if q = 0 then d else d') → zfr [(19, 7)] [] [] h' h2 → (h2.1 19 7) = nI df → zk_L h0 g0 T n K LC h2 g'' LM' j' df s' m' o q) ∧ (j < j' ∧ s < s' ∧ s' ≤ s + 2 * (j' - j) ∧ m < m' ∧ m' ≤ m + 2 * (j' - j)) ∧ (x = nI a ∧ s ≤ a ∧ a < s') ∧ zt_C h' t (fun i => s ≤ i ∧ i < s') (nI a) (nI a) ∧ zq_kp s h h' ∧ zx_AP LC LM LM' b m m' t g g'' ∧ zo_fr o g g'') ∨ zk_Z h0 g0 T n K LC m 20900 o x h' g'') := by
      intro df hdf
      obtain ⟨g2, e3, ap, fr, hL⟩ := fin df hdf
      have hmm : m < m' + k := zo_Sne k r12
      exact ⟨x, h', g2, e1, e3, Or.inl ⟨t, LM', j', d', s', m' + k, a, ⟨r0, r0c⟩, r1, ⟨by omega, y3, y1⟩, fun h2 df2 hd2 f1 f2 => by rw [hd2, ← hdf] at f2 ⊢; exact hL h2 f1 f2 (by rw [hdf]; split <;> omega), ⟨r3, r5, r6, hmm, by omega⟩, r9, r10, r11, ap, fr⟩⟩
    by_cases hq : q = 0
    · rw [if_pos (show nI q = 0 by rw [hq]; rfl)]
      exact fin2 d (by rw [if_pos hq])
    · rw [if_neg (fun z => hq ((zc_eq (k := 0) (by decide) (by omega)).mp z))]
      exact fin2 d' (by rw [if_neg hq])
  · obtain ⟨g2, e3, z3⟩ := zxb_L38 (o := o) (r := f_Mo_operand D') (N := 18446744073709551615 - k) (x1 := nI b) (x3 := nI d) z2
    exact ⟨x, h', g2, e1, e3, Or.inr ⟨vx, φ, w, m', w1, w2, z1, z3⟩⟩
theorem zk_EPof {d0 : Nat} (EX : zk_EX h0 g0 T n K LC d0) : zk_EP h0 g0 T n K LC d0 := by
  intro h g LM j d s m o q D D' b H h1 h2 h3 h4 h5 h6 h7 h8 hb
  obtain ⟨x, h', g', e1, e2, R⟩ := zk_expr0 EX H h1 h2 h3 h5 h6 h7 h8 hb
  refine ⟨x, h', g', e1, e2, ?_⟩
  rcases R with ⟨t, LM', j', d', s', m', a, r0, r1, ⟨r2, r2a, r2b⟩, r3, ⟨r4, r5, r6, r7, r8⟩, r9, r10, r11, r12, r13⟩ | R
  · exact Or.inl ⟨t, LM', j', d', s', m', a, r0, r1, r3 h' d' (by rw [if_neg (by omega)]) zfr_rfl r2b, ⟨r4, r2, r5, r6, r7, r8⟩, r9, r10, r11, r12, r13⟩
  · exact Or.inr R
/-- a whole expression -/
theorem zk_whole {b : Nat} (EX : zk_EX h0 g0 T n K LC 0) (H : zk_L h0 g0 T n K LC h g LM j d s m 0 0) (h7 : s ≤ 2 * j + 12) (h8 : m ≤ 2 * j + 12) (hb : b < m) : zk_G h0 g0 T n K LC m 20900 0 (zk_T h0 g0 T n K LC LM (zg_T zg_E (2 * (60 - d) + 2)) j d s m 0 0 b h g) (f_Ps_wholeExpression h) (f_Mo_expression 400 g (nI b)) := by
  obtain ⟨x1, x2, x3, x4, x5, x6, x7⟩ := zk_dd H
  obtain ⟨x, h', g', e1, e2, R⟩ := zk_expr0 (D := 400) (D' := 400) EX H (Nat.zero_le _) (Nat.zero_le _) (Nat.zero_le _) (by omega) (by omega) h7 h8 hb
  unfold f_Ps_wholeExpression
  rw [e1, zo_B, e2]
  refine ⟨x, _, g', rfl, rfl, ?_⟩
  rcases R with ⟨t, LM', j', d', s', m', a, ⟨r0, r0c⟩, r1, ⟨r2, r2a, r2b⟩, r3, ⟨r4, r5, r6, r7, r8⟩, ⟨r9, r9a, r9b⟩, r10, r11, r12, r13⟩ | ⟨vx, φ, w, m', w1, w2, z1, z2⟩
  · refine Or.inl ⟨t, LM', j', s', m', a, ⟨zg_Tm r0 (fun _ z => z) (by omega), by omega⟩, r1, r3 _ d (by rw [if_pos rfl]) (zfr_F (by decide) zfr_rfl) (by rw [← x1]; rfl), r4, r5, r6, r7, r8, r9, r9a, r9b, r10, r11, r12⟩
  · exact Or.inr ⟨vx, φ, w, m', w1, w2, zz_open z1, z2⟩
end ZO2
end
section
/-! Both readers in step: an operand's node, in the model hung nowhere. -/
/-- nothing of what was there has changed -/
def zk_Y (s m o : Nat) (LM : List (List Int32)) (h g : zs_H) (LM' : List (List Int32)) (h' g' : zs_H) : Prop := zq_kp s h h' ∧ zx_ka m g g' ∧ zo_fr o g g' ∧ LM <+: LM'
theorem zk_Yr {s m o : Nat} {LM : List (List Int32)} {h g : zs_H} : zk_Y s m o LM h g LM h g := ⟨zq_kp_r, fun _ _ => ⟨rfl, rfl, rfl, rfl, rfl, rfl, rfl⟩, fun _ _ => ⟨rfl, rfl, rfl⟩, List.prefix_refl _⟩
theorem zk_Yt {s m o s' m' o' : Nat} {LM LM1 LM2 : List (List Int32)} {h g h1 g1 h2 g2 : zs_H} (a : zk_Y s m o LM h g LM1 h1 g1) (c : zk_Y s' m' o' LM1 h1 g1 LM2 h2 g2) (e1 : s ≤ s') (e2 : m ≤ m') (e3 : o ≤ o') : zk_Y s m o LM h g LM2 h2 g2 := ⟨zq_kp_t a.1 c.1 e1, zx_ka_t a.2.1 c.2.1 e2, zo_fr_t a.2.2.1 c.2.2.1 e3, a.2.2.2.trans c.2.2.2⟩
theorem zx_ka_f {m : Nat} {g g' : zs_H} {fs : List (Nat × Nat)} (f : zfr fs [] [] g g') : zx_ka m g g' := fun i _ => ⟨congrFun (f.2.1 _ List.not_mem_nil) i, congrFun (f.2.1 _ List.not_mem_nil) i, congrFun (f.2.1 _ List.not_mem_nil) i, congrFun (f.2.1 _ List.not_mem_nil) i, congrFun (f.2.1 _ List.not_mem_nil) i, congrFun (f.2.1 _ List.not_mem_nil) i, congrFun (f.2.1 _ List.not_mem_nil) i⟩
theorem zk_Yk {s m o : Nat} {LM LM' : List (List Int32)} {h g h' g' : zs_H} (f : zk_tf h g h' g') (hp : LM <+: LM') : zk_Y s m o LM h g LM' h' g' := ⟨zq_kp_f f.1, zx_ka_l f.2, zo_fr_f f.2 (by decide) (by decide) (by decide), hp⟩
theorem zk_Yo {s m o : Nat} {LM : List (List Int32)} {h g h' g' : zs_H} {fs fs' : List (Nat × Nat)} (f : zfr fs [] [] h h') (f' : zfr fs' [] [] g g') : zk_Y s m o LM h g LM h' g' := ⟨zq_kp_f f, zx_ka_f f', zo_fr_f f' List.not_mem_nil List.not_mem_nil List.not_mem_nil, List.prefix_refl _⟩
theorem zx_Om {g0 g : zs_H} {T : Nat → Int32} {n φ w m O O' : Nat} (H : zx_B g0 T n φ w m O g) (h : O ≤ O') : zx_B g0 T n φ w m O' g := by
  obtain ⟨h2, h3, h4, h5, h6, h7, h8, h9, h10, h11, o, h12, h13⟩ := H
  exact ⟨h2, h3, h4, h5, h6, h7, h8, h9, h10, h11, o, h12, by omega⟩
theorem zg_Um {kd st D D' : Nat} {u : zt_T} (H : zg_U kd st D u) (h : D ≤ D') : zg_U kd st D' u := ⟨H.1, H.2.1, by have := H.2.2; omega⟩
/-- an operand's node is being read: in the class node s, in the model node m, which hangs nowhere -/
def zk_J (h0 g0 : zs_H) (T : Nat → Int32) (n K : Nat) (LC LM : List (List Int32)) (j d s m o q kd : Nat) (p v : Int32) (h g : zs_H) (u : zt_T) (y : Int32) (LM' : List (List Int32)) (j' d' s' m' e st D : Nat) (h' g' : zs_H) : Prop :=
  zk_L h0 g0 T n K LC h' g' LM' j' d' s' m' o q ∧ zq_kp s h h' ∧ ((h'.2.1 13) s = nI kd ∧ (h'.2.1 15) s = p ∧ (h'.2.1 16) s = v ∧ (h'.2.1 18) s = -1 ∧ zt_C h' u (fun i => s < i ∧ i < s') ((h'.2.1 17) s) y) ∧ (∃ LM1 g1, (LM <+: LM1 ∧ LM1 <+: LM') ∧ zx_ka m g g1 ∧ (g1.2.1 76) m = -1 ∧ (g1.2.1 77) m = -1 ∧ zt_Nf LC LM1 g1 m kd p v ∧ (g1.2.1 75) m = -1 ∧ (g1.2.1 78) m = -1 ∧ zx_AP LC LM1 LM' m (m + 1) m' u g1 g') ∧ zo_fr o g g' ∧ (j ≤ j' ∧ d ≤ d' ∧ s < s' ∧ m < m' ∧ s' + e ≤ s + 1 + 2 * (j' - j) ∧ m' + e ≤ m + 1 + 2 * (j' - j) ∧ s < 32784 ∧ m < 33500) ∧ zg_U kd st D u ∧ zg_c u = 0
section ZP
variable {h0 g0 h g h' g' : zs_H} {T : Nat → Int32} {n K : Nat} {LC LM LM' : List (List Int32)} {j d s m o q kd j' d' s' m' e st D : Nat} {p v y : Int32} {u : zt_T}
/-- it begins -/
theorem zk_J1 {h2 g2 : zs_H} {LM2 : List (List Int32)} {j2 d2 : Nat} (L2 : zk_L h0 g0 T n K LC h2 g2 LM2 j2 d2 (s + 1) m o q) {km p v w : Int32} (Y : zk_Y s m o LM h g LM2 h2 g2) (hj : j ≤ j2) (hd : d ≤ d2) (hn : (h2.2.1 13) s = nI kd ∧ (h2.2.1 15) s = p ∧ (h2.2.1 16) s = v ∧ (h2.2.1 18) s = -1 ∧ (h2.2.1 17) s = -1) (hs : s < 32784) (hm : m < 33500) (hkm : km = nI (zt_km kd)) (hv : if zt_nk kd = true then zt_nr LC LM2 v w else w = v) : ∃ g3, f_Mo_node g2 km p w = some (nI m, g3) ∧ zk_J h0 g0 T n K LC LM j d s m o q kd p v h g .leaf (-1) LM2 j2 d2 (s + 1) (m + 1) (2 * (j2 - j)) 0 D h2 g3 := by
  obtain ⟨y1, y2, y3, y4⟩ := Y
  obtain ⟨g3, e3, L3, qN⟩ := zk_mnode L2 p w hm hkm
  have kN := zx_ka_N qN
  obtain ⟨q1, q2, q3, q4, q5, q6, q7, q8, q9⟩ := qN
  refine ⟨g3, e3, L3, y1, ⟨hn.1, hn.2.1, hn.2.2.1, hn.2.2.2.1, hn.2.2.2.2, rfl⟩, ⟨LM2, g3, ⟨y4, List.prefix_refl _⟩, zx_ka_t y2 kN (Nat.le_refl m), by rw [q6, if_pos rfl], by rw [q7, if_pos rfl], ⟨by rw [q2, if_pos rfl], fun _ => by rw [q3, if_pos rfl], by rw [q4, if_pos rfl]; exact hv⟩, by rw [q5, if_pos rfl], by rw [q8, if_pos rfl], zx_AP_0 (List.prefix_refl _) (fun i _ => ⟨rfl, rfl, rfl, rfl, rfl, rfl, rfl⟩) (by omega)⟩, zo_fr_t y3 (zo_fr_f q9 (by decide) (by decide) (by decide)) (Nat.le_refl o), by omega, zg_U0, rfl⟩
theorem zk_Jb (I : zk_J h0 g0 T n K LC LM j d s m o q kd p v h g u y LM' j' d' s' m' e st D h' g') : j ≤ j' ∧ j' ≤ K ∧ K ≤ 10240 ∧ s < s' ∧ m < m' ∧ s' + e ≤ s + 1 + 2 * (j' - j) ∧ m' + e ≤ m + 1 + 2 * (j' - j) ∧ s < 32784 ∧ m < 33500 ∧ d ≤ d' ∧ d' ≤ 60 := by
  have a := zk_bK I.1
  have b := (zk_dd I.1).2.2.1
  have c := I.2.2.2.2.2.1
  omega
/-- something else has changed: a token, or what is open -/
theorem zk_Jt (I : zk_J h0 g0 T n K LC LM j d s m o q kd p v h g u y LM' j' d' s' m' e st D h' g') {h2 g2 : zs_H} {LM2 : List (List Int32)} {d2 j2 : Nat} (Y : zk_Y s' m' o LM' h' g' LM2 h2 g2) (hd : d ≤ d2) (hj : j' ≤ j2) (L2 : zk_L h0 g0 T n K LC h2 g2 LM2 j2 d2 s' m' o q) : zk_J h0 g0 T n K LC LM j d s m o q kd p v h g u y LM2 j2 d2 s' m' (e + 2 * (j2 - j')) st D h2 g2 := by
  obtain ⟨k, y2, y3, y4⟩ := Y
  obtain ⟨i1, i3, ⟨c1, c2, c3, c4, c5⟩, ⟨LM1, g1, ⟨p1, p2⟩, m1, m2, m3, m4, m5, m6, m7⟩, i4, ⟨n1, n2, n3, n4, n5, n6, n7, n8⟩, w1, w2⟩ := I
  obtain ⟨k1, k2, k3, k4, k5⟩ := k s n3
  refine ⟨L2, zq_kp_t i3 k (by omega), ⟨k1.trans c1, k2.trans c2, k3.trans c3, k5.trans c4, ?_⟩, ⟨LM1, g1, ⟨p1, p2.trans y4⟩, m1, m2, m3, m4, m5, m6, ?_⟩, zo_fr_t i4 y3 (Nat.le_refl o), by omega, w1, w2⟩
  · rw [k4]; exact zt_Ck k (fun i hi => hi.2) c5
  · have := zx_AP_t m7 (zx_AP_0 y4 y2 n4) (by omega) (Nat.le_refl _) (by omega)
    rwa [zt_ap_leaf] at this
/-- a tree below it -/
theorem zk_Jc0 (I : zk_J h0 g0 T n K LC LM j d s m o q kd p v h g u y LM' j' d' s' m' e st D h' g') {h2 g2 : zs_H} {S : List Nat} {t : zt_T} {LM3 : List (List Int32)} {j3 d3 s3 m3 a st' D' e' : Nat} (r0 : zg_T S D' t) (r0c : zg_c t = 0) (r1 : LM' <+: LM3) (r2 : zk_L h0 g0 T n K LC h2 g2 LM3 j3 d3 s3 m3 o q) (r3 : j' ≤ j3 ∧ d ≤ d3 ∧ s' < s3 ∧ s3 + e' ≤ s' + e + 2 * (j3 - j') ∧ m' < m3 ∧ m3 + e' ≤ m' + e + 2 * (j3 - j')) (r9 : s' ≤ a ∧ a < s3) (r11 : zt_C h2 t (fun i => s' ≤ i ∧ i < s3) (nI a) (nI a)) (r12 : zq_kp s' h' h2) (r13 : zx_AP LC LM' LM3 m m' m3 t g' g2) (r14 : zo_fr o g' g2) (hq : ∀ c ∈ S, zg_q kd st c = st') (hD : D ≤ D') : ∃ h3, f_Tr_hang h2 (nI s) y (nI a) = some (nI a, h3) ∧ zk_J h0 g0 T n K LC LM j d s m o q kd p v h g (zt_ap u t) (nI a) LM3 j3 d3 s3 m3 e' st' D' h3 g2 := by
  obtain ⟨i1, i3, ⟨c1, c2, c3, c4, c5⟩, ⟨LM1, g1, ⟨p1, p2⟩, m1, m2, m3', m4, m5, m6, m7⟩, i4, ⟨n1, n2, n3, n4, n5, n6, n7, n8⟩, w1, w2⟩ := I
  have hs3 : s3 ≤ 32784 := r2.2.2.2.1.2.2.2.2.2.2
  obtain ⟨k1, k2, k3, k4, k5⟩ := r12 s n3
  have c5' : zt_C h2 u (fun i => s < i ∧ i < s') ((h2.2.1 17) s) y := by rw [k4]; exact zt_Ck r12 (fun i hi => hi.2) c5
  obtain ⟨h3, e1, e2, e3, e4⟩ := zq_hangC (ip := s) (a := a) (by omega) (fun i hi => by omega) c5' r11 (fun i hi z => by omega) (by omega) (by omega) (by omega)
  refine ⟨h3, e1, zk_cf r2 e4 (by decide), ?_, ⟨(e3 s).1.trans (k1.trans c1), (e3 s).2.1.trans (k2.trans c2), (e3 s).2.2.1.trans (k3.trans c3), ((e3 s).2.2.2.2 (by omega)).trans (k5.trans c4), zt_Cm (fun i hi => by omega) e2⟩, ⟨LM1, g1, ⟨p1, p2.trans r1⟩, m1, m2, m3', m4, m5, m6, zx_AP_t m7 r13 (by omega) (by omega) (by omega)⟩, zo_fr_t i4 r14 (Nat.le_refl o), by omega, zg_U1 (zg_Um w1 hD) r0 hq, by rw [zg_c_ap, w2, r0c]⟩
  intro i hi
  obtain ⟨x1, x2, x3, x4, x5⟩ := i3 i hi
  obtain ⟨y1, y2, y3, y4, y5⟩ := r12 i (by omega)
  obtain ⟨z1, z2, z3, z4, z5⟩ := e3 i
  exact ⟨z1.trans (y1.trans x1), z2.trans (y2.trans x2), z3.trans (y3.trans x3), (z4 (by omega)).trans (y4.trans x4), (z5 (by omega)).trans (y5.trans x5)⟩
/-- an expression below it -/
theorem zk_Jc (I : zk_J h0 g0 T n K LC LM j d s m o q kd p v h g u y LM' j' d' s' m' e st D h' g') {h2 g2 : zs_H} {x : Int32} {st' dd : Nat} (R : zk_E h0 g0 T n K LC LM' j' d' s' m' o q m h' g' x h2 g2) (hq : ∀ c ∈ zg_E, zg_q kd st c = st') (h1 : dd ≤ d') (h2' : D ≤ (60 - dd) + (d' - dd) + 2) : ∃ h3 u3 LM3 j3 d3 s3 m3, f_Tr_hang h2 (nI s) y x = some (x, h3) ∧ j' < j3 ∧ d' ≤ d3 ∧ zq_v x ∧ zk_J h0 g0 T n K LC LM j d s m o q kd p v h g u3 x LM3 j3 d3 s3 m3 e st' ((60 - dd) + (d3 - dd) + 2) h3 g2 := by
  have b := zk_Jb I
  obtain ⟨t, LM3, j3, d3, s3, m3', a, ⟨r0, r0c⟩, r1, r2, ⟨r3, r4, r5, r6, r7, r8⟩, ⟨r9, r9a, r9b⟩, r11, r12, r13, r14⟩ := R
  have b2 := zk_bK r2
  subst r9
  obtain ⟨h3, e1, J⟩ := zk_Jc0 (e' := e) (D' := (60 - dd) + (d3 - dd) + 2) I (zg_Tm r0 (fun _ z => z) (by omega)) r0c r1 r2 (by omega) ⟨r9a, r9b⟩ r11 r12 r13 r14 hq (by omega)
  exact ⟨h3, _, LM3, j3, d3, s3, m3', e1, r3, r4, ⟨a, by omega, rfl⟩, J⟩
/-- what it is then in the model -/
theorem zk_Jm (I : zk_J h0 g0 T n K LC LM j d s m o q kd p v h g u y LM' j' d' s' m' e st D h' g') : zt_M LC LM' g' (zt_n kd p v u) (fun i => m ≤ i ∧ i < m') (-1) (nI m) (nI m) ∧ zx_ka m g g' ∧ LM <+: LM' := by
  obtain ⟨i1, i3, ⟨c1, c2, c3, c4, c5⟩, ⟨LM1, g1, ⟨p1, p2⟩, m1, m2, m3, m4, m5, m6, m7⟩, i4, ⟨n1, n2, n3, n4, n5, n6, n7, n8⟩, w1, w2⟩ := I
  obtain ⟨c1, c2⟩ := m7 (fun _ => False) .leaf (fun i z => z.elim) ⟨m2, m3⟩
  obtain ⟨k0, k1, k2, k3, k4, k5⟩ := c1
  refine ⟨?_, zx_ka_t m1 k0 (Nat.le_refl m), p1.trans p2⟩
  exact zo_mk (P1 := fun i => m + 1 ≤ i ∧ i < m') (by omega) (zt_Nfm p2 k1 k2 k3 m4) (k4.trans m5) (k5.trans m6) (by omega) (fun i hi => by omega) (zt_Mm (fun i hi => hi.elim (fun z => z.elim) (fun z => z)) c2)
theorem zk_Jw (I : zk_J h0 g0 T n K LC LM j d s m o q kd p v h g u y LM' j' d' s' m' e st D h' g') : zt_C h' (zt_n kd p v u) (fun i => s ≤ i ∧ i < s') (nI s) (nI s) := by
  have b := zk_Jb I
  obtain ⟨i1, i3, ⟨c1, c2, c3, c4, c5⟩, _⟩ := I
  exact zt_Cm (fun i hi => by omega) (zt_Cp (by omega) (by omega) c1 c2 c3 c4 c5)
/-- the model keeps it; then something else may change -/
theorem zk_Jk (I : zk_J h0 g0 T n K LC LM j d s m o q kd p v h g u y LM' j' d' s' m' e st D h' g') (ho : o < 200) (ha : zg_A kd st = true) (hv : zg_v kd v) (hS : kd ∈ zg_E) (h37 : ¬ kd = 37) : ∃ g2, f_Mo_keep g' (nI m) = some g2 ∧ zk_L h0 g0 T n K LC h' g2 LM' j' d' s' m' (o + 1) q ∧ ∀ {h3 g3 : zs_H} {LM3 : List (List Int32)} {j3 d3 : Nat}, zk_Y s' m' (o + 1) LM' h' g2 LM3 h3 g3 → zk_L h0 g0 T n K LC h3 g3 LM3 j3 d3 s' m' (o + 1) q → j' ≤ j3 → j < j3 → 1 + 2 * j' ≤ e + 2 * j3 → d ≤ d3 → D ≤ (60 - d) + (d3 - d) + 1 → zk_X h0 g0 T n K LC LM j d s m o q 0 0 h g (nI s) h3 g3 := by
  have b := zk_Jb I
  obtain ⟨M1, M2, M3⟩ := zk_Jm I
  have C1 := zk_Jw I
  obtain ⟨g2, e1, L2, e2, e3, e4⟩ := zk_keep I.1 ho (nI m)
  refine ⟨g2, e1, L2, fun {h3 g3 LM3 j3 d3} Y L3 hj hj2 he hd hD => ?_⟩
  obtain ⟨y1, y2, y3, y4⟩ := Y
  have ka2 : zx_ka m' g' g2 := fun i _ => ⟨congrFun (e4.2.1 _ (by decide)) i, congrFun (e4.2.1 _ (by decide)) i, congrFun (e4.2.1 _ (by decide)) i, congrFun (e4.2.1 _ (by decide)) i, congrFun (e4.2.1 _ (by decide)) i, congrFun (e4.2.1 _ (by decide)) i, congrFun (e4.2.1 _ (by decide)) i⟩
  have ka3 := zx_ka_t ka2 y2 (Nat.le_refl m')
  have i4 := I.2.2.2.2.1
  obtain ⟨w1, w2⟩ := I.2.2.2.2.2.2
  refine ⟨zt_n kd p v u, LM3, j3, d3, s', m', s, ⟨zg_Tm (zg_n w1 ha hv hS (fun z => by rw [z] at hS; exact absurd hS (by decide))) (fun _ z => z) (by omega), by rw [zg_c_n h37]; exact w2⟩, M3.trans y4, L3, ⟨hj2, by omega, b.2.2.2.1, by omega, by omega, by omega⟩, ⟨rfl, Nat.le_refl s, b.2.2.2.1⟩, zt_Ck y1 (fun i hi => hi.2) C1, zq_kp_t I.2.1 y1 (by omega), ?_, zx_ka_t M2 ka3 (by omega), zo_fr_t (zo_fr_t i4 e3 (Nat.le_refl o)) y3 (by omega)⟩
  refine ⟨rfl, m, kd, p, v, u, rfl, ⟨Nat.le_refl m, b.2.2.2.2.1⟩, by omega, ?_, zt_Mk y4 ka3 (fun i hi => hi.2) M1⟩
  rw [(y3 o (by omega)).1]; exact e2
end ZP
end
section
/-! Both readers in step: operands without a name. -/
theorem zq_hang_o {h h5 : zs_H} {x1 x2 x3 v x : Int32} (e : f_Tr_hang (zs_uF h 19 7 v) x1 x2 x3 = some (x, h5)) : ∃ h6, f_Tr_hang h x1 x2 x3 = some (x, h6) ∧ (h6.1 19 7) = (h.1 19 7) ∧ zs_uF h6 19 7 v = h5 := by
  unfold f_Tr_hang at e ⊢
  by_cases c : x2 = -1
  · rw [if_pos c] at e ⊢
    by_cases c2 : zd_in x1 32784
    · rw [if_pos c2] at e ⊢
      cases e
      exact ⟨_, rfl, rfl, rfl⟩
    · rw [if_neg c2] at e; cases e
  · rw [if_neg c] at e ⊢
    by_cases c2 : zd_in x2 32784
    · rw [if_pos c2] at e ⊢
      cases e
      exact ⟨_, rfl, rfl, rfl⟩
    · rw [if_neg c2] at e; cases e
theorem zk_Yc {s m o : Nat} {LM : List (List Int32)} {h g h' : zs_H} (a : zq_kp s h h') : zk_Y s m o LM h g LM h' g := ⟨a, fun _ _ => ⟨rfl, rfl, rfl, rfl, rfl, rfl, rfl⟩, fun _ _ => ⟨rfl, rfl, rfl⟩, List.prefix_refl _⟩
section ZQm
variable {g0 g : zs_H} {T : Nat → Int32} {n φ w m O : Nat}
theorem zxw_next2 (H : zx_B g0 T n φ w m O g) : zw (f_Mo_next2 g) (zx_B g0 T n φ w m O) := by rw [zx_next2 H, zw_some]; exact H
theorem zxw_expression {d : Nat} {x : Int32} (H : zx_B g0 T n φ w m O g) : zw (f_Mo_expression (d + 1) g x) (zx_B g0 T n φ w m O) := by rw [zxb_expression H, zw_some]; exact H
theorem zxw_operand {d : Nat} (H : zx_B g0 T n φ w m O g) : zw (f_Mo_operand (d + 1) g) (zx_B g0 T n φ w m O) := by rw [zxb_operand H, zw_some]; exact H
end ZQm
section ZQ
variable {h0 g0 h g : zs_H} {T : Nat → Int32} {n K : Nat} {LC LM : List (List Int32)} {j d s m o q : Nat}
theorem zk_nx2 (H : zk_L h0 g0 T n K LC h g LM j d s m o q) : f_Mo_next2 g = f_Mo_next g := by
  unfold f_Mo_next2
  rw [if_pos (H.2.2.2.2.2.2.1)]
  cases f_Mo_next g <;> rfl
/-- a number, TRUE or FALSE -/
theorem zk_olf {kd : Nat} {kc v2 w2 x : Int32} {X : zs_H → Int32} (H : zk_L h0 g0 T n K LC h g LM j d s m o q) (ho : o ≤ d) (hs : s ≤ 2 * j + 12) (hm : m ≤ 2 * j + 12) (hk : kd < 100) (hkc : kc = nI kd) (hkm : zt_km kd = kd) (hnk : zt_nk kd = false) (hS : kd ∈ zg_E) (h37 : ¬ kd = 37) (ha : zg_A kd 0 = true) (hv : zg_v kd v2) (hw : w2 = v2) (hx : (h.1 19 5) = x) (h6 : ¬ x = 6) (hX : ∀ h3, (h3.1 19 5) = (h.1 19 5) → X h3 = x) : zk_G h0 g0 T n K LC m 20900 (o + 1) (zk_X h0 g0 T n K LC LM j d s m o q 0 0 h g) (zd_B (f_Tr_add h kc ((h.1 19 6)) v2) fun v2 h3 => ((f_Ps_take h3 (X h3)).bind fun h5 => (some (v2, h5)))) (zd_B (f_Mo_node g kc ((g.1 68 7)) w2) fun v2 h3 => ((f_Mo_keep h3 v2).bind fun h5 => ((f_Mo_next h5).bind fun h7 => (some h7)))) := by
  have bK := zk_bK H
  have x3 := (zk_dd H).2.2.1
  have m4 := H.2.2.2.2.2.2.2.2.1
  obtain ⟨h1, e1, L1, qA⟩ := zk_cadd H (kd := kd) (kv := kc) (v := v2) (by omega) (by omega) hkc
  have qA' := qA
  obtain ⟨a1, a2, a3, a4, a5, a6, a7⟩ := qA'
  obtain ⟨g1, e2, J1⟩ := zk_J1 (D := 0) (LM := LM) (h := h) (g := g) (kd := kd) (km := kc) (p := nI (zl_at T n j).2.1) (v := v2) (w := w2) (j := j) (d := d) L1 (zk_Yc (zq_kp_A qA)) (Nat.le_refl j) (Nat.le_refl d) ⟨by rw [a2, if_pos rfl], by rw [a3, if_pos rfl], by rw [a4, if_pos rfl], by rw [a6, if_pos rfl], by rw [a5, if_pos rfl]⟩ (by omega) (by omega) (by rw [hkm]; exact hkc) (by rw [if_neg (by rw [hnk]; decide)]; exact hw)
  obtain ⟨g2, e3, L2, fin⟩ := zk_Jk J1 (by omega) ha hv hS h37
  have etk : (h1.1 19 5) = (h.1 19 5) := a7.1 _ _ (by decide)
  rw [e1, zo_B, m4, e2, zo_B, e3, Option.bind_some, hX h1 etk]
  have v0 : zq_v (nI s) := ⟨s, by omega, rfl⟩
  obtain ⟨h3, g3, e4, e5, f3, f4, R⟩ := zk_step L2 (zk_notE L2 (by rw [etk, hx]; exact h6))
  rw [etk, hx] at e4
  rw [e4, e5]
  rcases R with ⟨LM3, hp, L3⟩ | ⟨φ, w, z1, z2⟩
  · exact ⟨nI s, h3, g3, rfl, rfl, Or.inl (fin (zk_Yk ⟨f3, f4⟩ hp) L3 (by omega) (by omega) (by omega) (Nat.le_refl d) (by omega))⟩
  · exact ⟨nI s, h3, g3, rfl, rfl, Or.inr ⟨v0, φ, w, m + 1, by omega, by omega, z1, z2⟩⟩
/-- - and NOT -/
theorem zk_one {D D' c : Nat} (OP : d < 60 → zk_OP h0 g0 T n K LC (d + 1)) (H : zk_L h0 g0 T n K LC h g LM j d s m o q) (ho : o ≤ d) (hq : q ≤ d + 1) (hq1 : 1 ≤ q) (hD : 3 * (60 - d) + 3 ≤ D) (hD' : 4 * (60 - d) + 3 ≤ D') (hs : s ≤ 2 * j + 12) (hm : m ≤ 2 * j + 12) (hc : c < 2) (h6 : ¬ (h.1 19 5) = 6) : zk_G h0 g0 T n K LC m 20900 (o + 1) (zk_X h0 g0 T n K LC LM j d s m o q 0 0 h g) (f_Ps_operand_88 (f_Ps_operand D) h (nI c) ((h.1 19 6)) 36) (f_Mo_operand_46 (f_Mo_operand D') g (nI c) ((g.1 68 7)) 36) := by
  have bK := zk_bK H
  have x3 := (zk_dd H).2.2.1
  have m4 := H.2.2.2.2.2.2.2.2.1
  obtain ⟨D, rfl⟩ : ∃ z, D = z + 1 := ⟨D - 1, by omega⟩
  obtain ⟨D', rfl⟩ : ∃ z, D' = z + 1 := ⟨D' - 1, by omega⟩
  have v0 : zq_v (nI s) := ⟨s, by omega, rfl⟩
  obtain ⟨h1, e1, L1, qA⟩ := zk_cadd H (kd := 36) (kv := 36) (v := nI c) (by omega) (by omega) rfl
  have qA' := qA
  obtain ⟨a1, a2, a3, a4, a5, a6, a7⟩ := qA'
  obtain ⟨g1, e2, J1⟩ := zk_J1 (D := 0) (LM := LM) (h := h) (g := g) (kd := 36) (km := 36) (p := nI (zl_at T n j).2.1) (v := nI c) (w := nI c) (j := j) (d := d) L1 (zk_Yc (zq_kp_A qA)) (Nat.le_refl j) (Nat.le_refl d) ⟨by rw [a2, if_pos rfl], by rw [a3, if_pos rfl], by rw [a4, if_pos rfl], by rw [a6, if_pos rfl], by rw [a5, if_pos rfl]⟩ (by omega) (by omega) rfl (by rw [if_neg (by decide)])
  unfold f_Ps_operand_88 f_Mo_operand_46
  rw [e1, zo_B, m4, e2, zo_B]
  obtain ⟨h2, g2, e3, e4, R⟩ := zk_deep J1.1
  rw [e3, e4, Option.bind_some, Option.bind_some]
  rcases R with ⟨hd, L2, f1, f2⟩ | ⟨φ, w, z1, z2⟩
  · have J2 := zk_Jt J1 (zk_Yo f1 f2) (by omega) (Nat.le_refl j) L2
    obtain ⟨h3, g3, e5, e6, f3, f4, R⟩ := zk_step L2 (zk_notE L2 (by rw [L2.2.2.2.1.2.2.1, ← H.2.2.2.1.2.2.1]; exact h6))
    rw [e5, zk_nx2 L2, e6, Option.bind_some, Option.bind_some]
    rcases R with ⟨LM3, hp, L3⟩ | ⟨φ, w, z1, z2⟩
    · have J3 := zk_Jt J2 (zk_Yk ⟨f3, f4⟩ hp) (by omega) (by omega) L3
      obtain ⟨x, h4, g4, e7, e8, R⟩ := OP hd (D := D + 1) (D' := D' + 1) L3 (Nat.le_refl _) (by omega) (by omega) hq1 (by omega) (by omega) (by omega) (by omega)
      rw [e7, e8, zo_B, Option.bind_some]
      rcases R with ⟨t, LM4, j4, d4, s4, m4', a, ⟨r0, r0c⟩, r1, r2, ⟨r3, r4, r5, r6, r7, r8⟩, ⟨r9, r9a, r9b⟩, r10, r11, r12, r13, r14⟩ | ⟨vx, φ, w, m', w1, w2, z1, z2⟩
      · obtain ⟨_, a', kd, pp, vv, l, et, ha', ha2, hpt, hM⟩ := r12
        obtain ⟨y1, y2, y3, y4, y5, y6, y7⟩ := zk_dd r2
        have b4 := zk_bK r2
        have m2 := r2.2.2.2.2.2.2.1
        rw [if_pos m2]
        have eo : (g4.1 68 25) - 1 = nI o := by
          rw [y6, show (1 : Int32) = nI 1 from rfl, zi_sub (by omega)]; rfl
        have ed : (g4.1 68 12) - 1 = nI (d4 - 1) := by
          rw [y2, show (1 : Int32) = nI 1 from rfl, zi_sub (by omega)]
        have ed' : (h4.1 19 7) - 1 = nI (d4 - 1) := by
          rw [y1, show (1 : Int32) = nI 1 from rfl, zi_sub (by omega)]
        rw [eo, ed, if_pos (zi_in (by omega) (by omega)), nI_clamp (by omega), hpt]
        have fB : zfr [(68, 12), (68, 25)] [] [] g4 (zs_uF (zs_uF g4 68 12 (nI (d4 - 1))) 68 25 (nI o)) := zfr_F (by decide) (zfr_F (by decide) zfr_rfl)
        obtain ⟨gB, hgB⟩ : ∃ gB, gB = zs_uF (zs_uF g4 68 12 (nI (d4 - 1))) 68 25 (nI o) := ⟨_, rfl⟩
        rw [← hgB] at fB ⊢
        have eA : ∀ k, gB.2.1 k = g4.2.1 k := fun k => fB.2.1 k List.not_mem_nil
        have WB : zx_W gB m4' := by unfold zx_W; rw [eA, eA]; exact y5
        obtain ⟨gC, e9, H1, H2⟩ := zx_hang (g := gB) (m := m4') (a := a') (b := m) (by omega) (by omega) (by omega) WB
        rw [e9, Option.bind_some]
        have fC := H1.2.2.2
        have ap : zx_AP LC LM3 LM4 m (m + 1) m4' t g3 gC := by
          rw [et] at hM ⊢
          exact zx_AP_h r1 (zx_ka_t r13 (zx_ka_f fB) (Nat.le_refl _)) H1 (zt_Mk (List.prefix_refl _) (zx_ka_f (m := m4') fB) (fun i hi => hi.2) hM) (fun i hi => hi) (by omega) (by omega)
        have Lc : zk_L h0 g0 T n K LC (zs_uF h4 19 7 (nI (d4 - 1))) gC LM4 j4 (d4 - 1) s4 m4' o q := by
          refine zk_hg r2 (zfr_F (by decide) zfr_rfl) (zfr_trans (zfr_w fB (by decide) (by decide) (by decide)) (zfr_w fC (by decide) (by decide) (by decide))) rfl ?_ (by omega) ?_ H2 ?_ ?_
          · rw [fC.1 _ _ (by decide), hgB]; rfl
          · rw [fC.1 _ _ (by decide), fB.1 _ _ (by decide)]; exact y4
          · rw [fC.1 _ _ (by decide), hgB]; rfl
          · rw [fC.1 _ _ (by decide), fB.1 _ _ (by decide)]; exact y7
        have fh : zfr [(19, 7)] [] [] h4 (zs_uF h4 19 7 (nI (d4 - 1))) := zfr_F (by decide) zfr_rfl
        obtain ⟨h5, e10, J5⟩ := zk_Jc0 (e' := 2) (D' := (60 - d) + (d4 - 1 - d) + 1) J3 (zg_Tm r0 (fun _ z => z) (by omega)) r0c r1 Lc (by omega) ⟨r9a, r9b⟩ (zt_Ck (zq_kp_f (s := s4) fh) (fun i hi => hi.2) r10) (zq_kp_t r11 (zq_kp_f (s := s4) fh) (by omega)) ap (zo_fr_t (zo_fr_t r14 (zo_fr_f fB (by decide) (by decide) (by decide)) (Nat.le_refl o)) (zo_fr_f fC (by decide) (by decide) (by decide)) (Nat.le_refl o)) (show ∀ c ∈ zg_E, zg_q 36 0 c = 1 by decide) (by omega)
        obtain ⟨h6', e11, e12, e13⟩ := zq_hang_o e10
        rw [r9, e11, zo_B, e12, ed', e13]
        obtain ⟨g6, e14, L6, fin⟩ := zk_Jk J5 (by omega) rfl (Or.inr ⟨c, hc, rfl, fun z => by omega⟩) (by decide) (by decide)
        rw [e14]
        exact ⟨nI s, h5, g6, rfl, rfl, Or.inl (fin zk_Yr L6 (Nat.le_refl _) (by omega) (by omega) (by omega) (by omega))⟩
      · refine zk_Gf (φ := φ) (w := w) ?_ ?_
        · repeat' first
            | with_reducible exact zw_some.mpr ⟨by assumption, by assumption⟩
            | with_reducible exact zw_some.mpr ⟨by assumption, zz_open (by assumption)⟩
            | (rw [zw_B]; with_reducible refine zw_mono (zz_expression (by assumption)) ?_; rintro _ ⟨_, _⟩)
            | (rw [zw_B]; with_reducible refine zw_mono (zz_operand (by assumption)) ?_; rintro _ ⟨_, _⟩)
            | (rw [zw_bind]; with_reducible refine zw_mono (zz_take (by assumption)) ?_; intro _ _)
            | (rw [zw_B]; with_reducible refine zw_mono (zz_constant (by assumption)) ?_; rintro _ ⟨_, _⟩)
            | (rw [zw_B]; with_reducible refine zw_mono (zz_simpleType (by assumption)) ?_; rintro _ ⟨_, _⟩)
            | (rw [zw_B]; with_reducible refine zw_mono (zz_type (by assumption)) ?_; rintro _ ⟨_, _⟩)
            | (rw [zw_B]; with_reducible refine zw_mono (zz_whole (by assumption)) ?_; rintro _ ⟨_, _⟩)
            | (rw [zw_B]; with_reducible refine zw_mono (zz_add (by assumption)) ?_; rintro _ ⟨_, _⟩)
            | (rw [zw_B]; with_reducible refine zw_mono (zz_hang (by assumption) (by assumption) (by first | assumption | exact zq_vl_n | exact zq_vl_v (by assumption)) (by assumption)) ?_; rintro _ ⟨_, _⟩)
            | rw [if_pos (zq_at (by assumption))]
            | rw [zz_isCell (by assumption), if_pos rfl]
            | rw [if_neg (zq_ne (by assumption) (by decide) (by decide))]
        · repeat' first
            | (with_reducible refine zw_some.mpr ⟨_, ⟨?_, ?_⟩, by assumption⟩ <;> omega)
            | (with_reducible refine zw_some.mpr ⟨_, ⟨?_, ?_⟩, zx_Om (by assumption) ?_⟩ <;> omega)
            | (with_reducible refine zw_some.mpr ⟨_, ⟨?_, ?_⟩, zx_Om (zx_uF (by assumption) (Or.inl rfl)) ?_⟩ <;> omega)
            | (rw [zw_bind]; with_reducible refine zw_mono (zxw_next2 (by assumption)) ?_; intro _ _)
            | (rw [zw_bind]; with_reducible refine zw_mono (zx_open (by assumption)) ?_; intro _ _)
            | (rw [zw_bind]; with_reducible refine zw_mono (zxw_expression (by assumption)) ?_; intro _ _)
            | (rw [zw_bind]; with_reducible refine zw_mono (zxw_operand (by assumption)) ?_; intro _ _)
            | (rw [zw_bind]; with_reducible refine zw_mono (zxb_keep (by assumption) (by omega)) ?_; intro _ _)
            | (rw [zw_B]; with_reducible refine zw_mono (zxb_node (by assumption) (by omega) rfl) ?_; rintro _ ⟨e1, _⟩; try rw [e1])
            | (rw [zw_bind]; with_reducible refine zw_mono (zxw_wantSign (by assumption)) ?_; intro _ _)
            | (rw [zw_bind]; with_reducible refine zw_mono (zxw_wantWord (by assumption)) ?_; intro _ _)
            | (rw [zw_bind]; with_reducible refine zw_mono (zxw_want (by assumption)) ?_; intro _ _)
            | (rw [zw_bind]; with_reducible refine zw_mono (zx_next (by assumption)) ?_; intro _ _)
            | (rw [zw_bind]; with_reducible refine zw_mono (zxb_constant (by assumption) (by omega) (by omega)) ?_; intro _ _)
            | (rw [zw_bind]; with_reducible refine zw_mono (zxw_simple (by assumption) (by omega) (by omega)) ?_; rintro _ ⟨_, _, _, _⟩)
            | (rw [zw_B]; with_reducible refine zw_mono (zxb_add (by assumption) (by omega) rfl (by omega)) ?_; rintro _ ⟨e1, _⟩; try rw [e1])
            | rw [zx_isSign (by assumption), if_pos rfl]
            | rw [zx_isWord (by assumption), if_pos rfl]
            | rw [if_neg (zx_ne (by assumption))]
            | rw [if_neg (zx_pos (by assumption))]
            | rw [if_pos (show (0 : Int32) ≤ 0 by decide)]
    · refine zk_Gf (φ := φ) (w := w) ?_ ?_
      · repeat' first
          | with_reducible exact zw_some.mpr ⟨by assumption, by assumption⟩
          | with_reducible exact zw_some.mpr ⟨by assumption, zz_open (by assumption)⟩
          | (rw [zw_B]; with_reducible refine zw_mono (zz_expression (by assumption)) ?_; rintro _ ⟨_, _⟩)
          | (rw [zw_B]; with_reducible refine zw_mono (zz_operand (by assumption)) ?_; rintro _ ⟨_, _⟩)
          | (rw [zw_bind]; with_reducible refine zw_mono (zz_take (by assumption)) ?_; intro _ _)
          | (rw [zw_B]; with_reducible refine zw_mono (zz_constant (by assumption)) ?_; rintro _ ⟨_, _⟩)
          | (rw [zw_B]; with_reducible refine zw_mono (zz_simpleType (by assumption)) ?_; rintro _ ⟨_, _⟩)
          | (rw [zw_B]; with_reducible refine zw_mono (zz_type (by assumption)) ?_; rintro _ ⟨_, _⟩)
          | (rw [zw_B]; with_reducible refine zw_mono (zz_whole (by assumption)) ?_; rintro _ ⟨_, _⟩)
          | (rw [zw_B]; with_reducible refine zw_mono (zz_add (by assumption)) ?_; rintro _ ⟨_, _⟩)
          | (rw [zw_B]; with_reducible refine zw_mono (zz_hang (by assumption) (by assumption) (by first | assumption | exact zq_vl_n | exact zq_vl_v (by assumption)) (by assumption)) ?_; rintro _ ⟨_, _⟩)
          | rw [if_pos (zq_at (by assumption))]
          | rw [zz_isCell (by assumption), if_pos rfl]
          | rw [if_neg (zq_ne (by assumption) (by decide) (by decide))]
      · repeat' first
          | (with_reducible refine zw_some.mpr ⟨_, ⟨?_, ?_⟩, by assumption⟩ <;> omega)
          | (with_reducible refine zw_some.mpr ⟨_, ⟨?_, ?_⟩, zx_Om (by assumption) ?_⟩ <;> omega)
          | (with_reducible refine zw_some.mpr ⟨_, ⟨?_, ?_⟩, zx_Om (zx_uF (by assumption) (Or.inl rfl)) ?_⟩ <;> omega)
          | (rw [zw_bind]; with_reducible refine zw_mono (zxw_next2 (by assumption)) ?_; intro _ _)
          | (rw [zw_bind]; with_reducible refine zw_mono (zx_open (by assumption)) ?_; intro _ _)
          | (rw [zw_bind]; with_reducible refine zw_mono (zxw_expression (by assumption)) ?_; intro _ _)
          | (rw [zw_bind]; with_reducible refine zw_mono (zxw_operand (by assumption)) ?_; intro _ _)
          | (rw [zw_bind]; with_reducible refine zw_mono (zxb_keep (by assumption) (by omega)) ?_; intro _ _)
          | (rw [zw_B]; with_reducible refine zw_mono (zxb_node (by assumption) (by omega) rfl) ?_; rintro _ ⟨e1, _⟩; try rw [e1])
          | (rw [zw_bind]; with_reducible refine zw_mono (zxw_wantSign (by assumption)) ?_; intro _ _)
          | (rw [zw_bind]; with_reducible refine zw_mono (zxw_wantWord (by assumption)) ?_; intro _ _)
          | (rw [zw_bind]; with_reducible refine zw_mono (zxw_want (by assumption)) ?_; intro _ _)
          | (rw [zw_bind]; with_reducible refine zw_mono (zx_next (by assumption)) ?_; intro _ _)
          | (rw [zw_bind]; with_reducible refine zw_mono (zxb_constant (by assumption) (by omega) (by omega)) ?_; intro _ _)
          | (rw [zw_bind]; with_reducible refine zw_mono (zxw_simple (by assumption) (by omega) (by omega)) ?_; rintro _ ⟨_, _, _, _⟩)
          | (rw [zw_B]; with_reducible refine zw_mono (zxb_add (by assumption) (by omega) rfl (by omega)) ?_; rintro _ ⟨e1, _⟩; try rw [e1])
          | rw [zx_isSign (by assumption), if_pos rfl]
          | rw [zx_isWord (by assumption), if_pos rfl]
          | rw [if_neg (zx_ne (by assumption))]
          | rw [if_neg (zx_pos (by assumption))]
          | rw [if_pos (show (0 : Int32) ≤ 0 by decide)]
  · refine zk_Gf (φ := φ) (w := w) ?_ ?_
    · repeat' first
        | with_reducible exact zw_some.mpr ⟨by assumption, by assumption⟩
        | with_reducible exact zw_some.mpr ⟨by assumption, zz_open (by assumption)⟩
        | (rw [zw_B]; with_reducible refine zw_mono (zz_expression (by assumption)) ?_; rintro _ ⟨_, _⟩)
        | (rw [zw_B]; with_reducible refine zw_mono (zz_operand (by assumption)) ?_; rintro _ ⟨_, _⟩)
        | (rw [zw_bind]; with_reducible refine zw_mono (zz_take (by assumption)) ?_; intro _ _)
        | (rw [zw_B]; with_reducible refine zw_mono (zz_constant (by assumption)) ?_; rintro _ ⟨_, _⟩)
        | (rw [zw_B]; with_reducible refine zw_mono (zz_simpleType (by assumption)) ?_; rintro _ ⟨_, _⟩)
        | (rw [zw_B]; with_reducible refine zw_mono (zz_type (by assumption)) ?_; rintro _ ⟨_, _⟩)
        | (rw [zw_B]; with_reducible refine zw_mono (zz_whole (by assumption)) ?_; rintro _ ⟨_, _⟩)
        | (rw [zw_B]; with_reducible refine zw_mono (zz_add (by assumption)) ?_; rintro _ ⟨_, _⟩)
        | (rw [zw_B]; with_reducible refine zw_mono (zz_hang (by assumption) (by assumption) (by first | assumption | exact zq_vl_n | exact zq_vl_v (by assumption)) (by assumption)) ?_; rintro _ ⟨_, _⟩)
        | rw [if_pos (zq_at (by assumption))]
        | rw [zz_isCell (by assumption), if_pos rfl]
        | rw [if_neg (zq_ne (by assumption) (by decide) (by decide))]
    · repeat' first
        | (with_reducible refine zw_some.mpr ⟨_, ⟨?_, ?_⟩, by assumption⟩ <;> omega)
        | (with_reducible refine zw_some.mpr ⟨_, ⟨?_, ?_⟩, zx_Om (by assumption) ?_⟩ <;> omega)
        | (with_reducible refine zw_some.mpr ⟨_, ⟨?_, ?_⟩, zx_Om (zx_uF (by assumption) (Or.inl rfl)) ?_⟩ <;> omega)
        | (rw [zw_bind]; with_reducible refine zw_mono (zxw_next2 (by assumption)) ?_; intro _ _)
        | (rw [zw_bind]; with_reducible refine zw_mono (zx_open (by assumption)) ?_; intro _ _)
        | (rw [zw_bind]; with_reducible refine zw_mono (zxw_expression (by assumption)) ?_; intro _ _)
        | (rw [zw_bind]; with_reducible refine zw_mono (zxw_operand (by assumption)) ?_; intro _ _)
        | (rw [zw_bind]; with_reducible refine zw_mono (zxb_keep (by assumption) (by omega)) ?_; intro _ _)
        | (rw [zw_B]; with_reducible refine zw_mono (zxb_node (by assumption) (by omega) rfl) ?_; rintro _ ⟨e1, _⟩; try rw [e1])
        | (rw [zw_bind]; with_reducible refine zw_mono (zxw_wantSign (by assumption)) ?_; intro _ _)
        | (rw [zw_bind]; with_reducible refine zw_mono (zxw_wantWord (by assumption)) ?_; intro _ _)
        | (rw [zw_bind]; with_reducible refine zw_mono (zxw_want (by assumption)) ?_; intro _ _)
        | (rw [zw_bind]; with_reducible refine zw_mono (zx_next (by assumption)) ?_; intro _ _)
        | (rw [zw_bind]; with_reducible refine zw_mono (zxb_constant (by assumption) (by omega) (by omega)) ?_; intro _ _)
        | (rw [zw_bind]; with_reducible refine zw_mono (zxw_simple (by assumption) (by omega) (by omega)) ?_; rintro _ ⟨_, _, _, _⟩)
        | (rw [zw_B]; with_reducible refine zw_mono (zxb_add (by assumption) (by omega) rfl (by omega)) ?_; rintro _ ⟨e1, _⟩; try rw [e1])
        | rw [zx_isSign (by assumption), if_pos rfl]
        | rw [zx_isWord (by assumption), if_pos rfl]
        | rw [if_neg (zx_ne (by assumption))]
        | rw [if_neg (zx_pos (by assumption))]
        | rw [if_pos (show (0 : Int32) ≤ 0 by decide)]
end ZQ
end
section
/-! Both readers in step: operands in brackets. -/
theorem zo_up {LC LM : List (List Int32)} {g : zs_H} {kd a : Nat} {p v up y : Int32} {l : zt_T} {P : Nat → Prop} (ha : a < 40000) (H : zt_M LC LM g (zt_n kd p v l) P up (nI a) y) : zt_M LC LM (zs_uM g 75 a (-1)) (zt_n kd p v l) P (-1) (nI a) (nI a) := by
  obtain ⟨x1, x2, x3, x4, x5, P1, x6, x7⟩ := zo_root ha H
  have key : ∀ i, (zs_uM g 75 a (-1)).2.1 75 i = if i = a then -1 else (g.2.1 75) i := fun i => by simp [zu_MM]
  have k2 : ∀ k i, ¬ k = 75 → (zs_uM g 75 a (-1)).2.1 k i = g.2.1 k i := fun k i hk => by simp [zu_MM, hk]
  refine zo_mk (P1 := P1) ha ?_ (by rw [key, if_pos rfl]) (by rw [k2 _ _ (by decide)]; exact x3) x4 x6 ?_
  · unfold zt_Nf at x1 ⊢
    rw [k2 _ _ (by decide), k2 _ _ (by decide), k2 _ _ (by decide)]; exact x1
  · rw [k2 _ _ (by decide), k2 _ _ (by decide)]
    refine zo_Mk (List.prefix_refl _) (fun i hi => ?_) x7
    exact ⟨k2 _ _ (by decide), k2 _ _ (by decide), k2 _ _ (by decide), by rw [key, if_neg (x6 i hi).2], k2 _ _ (by decide), k2 _ _ (by decide), k2 _ _ (by decide)⟩
theorem zt_rt {LC LM : List (List Int32)} {g : zs_H} {kd : Nat} {p v up x y : Int32} {l : zt_T} {P : Nat → Prop} (H : zt_M LC LM g (zt_n kd p v l) P up x y) : ∃ a, a < 40000 ∧ P a ∧ x = nI a := by
  obtain ⟨i, P1, P2, z1, z2, q1, q2, q3, _⟩ := H
  exact ⟨i, q2, q1, q3⟩
section ZR
variable {h0 g0 h g : zs_H} {T : Nat → Int32} {n K : Nat} {LC LM : List (List Int32)} {j d s m o q : Nat}
theorem zk_brk {D D' : Nat} (EP : d < 60 → zk_EP h0 g0 T n K LC (d + 1)) (H : zk_L h0 g0 T n K LC h g LM j d s m o q) (ho : o ≤ d) (hq : q ≤ d + 1) (hq1 : 1 ≤ q) (hD : 3 * (60 - d) + 3 ≤ D) (hD' : 4 * (60 - d) + 2 ≤ D') (hs : s ≤ 2 * j + 12) (hm : m ≤ 2 * j + 12) (ht : (h.1 19 5) = 40) : zk_G h0 g0 T n K LC m 20900 (o + 1) (zk_X h0 g0 T n K LC LM j d s m o q 0 0 h g) ((f_Ps_deepen h).bind fun h7 => ((f_Ps_take h7 40).bind fun h9 => (zd_B (f_Ps_expression D h9 0) fun v11 h12 => ((f_Ps_take h12 41).bind fun h14 => (some (v11, (zs_uF h14 19 7 ((h14.1 19 7) - 1)))))))) (g_Mo_bracket (f_Mo_expression D') g) := by
  have bK := zk_bK H
  have x3 := (zk_dd H).2.2.1
  obtain ⟨D, rfl⟩ : ∃ z, D = z + 2 := ⟨D - 2, by omega⟩
  obtain ⟨D', rfl⟩ : ∃ z, D' = z + 1 := ⟨D' - 1, by omega⟩
  unfold g_Mo_bracket
  obtain ⟨g1, e1, L1, qN⟩ := zk_mnode H (kd := 99) (kn := 99) ((g.1 68 7)) 0 (by omega) rfl
  rw [e1, zo_B]
  obtain ⟨h2, g2, e3, e4, R⟩ := zk_deep L1
  rw [e3, e4, Option.bind_some, Option.bind_some]
  rcases R with ⟨hd, L2, f1, f2⟩ | ⟨φ, w, z1, z2⟩
  · have tk2 : (h2.1 19 5) = 40 := by rw [L2.2.2.2.1.2.2.1, ← H.2.2.2.1.2.2.1]; exact ht
    obtain ⟨h3, g3, e5, e6, f3, f4, R⟩ := zk_step L2 (zk_notE L2 (by rw [tk2]; decide))
    rw [tk2] at e5
    rw [e5, zk_nx2 L2, e6, Option.bind_some, Option.bind_some]
    rcases R with ⟨LM3, hp, L3⟩ | ⟨φ, w, z1, z2⟩
    · obtain ⟨x, h4, g4, e7, e8, R⟩ := EP hd (D := D + 2) (D' := D' + 1) (b := m) L3 (Nat.le_refl _) (by omega) (by omega) hq1 (by omega) (by omega) (by omega) (by omega) (by omega)
      rw [e7, e8, zo_B, Option.bind_some]
      rcases R with ⟨t, LM4, j4, d4, s4, m4, a, ⟨r0, r0c⟩, r1, r2, ⟨r3, r4, r5, r6, r7, r8⟩, ⟨r9, r9a, r9b⟩, r10, r11, r12, r13⟩ | ⟨vx, φ, w, m', w1, w2, z1, z2⟩
      · have b4 := zk_bK r2
        have vx : zq_v x := ⟨a, by omega, r9⟩
        obtain ⟨h5, g5, e9, e10, R⟩ := zk_wantS r2 (c := 41) (k := 41) (by decide) (by decide)
        rw [show f_Ps_take h4 41 = some h5 from e9, show f_Mo_wantSign g4 41 = some g5 from e10, Option.bind_some, Option.bind_some]
        have bad : ∀ φ w, zq_Z h0 T n K LC φ w h5 → zx_B g0 T n φ w m4 o g5 → zk_G h0 g0 T n K LC m 20900 (o + 1) (zk_X h0 g0 T n K LC LM j d s m o q 0 0 h g) (some (x, (zs_uF h5 19 7 ((h5.1 19 7) - 1)))) (if (g5.1 68 10) = 0 then (if zd_in (nI m) 33500 then ((f_Mo_keep (zs_uF g5 68 12 ((g5.1 68 12) - 1)) (g5.2.1 76 (nI m).toNatClampNeg)).bind fun h15 => (if zd_in (nI m) 33500 then (if zd_in (h15.2.1 76 (nI m).toNatClampNeg) 33500 then (some (zs_uM h15 75 (h15.2.1 76 (nI m).toNatClampNeg).toNatClampNeg (-1))) else none) else none)) else none) else (some (zs_uF g5 68 12 ((g5.1 68 12) - 1)))) := by
          intro φ w z1 z2
          refine zk_Gf (φ := φ) (w := w) ?_ ?_
          · repeat' first
              | with_reducible exact zw_some.mpr ⟨by assumption, by assumption⟩
              | with_reducible exact zw_some.mpr ⟨by assumption, zz_open (by assumption)⟩
              | (rw [zw_B]; with_reducible refine zw_mono (zz_expression (by assumption)) ?_; rintro _ ⟨_, _⟩)
              | (rw [zw_B]; with_reducible refine zw_mono (zz_operand (by assumption)) ?_; rintro _ ⟨_, _⟩)
              | (rw [zw_bind]; with_reducible refine zw_mono (zz_take (by assumption)) ?_; intro _ _)
              | (rw [zw_B]; with_reducible refine zw_mono (zz_constant (by assumption)) ?_; rintro _ ⟨_, _⟩)
              | (rw [zw_B]; with_reducible refine zw_mono (zz_simpleType (by assumption)) ?_; rintro _ ⟨_, _⟩)
              | (rw [zw_B]; with_reducible refine zw_mono (zz_type (by assumption)) ?_; rintro _ ⟨_, _⟩)
              | (rw [zw_B]; with_reducible refine zw_mono (zz_whole (by assumption)) ?_; rintro _ ⟨_, _⟩)
              | (rw [zw_B]; with_reducible refine zw_mono (zz_add (by assumption)) ?_; rintro _ ⟨_, _⟩)
              | (rw [zw_B]; with_reducible refine zw_mono (zz_hang (by assumption) (by assumption) (by first | assumption | exact zq_vl_n | exact zq_vl_v (by assumption)) (by assumption)) ?_; rintro _ ⟨_, _⟩)
              | rw [if_pos (zq_at (by assumption))]
              | rw [zz_isCell (by assumption), if_pos rfl]
              | rw [if_neg (zq_ne (by assumption) (by decide) (by decide))]
          · repeat' first
              | (with_reducible refine zw_some.mpr ⟨_, ⟨?_, ?_⟩, by assumption⟩ <;> omega)
              | (with_reducible refine zw_some.mpr ⟨_, ⟨?_, ?_⟩, zx_Om (by assumption) ?_⟩ <;> omega)
              | (with_reducible refine zw_some.mpr ⟨_, ⟨?_, ?_⟩, zx_Om (zx_uF (by assumption) (Or.inl rfl)) ?_⟩ <;> omega)
              | (rw [zw_bind]; with_reducible refine zw_mono (zxw_next2 (by assumption)) ?_; intro _ _)
              | (rw [zw_bind]; with_reducible refine zw_mono (zx_open (by assumption)) ?_; intro _ _)
              | (rw [zw_bind]; with_reducible refine zw_mono (zxw_expression (by assumption)) ?_; intro _ _)
              | (rw [zw_bind]; with_reducible refine zw_mono (zxw_operand (by assumption)) ?_; intro _ _)
              | (rw [zw_bind]; with_reducible refine zw_mono (zxb_keep (by assumption) (by omega)) ?_; intro _ _)
              | (rw [zw_B]; with_reducible refine zw_mono (zxb_node (by assumption) (by omega) rfl) ?_; rintro _ ⟨e1, _⟩; try rw [e1])
              | (rw [zw_bind]; with_reducible refine zw_mono (zxw_wantSign (by assumption)) ?_; intro _ _)
              | (rw [zw_bind]; with_reducible refine zw_mono (zxw_wantWord (by assumption)) ?_; intro _ _)
              | (rw [zw_bind]; with_reducible refine zw_mono (zxw_want (by assumption)) ?_; intro _ _)
              | (rw [zw_bind]; with_reducible refine zw_mono (zx_next (by assumption)) ?_; intro _ _)
              | (rw [zw_bind]; with_reducible refine zw_mono (zxb_constant (by assumption) (by omega) (by omega)) ?_; intro _ _)
              | (rw [zw_bind]; with_reducible refine zw_mono (zxw_simple (by assumption) (by omega) (by omega)) ?_; rintro _ ⟨_, _, _, _⟩)
              | (rw [zw_B]; with_reducible refine zw_mono (zxb_add (by assumption) (by omega) rfl (by omega)) ?_; rintro _ ⟨e1, _⟩; try rw [e1])
              | rw [zx_isSign (by assumption), if_pos rfl]
              | rw [zx_isWord (by assumption), if_pos rfl]
              | rw [if_neg (zx_ne (by assumption))]
              | rw [if_neg (zx_pos (by assumption))]
              | rw [if_pos (show (0 : Int32) ≤ 0 by decide)]
        rcases R with ⟨φ, w, z1, z2⟩ | ⟨_, ⟨f5, f6, LM5, hp5, L5⟩ | ⟨φ, w, z1, z2⟩⟩
        · exact bad φ w z1 z2
        · obtain ⟨y1, y2, y3, y4, y5, y6, y7⟩ := zk_dd L5
          have m2 := L5.2.2.2.2.2.2.1
          rw [if_pos m2, if_pos (zi_in (by omega) (by omega))]
          have ec : (nI m).toNatClampNeg = m := nI_clamp (by omega)
          have ed : (g5.1 68 12) - 1 = nI (d4 - 1) := by
            rw [y2, show (1 : Int32) = nI 1 from rfl, zi_sub (by omega)]
          have ed' : (h5.1 19 7) - 1 = nI (d4 - 1) := by
            rw [y1, show (1 : Int32) = nI 1 from rfl, zi_sub (by omega)]
          rw [ed, ed']
          have fo : zfr [(19, 7)] [] [] h5 (zs_uF h5 19 7 (nI (d4 - 1))) := zfr_F (by decide) zfr_rfl
          have fd : zfr [(68, 12)] [] [] g5 (zs_uF g5 68 12 (nI (d4 - 1))) := zfr_F (by decide) zfr_rfl
          have L6 : zk_L h0 g0 T n K LC (zs_uF h5 19 7 (nI (d4 - 1))) (zs_uF g5 68 12 (nI (d4 - 1))) LM5 (j4 + 1) (d4 - 1) s4 m4 o q := zk_hg L5 fo (zfr_w fd (by decide) (by decide) (by decide)) rfl rfl (by omega) y4 y5 y6 y7
          -- what is below the bracket
          have kN := zx_ka_N qN
          obtain ⟨q1, q2, q3, q4, q5, q6, q7, q8, q9⟩ := qN
          have ka13 : zx_ka (m + 1) g1 g3 := zx_ka_t (zx_ka_f f2) (zx_ka_l f4) (Nat.le_refl _)
          obtain ⟨_, _, _, _, i5, i6, _⟩ := ka13 m (by omega)
          obtain ⟨c1, c2⟩ := r12 (fun _ => False) .leaf (fun i z => z.elim) ⟨by rw [i5, q6, if_pos rfl], by rw [i6, q7, if_pos rfl]⟩
          obtain ⟨kd, p, v, l, et, t1, t2, t3⟩ := r0
          rw [et] at c2
          obtain ⟨a', ha', hP', ef⟩ := zt_rt c2
          have hPa : m + 1 ≤ a' ∧ a' < m4 := hP'.elim (fun z => z.elim) (fun z => z)
          rw [ef] at c2
          have ka45 : zx_ka m4 g4 g5 := zx_ka_l f6
          have ef5 : (g5.2.1 76) m = nI a' := by rw [(ka45 m (by omega)).2.2.2.2.1]; exact ef
          obtain ⟨g7, e11, L7, e12, e13, e14⟩ := zk_keep L6 (by omega) (nI a')
          rw [show g5.2.1 76 (nI m).toNatClampNeg = nI a' by rw [ec]; exact ef5, e11, Option.bind_some, if_pos (zi_in (by omega) (by omega))]
          have eA : ∀ k, ¬ k = 81 → g7.2.1 k = g5.2.1 k := fun k hk => by rw [e14.2.1 _ (by simpa using hk)]; exact fd.2.1 k List.not_mem_nil
          rw [show g7.2.1 76 (nI m).toNatClampNeg = nI a' by rw [ec, eA 76 (by decide)]; exact ef5, if_pos (zi_in (by omega) (by omega)), show (nI a').toNatClampNeg = a' from nI_clamp (by omega)]
          have f8 : zfr [] [75] [] g7 (zs_uM g7 75 a' (-1)) := zfr_M (by decide) zfr_rfl
          have z7 := zk_dd L7
          have L8 : zk_L h0 g0 T n K LC (zs_uF h5 19 7 (nI (d4 - 1))) (zs_uM g7 75 a' (-1)) LM5 (j4 + 1) (d4 - 1) s4 m4 (o + 1) q := zk_mf L7 (zfr_w f8 (by decide) (by decide) (by decide)) z7.2.2.2.1 z7.2.2.2.2.1
          have ka57 : zx_ka m4 g5 g7 := fun i _ => ⟨congrFun (eA _ (by decide)) i, congrFun (eA _ (by decide)) i, congrFun (eA _ (by decide)) i, congrFun (eA _ (by decide)) i, congrFun (eA _ (by decide)) i, congrFun (eA _ (by decide)) i, congrFun (eA _ (by decide)) i⟩
          have ka8 : zx_ka (m + 1) g7 (zs_uM g7 75 a' (-1)) := fun i hi => ⟨congrFun (f8.2.1 _ (by decide)) i, congrFun (f8.2.1 _ (by decide)) i, congrFun (f8.2.1 _ (by decide)) i, by rw [show (zs_uM g7 75 a' (-1)).2.1 75 i = if i = a' then -1 else (g7.2.1 75) i by simp [zu_MM], if_neg (by omega)], congrFun (f8.2.1 _ (by decide)) i, congrFun (f8.2.1 _ (by decide)) i, congrFun (f8.2.1 _ (by decide)) i⟩
          have M5 := zt_Mk hp5 (zx_ka_t ka45 ka57 (Nat.le_refl _)) (fun i hi => (hi.elim (fun z => z.elim) (fun z => z.2) : i < m4)) c2
          have k5 := zq_kp_f (s := s4) f5
          have k6 := zq_kp_f (s := s4) fo
          refine ⟨x, _, _, rfl, rfl, Or.inl ⟨t, LM5, j4 + 1, d4 - 1, s4, m4, a, ⟨⟨kd, p, v, l, et, t1, t2, by omega⟩, r0c⟩, hp.trans (r1.trans hp5), L8, by omega, ⟨r9, by omega, r9b⟩, ?_, ?_, ?_, ?_, ?_⟩⟩
          · exact zt_Ck k6 (fun i hi => hi.2) (zt_Ck k5 (fun i hi => hi.2) r10)
          · exact zq_kp_t (zq_kp_t (zq_kp_t (zq_kp_t (zq_kp_f (s := s) f1) (zq_kp_f (s := s) f3) (Nat.le_refl _)) r11 (by omega)) k5 (by omega)) k6 (by omega)
          · refine ⟨rfl, a', kd, p, v, l, et, by omega, by omega, ?_, ?_⟩
            · rw [f8.2.1 _ (by decide)]; exact e12
            · rw [et]
              exact zt_Mm (fun i hi => hi.elim (fun z => z.elim) (fun z => by omega)) (zo_up ha' M5)
          · exact zx_ka_t (zx_ka_t (zx_ka_t (zx_ka_t (zx_ka_t kN ka13 (by omega)) (zx_kp_ka (m := m) c1 (Nat.le_refl m)) (Nat.le_refl m)) ka45 (by omega)) ka57 (by omega)) ka8 (by omega)
          · have a1 : zo_fr o g g3 := zo_fr_t (zo_fr_t (zo_fr_f q9 (by decide) (by decide) (by decide)) (zo_fr_f f2 (by decide) (by decide) (by decide)) (Nat.le_refl o)) (zo_fr_f f4 (by decide) (by decide) (by decide)) (Nat.le_refl o)
            have a2 : zo_fr o g3 (zs_uF g5 68 12 (nI (d4 - 1))) := zo_fr_t (zo_fr_t r13 (zo_fr_f f6 (by decide) (by decide) (by decide)) (Nat.le_refl o)) (zo_fr_f fd (by decide) (by decide) (by decide)) (Nat.le_refl o)
            exact zo_fr_t (zo_fr_t (zo_fr_t a1 a2 (Nat.le_refl o)) e13 (Nat.le_refl o)) (zo_fr_f f8 (by decide) (by decide) (by decide)) (Nat.le_refl o)
        · exact bad φ w z1 z2
      · refine zk_Gf (φ := φ) (w := w) ?_ ?_
        · repeat' first
            | with_reducible exact zw_some.mpr ⟨by assumption, by assumption⟩
            | with_reducible exact zw_some.mpr ⟨by assumption, zz_open (by assumption)⟩
            | (rw [zw_B]; with_reducible refine zw_mono (zz_expression (by assumption)) ?_; rintro _ ⟨_, _⟩)
            | (rw [zw_B]; with_reducible refine zw_mono (zz_operand (by assumption)) ?_; rintro _ ⟨_, _⟩)
            | (rw [zw_bind]; with_reducible refine zw_mono (zz_take (by assumption)) ?_; intro _ _)
            | (rw [zw_B]; with_reducible refine zw_mono (zz_constant (by assumption)) ?_; rintro _ ⟨_, _⟩)
            | (rw [zw_B]; with_reducible refine zw_mono (zz_simpleType (by assumption)) ?_; rintro _ ⟨_, _⟩)
            | (rw [zw_B]; with_reducible refine zw_mono (zz_type (by assumption)) ?_; rintro _ ⟨_, _⟩)
            | (rw [zw_B]; with_reducible refine zw_mono (zz_whole (by assumption)) ?_; rintro _ ⟨_, _⟩)
            | (rw [zw_B]; with_reducible refine zw_mono (zz_add (by assumption)) ?_; rintro _ ⟨_, _⟩)
            | (rw [zw_B]; with_reducible refine zw_mono (zz_hang (by assumption) (by assumption) (by first | assumption | exact zq_vl_n | exact zq_vl_v (by assumption)) (by assumption)) ?_; rintro _ ⟨_, _⟩)
            | rw [if_pos (zq_at (by assumption))]
            | rw [zz_isCell (by assumption), if_pos rfl]
            | rw [if_neg (zq_ne (by assumption) (by decide) (by decide))]
        · repeat' first
            | (with_reducible refine zw_some.mpr ⟨_, ⟨?_, ?_⟩, by assumption⟩ <;> omega)
            | (with_reducible refine zw_some.mpr ⟨_, ⟨?_, ?_⟩, zx_Om (by assumption) ?_⟩ <;> omega)
            | (with_reducible refine zw_some.mpr ⟨_, ⟨?_, ?_⟩, zx_Om (zx_uF (by assumption) (Or.inl rfl)) ?_⟩ <;> omega)
            | (rw [zw_bind]; with_reducible refine zw_mono (zxw_next2 (by assumption)) ?_; intro _ _)
            | (rw [zw_bind]; with_reducible refine zw_mono (zx_open (by assumption)) ?_; intro _ _)
            | (rw [zw_bind]; with_reducible refine zw_mono (zxw_expression (by assumption)) ?_; intro _ _)
            | (rw [zw_bind]; with_reducible refine zw_mono (zxw_operand (by assumption)) ?_; intro _ _)
            | (rw [zw_bind]; with_reducible refine zw_mono (zxb_keep (by assumption) (by omega)) ?_; intro _ _)
            | (rw [zw_B]; with_reducible refine zw_mono (zxb_node (by assumption) (by omega) rfl) ?_; rintro _ ⟨e1, _⟩; try rw [e1])
            | (rw [zw_bind]; with_reducible refine zw_mono (zxw_wantSign (by assumption)) ?_; intro _ _)
            | (rw [zw_bind]; with_reducible refine zw_mono (zxw_wantWord (by assumption)) ?_; intro _ _)
            | (rw [zw_bind]; with_reducible refine zw_mono (zxw_want (by assumption)) ?_; intro _ _)
            | (rw [zw_bind]; with_reducible refine zw_mono (zx_next (by assumption)) ?_; intro _ _)
            | (rw [zw_bind]; with_reducible refine zw_mono (zxb_constant (by assumption) (by omega) (by omega)) ?_; intro _ _)
            | (rw [zw_bind]; with_reducible refine zw_mono (zxw_simple (by assumption) (by omega) (by omega)) ?_; rintro _ ⟨_, _, _, _⟩)
            | (rw [zw_B]; with_reducible refine zw_mono (zxb_add (by assumption) (by omega) rfl (by omega)) ?_; rintro _ ⟨e1, _⟩; try rw [e1])
            | rw [zx_isSign (by assumption), if_pos rfl]
            | rw [zx_isWord (by assumption), if_pos rfl]
            | rw [if_neg (zx_ne (by assumption))]
            | rw [if_neg (zx_pos (by assumption))]
            | rw [if_pos (show (0 : Int32) ≤ 0 by decide)]
    · refine zk_Gf (φ := φ) (w := w) ?_ ?_
      · repeat' first
          | with_reducible exact zw_some.mpr ⟨by assumption, by assumption⟩
          | with_reducible exact zw_some.mpr ⟨by assumption, zz_open (by assumption)⟩
          | (rw [zw_B]; with_reducible refine zw_mono (zz_expression (by assumption)) ?_; rintro _ ⟨_, _⟩)
          | (rw [zw_B]; with_reducible refine zw_mono (zz_operand (by assumption)) ?_; rintro _ ⟨_, _⟩)
          | (rw [zw_bind]; with_reducible refine zw_mono (zz_take (by assumption)) ?_; intro _ _)
          | (rw [zw_B]; with_reducible refine zw_mono (zz_constant (by assumption)) ?_; rintro _ ⟨_, _⟩)
          | (rw [zw_B]; with_reducible refine zw_mono (zz_simpleType (by assumption)) ?_; rintro _ ⟨_, _⟩)
          | (rw [zw_B]; with_reducible refine zw_mono (zz_type (by assumption)) ?_; rintro _ ⟨_, _⟩)
          | (rw [zw_B]; with_reducible refine zw_mono (zz_whole (by assumption)) ?_; rintro _ ⟨_, _⟩)
          | (rw [zw_B]; with_reducible refine zw_mono (zz_add (by assumption)) ?_; rintro _ ⟨_, _⟩)
          | (rw [zw_B]; with_reducible refine zw_mono (zz_hang (by assumption) (by assumption) (by first | assumption | exact zq_vl_n | exact zq_vl_v (by assumption)) (by assumption)) ?_; rintro _ ⟨_, _⟩)
          | rw [if_pos (zq_at (by assumption))]
          | rw [zz_isCell (by assumption), if_pos rfl]
          | rw [if_neg (zq_ne (by assumption) (by decide) (by decide))]
      · repeat' first
          | (with_reducible refine zw_some.mpr ⟨_, ⟨?_, ?_⟩, by assumption⟩ <;> omega)
          | (with_reducible refine zw_some.mpr ⟨_, ⟨?_, ?_⟩, zx_Om (by assumption) ?_⟩ <;> omega)
          | (with_reducible refine zw_some.mpr ⟨_, ⟨?_, ?_⟩, zx_Om (zx_uF (by assumption) (Or.inl rfl)) ?_⟩ <;> omega)
          | (rw [zw_bind]; with_reducible refine zw_mono (zxw_next2 (by assumption)) ?_; intro _ _)
          | (rw [zw_bind]; with_reducible refine zw_mono (zx_open (by assumption)) ?_; intro _ _)
          | (rw [zw_bind]; with_reducible refine zw_mono (zxw_expression (by assumption)) ?_; intro _ _)
          | (rw [zw_bind]; with_reducible refine zw_mono (zxw_operand (by assumption)) ?_; intro _ _)
          | (rw [zw_bind]; with_reducible refine zw_mono (zxb_keep (by assumption) (by omega)) ?_; intro _ _)
          | (rw [zw_B]; with_reducible refine zw_mono (zxb_node (by assumption) (by omega) rfl) ?_; rintro _ ⟨e1, _⟩; try rw [e1])
          | (rw [zw_bind]; with_reducible refine zw_mono (zxw_wantSign (by assumption)) ?_; intro _ _)
          | (rw [zw_bind]; with_reducible refine zw_mono (zxw_wantWord (by assumption)) ?_; intro _ _)
          | (rw [zw_bind]; with_reducible refine zw_mono (zxw_want (by assumption)) ?_; intro _ _)
          | (rw [zw_bind]; with_reducible refine zw_mono (zx_next (by assumption)) ?_; intro _ _)
          | (rw [zw_bind]; with_reducible refine zw_mono (zxb_constant (by assumption) (by omega) (by omega)) ?_; intro _ _)
          | (rw [zw_bind]; with_reducible refine zw_mono (zxw_simple (by assumption) (by omega) (by omega)) ?_; rintro _ ⟨_, _, _, _⟩)
          | (rw [zw_B]; with_reducible refine zw_mono (zxb_add (by assumption) (by omega) rfl (by omega)) ?_; rintro _ ⟨e1, _⟩; try rw [e1])
          | rw [zx_isSign (by assumption), if_pos rfl]
          | rw [zx_isWord (by assumption), if_pos rfl]
          | rw [if_neg (zx_ne (by assumption))]
          | rw [if_neg (zx_pos (by assumption))]
          | rw [if_pos (show (0 : Int32) ≤ 0 by decide)]
  · refine zk_Gf (φ := φ) (w := w) ?_ ?_
    · repeat' first
        | with_reducible exact zw_some.mpr ⟨by assumption, by assumption⟩
        | with_reducible exact zw_some.mpr ⟨by assumption, zz_open (by assumption)⟩
        | (rw [zw_B]; with_reducible refine zw_mono (zz_expression (by assumption)) ?_; rintro _ ⟨_, _⟩)
        | (rw [zw_B]; with_reducible refine zw_mono (zz_operand (by assumption)) ?_; rintro _ ⟨_, _⟩)
        | (rw [zw_bind]; with_reducible refine zw_mono (zz_take (by assumption)) ?_; intro _ _)
        | (rw [zw_B]; with_reducible refine zw_mono (zz_constant (by assumption)) ?_; rintro _ ⟨_, _⟩)
        | (rw [zw_B]; with_reducible refine zw_mono (zz_simpleType (by assumption)) ?_; rintro _ ⟨_, _⟩)
        | (rw [zw_B]; with_reducible refine zw_mono (zz_type (by assumption)) ?_; rintro _ ⟨_, _⟩)
        | (rw [zw_B]; with_reducible refine zw_mono (zz_whole (by assumption)) ?_; rintro _ ⟨_, _⟩)
        | (rw [zw_B]; with_reducible refine zw_mono (zz_add (by assumption)) ?_; rintro _ ⟨_, _⟩)
        | (rw [zw_B]; with_reducible refine zw_mono (zz_hang (by assumption) (by assumption) (by first | assumption | exact zq_vl_n | exact zq_vl_v (by assumption)) (by assumption)) ?_; rintro _ ⟨_, _⟩)
        | rw [if_pos (zq_at (by assumption))]
        | rw [zz_isCell (by assumption), if_pos rfl]
        | rw [if_neg (zq_ne (by assumption) (by decide) (by decide))]
    · repeat' first
        | (with_reducible refine zw_some.mpr ⟨_, ⟨?_, ?_⟩, by assumption⟩ <;> omega)
        | (with_reducible refine zw_some.mpr ⟨_, ⟨?_, ?_⟩, zx_Om (by assumption) ?_⟩ <;> omega)
        | (with_reducible refine zw_some.mpr ⟨_, ⟨?_, ?_⟩, zx_Om (zx_uF (by assumption) (Or.inl rfl)) ?_⟩ <;> omega)
        | (rw [zw_bind]; with_reducible refine zw_mono (zxw_next2 (by assumption)) ?_; intro _ _)
        | (rw [zw_bind]; with_reducible refine zw_mono (zx_open (by assumption)) ?_; intro _ _)
        | (rw [zw_bind]; with_reducible refine zw_mono (zxw_expression (by assumption)) ?_; intro _ _)
        | (rw [zw_bind]; with_reducible refine zw_mono (zxw_operand (by assumption)) ?_; intro _ _)
        | (rw [zw_bind]; with_reducible refine zw_mono (zxb_keep (by assumption) (by omega)) ?_; intro _ _)
        | (rw [zw_B]; with_reducible refine zw_mono (zxb_node (by assumption) (by omega) rfl) ?_; rintro _ ⟨e1, _⟩; try rw [e1])
        | (rw [zw_bind]; with_reducible refine zw_mono (zxw_wantSign (by assumption)) ?_; intro _ _)
        | (rw [zw_bind]; with_reducible refine zw_mono (zxw_wantWord (by assumption)) ?_; intro _ _)
        | (rw [zw_bind]; with_reducible refine zw_mono (zxw_want (by assumption)) ?_; intro _ _)
        | (rw [zw_bind]; with_reducible refine zw_mono (zx_next (by assumption)) ?_; intro _ _)
        | (rw [zw_bind]; with_reducible refine zw_mono (zxb_constant (by assumption) (by omega) (by omega)) ?_; intro _ _)
        | (rw [zw_bind]; with_reducible refine zw_mono (zxw_simple (by assumption) (by omega) (by omega)) ?_; rintro _ ⟨_, _, _, _⟩)
        | (rw [zw_B]; with_reducible refine zw_mono (zxb_add (by assumption) (by omega) rfl (by omega)) ?_; rintro _ ⟨e1, _⟩; try rw [e1])
        | rw [zx_isSign (by assumption), if_pos rfl]
        | rw [zx_isWord (by assumption), if_pos rfl]
        | rw [if_neg (zx_ne (by assumption))]
        | rw [if_neg (zx_pos (by assumption))]
        | rw [if_pos (show (0 : Int32) ≤ 0 by decide)]
end ZR
end
section
/-! Both readers in step: operands with a name. -/
section ZSz
variable {h0 g0 h g : zs_H} {T : Nat → Int32} {n K φ w m O : Nat} {LC : List (List Int32)}
theorem zz_274 {x1 : Int32} (H : zq_Z h0 T n K LC φ w h) (v1 : zq_v x1) : zw (f_Ps_namedOperand_274 h x1) (fun p => zq_v p.1 ∧ zq_Z h0 T n K LC φ w p.2) := by
  unfold f_Ps_namedOperand_274
  repeat' first
    | with_reducible exact zw_some.mpr ⟨by assumption, by assumption⟩
    | with_reducible exact zw_some.mpr ⟨by assumption, zz_open (by assumption)⟩
    | (rw [zw_B]; with_reducible refine zw_mono (zz_expression (by assumption)) ?_; rintro _ ⟨_, _⟩)
    | (rw [zw_B]; with_reducible refine zw_mono (zz_operand (by assumption)) ?_; rintro _ ⟨_, _⟩)
    | (rw [zw_bind]; with_reducible refine zw_mono (zz_take (by assumption)) ?_; intro _ _)
    | (rw [zw_B]; with_reducible refine zw_mono (zz_constant (by assumption)) ?_; rintro _ ⟨_, _⟩)
    | (rw [zw_B]; with_reducible refine zw_mono (zz_simpleType (by assumption)) ?_; rintro _ ⟨_, _⟩)
    | (rw [zw_B]; with_reducible refine zw_mono (zz_type (by assumption)) ?_; rintro _ ⟨_, _⟩)
    | (rw [zw_B]; with_reducible refine zw_mono (zz_whole (by assumption)) ?_; rintro _ ⟨_, _⟩)
    | (rw [zw_B]; with_reducible refine zw_mono (zz_add (by assumption)) ?_; rintro _ ⟨_, _⟩)
    | (rw [zw_B]; with_reducible refine zw_mono (zz_hang (by assumption) (by assumption) (by first | assumption | exact zq_vl_n | exact zq_vl_v (by assumption)) (by assumption)) ?_; rintro _ ⟨_, _⟩)
    | rw [if_pos (zq_at (by assumption))]
    | rw [zz_isCell (by assumption), if_pos rfl]
    | rw [if_neg (zq_ne (by assumption) (by decide) (by decide))]
theorem zz_L216 {d N : Nat} {x1 x2 x3 x4 : Int32} (H : zq_Z h0 T n K LC φ w h) (v1 : zq_v x1) (v2 : zq_vl x2) : zw (f_Ps_namedOperand_L216 (f_Ps_expression (d + 2)) (N + 2) h x1 x2 x3 x4) (fun p => zq_v p.1 ∧ zq_Z h0 T n K LC φ w p.2) := by
  show zw (f_Ps_namedOperand_216 (f_Ps_expression (d + 2)) (f_Ps_namedOperand_L216 (f_Ps_expression (d + 2)) (N + 1)) h x1 x2 x3 x4) _
  unfold f_Ps_namedOperand_216
  by_cases c : 16384 ≤ x4
  · rw [if_pos c]; exact zz_274 H v1
  rw [if_neg c]
  by_cases c3 : x3 = 0
  · rw [if_pos c3]; exact zz_274 H v1
  rw [if_neg c3, zw_B]
  refine zw_mono (zz_expression H) ?_
  rintro ⟨v4, h5⟩ ⟨y1, y2⟩
  rw [zw_B]
  refine zw_mono (zz_hang y2 v1 v2 y1) ?_
  rintro ⟨v7, h8⟩ ⟨y3, y4⟩
  rw [if_neg (zq_ne y4 (by decide) (by decide))]
  unfold f_Ps_namedOperand_257 f_Ps_namedOperand_268
  rw [if_pos rfl]
  show zw (f_Ps_namedOperand_216 (f_Ps_expression (d + 2)) (f_Ps_namedOperand_L216 (f_Ps_expression (d + 2)) N) h8 x1 v7 0 (x4 + 1)) _
  unfold f_Ps_namedOperand_216
  by_cases c5 : 16384 ≤ x4 + 1
  · rw [if_pos c5]; exact zz_274 y4 v1
  · rw [if_neg c5, if_pos rfl]; exact zz_274 y4 v1
theorem zxb_call0 {d N : Nat} {x1 : Int32} (H : zx_B g0 T n φ w m O g) : zw (f_Mo_call_L32 (f_Mo_expression d) (N + 1) g x1 0) (zx_B g0 T n φ w m O) := by
  show zw (f_Mo_call_32 (f_Mo_expression d) (f_Mo_call_L32 (f_Mo_expression d) N) g x1 0) _
  unfold f_Mo_call_32
  rw [if_pos rfl, zx_wantSign H, Option.bind_some, zw_some]
  exact zx_uF H (Or.inl rfl)
theorem zxb_callL {d N : Nat} {x1 x2 : Int32} (H : zx_B g0 T n φ w m O g) : zw (f_Mo_call_L32 (f_Mo_expression (d + 1)) (N + 2) g x1 x2) (zx_B g0 T n φ w m O) := by
  by_cases c : x2 = 0
  · subst c; exact zxb_call0 H
  show zw (f_Mo_call_32 (f_Mo_expression (d + 1)) (f_Mo_call_L32 (f_Mo_expression (d + 1)) (N + 1)) g x1 x2) _
  unfold f_Mo_call_32
  rw [if_neg c, zxb_expression H, Option.bind_some, zx_isSign H, if_pos rfl]
  exact zxb_call0 H
theorem zxb_142 {x : Int32} (H : zx_B g0 T n φ w m O g) (hO : O < 200) : zw (f_Mo_nameOperand_142 g x) (zx_B g0 T n φ w m (O + 1)) := by
  unfold f_Mo_nameOperand_142
  rw [zw_bind]
  exact zw_mono (zxb_keep H hO) fun g' z => zw_some.mpr z
end ZSz
section ZS
variable {h0 g0 h g h' g' : zs_H} {T : Nat → Int32} {n K : Nat} {LC LM LM' : List (List Int32)} {j d s m o q kd j' d' s' m' e st D : Nat} {p v y : Int32} {u : zt_T}
/-- the model keeps it -/
theorem zk_142 (I : zk_J h0 g0 T n K LC LM j d s m o q kd p v h g u y LM' j' d' s' m' e st D h' g') (ho : o < 200) (ha : zg_A kd st = true) (hv : zg_b kd = 0) (hS : kd ∈ zg_E) (h37 : ¬ kd = 37) (hj : j < j') (he : 1 ≤ e) (hD : D ≤ (60 - d) + (d' - d) + 1) : zk_G h0 g0 T n K LC m 20900 (o + 1) (zk_X h0 g0 T n K LC LM j d s m o q 0 0 h g) (some (nI s, h')) (f_Mo_nameOperand_142 g' (nI m)) := by
  have b := zk_Jb I
  obtain ⟨g6, e14, L6, fin⟩ := zk_Jk I ho ha (Or.inl hv) hS h37
  unfold f_Mo_nameOperand_142
  rw [e14]
  exact ⟨nI s, h', g6, rfl, rfl, Or.inl (fin zk_Yr L6 (Nat.le_refl _) (by omega) (by omega) (by omega) (by omega))⟩
/-- closed, and kept -/
theorem zk_142c (I : zk_J h0 g0 T n K LC LM j d s m o q kd p v h g u y LM' j' d' s' m' e st D h' g') (ho : o < 200) (ha : zg_A kd st = true) (hv : zg_b kd = 0) (hS : kd ∈ zg_E) (h37 : ¬ kd = 37) (hj : j < j') (he : 1 ≤ e) (hd : d + 1 ≤ d') (hD : D ≤ (60 - d) + (d' - d)) : zk_G h0 g0 T n K LC m 20900 (o + 1) (zk_X h0 g0 T n K LC LM j d s m o q 0 0 h g) (some (nI s, zs_uF h' 19 7 (h'.1 19 7 - 1))) (f_Mo_nameOperand_142 (zs_uF g' 68 12 (g'.1 68 12 - 1)) (nI m)) := by
  obtain ⟨z, rfl⟩ : ∃ z, d' = z + 1 := ⟨d' - 1, by omega⟩
  have b := zk_Jb I
  have L := zk_close I.1
  exact zk_142 (zk_Jt I (zk_Yo (fs := [(19, 7)]) (fs' := [(68, 12)]) (zfr_F (by decide) zfr_rfl) (zfr_F (by decide) zfr_rfl)) (by omega) (Nat.le_refl _) L) ho ha hv hS h37 hj (by omega) (by omega)
/-- an output of an instance -/
theorem zk_nout (I : zk_J h0 g0 T n K LC LM j d s m o q 33 p v h g .leaf (-1) LM' j' d' s' m' e 0 1 h' g') (ho : o < 200) (hj : j < j') (he : 2 ≤ e) (hs : s' ≤ 20800) (hm : m' ≤ 20800) (ht : (h'.1 19 5) = 46) : zk_G h0 g0 T n K LC m 20900 (o + 1) (zk_X h0 g0 T n K LC LM j d s m o q 0 0 h g) ((f_Ps_take h' 46).bind fun h31 => (if zd_in (h31.1 19 4) 16385 then (zd_B (f_Tr_add h31 38 (h31.1 19 6) (h31.2.1 11 (h31.1 19 4).toNatClampNeg)) fun v34 h35 => (zd_B (f_Tr_hang h35 (nI s) (-1) v34) fun v37 h38 => ((f_Ps_take h38 8).bind fun h40 => (some (nI s, h40))))) else none)) ((f_Mo_next g').bind fun h13 => (zd_B (f_Mo_add h13 (nI m) 6 (h13.1 68 7) (h13.1 68 9)) fun v15 h16 => (if (h16.1 68 6) = 1 then f_Mo_nameOperand_122 h16 (nI m) 1 else f_Mo_nameOperand_122 h16 (nI m) 0))) := by
  have b := zk_Jb I
  have v0 : zq_v (nI s) := ⟨s, by omega, rfl⟩
  obtain ⟨h3, g3, e5, e6, f3, f4, R⟩ := zk_step I.1 (zk_notE I.1 (by rw [ht]; decide))
  rw [ht] at e5
  rw [e5, e6, Option.bind_some, Option.bind_some]
  rcases R with ⟨LM3, hp, L3⟩ | ⟨φ, w, z1, z2⟩
  · have J2 := zk_Jt I (zk_Yk ⟨f3, f4⟩ hp) (by omega) (by omega) L3
    have b2 := zk_Jb J2
    have m4 := L3.2.2.2.2.2.2.2.2.1
    rw [if_pos (zk_atI L3)]
    obtain ⟨h4, e7, L4, qA⟩ := zk_cadd L3 (kd := 38) (kv := 38) (v := h3.2.1 11 (h3.1 19 4).toNatClampNeg) (by omega) (by omega) rfl
    have etk : (h4.1 19 5) = (h3.1 19 5) := by rw [L4.2.2.2.1.2.2.1, L3.2.2.2.1.2.2.1]
    rw [e7, zo_B]
    by_cases c : (h3.1 19 5) = 8
    · have hk1 : (zl_at T n (j' + 1)).1 = 1 := by
        have := ((zk_kind L3).1).mpr c
        rw [L3.2.2.2.2.2.2.2.2.2.2.1] at this
        exact (zc_eq (k := 1) (by decide) (by have := (zk_F L3).1; omega)).mp this
      obtain ⟨g5, e8, L5, qM, q1, q2, q3, q4, q5, q6, q7⟩ := zk_madd L4 (b := m) (kd := 38) (kv := 6) (p := (g3.1 68 7)) (v := (g3.1 68 9)) (v' := h3.2.1 11 (h3.1 19 4).toNatClampNeg) (by omega) (by omega) rfl (by rw [if_pos (by decide)]; exact (zk_nm L3 hk1).2)
      rw [e8, zo_B]
      rw [m4] at qM
      obtain ⟨h6, e9, J6⟩ := zk_Jc0 (e' := e + 1) (st' := 1) (D' := 1) (S := [38]) J2 (zg_n (D := 0) zg_U0 rfl (Or.inl rfl) (List.mem_singleton.mpr rfl)) (zg_c_n (by decide)) (List.prefix_refl _) L5 (by omega) (a := s') ⟨by omega, by omega⟩ (zt_Cm (fun i hi => by omega) (zt_Cn (by omega) qA)) (zq_kp_A qA) qM (zo_fr_f q7 (by decide) (by decide) (by decide)) (by decide) (Nat.le_refl _)
      rw [e9, zo_B]
      obtain ⟨h7, g7, e10, e11, R⟩ := zk_want J6.1 (x := 8) (y := 1) ⟨fun _ => by rw [J6.1.2.2.2.1.2.2.1, ← L3.2.2.2.1.2.2.1]; exact c, fun _ => by decide⟩ (by decide)
      have ek : (g5.1 68 6) = 1 := by rw [q7.1 _ _ (by decide)]; exact ((zk_kind L3).1).mpr c
      rw [if_pos ek]
      unfold f_Mo_nameOperand_122
      rw [e10, e11, Option.bind_some, Option.bind_some]
      rcases R with ⟨φ, w, z1, z2⟩ | ⟨_, ⟨f5, f6, LM5, hp5, L7⟩ | ⟨φ, w, z1, z2⟩⟩
      · exact zk_Gf (φ := φ) (w := w) (zw_some.mpr ⟨v0, z1⟩) (zw_mono (zxb_142 z2 ho) fun g' z => ⟨_, by omega, z⟩)
      · exact zk_142 (zk_Jt J6 (zk_Yk ⟨f5, f6⟩ hp5) (by omega) (by omega) L7) ho rfl rfl (by decide) (by decide) (by omega) (by omega) (by omega)
      · exact zk_Gf (φ := φ) (w := w) (zw_some.mpr ⟨v0, z1⟩) (zw_mono (zxb_142 z2 ho) fun g' z => ⟨_, by omega, z⟩)
    · obtain ⟨i1, i3, ⟨c1, c2, c3, c4, c5⟩, _⟩ := J2
      obtain ⟨k1, k2, k3, k4, k5⟩ := zq_kp_A qA s (by omega)
      have c5' : zt_C h4 .leaf (fun i => s < i ∧ i < s') ((h4.2.1 17) s) (-1) := by rw [k4]; exact c5
      obtain ⟨h5, e8, _, e9, e10⟩ := zq_hangC (ip := s) (a := s') (by omega) (fun i hi => by omega) c5' (zt_Cn (by omega) qA) (fun i hi z => by omega) (by omega) (by omega) (by omega)
      rw [e8, zo_B]
      have L5 := zk_cf L4 e10 (by decide)
      obtain ⟨g5, e11, L6, q7⟩ := zk_madd0 L5 (b := m) (kn := 6) (kv := 6) (p := (g3.1 68 7)) (v := (g3.1 68 9)) (by omega) (by omega) rfl
      rw [e11, zo_B, if_neg (show ¬ (g5.1 68 6) = 1 by rw [q7]; exact fun z => c (((zk_kind L3).1).mp z))]
      unfold f_Mo_nameOperand_122
      have ne : ¬ (h5.1 19 5) = 8 := by rw [L6.2.2.2.1.2.2.1, ← L3.2.2.2.1.2.2.1]; exact c
      obtain ⟨h7, g7, e12, e13, R⟩ := zk_want L6 (x := 8) (y := 0) ⟨fun z => absurd rfl z, fun z => absurd z ne⟩ (by decide)
      rw [e12, e13, Option.bind_some, Option.bind_some]
      rcases R with ⟨φ, w, z1, z2⟩ | ⟨z, _⟩
      · exact zk_Gf (φ := φ) (w := w) (zw_some.mpr ⟨v0, z1⟩) (zw_mono (zxb_142 z2 ho) fun g' z => ⟨_, by omega, z⟩)
      · exact absurd z ne
  · refine zk_Gf (φ := φ) (w := w) ?_ ?_
    · repeat' first
        | with_reducible exact zw_some.mpr ⟨by assumption, by assumption⟩
        | with_reducible exact zw_some.mpr ⟨by assumption, zz_open (by assumption)⟩
        | (rw [zw_B]; with_reducible refine zw_mono (zz_expression (by assumption)) ?_; rintro _ ⟨_, _⟩)
        | (rw [zw_B]; with_reducible refine zw_mono (zz_operand (by assumption)) ?_; rintro _ ⟨_, _⟩)
        | (rw [zw_bind]; with_reducible refine zw_mono (zz_take (by assumption)) ?_; intro _ _)
        | (rw [zw_B]; with_reducible refine zw_mono (zz_constant (by assumption)) ?_; rintro _ ⟨_, _⟩)
        | (rw [zw_B]; with_reducible refine zw_mono (zz_simpleType (by assumption)) ?_; rintro _ ⟨_, _⟩)
        | (rw [zw_B]; with_reducible refine zw_mono (zz_type (by assumption)) ?_; rintro _ ⟨_, _⟩)
        | (rw [zw_B]; with_reducible refine zw_mono (zz_whole (by assumption)) ?_; rintro _ ⟨_, _⟩)
        | (rw [zw_B]; with_reducible refine zw_mono (zz_add (by assumption)) ?_; rintro _ ⟨_, _⟩)
        | (rw [zw_B]; with_reducible refine zw_mono (zz_hang (by assumption) (by assumption) (by first | assumption | exact zq_vl_n | exact zq_vl_v (by assumption)) (by assumption)) ?_; rintro _ ⟨_, _⟩)
        | rw [if_pos (zq_at (by assumption))]
        | rw [zz_isCell (by assumption), if_pos rfl]
        | rw [if_neg (zq_ne (by assumption) (by decide) (by decide))]
    · rw [zw_B]
      refine zw_mono (zxb_add (kn := 6) z2 (by omega) rfl (by omega)) fun q z => ?_
      unfold f_Mo_nameOperand_122
      split
      · rw [zw_bind]
        exact zw_mono (zxw_want z.2) fun g' z => zw_mono (zxb_142 z ho) fun g' z => ⟨_, by omega, z⟩
      · rw [zw_bind]
        exact zw_mono (zxw_want z.2) fun g' z => zw_mono (zxb_142 z ho) fun g' z => ⟨_, by omega, z⟩
end ZS
end
