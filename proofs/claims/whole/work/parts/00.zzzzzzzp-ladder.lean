/-! The coder: the rungs of a ladder, on both sides. -/
section YUR
variable {LC LM : List (List Int32)} {nb b sz : Nat} {F Fb X Y : Nat → Nat} {h0 g0 : zs_H} {P Q : Nat → Prop}
theorem yu_nm {m : Nat} : ∀ t : zt_T, (∀ n, n ∈ yl_ns t → n = m) → zt_ln t * m ≤ zt_sz t := by
  have yn : ∀ t, yl_n t ≤ zt_ln t := by
    intro t
    induction t with
    | leaf => exact Nat.le_refl _
    | inner kd kv o l r _ ihr => show (if kd = 29 then 0 else 1) + yl_n r ≤ 1 + zt_ln r; split <;> omega
  intro t
  induction t with
  | leaf => intro _; show 0 * m ≤ 0; omega
  | inner kd kv o l r _ ihr =>
    intro h
    have a := ihr (fun n hn => h n (List.mem_cons_of_mem _ hn))
    have c := h (yl_n l) List.mem_cons_self
    have d := yn l
    have e := zv_lnsz l
    show (1 + zt_ln r) * m ≤ 1 + zt_sz l + zt_sz r
    rw [Nat.add_mul]
    omega
theorem yu_cin {g : zs_H} (f : yM_f g0 g) : f_Mo_cellsIn g = f_Mo_cellsIn g0 := by
  have e : ∀ a, ¬ a ∈ yM_M → g.2.1 a = g0.2.1 a := fun a ha => f.2.1 a ha
  have c30 : f_Mo_cellsIn_30 g = f_Mo_cellsIn_30 g0 := by
    funext k9 x3 y0 y1
    unfold f_Mo_cellsIn_30
    rw [e 78 (by decide)]
  have c9 : f_Mo_cellsIn_9 g = f_Mo_cellsIn_9 g0 := by
    funext k9 x2 x3
    unfold f_Mo_cellsIn_9
    rw [c30, e 72 (by decide)]
  have cL : f_Mo_cellsIn_L9 g = f_Mo_cellsIn_L9 g0 := by
    unfold f_Mo_cellsIn_L9; rw [c9]
  funext x
  unfold f_Mo_cellsIn
  rw [cL, e 76 (by decide)]
/-- one rung, from its tree -/
theorem yu_one (C : yj_cx LC LM nb b sz F Fb X Y h0 g0 P) {kv : Int32 × Int32} {o : Unit} {l : zt_T} {i k ow pw : Nat} {xl y : Int32} {Qm : Nat → Prop} (hA : zg_A 23 (zg_run 23 0 l) = true) (ok : zg_ok l) (ro : zg_ro l) (hi : i < 32784) (hk : k < 33500) (ech : (h0.2.1 17) i = xl) (A : yb_F Fb b h0 g0 P Q l xl ((g0.2.1 76) k) (-1) (-1)) (M : zt_M LC LM g0 l Qm (nI k) ((g0.2.1 76) k) y) (G : yg_G 1 g0 Q ow l ((g0.2.1 76) k)) (hpw : pw < 100000) (ex : (g0.2.1 88) b = nI (pw + 156)) : ∃ (rows : List (List yT)) (m : Nat), yu_F m rows ∧ (∀ cs, cs ∈ rows → ∀ u, u ∈ cs → yu_B (yu_tb h0 b) (yq_k h0 b).2 (Y b) ow (ow + yg_c 1 l) u) ∧ (∀ (h : zs_H) (kk : Nat), yC_f h0 h → (h.1 41 5) = nI kk → (h.1 47 4) = nI ow → (h.1 47 5) = nI pw → kk + 1700 ≤ 80000000 → (yu_rg pw (yu_q rows) rows.length m).length ≤ 16 * zt_sz l ∧ (yu_cs pw (yu_q rows) rows.length m m).length ≤ 1584 ∧ ∃ h', f_Cr_codeRung h (nI i) = some h' ∧ yC_U kk (yu_rg pw (yu_q rows) rows.length m) h h' ∧ (h'.1 47 4) = nI (ow + yg_c 1 l) ∧ (h'.1 47 6) = (h.1 47 6)) ∧ ∀ (g : zs_H) (kk s v : Nat), yM_f g0 g → yM_c g kk s b v → kk + (yu_cs pw (yu_q rows) rows.length m m).length + 60 ≤ 80000000 → ∃ g', f_Mo_rungCode g (nI k) = some g' ∧ yM_E s kk (yv v (yu_rg pw (yu_q rows) rows.length m)) g g' := by
  have hz := zF_big
  obtain ⟨rc, l12, n0, n12, hns⟩ := ro
  have hr := yl_g23 ok (yc_gA hA)
  obtain ⟨rows, q1, q2, q3, q4, q5⟩ := yu_mkQ C l hr ok (fun n hn => by rw [hns n hn]; exact n12) ow Qm (nI k) xl _ y A M G
  -- the first row
  have first : 1 ≤ zt_ln l ∧ 1 ≤ n0 ∧ f_Mo_cellsIn g0 ((g0.2.1 76) k) = some (nI n0) := by
    cases l with
    | leaf => exact absurd hA (by decide)
    | inner kd kv1 o1 lc r =>
      obtain ⟨⟨e24, ht⟩, _⟩ := hr
      obtain ⟨ok1, _, _⟩ := ok
      subst e24
      obtain ⟨_, f2⟩ := yu_24 lc 0 (yc_gA ok1.1)
      rw [if_neg (by decide)] at f2
      have e0 : yl_n lc = n0 := hns _ List.mem_cons_self
      have h1 : 1 ≤ zt_ln lc := by
        cases lc with
        | leaf => exact absurd ok1.1 (by decide)
        | inner => show 1 ≤ 1 + _; omega
      obtain ⟨a, ka, xa, _, ⟨_, hka, eka, _⟩, _, Al, _⟩ := A
      have hln := zv_lnsz lc
      refine ⟨by show 1 ≤ 1 + _; omega, by omega, ?_⟩
      unfold f_Mo_cellsIn
      rw [eka, if_pos (zi_in (by omega) hka), nI_clamp (show ka < 2147483648 by omega)]
      have := yl_cM lc xa ((g0.2.1 76) ka) 0 zF ht Al (by
        have : yl_n lc = n0 := e0
        omega)
      rw [Nat.zero_add, e0] at this
      exact this
  obtain ⟨hl1, hn1, hcin⟩ := first
  have Fm := yu_mkF q1 l12 hl1 n12 hn1 hns q4 (q5 rc)
  have q1' : yu_Q h0 g0 l ((h0.2.1 17) i) ((g0.2.1 76) k) ow rows := by rw [ech]; exact q1
  refine ⟨rows, n0, Fm, q3, fun h kk f es ho hp hkk => ?_, fun g kk s v f c hkk => ?_⟩
  · obtain ⟨h', a1, a2, a3, a4, a5, a6⟩ := yu_rC q1' Fm hi f es ho hp hpw (by omega)
    have hrl := yu_Ql _ _ _ _ _ q1
    have nm := yu_nm l hns
    have e1 : 11 * rows.length * n0 = 11 * (zt_ln l * n0) := by rw [hrl, Nat.mul_assoc]
    have e2 : rows.length ≤ zt_ln l * n0 := by rw [hrl]; exact Nat.le_mul_of_pos_right _ (by omega)
    exact ⟨by omega, a5, h', a1, a2, by rw [a3, q2], a4⟩
  · exact yu_rM q1' Fm hk (by rw [yu_cin f]; exact hcin) ex hpw f c hkk
end YUR
