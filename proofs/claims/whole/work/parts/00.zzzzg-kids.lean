/-! The judge: an expression's children; what expressions there are. -/
def yb_top : zt_T → Prop
  | .leaf => True
  | .inner kd _ _ _ r => kd ∈ yb_E ∧ yb_top r
theorem yb_top38 : ∀ t, yb_top t → ∀ c, ¬ c ∈ [6, 30, 31, 32, 33, 34, 35, 36] → ¬ zt_has c t := by
  intro t
  induction t with
  | leaf => intro _ c _ h; exact h
  | inner kd kv o l r ihl ihr =>
    intro ⟨h1, h2⟩ c hc h
    rcases h with e | e
    · rw [e] at h1; exact hc h1
    · exact ihr h2 c hc e
/-- a state that is no end, and a state behind which nothing comes -/
theorem yb_run {kd st : Nat} {c : Nat} {kv : Int32 × Int32} {o : Unit} {lc r : zt_T} (h : zg_A kd (zg_run kd st (.inner c kv o lc r)) = true) : ¬ zg_q kd st c = 99 := fun z => by
  have : zg_run kd st (.inner c kv o lc r) = 99 := by show zg_run kd (zg_q kd st c) r = 99; rw [z]; exact zv_q99 kd r
  rw [this, zv_A99] at h
  exact absurd h (by decide)
theorem yb_g1 {kd : Nat} {l : zt_T} (hk : kd = 32 ∨ kd = 36) (h : zg_A kd (zg_run kd 0 l) = true) : ∃ c kv o lc, l = .inner c kv o lc .leaf ∧ c ∈ yb_E := by
  have key : ∀ r ∈ zg_R, (r.1 = 32 ∨ r.1 = 36) → r.2 = (0, yb_E, 1) := by decide +kernel
  cases l with
  | leaf => rcases hk with e | e <;> rw [e] at h <;> exact absurd h (by decide)
  | inner c kv o lc r =>
    obtain ⟨cs, to, m1, m2, m3⟩ := zv_qR (yb_run h)
    have k1 := key _ m1 hk
    simp only [Prod.mk.injEq] at k1
    obtain ⟨_, e2, e3⟩ := k1
    rw [e2] at m2
    have h' : zg_A kd (zg_run kd 1 r) = true := by
      have : zg_run kd 0 (.inner c kv o lc r) = zg_run kd 1 r := by show zg_run kd (zg_q kd 0 c) r = _; rw [m3, e3]
      rw [← this]; exact h
    cases r with
    | leaf => exact ⟨c, kv, o, lc, rfl, m2⟩
    | inner c2 kv2 o2 lc2 r2 =>
      obtain ⟨cs, to, m1, _, _⟩ := zv_qR (yb_run h')
      have k1 := key _ m1 hk
      simp only [Prod.mk.injEq] at k1
      exact absurd k1.1 (by decide)
theorem yb_g2 {l : zt_T} (h : zg_A 35 (zg_run 35 0 l) = true) : ∃ c kv o lc c2 kv2 o2 lc2, l = .inner c kv o lc (.inner c2 kv2 o2 lc2 .leaf) ∧ c ∈ yb_E ∧ c2 ∈ yb_E := by
  have key : ∀ r ∈ zg_R, r.1 = 35 → r.2 = (0, yb_E, 1) ∨ r.2 = (1, yb_E, 2) := by decide +kernel
  cases l with
  | leaf => exact absurd h (by decide)
  | inner c kv o lc r =>
    obtain ⟨cs, to, m1, m2, m3⟩ := zv_qR (yb_run h)
    have k1 := key _ m1 rfl
    simp only [Prod.mk.injEq] at k1
    obtain ⟨e2, e3⟩ : cs = yb_E ∧ to = 1 := by
      rcases k1 with ⟨_, a, b⟩ | ⟨a, _⟩
      · exact ⟨a, b⟩
      · exact absurd a (by decide)
    rw [e2] at m2
    have h' : zg_A 35 (zg_run 35 1 r) = true := by
      have : zg_run 35 0 (.inner c kv o lc r) = zg_run 35 1 r := by show zg_run 35 (zg_q 35 0 c) r = _; rw [m3, e3]
      rw [← this]; exact h
    cases r with
    | leaf => exact absurd h' (by decide)
    | inner c2 kv2 o2 lc2 r2 =>
      obtain ⟨cs, to, n1, n2, n3⟩ := zv_qR (yb_run h')
      have k1 := key _ n1 rfl
      simp only [Prod.mk.injEq] at k1
      obtain ⟨e2, e3⟩ : cs = yb_E ∧ to = 2 := by
        rcases k1 with ⟨a, _⟩ | ⟨_, a, b⟩
        · exact absurd a (by decide)
        · exact ⟨a, b⟩
      rw [e2] at n2
      have h2 : zg_A 35 (zg_run 35 2 r2) = true := by
        have : zg_run 35 1 (.inner c2 kv2 o2 lc2 r2) = zg_run 35 2 r2 := by show zg_run 35 (zg_q 35 1 c2) r2 = _; rw [n3, e3]
        rw [← this]; exact h'
      cases r2 with
      | leaf => exact ⟨c, kv, o, lc, c2, kv2, o2, lc2, rfl, m2, n2⟩
      | inner c3 kv3 o3 lc3 r3 =>
        obtain ⟨cs, to, n1, _, _⟩ := zv_qR (yb_run h2)
        have k1 := key _ n1 rfl
        simp only [Prod.mk.injEq] at k1
        rcases k1 with ⟨a, _⟩ | ⟨a, _⟩ <;> exact absurd a (by decide)
theorem yb_g34 : ∀ {l : zt_T}, zg_A 34 (zg_run 34 0 l) = true → yb_top l := by
  have key : ∀ r ∈ zg_R, r.1 = 34 → r.2 = (0, yb_E, 0) := by decide +kernel
  intro l
  induction l with
  | leaf => intro _; trivial
  | inner c kv o lc r _ ihr =>
    intro h
    obtain ⟨cs, to, m1, m2, m3⟩ := zv_qR (yb_run h)
    have k1 := key _ m1 rfl
    simp only [Prod.mk.injEq] at k1
    obtain ⟨_, e2, e3⟩ := k1
    rw [e2] at m2
    refine ⟨m2, ihr ?_⟩
    have : zg_run 34 0 (.inner c kv o lc r) = zg_run 34 0 r := by show zg_run 34 (zg_q 34 0 c) r = _; rw [m3, e3]
    rw [← this]; exact h
theorem yb_g33 {l : zt_T} (hok : zg_ok l) (h : zg_A 33 (zg_run 33 0 l) = true) : ∃ kv o, l = .inner 38 kv o .leaf .leaf := by
  have key : ∀ r ∈ zg_R, r.1 = 33 → r.2 = (0, [38], 1) := by decide +kernel
  cases l with
  | leaf => exact absurd h (by decide)
  | inner c kv o lc r =>
    obtain ⟨cs, to, m1, m2, m3⟩ := zv_qR (yb_run h)
    have k1 := key _ m1 rfl
    simp only [Prod.mk.injEq] at k1
    obtain ⟨_, e2, e3⟩ := k1
    rw [e2] at m2
    have ec : c = 38 := List.mem_singleton.mp m2
    subst ec
    have h' : zg_A 33 (zg_run 33 1 r) = true := by
      have : zg_run 33 0 (.inner 38 kv o lc r) = zg_run 33 1 r := by show zg_run 33 (zg_q 33 0 38) r = _; rw [m3, e3]
      rw [← this]; exact h
    have el : lc = .leaf := zv_nolf (kd := 38) (by decide +kernel) hok.1.1
    subst el
    cases r with
    | leaf => exact ⟨kv, o, rfl⟩
    | inner c2 kv2 o2 lc2 r2 =>
      obtain ⟨cs, to, n1, _, _⟩ := zv_qR (yb_run h')
      have k1 := key _ n1 rfl
      simp only [Prod.mk.injEq] at k1
      exact absurd k1.1 (by decide)
section YBK
variable {LC LM : List (List Int32)} {nb nf sz : Nat} {F : Nat → Nat} {h g : zs_H} {P Q : Nat → Prop} {i k up d D D' kd : Nat} {kv : Int32 × Int32} {l : zt_T} {y : Int32}
theorem yb_ln (nd : yb_nd LC LM h g kd kv l i k up P Q y) (hPs : ∀ j, P j → j < sz) : zt_ln l ≤ sz := Nat.le_trans (zv_lnsz l) (Nat.le_trans (zt_sz_le l P _ _ _ sz nd.2.2.1 hPs) (zc_cnt_le _ _))
/-- the children of a node that is no sign between two -/
theorem yb_kids (C : yb_cx LC LM nb nf sz F h g) (nd : yb_nd LC LM h g kd kv l i k up P Q y) (hkd : kd = 32 ∨ kd = 34 ∨ kd = 36) (Ph : yb_Ph l) (hPs : ∀ j, P j → j < sz) (hd : d + zg_d l ≤ 240) (hD : zg_d l ≤ D) (hD' : 2 * zg_d l ≤ D') :
    (∃ h' g', f_Jd_visit (D + 1) h (nI i) (nI d) = some h' ∧ f_Mo_lookAlone (D' + 2) g (nI k) = some g' ∧ zv_Fb h g h' g' ∧ ¬ (h'.1 38 3) = 0 ∧ ¬ (g'.1 68 29) = 0) ∨
    (∃ h2 g2, f_Jd_visit (D + 1) h (nI i) (nI d) = f_Jd_leave h2 (nI i) ∧ f_Mo_lookAlone (D' + 2) g (nI k) = f_Mo_lookAtExpressions g2 (nI k) ∧ yb_out P Q h g h2 g2 ∧ yb_F F (nb - 1) h2 g2 P Q l ((h.2.1 17) i) ((g.2.1 76) k) (-1) (-1) ∧ (h2.1 38 3) = 0 ∧ (g2.1 68 29) = 0) := by
  have hz := zF_big
  obtain ⟨⟨hi, hk, hPi, hQk, hP, hQ⟩, ⟨c0, c1, c2, c3, c4⟩, cC, ⟨m0, m1, m2, m3⟩, cM⟩ := id nd
  have hln := yb_ln nd hPs
  have ekm : zt_km kd = kd := by rcases hkd with e | e | e <;> rw [e] <;> rfl
  rw [ekm] at m0
  have J1 : (h.1 38 3) = 0 := C.1.2.2.2.2.2.2.2.1
  have J2 : (g.1 68 29) = 0 := C.1.2.2.2.2.2.2.2.2
  have hsz : sz < 100000 := by have := C.2.2.2.2; omega
  have hke : ¬ kd ∈ [1, 2, 3, 4, 5, 13, 16, 19, 22, 24] := by rcases hkd with e | e | e <;> rw [e] <;> decide
  have eC := zv_vC (D := D) (d := d) (h := h) (i := i) (by omega) hi (zv_ent0 hi (by omega) c0 hke)
  have eM := zv_aM (D' := D' + 1) (g := g) (k := k) (kd := kd) hk (by omega) (by omega) m0
  have S0 : yb_St LC LM nb F i k l P Q h g l h g ((h.2.1 17) i) ((g.2.1 76) k) := ⟨.leaf, fun _ => False, fun _ => False, P, Q, y, (g.2.1 77) k, rfl, ⟨cC, cM⟩, ⟨fun _ z => z, fun _ z => z, fun _ z => z.elim, fun _ z => z.elim⟩, ⟨rfl, rfl⟩, c4, yb_out0, Ph, Nat.le_refl _, J1, J2⟩
  have stp : zv_stp D (D' + 1) d sz (yb_St LC LM nb F i k l P Q h g) (zv_Fb h g) := by
    intro c kv w lc r h' g' x x' S
    exact yb_step C hk hP hPs hQ m0 (by omega) (by omega) (by omega) hd hD hD' S
  have hend : ∀ h' g' x x', yb_St LC LM nb F i k l P Q h g .leaf h' g' x x' → x = -1 ∧ x' = -1 := by
    intro h' g' x x' S
    obtain ⟨_, _, _, _, _, yu, yu', _, ⟨sC, sM⟩, _⟩ := S
    exact ⟨(show x = -1 ∧ yu = -1 from sC).1, (show x' = -1 ∧ yu' = -1 from sM).1⟩
  rcases zv_fold (i := i) (k := k) (kd := kd) (d := d) (by omega) hsz stp hend l 0 zF zF h g _ _ S0 (by omega) (by omega) (by omega) with ⟨h', g', a1, a2, a3, a4, a5⟩ | ⟨h', g', a1, a2, a3⟩
  · exact .inl ⟨h', g', by rw [eC, a1], by rw [eM, a2], a3, a4, a5⟩
  · right
    obtain ⟨w, Pw, Qw, Pu, Qu, yu, yu', e0, _, ⟨_, _, p3, p4⟩, A, _, O, _, _, n1, n2⟩ := a1
    rw [zt_ap_leaf] at e0
    subst e0
    refine ⟨h', g', ?_, ?_, O, yb_Fm (fun j z => (p3 j z).1) (fun j z => (p4 j z).1) _ _ _ _ _ A, n1, n2⟩
    · rw [eC, a2]
      unfold f_Jd_visit_74
      rw [if_pos n1, Option.bind_fun_some]
    · rw [eM, a3, zv_54E (by omega) (by omega) n2]
/-- a node without children -/
theorem yb_lf (C : yb_cx LC LM nb nf sz F h g) (nd : yb_nd LC LM h g kd kv .leaf i k up P Q y) (hkd : kd = 6 ∨ kd = 30 ∨ kd = 31) (hd : d ≤ 240) : f_Jd_visit (D + 1) h (nI i) (nI d) = f_Jd_leave h (nI i) ∧ f_Mo_lookAlone (D' + 1) g (nI k) = f_Mo_lookAlone_54 g (nI k) (nI kd) := by
  obtain ⟨⟨hi, hk, hPi, hQk, hP, hQ⟩, ⟨c0, c1, c2, c3, c4⟩, cC, ⟨m0, m1, m2, m3⟩, cM⟩ := nd
  have ekm : zt_km kd = kd := by rcases hkd with e | e | e <;> rw [e] <;> rfl
  rw [ekm] at m0
  have J1 : (h.1 38 3) = 0 := C.1.2.2.2.2.2.2.2.1
  have hke : ¬ kd ∈ [1, 2, 3, 4, 5, 13, 16, 19, 22, 24] := by rcases hkd with e | e | e <;> rw [e] <;> decide
  have e1 : (h.2.1 17) i = -1 := (show (h.2.1 17) i = -1 ∧ y = -1 from cC).1
  have e2 : (g.2.1 76) k = -1 := (show (g.2.1 76) k = -1 ∧ (g.2.1 77) k = -1 from cM).1
  refine ⟨?_, ?_⟩
  · rw [zv_vC hd hi (zv_ent0 hi (by omega) c0 hke), e1, show zF = 18446744073709551615 + 1 from rfl, zv_enC]
    unfold f_Jd_visit_74
    rw [if_pos J1, Option.bind_fun_some]
  · rw [zv_aM hk (by omega) (by omega) m0, e2, show zF = 18446744073709551615 + 1 from rfl, zv_enM]
end YBK
