/-! The judge: statements are visited: CASE and IF (34). -/
section YDR
variable {h g : zs_H} {i k sz : Nat}
/-- children of an IF: 9 is a body, else the type of a condition -/
def yd_C (h : zs_H) : List Nat → Int32 → Prop
  | [], x => x = -1
  | t :: l, x => ∃ a, a < 32784 ∧ x = nI a ∧ ((t = 9 ∧ (h.2.1 13) a = 11) ∨ (t < 3 ∧ ¬ (h.2.1 13) a = 11 ∧ (h.2.1 14) a = nI t)) ∧ yd_C h l ((h.2.1 18) a)
def yd_M (g : zs_H) : List Nat → Int32 → Prop
  | [], x => x = -1
  | t :: l, x => ∃ b, b < 33500 ∧ x = nI b ∧ ((t = 9 ∧ (g.2.1 72) b = 11) ∨ (t < 3 ∧ ¬ (g.2.1 72) b = 11 ∧ (g.2.1 100) b = nI t)) ∧ yd_M g l ((g.2.1 78) b)
theorem yd_uC {N : Nat} {x1 x3 : Int32} (x : Int32) : f_Jd_judgeIf_L12 (N + 1) h x1 x x3 = f_Jd_judgeIf_12 (f_Jd_judgeIf_L12 N) h x1 x x3 := rfl
theorem yd_uM {N : Nat} {x1 : Int32} (x : Int32) : f_Mo_lookAtStatements_L219 (N + 1) g x1 x = f_Mo_lookAtStatements_219 (f_Mo_lookAtStatements_L219 N) g x1 x := rfl
theorem yd_stC {N turn t : Nat} {l : List Nat} {x : Int32} (hsz : (h.1 12 6) = nI sz) (hs2 : sz < 100000) (ht : turn < sz) (H : yd_C h (t :: l) x) : ∃ x2, yd_C h l x2 ∧ ∀ h2 : zs_H, h2.2 = h.2 → f_Jd_refuseIf h (if t = 9 ∨ t = 0 then 0 else 1) 34 (nI i) = some h2 → f_Jd_judgeIf_L12 (N + 1) h (nI i) x (nI turn) = f_Jd_judgeIf_L12 N h2 (nI i) x2 (nI (turn + 1)) := by
  obtain ⟨a, a1, a2, a3, a4⟩ := H
  refine ⟨_, a4, fun h2 e2 e => ?_⟩
  rw [yd_uC]
  unfold f_Jd_judgeIf_12 f_Jd_judgeIf_59 f_Jd_judgeIf_60
  rw [hsz, if_neg (mt (nI_leI (by omega) (by omega)).mp (by omega)), a2, if_neg (zc_m1 (by omega)), if_pos (zi_in (by omega) a1)]
  have fin : ((some h2 : Option zs_H).bind fun h2 => (if zd_in (nI a) 32784 then f_Jd_judgeIf_L12 N h2 (nI i) ((h2.2.1 18) (nI a).toNatClampNeg) (nI turn + 1) else none)) = f_Jd_judgeIf_L12 N h2 (nI i) ((h.2.1 18) a) (nI (turn + 1)) := by
    rw [Option.bind_some, if_pos (zi_in (by omega) a1), nI_clamp (show a < 2147483648 by omega), e2, nI_1]
  rcases a3 with ⟨z1, z2⟩ | ⟨z1, z2, z3⟩
  · rw [if_pos (.inl z1)] at e
    have : (h.2.1 13) (nI a).toNatClampNeg = 11 := by rw [nI_clamp (show a < 2147483648 by omega)]; exact z2
    rw [if_pos this, e]
    exact fin
  · by_cases z0 : t = 0
    · rw [if_pos (.inr z0)] at e
      have : (h.2.1 14) (nI a).toNatClampNeg = 0 := by rw [nI_clamp (show a < 2147483648 by omega), z3, z0]; rfl
      rw [if_pos this, e, ite_self]
      exact fin
    · rw [if_neg (by omega)] at e
      have n1 : ¬ (h.2.1 14) (nI a).toNatClampNeg = 0 := by rw [nI_clamp (show a < 2147483648 by omega), z3]; exact mt (zv_t0 z1).mp z0
      have n2 : ¬ (h.2.1 13) (nI a).toNatClampNeg = 11 := by rw [nI_clamp (show a < 2147483648 by omega)]; exact z2
      rw [if_neg n2, if_neg n1, e]
      exact fin
theorem yd_stM {N t : Nat} {l : List Nat} {x : Int32} (H : yd_M g (t :: l) x) : ∃ x2, yd_M g l x2 ∧ ∀ g2 : zs_H, g2.2 = g.2 → f_Mo_rule g (if t = 9 ∨ t = 0 then 0 else 1) 34 (nI k) = some g2 → f_Mo_lookAtStatements_L219 (N + 1) g (nI k) x = f_Mo_lookAtStatements_L219 N g2 (nI k) x2 := by
  obtain ⟨a, a1, a2, a3, a4⟩ := H
  refine ⟨_, a4, fun h2 e2 e => ?_⟩
  rw [yd_uM]
  unfold f_Mo_lookAtStatements_219 f_Mo_lookAtStatements_248 f_Mo_lookAtStatements_249
  rw [a2, if_neg (zv_neg (show a < 2147483648 by omega)).2, if_pos (zi_in (by omega) a1)]
  have fin : ((some h2 : Option zs_H).bind fun h2 => (if zd_in (nI a) 33500 then f_Mo_lookAtStatements_L219 N h2 (nI k) ((h2.2.1 78) (nI a).toNatClampNeg) else none)) = f_Mo_lookAtStatements_L219 N h2 (nI k) ((g.2.1 78) a) := by
    rw [Option.bind_some, if_pos (zi_in (by omega) a1), nI_clamp (show a < 2147483648 by omega), e2]
  rcases a3 with ⟨z1, z2⟩ | ⟨z1, z2, z3⟩
  · rw [if_pos (.inl z1)] at e
    have : (g.2.1 72) (nI a).toNatClampNeg = 11 := by rw [nI_clamp (show a < 2147483648 by omega)]; exact z2
    rw [if_pos this, e]
    exact fin
  · by_cases z0 : t = 0
    · rw [if_pos (.inr z0)] at e
      have : (g.2.1 100) (nI a).toNatClampNeg = 0 := by rw [nI_clamp (show a < 2147483648 by omega), z3, z0]; rfl
      rw [if_pos this, e, ite_self]
      exact fin
    · rw [if_neg (by omega)] at e
      have n1 : ¬ (g.2.1 100) (nI a).toNatClampNeg = 0 := by rw [nI_clamp (show a < 2147483648 by omega), z3]; exact mt (zv_t0 z1).mp z0
      have n2 : ¬ (g.2.1 72) (nI a).toNatClampNeg = 11 := by rw [nI_clamp (show a < 2147483648 by omega)]; exact z2
      rw [if_neg n2, if_neg n1, e]
      exact fin
theorem yd_Cf {h' : zs_H} (e : h'.2 = h.2) : ∀ l x, yd_C h l x → yd_C h' l x := by
  intro l
  induction l with
  | nil => intro x H; exact H
  | cons t l ih =>
    intro x ⟨a, a1, a2, a3, a4⟩
    exact ⟨a, a1, a2, by rw [e]; exact a3, by rw [e]; exact ih _ a4⟩
theorem yd_Mf {g' : zs_H} (e : g'.2 = g.2) : ∀ l x, yd_M g l x → yd_M g' l x := by
  intro l
  induction l with
  | nil => intro x H; exact H
  | cons t l ih =>
    intro x ⟨a, a1, a2, a3, a4⟩
    exact ⟨a, a1, a2, by rw [e]; exact a3, by rw [e]; exact ih _ a4⟩
theorem yd_enC {N : Nat} {x1 x3 : Int32} : f_Jd_judgeIf_L12 (N + 1) h x1 (-1) x3 = some h := by
  rw [yd_uC]
  unfold f_Jd_judgeIf_12
  rw [if_pos rfl, ite_self]
theorem yd_enM {N : Nat} {x1 : Int32} : f_Mo_lookAtStatements_L219 (N + 1) g x1 (-1) = some g := by
  rw [yd_uM]
  unfold f_Mo_lookAtStatements_219
  rw [if_pos (by decide)]
/-- behind a fault -/
theorem yd_F (hsz : (h.1 12 6) = nI sz) (hs2 : sz < 100000) (hf : ¬ (h.1 38 3) = 0) (hg : ¬ (g.1 68 29) = 0) : ∀ l x x' turn N N', yd_C h l x → yd_M g l x' → turn + l.length ≤ sz → l.length < N → l.length < N' → f_Jd_judgeIf_L12 N h (nI i) x (nI turn) = some h ∧ f_Mo_lookAtStatements_L219 N' g (nI k) x' = some g := by
  intro l
  induction l with
  | nil =>
    intro x x' turn N N' hC hM h1 h2 h3
    obtain ⟨N, rfl⟩ : ∃ z, N = z + 1 := ⟨N - 1, by omega⟩
    obtain ⟨N', rfl⟩ : ∃ z, N' = z + 1 := ⟨N' - 1, by omega⟩
    rw [show x = -1 from hC, show x' = -1 from hM, yd_enC, yd_enM]
    exact ⟨rfl, rfl⟩
  | cons t l ih =>
    intro x x' turn N N' hC hM h1 h2 h3
    have hl : (t :: l).length = l.length + 1 := rfl
    obtain ⟨N, rfl⟩ : ∃ z, N = z + 1 := ⟨N - 1, by omega⟩
    obtain ⟨N', rfl⟩ : ∃ z, N' = z + 1 := ⟨N' - 1, by omega⟩
    obtain ⟨x2, c1, c2⟩ := yd_stC (i := i) (N := N) (turn := turn) hsz hs2 (by omega) hC
    obtain ⟨x3, m1, m2⟩ := yd_stM (k := k) (N := N') hM
    rw [c2 h rfl (zv_refF hf), m2 g rfl (zv_ruleF hg)]
    exact ih x2 x3 (turn + 1) N N' c1 m1 (by omega) (by omega) (by omega)
/-- 34 -/
theorem yd_34 (hsz : (h.1 12 6) = nI sz) (hs2 : sz < 100000) (J1 : (h.1 38 3) = 0) (J2 : (g.1 68 29) = 0) (hi : i < 32784) (hk : k < 33500) : ∀ l x x' turn N N', yd_C h l x → yd_M g l x' → turn + l.length ≤ sz → l.length < N → l.length < N' →
    (f_Jd_judgeIf_L12 N h (nI i) x (nI turn) = some h ∧ f_Mo_lookAtStatements_L219 N' g (nI k) x' = some g) ∨ (f_Jd_judgeIf_L12 N h (nI i) x (nI turn) = some (zv_rf 34 i h) ∧ f_Mo_lookAtStatements_L219 N' g (nI k) x' = some (zv_ru 34 k g)) := by
  intro l
  induction l with
  | nil =>
    intro x x' turn N N' hC hM h1 h2 h3
    obtain ⟨N, rfl⟩ : ∃ z, N = z + 1 := ⟨N - 1, by omega⟩
    obtain ⟨N', rfl⟩ : ∃ z, N' = z + 1 := ⟨N' - 1, by omega⟩
    rw [show x = -1 from hC, show x' = -1 from hM, yd_enC, yd_enM]
    exact .inl ⟨rfl, rfl⟩
  | cons t l ih =>
    intro x x' turn N N' hC hM h1 h2 h3
    have hl : (t :: l).length = l.length + 1 := rfl
    obtain ⟨N, rfl⟩ : ∃ z, N = z + 1 := ⟨N - 1, by omega⟩
    obtain ⟨N', rfl⟩ : ∃ z, N' = z + 1 := ⟨N' - 1, by omega⟩
    obtain ⟨x2, c1, c2⟩ := yd_stC (i := i) (N := N) (turn := turn) hsz hs2 (by omega) hC
    obtain ⟨x3, m1, m2⟩ := yd_stM (k := k) (N := N') hM
    by_cases z : t = 9 ∨ t = 0
    · rw [if_pos z] at c2 m2
      rw [c2 h rfl zv_ref0, m2 g rfl zv_rule0]
      exact ih x2 x3 (turn + 1) N N' c1 m1 (by omega) (by omega) (by omega)
    · rw [if_neg z] at c2 m2
      rw [c2 (zv_rf 34 i h) rfl (zv_ref1 (φ := 34) (by decide) J1 hi), m2 (zv_ru 34 k g) rfl (zv_rule1 (φ := 34) (by decide) J2 hk)]
      exact .inr (yd_F (h := zv_rf 34 i h) (g := zv_ru 34 k g) hsz hs2 (zv_rff (by decide) (by decide)) (zv_ruf (by decide) (by decide)) l x2 x3 (turn + 1) N N' (yd_Cf (h := h) (h' := zv_rf 34 i h) rfl _ _ c1) (yd_Mf (g := g) (g' := zv_ru 34 k g) rfl _ _ m1) (by omega) (by omega) (by omega))
end YDR
/-- kinds at the top: expressions and bodies -/
def yd_top : zt_T → Prop
  | .leaf => True
  | .inner kd _ _ _ r => (kd ∈ yb_E ∨ kd = 11) ∧ yd_top r
theorem yd_g15 : ∀ {l : zt_T} {st : Nat}, ¬ zg_run 15 st l = 99 → yd_top l := by
  have key : ∀ r ∈ zg_R, r.1 = 15 → ∀ c ∈ r.2.2.1, c ∈ yb_E ∨ c = 11 := by decide +kernel
  intro l
  induction l with
  | leaf => intro _ _; trivial
  | inner c kv o lc r _ ihr =>
    intro st h
    have h1 : ¬ zg_run 15 (zg_q 15 st c) r = 99 := h
    have h2 : ¬ zg_q 15 st c = 99 := fun z => h1 (by rw [z]; exact zv_q99 15 r)
    obtain ⟨cs, to, m1, m2, m3⟩ := zv_qR h2
    exact ⟨key _ m1 rfl c m2, ihr h1⟩
theorem yd_kn {F : Nat → Nat} {bb : Nat} {h g : zs_H} {P Q : Nat → Prop} {c : Nat} {v : Int32} {i k : Nat} {xl : Int32} {n : Nat} (hc : c ∈ yb_E) (N : yb_N F bb h g P Q c v i k xl n) : ∃ t, t < 3 ∧ (h.2.1 14) i = nI t ∧ (g.2.1 100) k = nI t ∧ ¬ (h.2.1 13) i = 11 := by
  rcases N with N | ⟨t, t1, t2, t3, N⟩
  · exact absurd hc (yb_SE N)
  · refine ⟨t, t1, t2, t3, ?_⟩
    rcases N with ⟨_, e, _⟩ | ⟨z, e, _⟩ | ⟨_, e, _⟩ | ⟨_, e, _⟩ | ⟨_, e, _⟩ | ⟨_, s, a, x5, x6, _, _, _, _, _, ⟨_, e, _⟩ | ⟨_, e, _⟩⟩ | ⟨_, s, a, b, _, _, _, _, _, _, ⟨_, e, _⟩ | ⟨_, e, _⟩⟩ | ⟨_, s, a, _, _, _, _, ⟨_, e, _⟩ | ⟨_, e, _⟩⟩
    · rw [e]; decide
    · rw [e]; rcases z with z | z <;> rw [z] <;> decide
    all_goals (rw [e]; decide)
theorem yd_ch {F : Nat → Nat} {bb : Nat} {h g : zs_H} {P Q : Nat → Prop} : ∀ (t : zt_T) (x x' : Int32), yd_top t → yb_F F bb h g P Q t x x' (-1) (-1) → ∃ ts : List Nat, ts.length = zt_ln t ∧ yd_C h ts x ∧ yd_M g ts x' := by
  intro t
  induction t with
  | leaf => intro x x' _ ⟨a1, a2⟩; exact ⟨[], rfl, a1, a2⟩
  | inner kd kv o l r ihl ihr =>
    intro x x' ⟨hE, hr⟩ ⟨i, k, xl, ⟨i1, i2, i3⟩, ⟨k1, k2, k3, k4⟩, N, A, B⟩
    obtain ⟨ts, l1, l2, l3⟩ := ihr _ _ hr B
    rcases hE with hE | hE
    · obtain ⟨t, t1, t2, t3, t4⟩ := yd_kn hE N
      have key : ∀ c ∈ yb_E, ¬ nI (zt_km c) = 11 := by decide
      exact ⟨t :: ts, by show ts.length + 1 = 1 + zt_ln r; omega, ⟨i, i2, i3, .inr ⟨t1, t4, t2⟩, l2⟩, k, k2, k3, .inr ⟨t1, by rw [k4]; exact key kd hE, t3⟩, l3⟩
    · subst hE
      have ek : (h.2.1 13) i = 11 := by
        rcases N with N | ⟨t, t1, t2, t3, N⟩
        · rcases N with e | ⟨_, e, _⟩ | ⟨e, _⟩ | ⟨e, _⟩ | ⟨e, _⟩
          · exact absurd e (by decide)
          · exact e
          · exact absurd e (by decide)
          · exact absurd e (by decide)
          · exact absurd e (by decide)
        · rcases N with ⟨e, _⟩ | ⟨e, _⟩ | ⟨e, _⟩ | ⟨e, _⟩ | ⟨e, _⟩ | ⟨e, _⟩ | ⟨e, _⟩ | ⟨e, _⟩
          · exact absurd e (by decide)
          · exact absurd e (by decide)
          all_goals exact absurd e (by decide)
      exact ⟨9 :: ts, by show ts.length + 1 = 1 + zt_ln r; omega, ⟨i, i2, i3, .inl ⟨rfl, ek⟩, l2⟩, k, k2, k3, .inl ⟨rfl, k4⟩, l3⟩
/-- IF -/
theorem yc_VN15 {kv : Int32 × Int32} {l : zt_T} (hA : zg_A 15 (zg_run 15 0 l) = true) (Ph : yc_Ph l) : yc_VN 15 kv l := by
  intro LC LM nb nf sz F h g i k up d D D' oc P Q y C nd hup LL hPs ow hd hD hD'
  have hz := zF_big
  obtain ⟨D, rfl⟩ : ∃ z, D = z + 1 := ⟨D - 1, by omega⟩
  obtain ⟨D', rfl⟩ : ∃ z, D' = z + 2 := ⟨D' - 2, by omega⟩
  obtain ⟨⟨hi, hk, hPi, hQk, hP, hQ⟩, ⟨c0, c1, c2, c3, c4⟩, cC, ⟨m0, m1, m2, m3⟩, cM⟩ := id nd
  rcases yc_kids (D := D) (D' := D') (zv_ent0 (kd := 15) hi (by decide) c0 (by decide)) C nd ⟨rfl, by decide, by decide, by decide, by decide, by decide⟩ (yc_Ldn LL hk m3 (by rw [m0]; decide)) Ph hPs ow hd (by omega) (by omega) with ⟨h', g', e1, e2, e3, e4, e5⟩ | ⟨h2, g2, e1, e2, O, A, n1, n2, ow'⟩
  · exact ⟨h', g', e1, e2, .inl ⟨e3, e4, e5⟩⟩
  · obtain ⟨i1, i2, i3, i4⟩ := O.2.2.1 i hPi
    have C2 := yc_cxf C O.1 O.2.1
    have hln := yb_ln nd hPs
    have hs2 := C.2.2.2.2
    obtain ⟨ts, l1, l2, l3⟩ := yd_ch l _ _ (yd_g15 (fun z => by rw [z, zv_A99] at hA; exact absurd hA (by decide))) A
    have eC : f_Jd_leave h2 (nI i) = f_Jd_judgeIf_L12 zF h2 (nI i) ((h.2.1 17) i) (nI 0) := by
      rw [zv_lv15 hi (i1.trans c0)]
      unfold f_Jd_judgeIf
      rw [if_pos (zi_in (by omega) hi), nI_clamp (show i < 2147483648 by omega), i4]; rfl
    have eM : f_Mo_lookAlone_54 g2 (nI k) (nI 15) = f_Mo_lookAtStatements_L219 zF g2 (nI k) ((g.2.1 76) k) := by
      rw [zv_54S (by decide) (by decide) n2]
      unfold f_Mo_lookAtStatements
      simp (config := { decide := true }) only [if_pos (zi_in (show k < 2147483648 by omega) hk), nI_clamp (show k < 2147483648 by omega), show (g2.2.1 72) k = 15 by rw [O.2.1.2.1 _ (by decide)]; exact m0, if_false, if_true, show (g2.2.1 76) k = (g.2.1 76) k by rw [O.2.1.2.1 _ (by decide)]]
    have eo : yc_o (.inner 15 kv () l .leaf) = yc_o l := by
      show 0 + yc_o l + 0 = _; omega
    rcases yd_34 (h := h2) (g := g2) (i := i) (k := k) C2.2.2.2.1 (by omega) n1 n2 hi hk ts _ _ 0 zF zF l2 l3 (by omega) (by omega) (by omega) with ⟨v1, v2⟩ | ⟨v1, v2⟩
    · exact ⟨h2, g2, by rw [e1, eC, v1], by rw [e2, eM, v2], .inr ⟨yc_pl C nd (by decide) (yb_sy0 (by decide) (by decide)) yc_out0 O A, n1, n2, by rw [ow'.1, eo], fun z => zg_xl (by decide) (ow'.2.1 z), zg_ruE (by decide) (by decide)⟩⟩
    · obtain ⟨f1, f2, f3⟩ := yc_mkF (φ := 34) (h := h2) (g := g2) (i := i) (k := k) (p := kv.1) (by decide) (by decide) (by rw [O.1.2.1 _ (by decide)]; exact c1) (by rw [O.2.1.2.1 _ (by decide)]; exact m1 (by decide))
      exact ⟨_, _, by rw [e1, eC, v1], by rw [e2, eM, v2], .inl ⟨yc_Fb1 O f1, f2, f3⟩⟩
