/-! The judge: both sides go through a node's children. -/
section ZVF
variable {D D' d i k kd sz : Nat} {St : zt_T → zs_H → zs_H → Int32 → Int32 → Prop} {Fb : zs_H → zs_H → Prop}
/-- both sides do one child -/
def zv_stp (D D' d sz : Nat) (St : zt_T → zs_H → zs_H → Int32 → Int32 → Prop) (Fb : zs_H → zs_H → Prop) : Prop := ∀ c kv w l r h g x x', St (.inner c kv w l r) h g x x' → ∃ a b, x = nI a ∧ a < 32784 ∧ x' = nI b ∧ b < 33500 ∧ (h.1 38 3) = 0 ∧ (g.1 68 29) = 0 ∧ (h.1 12 6) = nI sz ∧ ∃ h' g', f_Jd_visit D h (nI a) (nI (d + 1)) = some h' ∧ f_Mo_look D' g (nI b) = some g' ∧ ((Fb h' g' ∧ ¬ (h'.1 38 3) = 0 ∧ ¬ (g'.1 68 29) = 0) ∨ St r h' g' ((h'.2.1 18) a) ((g'.2.1 78) b))
theorem zv_fold (hd : d < 1000) (hsz : sz < 100000) (hstep : zv_stp D D' d sz St Fb) (hend : ∀ h g x x', St .leaf h g x x' → x = -1 ∧ x' = -1) : ∀ (u : zt_T) (turn N N' : Nat) (h g : zs_H) (x x' : Int32), St u h g x x' → turn + zt_ln u ≤ sz → zt_ln u < N → zt_ln u < N' →
    (∃ h' g', f_Jd_visit_L26 (f_Jd_visit D) N h (nI i) (nI d) x (nI turn) = some h' ∧ f_Mo_lookAlone_L28 (f_Mo_look D') N' g (nI k) (nI kd) x' = some g' ∧ Fb h' g' ∧ ¬ (h'.1 38 3) = 0 ∧ ¬ (g'.1 68 29) = 0) ∨
    (∃ h' g', St .leaf h' g' (-1) (-1) ∧ f_Jd_visit_L26 (f_Jd_visit D) N h (nI i) (nI d) x (nI turn) = f_Jd_visit_74 h' (nI i) ∧ f_Mo_lookAlone_L28 (f_Mo_look D') N' g (nI k) (nI kd) x' = f_Mo_lookAlone_54 g' (nI k) (nI kd)) := by
  intro u
  induction u with
  | leaf =>
    intro turn N N' h g x x' hS h1 h2 h3
    obtain ⟨N, rfl⟩ : ∃ n, N = n + 1 := ⟨N - 1, by omega⟩
    obtain ⟨N', rfl⟩ : ∃ n, N' = n + 1 := ⟨N' - 1, by omega⟩
    obtain ⟨e1, e2⟩ := hend h g x x' hS
    subst e1; subst e2
    refine .inr ⟨h, g, hS, ?_, ?_⟩
    · show f_Jd_visit_26 (f_Jd_visit D) (f_Jd_visit_L26 (f_Jd_visit D) N) h (nI i) (nI d) (-1) (nI turn) = _
      unfold f_Jd_visit_26
      rw [if_pos rfl]
      split <;> rfl
    · show f_Mo_lookAlone_28 (f_Mo_look D') (f_Mo_lookAlone_L28 (f_Mo_look D') N') g (nI k) (nI kd) (-1) = _
      unfold f_Mo_lookAlone_28
      rw [if_pos (by decide)]
  | inner c kv w l r ihl ihr =>
    intro turn N N' h g x x' hS h1 h2 h3
    have hl : zt_ln (.inner c kv w l r) = 1 + zt_ln r := rfl
    obtain ⟨N, rfl⟩ : ∃ n, N = n + 1 := ⟨N - 1, by omega⟩
    obtain ⟨N', rfl⟩ : ∃ n, N' = n + 1 := ⟨N' - 1, by omega⟩
    obtain ⟨a, b, e1, e2, e3, e4, e5, e6, e7, h', g', e8, e9, e10⟩ := hstep c kv w l r h g x x' hS
    subst e1; subst e3
    have eC : f_Jd_visit_L26 (f_Jd_visit D) (N + 1) h (nI i) (nI d) (nI a) (nI turn) = f_Jd_visit_L26 (f_Jd_visit D) N h' (nI i) (nI d) ((h'.2.1 18) a) (nI (turn + 1)) := by
      show f_Jd_visit_26 (f_Jd_visit D) (f_Jd_visit_L26 (f_Jd_visit D) N) h (nI i) (nI d) (nI a) (nI turn) = _
      unfold f_Jd_visit_26
      rw [e7, if_neg (mt (nI_leI (by omega) (by omega)).mp (by omega)), if_neg (zc_m1 (by omega)), if_pos e5, nI_1, e8, Option.bind_some, if_pos (zi_in (by omega) e2), nI_clamp (by omega), nI_1]
    have eM : f_Mo_lookAlone_L28 (f_Mo_look D') (N' + 1) g (nI k) (nI kd) (nI b) = f_Mo_lookAlone_L28 (f_Mo_look D') N' g' (nI k) (nI kd) ((g'.2.1 78) b) := by
      show f_Mo_lookAlone_28 (f_Mo_look D') (f_Mo_lookAlone_L28 (f_Mo_look D') N') g (nI k) (nI kd) (nI b) = _
      unfold f_Mo_lookAlone_28
      rw [if_neg (mt (zc_tl (k := 0) (by decide) (by omega)).mp (by omega)), if_pos e6, e9, Option.bind_some, if_pos (zi_in (by omega) e4), nI_clamp (by omega)]
    rw [eC, eM]
    rcases e10 with ⟨f1, f2, f3⟩ | hS'
    · left
      obtain ⟨N, rfl⟩ : ∃ n, N = n + 1 := ⟨N - 1, by omega⟩
      obtain ⟨N', rfl⟩ : ∃ n, N' = n + 1 := ⟨N' - 1, by omega⟩
      refine ⟨h', g', ?_, ?_, f1, f2, f3⟩
      · show f_Jd_visit_26 (f_Jd_visit D) (f_Jd_visit_L26 (f_Jd_visit D) N) h' (nI i) (nI d) ((h'.2.1 18) a) (nI (turn + 1)) = _
        unfold f_Jd_visit_26 f_Jd_visit_74
        rw [if_neg f2, if_neg f2, ite_self, ite_self]
      · show f_Mo_lookAlone_28 (f_Mo_look D') (f_Mo_lookAlone_L28 (f_Mo_look D') N') g' (nI k) (nI kd) ((g'.2.1 78) b) = _
        unfold f_Mo_lookAlone_28 f_Mo_lookAlone_54
        rw [if_neg f3, if_neg f3, ite_self]
    · exact ihr (turn + 1) N N' h' g' _ _ hS' (by omega) (by omega) (by omega)
/-- both sides come to a node that is no block and no sign between two -/
theorem zv_node {l : zt_T} {h h1 g : zs_H} (hd : d ≤ 240) (hsz : sz < 100000) (hi : i < 32784) (hk : k < 33500) (hkd : kd < 100) (hkb : kd = 0 ∨ 4 ≤ kd) (h35 : ¬ kd = 35) (m1 : (g.2.1 72) k = nI kd) (hen : f_Jd_enter h (nI i) = some h1) (hstep : zv_stp D D' d sz St Fb) (hend : ∀ h g x x', St .leaf h g x x' → x = -1 ∧ x' = -1) (hS : St l h1 g ((h1.2.1 17) i) ((g.2.1 76) k)) (hln : zt_ln l ≤ sz) :
    (∃ h' g', f_Jd_visit (D + 1) h (nI i) (nI d) = some h' ∧ f_Mo_look (D' + 2) g (nI k) = some g' ∧ Fb h' g' ∧ ¬ (h'.1 38 3) = 0 ∧ ¬ (g'.1 68 29) = 0) ∨
    (∃ h' g', St .leaf h' g' (-1) (-1) ∧ f_Jd_visit (D + 1) h (nI i) (nI d) = f_Jd_visit_74 h' (nI i) ∧ f_Mo_look (D' + 2) g (nI k) = (f_Mo_lookAlone_54 g' (nI k) (nI kd)).bind fun g2 => some g2) := by
  have hz := zF_big
  have eC : f_Jd_visit (D + 1) h (nI i) (nI d) = f_Jd_visit_L26 (f_Jd_visit D) zF h1 (nI i) (nI d) ((h1.2.1 17) i) (nI 0) := by
    show g_Jd_visit (f_Jd_visit D) h (nI i) (nI d) = _
    unfold g_Jd_visit
    rw [if_pos ((zc_el (k := 240) (by decide) (by omega)).mpr hd), hen, Option.bind_some, if_pos (zi_in (by omega) hi), nI_clamp (by omega)]
    rfl
  have eA : f_Mo_lookAlone (D' + 1) g (nI k) = f_Mo_lookAlone_L28 (f_Mo_look D') zF g (nI k) (nI kd) ((g.2.1 76) k) := by
    show g_Mo_lookAlone (f_Mo_look D') g (nI k) = _
    unfold g_Mo_lookAlone f_Mo_lookAlone_21
    simp only [if_pos (zi_in (show k < 2147483648 by omega) hk), nI_clamp (show k < 2147483648 by omega), m1]
    rcases hkb with z | z
    · rw [if_pos ((zc_el (k := 0) (by decide) (by omega)).mpr (by omega))]
    · rw [if_neg (mt (zc_el (k := 0) (by decide) (by omega)).mp (by omega)), if_pos ((zc_le (k := 4) (by decide) (by omega)).mpr z)]
  have eM : f_Mo_look (D' + 2) g (nI k) = (f_Mo_lookAlone (D' + 1) g (nI k)).bind fun g2 => some g2 := by
    show f_Mo_look_L2 (f_Mo_look (D' + 1)) (f_Mo_lookAlone (D' + 1)) zF g (nI k) (nI k) = _
    rw [show zF = 18446744073709551615 + 1 from rfl]
    show f_Mo_look_2 (f_Mo_look (D' + 1)) (f_Mo_lookAlone (D' + 1)) (f_Mo_look_L2 (f_Mo_look (D' + 1)) (f_Mo_lookAlone (D' + 1)) 18446744073709551615) g (nI k) (nI k) = _
    unfold f_Mo_look_2
    rw [if_pos (zi_in (by omega) hk), nI_clamp (by omega), m1, if_neg (fun z => h35 ((zc_eq (k := 35) (by decide) (by omega)).mp z))]
    refine congrArg _ (funext fun g2 => ?_)
    rw [show zF = 18446744073709551615 + 1 from rfl]
    show f_Mo_look_28 (f_Mo_look (D' + 1)) (f_Mo_look_L28 (f_Mo_look (D' + 1)) 18446744073709551615) g2 (nI k) (nI k) = _
    unfold f_Mo_look_28
    rw [if_pos rfl]
  rcases zv_fold (i := i) (k := k) (kd := kd) (by omega) hsz hstep hend l 0 zF zF h1 g _ _ hS (by omega) (by omega) (by omega) with ⟨h', g', a1, a2, a3⟩ | ⟨h', g', a1, a2, a3⟩
  · exact .inl ⟨h', g', by rw [eC, a1], by rw [eM, eA, a2, Option.bind_some], a3⟩
  · exact .inr ⟨h', g', a1, by rw [eC, a2], by rw [eM, eA, a3]⟩
end ZVF
