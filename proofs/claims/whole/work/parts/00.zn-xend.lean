/-! Both readers in step: where an expression ends. -/
theorem zx_AP_h {LC LM LM' : List (List Int32)} {g g1 g2 : zs_H} {a b m m' kd : Nat} {p v : Int32} {l : zt_T} {Q : Nat → Prop} (hp : LM <+: LM') (ka : zx_ka m g g1) (hH : zx_H a b g1 g2) (ht : zt_M LC LM' g1 (zt_n kd p v l) Q (-1) (nI a) (nI a)) (hQ : ∀ i, Q i → m ≤ i ∧ i < m') (hb : b < m) (ha : a < 40000) : zx_AP LC LM LM' b m m' (zt_n kd p v l) g g2 := by
  intro P u hP H
  obtain ⟨x1, x2, x3, x4, x5, Q0, x6, x7⟩ := zo_root ha ht
  have ham := hQ a x4
  have f2 := hH.2.2.2
  have hH' := hH
  obtain ⟨H1, H2, H3, H4⟩ := hH'
  obtain ⟨_, _, _, _, k5, k6, _⟩ := ka b hb
  constructor
  · refine zx_kp_t (zx_ka_kp ka hb) ?_
    have hbs : ∀ i, i ≤ b → (g2.2.1 78) i = (g1.2.1 78) i ∧ (i < b → (g2.2.1 76) i = (g1.2.1 76) i) := by
      intro i hi
      rcases H3 with ⟨e3, e4, e5⟩ | ⟨e3, e4, c, c1, c2, e5⟩
      · exact ⟨e5 i, fun z => by rw [e4, if_neg (by omega)]⟩
      · have hc : b < c := by
          rcases zt_last u P _ _ _ H with ⟨_, z, _⟩ | ⟨_, j, _, _, _, j1, j2, j3⟩
          · rw [← k5] at z; exact absurd z e3
          · rw [← k6, c2] at j3
            have := (nI_eq (by omega) (by omega)).mp j3
            have := hP j j1
            omega
        exact ⟨by rw [e5, if_neg (by omega)], fun _ => e4 i⟩
    exact ⟨fun i hi => ⟨congrFun (f2.2.1 _ (by decide)) i, congrFun (f2.2.1 _ (by decide)) i, congrFun (f2.2.1 _ (by decide)) i, by rw [H1, if_neg (by omega)], (hbs i (by omega)).2 hi, by rw [H2, if_neg (by omega)], (hbs i (by omega)).1⟩, congrFun (f2.2.1 _ (by decide)) b, congrFun (f2.2.1 _ (by decide)) b, congrFun (f2.2.1 _ (by decide)) b, by rw [H1, if_neg (by omega)], (hbs b (Nat.le_refl b)).1⟩
  · have H1' := zt_Mk hp ka (fun i hi => (hP i hi).2) H
    rw [← k5, ← k6] at H1'
    have r := zx_hangM ha hH H1' x1 x3 x7 (fun i hi => ⟨fun z => by have := (hQ i (x6 i z).1).1; have := (hP i hi).2; omega, fun z => by have := (hP i hi).2; omega⟩) (fun z => by have := (hP b z).1; omega) (fun z => by have := (hQ b (x6 b z).1).1; omega) (by omega) (fun z => (x6 a z).2 rfl)
    refine zt_Mm (fun i hi => ?_) r
    rcases hi with z | z | z
    · exact Or.inl z
    · exact Or.inr (by rw [z]; exact ham)
    · exact Or.inr (hQ i (x6 i z).1)
abbrev zg_E : List Nat := [6, 30, 31, 32, 33, 34, 35, 36]
section ZN
variable (h0 g0 : zs_H) (T : Nat → Int32) (n K : Nat) (LC : List (List Int32))
/-- operands and signs have been read: k signs that bind at least as close as lv -/
def zk_X (LM : List (List Int32)) (j d s m o q lv k : Nat) (h g : zs_H) (x : Int32) (h' g' : zs_H) : Prop := ∃ (t : zt_T) (LM' : List (List Int32)) (j' d' s' m' a : Nat), (zg_T zg_E ((60 - d) + (d' - d) + 2) t ∧ zg_c t = 0) ∧ LM <+: LM' ∧ zk_L h0 g0 T n K LC h' g' LM' j' d' s' m' (o + k + 1) q ∧ (j < j' ∧ d + k ≤ d' ∧ s < s' ∧ s' ≤ s + 2 * (j' - j) ∧ m ≤ m' ∧ m' + k ≤ m + 2 * (j' - j)) ∧ (x = nI a ∧ s ≤ a ∧ a < s') ∧ zt_C h' t (fun i => s ≤ i ∧ i < s') (nI a) (nI a) ∧ zq_kp s h h' ∧ zo_S LC LM' g' k o k t (fun i => m ≤ i ∧ i < m') lv ∧ zx_ka m g g' ∧ zo_fr o g g'
/-- an expression has been read, in the model below b -/
def zk_E (LM : List (List Int32)) (j d s m o q b : Nat) (h g : zs_H) (x : Int32) (h' g' : zs_H) : Prop := ∃ (t : zt_T) (LM' : List (List Int32)) (j' d' s' m' a : Nat), (zg_T zg_E ((60 - d) + (d' - d) + 2) t ∧ zg_c t = 0) ∧ LM <+: LM' ∧ zk_L h0 g0 T n K LC h' g' LM' j' d' s' m' o q ∧ (j < j' ∧ d ≤ d' ∧ s < s' ∧ s' ≤ s + 2 * (j' - j) ∧ m < m' ∧ m' ≤ m + 2 * (j' - j)) ∧ (x = nI a ∧ s ≤ a ∧ a < s') ∧ zt_C h' t (fun i => s ≤ i ∧ i < s') (nI a) (nI a) ∧ zq_kp s h h' ∧ zx_AP LC LM LM' b m m' t g g' ∧ zo_fr o g g'
end ZN
section ZN2
variable {h0 g0 h g : zs_H} {T : Nat → Int32} {n K : Nat} {LC LM : List (List Int32)} {j d s m o q : Nat}
/-- the model hangs what it has split; df: how many are open behind it -/
theorem zk_xend {h1 g1 : zs_H} {LM' : List (List Int32)} {j' d' s' m' k b lv df : Nat} {t : zt_T} {y0 : Int32} (L : zk_L h0 g0 T n K LC h1 g1 LM' j' d' s' m' (o + k + 1) (q + 1)) (hp : LM <+: LM') (hS : zo_S LC LM' g1 k o k t (fun i => m ≤ i ∧ i < m') lv) (ka : zx_ka m g g1) (fr : zo_fr o g g1) (hmm : m ≤ m') (hm : m' + k ≤ 33500) (hok : o + k < 200) (hk : k < 300) (hb : b < m) (hq2 : q < 1000) (hy : y0 = nI df) : ∃ g2, f_Mo_expression_118 (zs_uF g1 68 13 (nI q)) (nI b) (nI o) y0 = some g2 ∧ zx_AP LC LM LM' b m (m' + k) t g g2 ∧ zo_fr o g g2 ∧ (∀ h2, zfr [(19, 7)] [] [] h1 h2 → (h2.1 19 7) = nI df → df ≤ 60 → zk_L h0 g0 T n K LC h2 g2 LM' j' df s' (m' + k) o q) := by
  obtain ⟨x1, x2, x3, x4, x5, x6, x7⟩ := zk_dd L
  have m2 := L.2.2.2.2.2.2.1
  unfold f_Mo_expression_118 f_Mo_expression_144
  rw [if_pos (show (zs_uF g1 68 13 (nI q)).1 68 10 = 0 from m2)]
  have eo : (zs_uF g1 68 13 (nI q)).1 68 25 - 1 = nI (o + k) := by
    rw [show (zs_uF g1 68 13 (nI q)).1 68 25 = (g1.1 68 25) from rfl, x6, show (1 : Int32) = nI 1 from rfl, zi_sub (by omega)]; rfl
  rw [eo]
  have fB : zfr [(68, 13), (68, 12)] [] [] g1 (zs_uF (zs_uF g1 68 13 (nI q)) 68 12 y0) := zfr_F (by decide) (zfr_F (by decide) zfr_rfl)
  obtain ⟨gB, hgB⟩ : ∃ gB, gB = zs_uF (zs_uF g1 68 13 (nI q)) 68 12 y0 := ⟨_, rfl⟩
  rw [← hgB] at fB ⊢
  have hdB : (gB.1 68 12) = y0 := by rw [hgB]; rfl
  have hnB : (gB.1 68 13) = nI q := by rw [hgB]; rfl
  have eA : ∀ k, gB.2.1 k = g1.2.1 k := fun k => fB.2.1 k List.not_mem_nil
  have SB : zo_S LC LM' gB k o k t (fun i => m ≤ i ∧ i < m') lv := zo_Sk (List.prefix_refl _) k hS (fun i _ => by rw [eA, eA, eA, eA, eA, eA, eA]; exact ⟨rfl, rfl, rfl, rfl, rfl, rfl, rfl⟩) (fun i _ _ => by rw [eA]) (fun i _ _ => by rw [eA, eA]; exact ⟨rfl, rfl⟩)
  have WB : zx_W gB m' := by unfold zx_W; rw [eA, eA]; exact x5
  obtain ⟨a, gC, e1, r1, r2, r3, r4, r5, r6⟩ := zo_split k (F := 400) SB (fun i hi => hi.2) ((fB.1 _ _ (by decide)).trans x4) WB (by omega) hok (by omega)
  have ha : a < m' + k := by rcases r1 with z | z <;> omega
  have ham : m ≤ a := by rcases r1 with z | z <;> omega
  obtain ⟨gD, e2, H1, H2⟩ := zx_hang (g := gC) (m := m' + k) (a := a) (b := b) (by omega) ha (by omega) r3
  rw [e1, zo_B, e2, Option.bind_some]
  obtain ⟨kd, p, v, l, et⟩ := zo_St k hS
  subst et
  have kaC : zx_ka m g gC := fun i hi => by
    obtain ⟨a1, a2, a3, a4, a5, a6, a7⟩ := ka i hi
    obtain ⟨c1, c2, c3, c4, c5, c6, c7⟩ := r5 i ⟨by omega, by omega⟩
    rw [eA] at c1 c2 c3 c4 c5 c6 c7
    exact ⟨c1.trans a1, c2.trans a2, c3.trans a3, c4.trans a4, c5.trans a5, c6.trans a6, c7.trans a7⟩
  have AP := zx_AP_h (m' := m' + k) hp kaC H1 r4 (fun i hi => by rcases hi with z | z <;> omega) hb (by omega)
  have fD : zfr [(68, 13), (68, 12), (68, 14)] zo_nd [] g1 gD := zfr_trans (zfr_trans (zfr_w fB (by decide) (by decide) (by decide)) (zfr_w r6 (by decide) (by decide) (by decide))) (zfr_w H1.2.2.2 (by decide) (by decide) (by decide))
  refine ⟨zs_uF gD 68 25 (nI o), rfl, AP, zo_fr_t fr (show zo_fr o g1 gD from zo_fr_f fD (by decide) (by decide) (by decide)) (Nat.le_refl o), fun h2 fh eo2 hdf => ?_⟩
  have fE : zfr zo_fs zo_ms [] g1 (zs_uF gD 68 25 (nI o)) := zfr_F (by decide) (zfr_w fD (by decide) (by decide) (by decide))
  refine zk_hg L fh fE eo2 ?_ hdf ?_ H2 rfl ?_
  · show (gD.1 68 12) = nI df
    rw [H1.2.2.2.1 _ _ (by decide), r6.1 _ _ (by decide), hdB, hy]
  · show (gD.1 68 14) = nI (m' + k)
    rw [H1.2.2.2.1 _ _ (by decide)]; exact r2
  · show (gD.1 68 13) = nI q
    rw [H1.2.2.2.1 _ _ (by decide), r6.1 _ _ (by decide), hnB]
end ZN2
