/-! The machine: the model runs units. -/
def yN_Kd (s0 : Nat) (g0 : zs_H) (p : Nat) (i : yI) : Prop := ∃ lv, yM_m s0 g0 p (i, lv)
def yN_I (kb : Nat → yK) (b base : Nat) (g0 : zs_H) : yW_I := fun g s _ => zfr yN_F yN_M [] g0 g ∧ yN_s g s ∧ yS_g kb b base s.1
def yN_J (g0 : zs_H) : yW_J := fun g r => zfr yN_F yN_M [] g0 g ∧ yN_o g r
def yN_G (R : zs_H → Int32 → Int32 → Option zs_H) (b base s0 : Nat) : yW_G := fun g p g' p' k => ∀ N, f_Mo_go_L2 (g_Mo_step R) (N + k) g (nI b) (nI base) (nI (p - s0)) = f_Mo_go_L2 (g_Mo_step R) N g' (nI b) (nI base) (nI (p' - s0))
def yN_Fl (R : zs_H → Int32 → Int32 → Option zs_H) (b base s0 : Nat) : yW_F := fun g p _ g' k => ∀ N, f_Mo_go_L2 (g_Mo_step R) (N + 1 + k) g (nI b) (nI base) (nI (p - s0)) = some g'
section YNU
variable {X Y : Nat → Nat} {kb : Nat → yK} {pl : Nat → Nat} {tm : Nat → Nat → (Nat → Int32) → Nat → Int32} {U : Nat → Nat → yE → yE × Nat} {R : zs_H → Int32 → Int32 → Option zs_H} {B : Nat → Nat} {b base s0 sz : Nat} {g0 : zs_H} {S0 : List Int32}
theorem yN_W (Gh : yG_h X Y kb pl tm B b base U) (H : yN_h X Y kb pl tm b base U R g0) (C : yD_c b s0 sz g0) (h0 : S0.length + 64 * (b + 1) ≤ 1088) : yW_M X Y kb pl tm b base U (yN_Kd s0 g0) (yN_I kb b base g0) (yN_J g0) (yN_G R b base s0) (yN_Fl R b base s0) S0 s0 (s0 + sz) := by
  have hx := H.2.1.2
  have SH := H.2.2.2.2.2.2
  have nc : ∀ {x : Nat} {c : Nat → Int32} {v : Int32}, Y b ≤ x → yS_g kb b base c → yS_g kb b base (yE_u c (base + x) v) := fun h G => yS_w G fun j hj w => by
    have := ((SH.1 b (Nat.le_refl _)).2 j hj).1
    omega
  refine ⟨fun _ _ _ => rfl, fun h p h1 p1 k1 h2 p2 k2 a c N => ?_, fun h p h1 p1 k1 o h2 k2 a c N => ?_, ?_, ?_, ?_, ?_, ?_, ?_⟩
  · rw [show N + (k1 + k2) = (N + k2) + k1 by omega, a, c]
  · rw [show N + 1 + (k1 + k2) = (N + 1 + k2) + k1 by omega, a, c]
  · intro g p i t s ⟨f, hs, gd⟩ ⟨lv, m⟩ hp hp2 e ea ht ht2 es
    obtain ⟨j, rfl⟩ : ∃ j, p = s0 + j := ⟨p - s0, by omega⟩
    obtain ⟨c, S, n⟩ := s
    have es' : S = S0 := es
    subst es'
    have C1 := yN_cf f C
    obtain ⟨q1, q2⟩ := yN_gs (n := n) hs.1 hs.2.2.1 hs.2.2.2.2
    refine ⟨yN_g g (n + 1) S.length, fun N => ?_, zfr_trans f q2, q1, gd⟩
    rw [Nat.add_sub_cancel_left]
    exact yN_jgo C1 (by omega) (yN_mf f m) e ea ht hs (by omega)
  · intro g p i s ⟨f, hs, gd⟩ ⟨lv, m⟩ hp hp2 e es
    obtain ⟨j, rfl⟩ : ∃ j, p = s0 + j := ⟨p - s0, by omega⟩
    obtain ⟨c, S, n⟩ := s
    have es' : S = S0 := es
    subst es'
    have C1 := yN_cf f C
    obtain ⟨q1, q2⟩ := yN_gs (n := n) hs.1 hs.2.2.1 hs.2.2.2.2
    refine ⟨yN_g g (n + 1) S.length, fun N => ?_, zfr_trans f q2, q1, gd⟩
    rw [Nat.add_sub_cancel_left, Nat.add_sub_cancel_left]
    exact yN_jlv C1 (by omega) (yN_mf f m) e hs (by omega)
  · intro g p i t c y n ⟨f, hs, gd⟩ ⟨lv, m⟩ hp hp2 e ea ht ht2
    obtain ⟨j, rfl⟩ : ∃ j, p = s0 + j := ⟨p - s0, by omega⟩
    have C1 := yN_cf f C
    obtain ⟨q1, q2⟩ := yN_gs (n := n) (S := S0) hs.1 hs.2.2.1.2 hs.2.2.2.2
    refine ⟨yN_g g (n + 1) S0.length, fun N => ?_, zfr_trans f q2, q1, gd⟩
    rw [Nat.add_sub_cancel_left]
    refine (yN_jun C1 (by omega) (yN_mf f m) e ea ht hs (by omega)).trans ?_
    by_cases z : y = 0
    · rw [if_pos z, if_pos z]
    · rw [if_neg z, if_neg z, show s0 + j + 1 - s0 = j + 1 by omega]
  · intro g p i x N0 s ⟨f, hs, gd⟩ ⟨lv, m⟩ hp hp2 e ea eb hx2 es
    obtain ⟨j, rfl⟩ : ∃ j, p = s0 + j := ⟨p - s0, by omega⟩
    obtain ⟨c, S, n⟩ := s
    have es' : S = S0 := es
    subst es'
    have C1 := yN_cf f C
    have mm := yN_mf f m
    have hb : yN_b g b s0 j lv i c S := ⟨⟨by have := H.1; omega, C1.2.2.1, by have := C.2.1; omega, mm⟩, hs.1, hs.2.2.1, hs.2.2.2.2, by omega⟩
    obtain ⟨g', a1, a2, a3⟩ := yN_12 (n := n) (base := base) (R := R) (pl := pl) (tm := tm) (U := U) hb e ea (by omega)
    have t0 : yo_t i.1 = 0 := by rw [e]; rfl
    have e1 : yE_1 pl tm U base i (c, S, n) = ((yE_u c (base + x) (nI N0), S, n + 1), 0) := by
      unfold yE_1
      simp (config := { decide := true }) only [e, if_false, if_true, ea, eb, nI_clamp (show x < 2147483648 by omega)]
    rw [e1] at a3
    refine ⟨g', fun N => ?_, zfr_trans f a2, a3.1 rfl, nc hx2.1 gd⟩
    rw [Nat.add_sub_cancel_left, show s0 + j + 1 - s0 = j + 1 by omega, yN_go C1 (by omega) mm (by omega) hs (by rw [t0]; exact Nat.zero_le _), t0, Nat.sub_zero, a1]
    rfl
  · intro g p i t x s ⟨f, hs, gd⟩ ⟨lv, m⟩ hp hp2 e ea eb ht ht2 hx2 es
    obtain ⟨j, rfl⟩ : ∃ j, p = s0 + j := ⟨p - s0, by omega⟩
    obtain ⟨c, S, n⟩ := s
    have es' : S = S0 := es
    subst es'
    have C1 := yN_cf f C
    have J := fun N => yN_jnx (R := R) (base := base) (N := N) C1 (show j < sz by omega) (yN_mf f m) e ea eb ht (by omega) hs (by omega)
    by_cases z : c (base + x) = 0
    · obtain ⟨q1, q2⟩ := yN_gs (n := n) hs.1 hs.2.2.1 hs.2.2.2.2
      refine ⟨yN_g g (n + 1) S.length, ?_⟩
      rw [if_pos z]
      refine ⟨fun N => ?_, zfr_trans f q2, q1, gd⟩
      rw [Nat.add_sub_cancel_left, J N, if_pos z]
    · obtain ⟨q1, q2⟩ := yN_cell (n := n) (v := c (base + x) - 1) (p := base + x) hs.1 hs.2.2.1 hs.2.2.2.2
      refine ⟨zs_uM (yN_g g (n + 1) S.length) 114 (base + x) (c (base + x) - 1), ?_⟩
      rw [if_neg z]
      refine ⟨fun N => ?_, zfr_trans f q1, q2, nc hx2.1 gd⟩
      rw [Nat.add_sub_cancel_left, show s0 + j + 1 - s0 = j + 1 by omega, J N, if_neg z]
  · intro L lo d2 g p s ⟨f, hs, gd⟩ K hp hp2 hY W e hd es
    obtain ⟨j, rfl⟩ : ∃ j, p = s0 + j := ⟨p - s0, by omega⟩
    obtain ⟨c, S, n⟩ := s
    have es' : S = S0 := es
    subst es'
    obtain ⟨g', k, a1, a2, a3, a4, a5⟩ := yN_L Gh H C h0 hY L [] j n c g f hs gd K (by omega) W e (by show 0 ≤ 64; omega) hd
    have a3' : n + k ≤ (yE_L pl tm U base L (c, S, n)).1.2.2 := a3
    refine ⟨g', k, by show 2 * n + k ≤ _; omega, fun z => ⟨fun N => ?_, zfr_trans f a1, a2.1 z, yS_L SH hY L (c, S, n) W gd⟩, fun z => ⟨fun N => ?_, zfr_trans f a1, a2⟩⟩
    · rw [Nat.add_sub_cancel_left, show s0 + j + L.length - s0 = j + L.length by omega]
      exact a4 z N
    · rw [Nat.add_sub_cancel_left]
      exact a5 (by
        have z' : (yE_L pl tm U base L (c, [] ++ S, n)).2 = 3 ∨ (yE_L pl tm U base L (c, [] ++ S, n)).2 = 4 := z
        omega) N
theorem yN_fin {st : zs_H → Int32 → Int32 → Int32 → Option (Int32 × zs_H)} {N : Nat} {g : zs_H} (C : yD_c b s0 sz g) : f_Mo_go_L2 st (N + 1) g (nI b) (nI base) (nI sz) = some g := by
  show f_Mo_go_2 st (f_Mo_go_L2 st N) g (nI b) (nI base) (nI sz) = _
  unfold f_Mo_go_2
  rw [yV_sz C, Option.bind_some, if_pos ((nI_leI (by have := C.2.1; omega) (by have := C.2.1; omega)).mpr (Nat.le_refl _))]
/-- all that is known of a proved text -/
def yN_A (nb : Nat) (T : Nat → ys) (X Y : Nat → Nat) (kb : Nat → yK) (pl : Nat → Nat) (tm : Nat → Nat → (Nat → Int32) → Nat → Int32) : Prop := nb ≤ 16 ∧ (∀ u, u < nb → Y u ≤ X u ∧ X u ≤ 100000) ∧ yE_ht tm ∧ (∀ u, u < nb → (yz_st (T u) ∧ (∀ n, yz_x (T u) n = []) ∧ yz_W X Y kb u (T u) (Y u)) ∧ yH_D (T u) true = false ∧ yV_le 1000000000 (yV_b T u) = true) ∧ (∀ u, u < nb → (kb u).1 = 1 → yE_dj X kb pl u (pl u) ∧ 0 < X u ∧ pl u + X u ≤ 8192) ∧ yx_S T nb ≤ 4000 ∧ yS_q X Y kb (nb - 1) ∧ yS_m tm
def yN_B (nb : Nat) (T : Nat → ys) (kb : Nat → yK) (pl : Nat → Nat) (tm : Nat → Nat → (Nat → Int32) → Nat → Int32) (g : zs_H) : Prop := yN_t tm g ∧ (∀ u, u < nb → (kb u).1 = 1 → (g.2.1 89) u = nI (pl u)) ∧ (∀ u, u ≤ nb → (g.2.1 103) u = nI (yx_S T u)) ∧ yx_AM T nb g
theorem yN_Bf {nb : Nat} {T : Nat → ys} {g g' : zs_H} (f : zfr yN_F yN_M [] g g') (h : yN_B nb T kb pl tm g) : yN_B nb T kb pl tm g' := by
  refine ⟨fun k a c g2 f2 => h.1 k a c g2 (zfr_trans f f2), fun u h1 h2 => by rw [f.2.1 _ (by decide)]; exact h.2.1 u h1 h2, fun u h1 => by rw [f.2.1 _ (by decide)]; exact h.2.2.1 u h1, fun u hu k i e => yN_mf f (h.2.2.2 u hu k i e)⟩
theorem yN_Wle {w : Option Nat} {m : Nat} (h : yV_le m w = true) : yV_u w ≤ m + 1 := by
  cases w with
  | none => exact Nat.zero_le _
  | some w => exact Nat.succ_le_succ (of_decide_eq_true h)
theorem yN_Us {nb : Nat} {T : Nat → ys} (A : yN_A nb T X Y kb pl tm) : ∀ (b : Nat) (g0 : zs_H) (d : Nat), b ≤ nb → 2 * b ≤ d → yN_B nb T kb pl tm g0 → yN_U X kb pl b (yE_U T pl tm b) (f_Mo_go d) g0 := by
  obtain ⟨A1, A2, A3, A4, A5, A6, A7, A8⟩ := id A
  intro b
  induction b with
  | zero => intro g0 d _ _ _ u base s g hu; omega
  | succ b ih =>
    intro g0 d hb hd hB u base s g hu f hs hl hX dj gd
    by_cases z : u = b
    · subst z
      obtain ⟨d, rfl⟩ : ∃ z, d = z + 2 := ⟨d - 2, by omega⟩
      have Bg := yN_Bf f hB
      obtain ⟨⟨w1, w2, w3⟩, w4, w5⟩ := A4 u (by omega)
      have hU := yG_Us A1 A2 A3 (fun u hu => (A4 u hu).1) (fun u hu hk => (A5 u hu hk).1)
      have Hg : yG_h X Y kb pl tm (yV_B T u) u base (yE_U T pl tm u) := ⟨by omega, ⟨(A2 u (by omega)).1, fun w hw => (A2 w (by omega)).2⟩, hU u (by omega), yE_Uw A1 A2 A3 (fun u hu => (A4 u hu).1.2.2) u (by omega), A3, fun w hw2 hk => (A5 w (by omega) hk).1, dj⟩
      have Hn : yN_h X Y kb pl tm u base (yE_U T pl tm u) (f_Mo_go d) g := ⟨by omega, ⟨(A2 u (by omega)).1, hX⟩, ih g d (by omega) (by omega) Bg, Bg.1, fun w hw hk => ⟨(A5 w (by omega) hk).1, (A5 w (by omega) hk).2, Bg.2.1 w (by omega) hk⟩, dj, fun w hw => A7 w (by omega), Hg.2.2.2.1, A3, A8, yS_Us A1 A7 A3 A8 (fun u hu => (A4 u hu).1.2.2) u (by omega), dj⟩
      have hle : yx_S T (u + 1) ≤ yx_S T nb := by
        have := yx_Sm T (nb - (u + 1)) (u + 1)
        rwa [show u + 1 + (nb - (u + 1)) = nb by omega] at this
      have hS : yx_S T (u + 1) = yx_S T u + yz_l (T u) := rfl
      have C : yD_c u (yx_S T u) (yz_l (T u)) g := ⟨by omega, by omega, Bg.2.2.1 u (by omega), by rw [← hS]; exact Bg.2.2.1 (u + 1) (by omega)⟩
      have M := yN_W (S0 := s.2.1) Hg Hn C hl
      obtain ⟨O, _⟩ := yW_T Hg M (T u) 0 (yx_S T u) 0 0 0 (Y u) g s (.inl ⟨rfl, w1⟩) w3 (Nat.le_refl _) (fun k i e => ⟨i.2, Bg.2.2.2 u (by omega) k i e⟩) (Nat.le_refl _) (Nat.le_refl _) (fun z => absurd z (by decide)) (fun _ => w2 _) (fun z => absurd z (by decide)) w4 ⟨zfr_rfl, hs, gd⟩ rfl
      have R4 := hU (u + 1) (by omega) u base s (by omega) dj
      have n1 := (yG_T Hg (T u) 0 (Y u) (none, none, none) (some 0, none, none) s (.inl ⟨rfl, w1⟩) w3 (Nat.le_refl _) (fun z => absurd z (by decide)) (yF_nM (x := 0) (.inl rfl))).2 0 (w2 0)
      have bnd : yV_B T (u + 1) u ≤ 1000000001 := by
        rw [yV_B, if_pos rfl]; exact yN_Wle w5
      unfold yG_r at R4
      have eU : yE_U T pl tm (u + 1) u base s = ((yE_T pl tm (yE_U T pl tm u) base (T u) s).1, if (yE_T pl tm (yE_U T pl tm u) base (T u) s).2 = 2 then 0 else (yE_T pl tm (yE_U T pl tm u) base (T u) s).2) := by
        rw [yE_U, if_pos rfl]
      rw [eU] at R4 ⊢
      generalize yE_T pl tm (yE_U T pl tm u) base (T u) s = r at O R4 n1
      obtain ⟨g', k, o1, o2, o3, o4, o5⟩ := O
      have r4 : r.1.2.2 + 1 ≤ s.2.2 + yV_B T (u + 1) u := R4.2.2.2
      have r1 : (if r.2 = 2 then 0 else r.2) = 0 ∨ (if r.2 = 2 then 0 else r.2) = 3 ∨ (if r.2 = 2 then 0 else r.2) = 4 := R4.1
      have hz := zF_big
      have e0 : f_Mo_go (d + 2) g (nI u) (nI base) = f_Mo_go_L2 (g_Mo_step (f_Mo_go d)) ((zF - 1 - k) + 1 + k) g (nI u) (nI base) (nI (yx_S T u - yx_S T u)) := by
        rw [Nat.sub_self, show zF - 1 - k + 1 + k = zF by omega]; rfl
      refine ⟨g', ?_, ?_⟩
      · rw [e0]
        by_cases z0 : r.2 = 0
        · obtain ⟨q1, q2⟩ := o2 z0
          rw [q1 (zF - 1 - k + 1), Nat.add_sub_cancel_left]
          exact yN_fin (yN_cf q2.1 C)
        · by_cases z2 : r.2 = 2
          · obtain ⟨q1, q2⟩ := o4 z2
            rw [q1 (zF - 1 - k + 1), Nat.add_sub_cancel_left]
            exact yN_fin (yN_cf q2.1 C)
          · rw [if_neg z2] at r1
            exact (o5 (by omega)).1 _
      · by_cases z0 : r.2 = 0
        · obtain ⟨q1, q2⟩ := o2 z0
          rw [if_neg (show ¬ r.2 = 2 by omega), z0]
          exact ⟨q2.1, yN_so q2.2.1⟩
        · by_cases z2 : r.2 = 2
          · obtain ⟨q1, q2⟩ := o4 z2
            rw [if_pos z2]
            exact ⟨q2.1, yN_so q2.2.1⟩
          · rw [if_neg z2] at r1 ⊢
            exact (o5 (by omega)).2
    · obtain ⟨g', q1, q2, q3⟩ := ih g0 d (by omega) (by omega) hB u base s g (by omega) f hs hl hX dj gd
      refine ⟨g', q1, q2, ?_⟩
      rw [yE_U, if_neg z]
      exact q3
end YNU
