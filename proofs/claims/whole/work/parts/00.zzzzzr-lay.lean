/-! The judge: where the functions' cells lie; a text is left (10, 42). -/
/-- the cells up to a block -/
def yh_pl (X K : Nat → Nat) (s0 : Nat) : Nat → Nat
  | 0 => s0
  | b + 1 => yh_pl X K s0 b + (if K b = 1 then X b else 0)
theorem yh_plb {X K : Nat → Nat} {s0 nb : Nat} (h : ∀ b, b < nb → X b ≤ 30000) : ∀ b, b ≤ nb → yh_pl X K s0 b ≤ s0 + 30000 * b := by
  intro b
  induction b with
  | zero => intro _; exact Nat.le_refl _
  | succ b ih =>
    intro hb
    have h1 := ih (by omega)
    have h2 := h b (by omega)
    show yh_pl X K s0 b + (if K b = 1 then X b else 0) ≤ _
    split <;> omega
section YHL
variable {X K : Nat → Nat} {s0 nb : Nat}
theorem yh_loC (hnb : nb ≤ 568) (hK : ∀ j, j < nb → K j < 4) : ∀ (m b N : Nat) (h : zs_H), b + m = nb → (h.1 20 17) = nI (9 + nb) → (∀ j, j < nb → (h.2.1 21) (9 + j) = nI (K j) ∧ (h.2.1 26) (9 + j) = nI (X j)) → (h.1 20 20) = nI (yh_pl X K s0 b) → m < N → ∃ h', f_Pl_layOut_L28 N h (nI (9 + b)) = some h' ∧ zfr [(20, 20)] [27] [] h h' ∧ (h'.1 20 20) = nI (yh_pl X K s0 nb) ∧ (∀ j, j < b → (h'.2.1 27) (9 + j) = (h.2.1 27) (9 + j)) ∧ (∀ j, b ≤ j → j < nb → K j = 1 → (h'.2.1 27) (9 + j) = nI (yh_pl X K s0 j)) ∧ (∀ j, j < nb → ¬ K j = 1 → (h'.2.1 27) (9 + j) = (h.2.1 27) (9 + j)) := by
  have uL : ∀ (N : Nat) (h : zs_H) (x : Int32), f_Pl_layOut_L28 (N + 1) h x = f_Pl_layOut_28 (f_Pl_layOut_L28 N) h x := fun _ _ _ => rfl
  intro m
  induction m with
  | zero =>
    intro b N h hb h1 _ h3 hN
    obtain ⟨N, rfl⟩ : ∃ z, N = z + 1 := ⟨N - 1, by omega⟩
    rw [uL]
    unfold f_Pl_layOut_28
    rw [h1, if_pos ((nI_leI (by omega) (by omega)).mpr (by omega))]
    exact ⟨h, rfl, zfr_rfl, by rw [h3]; exact congrArg (fun z => nI (yh_pl X K s0 z)) (by omega), fun _ _ => rfl, fun j q1 q2 => by omega, fun _ _ _ => rfl⟩
  | succ m ih =>
    intro b N h hb h1 h2 h3 hN
    obtain ⟨N, rfl⟩ : ∃ z, N = z + 1 := ⟨N - 1, by omega⟩
    obtain ⟨k1, k2⟩ := h2 b (by omega)
    have hk := hK b (by omega)
    have q1 : (nI (K b) = 1) ↔ K b = 1 := zc_eq (k := 1) (by decide) (by omega)
    have en : nI (9 + b) + 1 = nI (9 + (b + 1)) := by rw [nI_1]; rfl
    rw [uL]
    unfold f_Pl_layOut_28 f_Pl_layOut_71
    rw [h1, if_neg (mt (nI_leI (by omega) (by omega)).mp (by omega)), if_pos (zi_in (by omega) (by omega)), nI_clamp (show 9 + b < 2147483648 by omega), k1, k2, h3, en]
    by_cases z : K b = 1
    · rw [if_pos (q1.mpr z), show nI (yh_pl X K s0 b) + nI (X b) = nI (yh_pl X K s0 b + X b) from (Int32.ofNat_add _ _).symm]
      have f0 : zfr [(20, 20)] [27] [] h (zs_uF (zs_uM h 27 (9 + b) (nI (yh_pl X K s0 b))) 20 20 (nI (yh_pl X K s0 b + X b))) := zfr_F (by decide) (zfr_M (by decide) zfr_rfl)
      obtain ⟨h', r1, r2, r3, r4, r5, r6⟩ := ih (b + 1) N (zs_uF (zs_uM h 27 (9 + b) (nI (yh_pl X K s0 b))) 20 20 (nI (yh_pl X K s0 b + X b))) (by omega) ((f0.1 _ _ (by decide)).trans h1) (fun j hj => by rw [f0.2.1 21 (by decide), f0.2.1 26 (by decide)]; exact h2 j hj) (by show nI (yh_pl X K s0 b + X b) = nI (yh_pl X K s0 b + (if K b = 1 then X b else 0)); rw [if_pos z]) (by omega)
      refine ⟨h', r1, zfr_trans f0 r2, r3, fun j hj => (r4 j (by omega)).trans ((yg_uM (h := h) (9 + j)).trans (if_neg (by omega))), fun j p1 p2 p3 => ?_, fun j p1 p2 => (r6 j p1 p2).trans ((yg_uM (h := h) (9 + j)).trans (if_neg (fun q => p2 (by rw [show j = b by omega]; exact z))))⟩
      by_cases e : j = b
      · subst e
        exact (r4 j (by omega)).trans ((yg_uM (h := h) (9 + j)).trans (if_pos rfl))
      · exact r5 j (by omega) p2 p3
    · rw [if_neg (mt q1.mp z)]
      obtain ⟨h', r1, r2, r3, r4, r5, r6⟩ := ih (b + 1) N h (by omega) h1 h2 (by rw [h3]; show _ = nI (yh_pl X K s0 b + (if K b = 1 then X b else 0)); rw [if_neg z]; rfl) (by omega)
      exact ⟨h', r1, r2, r3, fun j hj => r4 j (by omega), fun j p1 p2 p3 => r5 j (by by_cases e : j = b; exact absurd (e ▸ p3) z; omega) p2 p3, r6⟩
theorem yh_loM (hnb : nb ≤ 568) (hK : ∀ j, j < nb → K j < 4) : ∀ (m b N : Nat) (g : zs_H) (x1 : Int32), b + m = nb → (g.1 68 33) = nI nb → (g.1 68 29) = 0 → (∀ j, j < nb → (g.2.1 86) j = nI (K j) ∧ (g.2.1 88) j = nI (X j)) → m < N → ∃ g', f_Mo_lookAtText_L59 N g x1 (nI (yh_pl X K s0 b)) (nI b) = f_Mo_lookAtText_106 g' x1 (nI (yh_pl X K s0 nb)) ∧ zfr [] [89] [] g g' ∧ (∀ j, j < b → (g'.2.1 89) j = (g.2.1 89) j) ∧ (∀ j, b ≤ j → j < nb → K j = 1 → (g'.2.1 89) j = nI (yh_pl X K s0 j)) := by
  have uL : ∀ (N : Nat) (g : zs_H) (x1 x2 x : Int32), f_Mo_lookAtText_L59 (N + 1) g x1 x2 x = f_Mo_lookAtText_59 (f_Mo_lookAtText_L59 N) g x1 x2 x := fun _ _ _ _ _ => rfl
  intro m
  induction m with
  | zero =>
    intro b N g x1 hb h1 hj _ hN
    obtain ⟨N, rfl⟩ : ∃ z, N = z + 1 := ⟨N - 1, by omega⟩
    rw [uL]
    unfold f_Mo_lookAtText_59
    rw [h1, if_pos ((nI_leI (by omega) (by omega)).mpr (by omega)), show b = nb by omega]
    exact ⟨g, rfl, zfr_rfl, fun _ _ => rfl, fun j q1 q2 => by omega⟩
  | succ m ih =>
    intro b N g x1 hb h1 hj h2 hN
    obtain ⟨N, rfl⟩ : ∃ z, N = z + 1 := ⟨N - 1, by omega⟩
    obtain ⟨k1, k2⟩ := h2 b (by omega)
    have hk := hK b (by omega)
    have q1 : (nI (K b) = 1) ↔ K b = 1 := zc_eq (k := 1) (by decide) (by omega)
    rw [uL]
    unfold f_Mo_lookAtText_59 f_Mo_lookAtText_100
    rw [h1, if_neg (mt (nI_leI (by omega) (by omega)).mp (by omega)), if_pos hj, if_pos (zi_in (by omega) (by omega)), nI_clamp (show b < 2147483648 by omega), k1, k2, nI_1]
    by_cases z : K b = 1
    · rw [if_pos (q1.mpr z), show nI (yh_pl X K s0 b) + nI (X b) = nI (yh_pl X K s0 (b + 1)) by rw [show yh_pl X K s0 (b + 1) = yh_pl X K s0 b + (if K b = 1 then X b else 0) from rfl, if_pos z]; exact (Int32.ofNat_add _ _).symm]
      have f0 : zfr [] [89] [] g (zs_uM g 89 b (nI (yh_pl X K s0 b))) := zfr_M (by decide) zfr_rfl
      obtain ⟨g', r1, r2, r4, r5⟩ := ih (b + 1) N (zs_uM g 89 b (nI (yh_pl X K s0 b))) x1 (by omega) ((f0.1 _ _ (by decide)).trans h1) ((f0.1 _ _ (by decide)).trans hj) (fun j hj => by rw [f0.2.1 86 (by decide), f0.2.1 88 (by decide)]; exact h2 j hj) (by omega)
      refine ⟨g', r1, zfr_trans f0 r2, fun j hj => (r4 j (by omega)).trans ((yg_uM (h := g) j).trans (if_neg (by omega))), fun j p1 p2 p3 => ?_⟩
      by_cases e : j = b
      · subst e
        exact (r4 j (by omega)).trans ((yg_uM (h := g) j).trans (if_pos rfl))
      · exact r5 j (by omega) p2 p3
    · rw [if_neg (mt q1.mp z)]
      obtain ⟨g', r1, r2, r4, r5⟩ := ih (b + 1) N g x1 (by omega) h1 hj h2 (by omega)
      rw [show yh_pl X K s0 (b + 1) = yh_pl X K s0 b by show yh_pl X K s0 b + (if K b = 1 then X b else 0) = _; rw [if_neg z]; rfl] at r1
      exact ⟨g', r1, r2, fun j hj => r4 j (by omega), fun j p1 p2 p3 => r5 j (by by_cases e : j = b; exact absurd (e ▸ p3) z; omega) p2 p3⟩
end YHL
/-- the blocks' kinds and cells, as numbers -/
theorem yh_XK {LC LM : List (List Int32)} {nb : Nat} {F : Nat → Nat} {h g : zs_H} (I : zv_I LC LM nb nb (F nb) F (-1) h g) : ∃ X K : Nat → Nat, ∀ j, j < nb → (X j ≤ 30000 ∧ (K j = 1 ∨ K j = 2 ∨ K j = 3)) ∧ ((h.2.1 21) (9 + j) = nI (K j) ∧ (h.2.1 26) (9 + j) = nI (X j)) ∧ ((g.2.1 86) j = nI (K j) ∧ (g.2.1 88) j = nI (X j)) := by
  refine ⟨fun j => ((h.2.1 26) (9 + j)).toNatClampNeg, fun j => ((h.2.1 21) (9 + j)).toNatClampNeg, fun j hj => ?_⟩
  obtain ⟨x, x1, x2, x3⟩ := I.2.2.2.2.1.2.1 j hj
  obtain ⟨kd, k1, k2, k3, _⟩ := I.2.1.2.2.2.2.1 j hj
  have e1 : ((h.2.1 26) (9 + j)).toNatClampNeg = x := by rw [x2]; exact nI_clamp (by omega)
  have e2 : ((h.2.1 21) (9 + j)).toNatClampNeg = kd := by rw [k2]; exact nI_clamp (by omega)
  show (((h.2.1 26) (9 + j)).toNatClampNeg ≤ 30000 ∧ (((h.2.1 21) (9 + j)).toNatClampNeg = 1 ∨ ((h.2.1 21) (9 + j)).toNatClampNeg = 2 ∨ ((h.2.1 21) (9 + j)).toNatClampNeg = 3)) ∧ ((h.2.1 21) (9 + j) = nI ((h.2.1 21) (9 + j)).toNatClampNeg ∧ (h.2.1 26) (9 + j) = nI ((h.2.1 26) (9 + j)).toNatClampNeg) ∧ ((g.2.1 86) j = nI ((h.2.1 21) (9 + j)).toNatClampNeg ∧ (g.2.1 88) j = nI ((h.2.1 26) (9 + j)).toNatClampNeg)
  rw [e1, e2]
  exact ⟨⟨x1, k1⟩, ⟨k2, x2⟩, k3, x3⟩
/-- what is known of the whole text -/
def yh_T (nb : Nat) (X K : Nat → Nat) (h g : zs_H) : Prop := (0 < nb ∧ K (nb - 1) = 3) ∧ ((h.1 20 20) = nI (yh_pl X K (X (nb - 1)) nb) ∧ (g.1 68 55) = nI (yh_pl X K (X (nb - 1)) nb) ∧ yh_pl X K (X (nb - 1)) nb ≤ 8192) ∧ (∀ j, j < nb → K j = 1 → (h.2.1 27) (9 + j) = nI (yh_pl X K (X (nb - 1)) j) ∧ (g.2.1 89) j = nI (yh_pl X K (X (nb - 1)) j)) ∧ ((g.2.1 89) (nb - 1) = 0 ∧ (h.2.1 27) (9 + (nb - 1)) = 0)
theorem yh_leave {LC LM : List (List Int32)} {nb i k : Nat} {F X K : Nat → Nat} {h g : zs_H} {p0 : Int32} (I : zv_I LC LM nb nb (F nb) F (-1) h g) (hi : i < 32784) (hk : k < 33500) (c1 : (h.2.1 15) i = p0) (m1 : (g.2.1 73) k = p0) (hXK : ∀ j, j < nb → (X j ≤ 30000 ∧ (K j = 1 ∨ K j = 2 ∨ K j = 3)) ∧ ((h.2.1 21) (9 + j) = nI (K j) ∧ (h.2.1 26) (9 + j) = nI (X j)) ∧ ((g.2.1 86) j = nI (K j) ∧ (g.2.1 88) j = nI (X j))) (hp0 : ∀ b, b < nb → (h.2.1 21) (9 + b) = 3 → (h.2.1 27) (9 + b) = 0) :
    ∃ h' g', f_Jd_leaveText h (nI i) = some h' ∧ f_Mo_lookAtText g (nI k) = some g' ∧ ((zv_Fb h g h' g' ∧ ¬ (h'.1 38 3) = 0 ∧ ¬ (g'.1 68 29) = 0) ∨ (yh_T nb X K h' g' ∧ (h'.1 38 3) = 0 ∧ (g'.1 68 29) = 0 ∧ zfr [(20, 20)] [27] [] h h' ∧ zfr [(68, 55)] [89] [] g g')) := by
  have hz := zF_big
  obtain ⟨HS, ⟨⟨B1, B2, B3⟩, _, _, _, _, _, _, _, _, B10⟩, _, _, _, _, _, J1, J2⟩ := I
  have hK4 : ∀ j, j < nb → K j < 4 := fun j hj => by have := (hXK j hj).1.2; omega
  have hC : ∀ j, j < nb → (h.2.1 21) (9 + j) = nI (K j) ∧ (h.2.1 26) (9 + j) = nI (X j) := fun j hj => (hXK j hj).2.1
  have hM : ∀ j, j < nb → (g.2.1 86) j = nI (K j) ∧ (g.2.1 88) j = nI (X j) := fun j hj => (hXK j hj).2.2
  have loC : ∀ s0, ∃ h2, f_Pl_layOut_22 h (nI s0) = some h2 ∧ zfr [(20, 20)] [27] [] h h2 ∧ (h2.1 20 20) = nI (yh_pl X K s0 nb) ∧ (∀ j, j < nb → K j = 1 → (h2.2.1 27) (9 + j) = nI (yh_pl X K s0 j)) ∧ (∀ j, j < nb → ¬ K j = 1 → (h2.2.1 27) (9 + j) = (h.2.1 27) (9 + j)) := by
    intro s0
    have f0 : zfr [(20, 20)] [27] [] h (zs_uF h 20 20 (nI s0)) := zfr_F (by decide) zfr_rfl
    obtain ⟨h2, r1, r2, r3, _, r5, r6⟩ := yh_loC (X := X) (K := K) (s0 := s0) B3 hK4 nb 0 zF (zs_uF h 20 20 (nI s0)) (by omega) B1 hC rfl (by omega)
    exact ⟨h2, r1, zfr_trans f0 r2, r3, fun j hj => r5 j (Nat.zero_le _) hj, fun j hj k => (r6 j hj k).trans rfl⟩
  have q3 : ∀ j, j < nb → (nI (K j) = 3 ↔ K j = 3) := fun j hj => zc_eq (k := 3) (by decide) (by have := hK4 j hj; omega)
  have nb0 : (nI nb = 0) ↔ nb = 0 := zc_eq (k := 0) (by decide) (by omega)
  have nbl : (nI nb ≤ (0 : Int32)) ↔ nb ≤ 0 := zc_el (k := 0) (by decide) (by omega)
  by_cases q : 0 < nb ∧ (g.2.1 86) (nb - 1) = 3
  · -- with a PROGRAM
    have hb : 0 < nb := q.1
    have k3 : K (nb - 1) = 3 := (q3 (nb - 1) (by omega)).mp ((hM (nb - 1) (by omega)).1 ▸ q.2)
    rw [if_pos q] at B10
    obtain ⟨h2, r1, r2, r3, r4, r6⟩ := loC (X (nb - 1))
    obtain ⟨g2, s1, s2, s3, s4⟩ := yh_loM (X := X) (K := K) (s0 := X (nb - 1)) B3 hK4 nb 0 zF g (nI k) (by omega) B2 J2 hM (by omega)
    have hpb := yh_plb (X := X) (K := K) (s0 := X (nb - 1)) (nb := nb) (fun b hb => (hXK b hb).1.1) nb (Nat.le_refl _)
    have hx0 := (hXK (nb - 1) (by omega)).1.1
    generalize hT : yh_pl X K (X (nb - 1)) nb = T at r3 s1 hpb
    have J1' : (h2.1 38 3) = 0 := (r2.1 _ _ (by decide)).trans J1
    have J2' : (g2.1 68 29) = 0 := (s2.1 _ _ (by decide)).trans J2
    have qT : (nI T ≤ (8192 : Int32)) ↔ T ≤ 8192 := zc_el (k := 8192) (by decide) (by omega)
    obtain ⟨h', g', v1, v2, v3⟩ := zv_both (φ := 42) (i := i) (k := k) (8192 < T) J1' J2' hi hk
    have e98 : 9 + (nb - 1) = 8 + nb := by omega
    have eC : f_Jd_leaveText h (nI i) = some h' := by
      unfold f_Jd_leaveText f_Pl_layOut
      rw [B10, if_neg (zc_m1 (show 8 + nb < 2147483648 by omega)), if_pos (zi_in (by omega) (by omega)), nI_clamp (show 8 + nb < 2147483648 by omega), ← e98, (hC (nb - 1) (by omega)).2, r1, Option.bind_some, show (h2.1 20 19) = nI (8 + nb) from (r2.1 _ _ (by decide)).trans B10, if_neg (zc_m1 (show 8 + nb < 2147483648 by omega))]
      unfold f_Jd_leaveText_24 f_Jd_leaveText_49
      rw [zv_ref0, Option.bind_some, r3]
      by_cases z : T ≤ 8192
      · rw [if_neg (by omega)] at v1
        rw [if_pos (qT.mpr z), show (42 : Int32) = nI 42 from rfl, v1]; rfl
      · rw [if_pos (by omega)] at v1
        rw [if_neg (mt qT.mp z), show (42 : Int32) = nI 42 from rfl, v1]; rfl
    have e106 : f_Mo_lookAtText_106 g2 (nI k) (nI T) = f_Mo_lookAtText_119 g2 (nI k) (nI T) (if 8192 < T then 1 else 0) := by
      unfold f_Mo_lookAtText_106
      by_cases z : T ≤ 8192
      · rw [if_pos (qT.mpr z), if_neg (by omega)]
      · rw [if_neg (mt qT.mp z), if_pos (by omega)]
    have e1 : nI nb - 1 = nI (nb - 1) := zi_sub (b := 1) (by omega)
    have hbg : g'.2 = g2.2 ∧ (g'.1 68 33) = nI nb := by
      have b0 : (g2.1 68 33) = nI nb := (s2.1 _ _ (by decide)).trans B2
      rcases v3 with ⟨_, _, z⟩ | ⟨_, _, z⟩
      · rw [z]; exact ⟨rfl, b0⟩
      · rw [z]; exact ⟨rfl, b0⟩
    have eM : f_Mo_lookAtText g (nI k) = some (zs_uF (zs_uM g' 89 (nb - 1) 0) 68 55 (nI T)) := by
      unfold f_Mo_lookAtText
      rw [B2, if_neg (mt nb0.mp (by omega)), e1, if_pos (zi_in (by omega) (by omega)), nI_clamp (show nb - 1 < 2147483648 by omega), if_pos q.2]
      unfold f_Mo_lookAtText_28 f_Mo_lookAtText_56
      rw [zv_rule0, Option.bind_some, if_pos J2, B2, e1, if_pos (zi_in (by omega) (by omega)), nI_clamp (show nb - 1 < 2147483648 by omega), (hM (nb - 1) (by omega)).2]
      rw [show f_Mo_lookAtText_L59 zF g (nI k) (nI (X (nb - 1))) 0 = f_Mo_lookAtText_106 g2 (nI k) (nI T) from s1, e106]
      unfold f_Mo_lookAtText_119 f_Mo_lookAtText_144
      rw [show f_Mo_rule g2 (if 8192 < T then 1 else 0) 42 (nI k) = some g' from v2, Option.bind_some, hbg.2, if_neg (mt nbl.mp (by omega)), e1, if_pos (zi_in (by omega) (by omega)), nI_clamp (show nb - 1 < 2147483648 by omega)]
    have fg : zfr [(68, 55)] [89] [] g' (zs_uF (zs_uM g' 89 (nb - 1) 0) 68 55 (nI T)) := zfr_F (by decide) (zfr_M (by decide) zfr_rfl)
    refine ⟨h', _, eC, eM, ?_⟩
    rcases v3 with ⟨nT, x1, x2⟩ | ⟨_, Y⟩
    · right
      subst x1; subst x2
      refine ⟨⟨⟨hb, k3⟩, ⟨by rw [hT]; exact r3, by rw [hT]; rfl, by rw [hT]; omega⟩, fun j hj kj => ⟨r4 j hj kj, ?_⟩, ⟨(yg_uM (h := g') (nb - 1)).trans (if_pos rfl), (r6 (nb - 1) (by omega) (by rw [k3]; decide)).trans (hp0 (nb - 1) (by omega) (by rw [(hC (nb - 1) (by omega)).1, k3]; rfl))⟩⟩, J1', (fg.1 _ _ (by decide)).trans J2', r2, zfr_trans (zfr_w s2 (by decide) (by decide) (by decide)) fg⟩
      have nj : ¬ j = nb - 1 := fun z => by rw [z, k3] at kj; exact absurd kj (by decide)
      exact (yg_uM (h := g') j).trans ((if_neg nj).trans (s4 j (Nat.zero_le _) hj kj))
    · left
      obtain ⟨XX, u1, u2⟩ := zv_YX Y (by decide) (by decide) (show (h2.2.1 15) i = p0 by rw [r2.2.1 _ (by decide)]; exact c1) (show (g2.2.1 73) k = p0 by rw [s2.2.1 _ (by decide)]; exact m1)
      have X2 : zv_X 42 p0 h' (zs_uF (zs_uM g' 89 (nb - 1) 0) 68 55 (nI T)) := ⟨XX.1, XX.2.1, XX.2.2.1, XX.2.2.2.1, (fg.1 _ _ (by decide)).trans XX.2.2.2.2.1, (fg.1 _ _ (by decide)).trans XX.2.2.2.2.2⟩
      have xn := zv_Xn X2
      exact ⟨⟨⟨42, p0, X2⟩, zfr_trans (zfr_w r2 (by decide) (by decide) (by decide)) (zfr_w u1 (fun _ z => z) (by decide) (by decide)), zfr_trans (zfr_w s2 (by decide) (by decide) (by decide)) (zfr_trans u2 (zfr_w fg (by decide) (by decide) (by decide)))⟩, xn.1, xn.2⟩
  · -- without one
    rw [if_neg q] at B10
    obtain ⟨h2, r1, r2, r3, r4, _⟩ := loC 0
    have J1' : (h2.1 38 3) = 0 := (r2.1 _ _ (by decide)).trans J1
    have nf := zv_rff (φ := 10) (i := i) (h := h2) (by decide) (by decide)
    have nj := zv_ruf (φ := 10) (k := k) (g := g) (by decide) (by decide)
    have eC : f_Jd_leaveText h (nI i) = some (zv_rf 10 i h2) := by
      unfold f_Jd_leaveText f_Pl_layOut
      rw [B10, if_pos rfl, show f_Pl_layOut_22 h 0 = some h2 from r1, Option.bind_some, show (h2.1 20 19) = -1 from (r2.1 _ _ (by decide)).trans B10, if_pos rfl]
      unfold f_Jd_leaveText_24 f_Jd_leaveText_49
      rw [show f_Jd_refuseIf h2 1 10 (nI i) = some (zv_rf 10 i h2) from zv_ref1 (φ := 10) (by decide) J1' hi, Option.bind_some, zv_refF nf, zv_refF nf, ite_self, Option.bind_some]
    have e1 : 0 < nb → nI nb - 1 = nI (nb - 1) := fun _ => zi_sub (b := 1) (by omega)
    have eM0 : f_Mo_lookAtText g (nI k) = f_Mo_lookAtText_56 (zv_ru 10 k g) (nI k) 0 := by
      have e28 : f_Mo_lookAtText_28 g (nI k) 1 = f_Mo_lookAtText_56 (zv_ru 10 k g) (nI k) 0 := by
        unfold f_Mo_lookAtText_28
        rw [show f_Mo_rule g 1 10 (nI k) = some (zv_ru 10 k g) from zv_rule1 (φ := 10) (by decide) J2 hk, Option.bind_some, if_neg nj]
      unfold f_Mo_lookAtText f_Mo_lookAtText_23
      rw [B2]
      by_cases z : nb = 0
      · rw [if_pos (nb0.mpr z)]; exact e28
      · rw [if_neg (mt nb0.mp z), e1 (by omega), if_pos (zi_in (by omega) (by omega)), nI_clamp (show nb - 1 < 2147483648 by omega), if_neg (fun y => q ⟨by omega, y⟩)]; exact e28
    have b0 : ((zv_ru 10 k g).1 68 33) = nI nb := B2
    have eM1 : f_Mo_lookAtText_56 (zv_ru 10 k g) (nI k) 0 = f_Mo_lookAtText_106 (zv_ru 10 k g) (nI k) 0 := by
      unfold f_Mo_lookAtText_56
      obtain ⟨N, hN⟩ : ∃ N, zF = N + 1 := ⟨zF - 1, by omega⟩
      rw [hN]
      show f_Mo_lookAtText_59 (f_Mo_lookAtText_L59 N) (zv_ru 10 k g) (nI k) 0 0 = _
      unfold f_Mo_lookAtText_59
      rw [if_neg nj, ite_self]
    have eM2 : ∃ g', f_Mo_lookAtText_106 (zv_ru 10 k g) (nI k) 0 = some g' ∧ zfr [(68, 55)] [89] [] (zv_ru 10 k g) g' := by
      unfold f_Mo_lookAtText_106 f_Mo_lookAtText_119 f_Mo_lookAtText_144
      rw [if_pos (by decide), zv_rule0, Option.bind_some, b0]
      by_cases z : nb = 0
      · rw [if_pos (nbl.mpr (by omega))]
        exact ⟨_, rfl, zfr_F (by decide) zfr_rfl⟩
      · rw [if_neg (mt nbl.mp (by omega)), e1 (by omega), if_pos (zi_in (by omega) (by omega))]
        exact ⟨_, rfl, zfr_F (by decide) (zfr_M (by decide) zfr_rfl)⟩
    obtain ⟨g', y1, y2⟩ := eM2
    obtain ⟨f1, f2, f3⟩ := yc_mkF (φ := 10) (h := h2) (g := g) (i := i) (k := k) (p := p0) (by decide) (by decide) (by rw [r2.2.1 _ (by decide)]; exact c1) m1
    obtain ⟨⟨φ, p, XX⟩, w1, w2⟩ := f1
    have X2 : zv_X φ p (zv_rf 10 i h2) g' := ⟨XX.1, XX.2.1, XX.2.2.1, XX.2.2.2.1, (y2.1 _ _ (by decide)).trans XX.2.2.2.2.1, (y2.1 _ _ (by decide)).trans XX.2.2.2.2.2⟩
    have xn := zv_Xn X2
    exact ⟨_, g', eC, by rw [eM0, eM1, y1], .inl ⟨⟨⟨φ, p, X2⟩, zfr_trans (zfr_w r2 (by decide) (by decide) (by decide)) w1, zfr_trans w2 (zfr_w y2 (by decide) (by decide) (by decide))⟩, xn.1, xn.2⟩⟩
