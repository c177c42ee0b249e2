/-! A text begins anew: all cells, outputs. -/
section YBR
variable {LC LM : List (List Int32)} {nb : Nat} {F X Y K : Nat → Nat} {h0 g0 : zs_H}
theorem yB_f62 {v : Int32} : ∀ (m x N : Nat) (h : zs_H), x + m = 8192 → m < N → ∃ h', f_Ar_fill_c62_L5 N h v (nI x) 8192 = some h' ∧ zfr [] [62] [] h h' ∧ ∀ j, j < 8192 → (h'.2.1 62) j = if x ≤ j then v else (h.2.1 62) j := by
  intro m
  induction m with
  | zero =>
    intro x N h e hN
    obtain ⟨N, rfl⟩ : ∃ z, N = z + 1 := ⟨N - 1, by omega⟩
    refine ⟨h, ?_, zfr_rfl, fun j hj => by rw [if_neg (by omega)]⟩
    show f_Ar_fill_c62_5 (f_Ar_fill_c62_L5 N) h v (nI x) 8192 = _
    unfold f_Ar_fill_c62_5
    rw [if_pos ((zc_le (k := 8192) (by decide) (by omega)).mpr (by omega))]
  | succ m ih =>
    intro x N h e hN
    obtain ⟨N, rfl⟩ : ∃ z, N = z + 1 := ⟨N - 1, by omega⟩
    obtain ⟨h', a1, a2, a3⟩ := ih (x + 1) N (zs_uM h 62 x v) (by omega) (by omega)
    refine ⟨h', ?_, zfr_trans (zfr_M (by decide) zfr_rfl) a2, fun j hj => ?_⟩
    · show f_Ar_fill_c62_5 (f_Ar_fill_c62_L5 N) h v (nI x) 8192 = _
      unfold f_Ar_fill_c62_5
      rw [if_neg (mt (zc_le (k := 8192) (by decide) (by omega)).mp (by omega)), if_pos (zi_in (by omega) (by omega)), nI_clamp (by omega), show nI x + 1 = nI (x + 1) from zc_ad 1 x]
      exact a1
    · have g2 : ((zs_uM h 62 x v).2.1 62) j = if j = x then v else (h.2.1 62) j := zu_MM.trans (by
        by_cases z : j = x
        · rw [if_pos ⟨rfl, z⟩, if_pos z]
        · rw [if_neg (fun w => z w.2), if_neg z])
      rw [a3 j hj, g2]
      by_cases z : j = x
      · subst z
        rw [if_neg (by omega), if_pos rfl, if_pos (Nat.le_refl _)]
      · by_cases y : x + 1 ≤ j
        · rw [if_pos y, if_pos (by omega)]
        · rw [if_neg y, if_neg z, if_neg (by omega)]
theorem yB_f65 {v : Int32} : ∀ (m x N : Nat) (h : zs_H), x + m = 16 → m < N → ∃ h', f_Ar_fill_c65_L5 N h v (nI x) 16 = some h' ∧ zfr [] [65] [] h h' ∧ ∀ j, j < 16 → (h'.2.1 65) j = if x ≤ j then v else (h.2.1 65) j := by
  intro m
  induction m with
  | zero =>
    intro x N h e hN
    obtain ⟨N, rfl⟩ : ∃ z, N = z + 1 := ⟨N - 1, by omega⟩
    refine ⟨h, ?_, zfr_rfl, fun j hj => by rw [if_neg (by omega)]⟩
    show f_Ar_fill_c65_5 (f_Ar_fill_c65_L5 N) h v (nI x) 16 = _
    unfold f_Ar_fill_c65_5
    rw [if_pos ((zc_le (k := 16) (by decide) (by omega)).mpr (by omega))]
  | succ m ih =>
    intro x N h e hN
    obtain ⟨N, rfl⟩ : ∃ z, N = z + 1 := ⟨N - 1, by omega⟩
    obtain ⟨h', a1, a2, a3⟩ := ih (x + 1) N (zs_uM h 65 x v) (by omega) (by omega)
    refine ⟨h', ?_, zfr_trans (zfr_M (by decide) zfr_rfl) a2, fun j hj => ?_⟩
    · show f_Ar_fill_c65_5 (f_Ar_fill_c65_L5 N) h v (nI x) 16 = _
      unfold f_Ar_fill_c65_5
      rw [if_neg (mt (zc_le (k := 16) (by decide) (by omega)).mp (by omega)), if_pos (zi_in (by omega) (by omega)), nI_clamp (by omega), show nI x + 1 = nI (x + 1) from zc_ad 1 x]
      exact a1
    · have g2 : ((zs_uM h 65 x v).2.1 65) j = if j = x then v else (h.2.1 65) j := zu_MM.trans (by
        by_cases z : j = x
        · rw [if_pos ⟨rfl, z⟩, if_pos z]
        · rw [if_neg (fun w => z w.2), if_neg z])
      rw [a3 j hj, g2]
      by_cases z : j = x
      · subst z
        rw [if_neg (by omega), if_pos rfl, if_pos (Nat.le_refl _)]
      · by_cases y : x + 1 ≤ j
        · rw [if_pos y, if_pos (by omega)]
        · rw [if_neg y, if_neg z, if_neg (by omega)]
theorem yB_m2 : ∀ (m x N : Nat) (g : zs_H), x + m = 8192 → m < N → ∃ g', f_Mo_fillAll_L2 N g (nI x) = f_Mo_fillAll_L24 zF g' 0 ∧ zfr [] [114] [] g g' ∧ ∀ j, j < 8192 → (g'.2.1 114) j = if x ≤ j then 0 else (g.2.1 114) j := by
  intro m
  induction m with
  | zero =>
    intro x N g e hN
    obtain ⟨N, rfl⟩ : ∃ z, N = z + 1 := ⟨N - 1, by omega⟩
    refine ⟨g, ?_, zfr_rfl, fun j hj => by rw [if_neg (by omega)]⟩
    show f_Mo_fillAll_2 (f_Mo_fillAll_L2 N) g (nI x) = _
    unfold f_Mo_fillAll_2
    rw [if_pos ((zc_le (k := 8192) (by decide) (by omega)).mpr (by omega))]
  | succ m ih =>
    intro x N g e hN
    obtain ⟨N, rfl⟩ : ∃ z, N = z + 1 := ⟨N - 1, by omega⟩
    obtain ⟨g', a1, a2, a3⟩ := ih (x + 1) N (zs_uM g 114 x 0) (by omega) (by omega)
    refine ⟨g', ?_, zfr_trans (zfr_M (by decide) zfr_rfl) a2, fun j hj => ?_⟩
    · show f_Mo_fillAll_2 (f_Mo_fillAll_L2 N) g (nI x) = _
      unfold f_Mo_fillAll_2
      rw [if_neg (mt (zc_le (k := 8192) (by decide) (by omega)).mp (by omega)), if_pos (zi_in (by omega) (by omega)), nI_clamp (by omega), show nI x + 1 = nI (x + 1) from zc_ad 1 x]
      exact a1
    · have g2 : ((zs_uM g 114 x 0).2.1 114) j = if j = x then 0 else (g.2.1 114) j := zu_MM.trans (by
        by_cases z : j = x
        · rw [if_pos ⟨rfl, z⟩, if_pos z]
        · rw [if_neg (fun w => z w.2), if_neg z])
      rw [a3 j hj, g2]
      by_cases z : j = x
      · subst z
        rw [if_neg (by omega), if_pos rfl, if_pos (Nat.le_refl _)]
      · by_cases y : x + 1 ≤ j
        · rw [if_pos y, if_pos (by omega)]
        · rw [if_neg y, if_neg z, if_neg (by omega)]
/-- what is known of the plan of a text that begins -/
def yB_P (LC LM : List (List Int32)) (nb : Nat) (F X Y K : Nat → Nat) (h0 g0 : zs_H) : Prop := (0 < nb ∧ nb ≤ 16) ∧ yk_cx LC LM nb F X Y h0 g0 ∧ yh_pl X K (X (nb - 1)) nb ≤ 8192 ∧ (K (nb - 1) = 3 ∧ ∀ j, j < nb → (K j = 1 ∨ K j = 2 ∨ K j = 3) ∧ (K j = 3 → j = nb - 1)) ∧ (∀ j, j < nb → (h0.2.1 21) (9 + j) = nI (K j) ∧ (g0.2.1 86) j = nI (K j)) ∧ ∀ j, j < nb → ¬ K j = 2 → (h0.2.1 27) (9 + j) = nI (yB_l X K nb j) ∧ (g0.2.1 89) j = nI (yB_l X K nb j)
theorem yB_mkP (n0 : 0 < nb) (n16 : nb ≤ 16) (C : yk_cx LC LM nb F X Y h0 g0) (KK : ∀ j, j < nb → (K j = 1 ∨ K j = 2 ∨ K j = 3) ∧ (h0.2.1 21) (9 + j) = nI (K j) ∧ (g0.2.1 86) j = nI (K j)) (TT : yh_T nb X K h0 g0) : yB_P LC LM nb F X Y K h0 g0 := by
  have k3 : ∀ j, j < nb → K j = 3 → j = nb - 1 := fun j hj z => by
    obtain ⟨kd, _, e1, _, e2⟩ := C.1.2.1.2.2.2.2.1 j hj
    have : kd = 3 := (zc_eq (k := 3) (by decide) (by omega)).mp (e1.symm.trans (by rw [(KK j hj).2.1, z]; rfl))
    have := e2 this
    omega
  refine ⟨⟨n0, n16⟩, C, TT.2.1.2.2, ⟨TT.1.2, fun j hj => ⟨(KK j hj).1, k3 j hj⟩⟩, fun j hj => (KK j hj).2, fun j hj h2 => ?_⟩
  unfold yB_l
  rcases (KK j hj).1 with z | z | z
  · rw [if_pos z]; exact TT.2.2.1 j hj z
  · exact absurd z h2
  · rw [if_neg (by omega), k3 j hj z]
    exact ⟨TT.2.2.2.2, TT.2.2.2.1⟩
theorem yB_anew {h g : zs_H} (P : yB_P LC LM nb F X Y K h0 g0) (E : yB_E h0 h) (e : yB_e g0 g) (eB : (h.1 20 17) = nI (9 + nb)) (io : yY_io h g) : ∃ h' g', f_Mc_beginAnew h = some h' ∧ f_Mo_anew g = some g' ∧ zfr [(58, 4)] [60, 62, 65] [] h h' ∧ zfr [(68, 86)] [114, 119] [] g g' ∧ (∀ j, j < 8192 → (h'.2.1 62) j = (g'.2.1 114) j) ∧ (yS_g (yq_k h0) (nb - 1) 0 ((g'.2.1 114)) ∧ ∀ LD : Nat → Prop, yJ_G (yq_b LD h0) (yq_k h0) (yh_pl X K (X (nb - 1))) (nb - 1) 0 ((g'.2.1 114))) ∧ yY_io h' g' ∧ (h'.1 58 4) = 0 ∧ (g'.1 68 86) = 0 := by
  have hz := zF_big
  obtain ⟨⟨n0, n16⟩, C, h8, hK, eK, hP⟩ := P
  obtain ⟨ha, ea⟩ : ∃ ha, ha = zs_uF h 58 4 0 := ⟨_, rfl⟩
  have fa : zfr [(58, 4)] [] [] h ha := by rw [ea]; exact zfr_F (by decide) zfr_rfl
  obtain ⟨h1, a1, a2, a3⟩ := yB_f62 (v := 0) 8192 0 zF ha (by omega) (by omega)
  obtain ⟨h2, b1, b2, b3⟩ := yB_f65 (v := -1) 16 0 zF h1 (by omega) (by omega)
  obtain ⟨g1, m1, m2, m3⟩ := yB_m2 8192 0 zF g (by omega) (by omega)
  have f2 : zfr [] [62, 65] [] ha h2 := zfr_trans (zfr_w a2 (by decide) (by decide) (by decide)) (zfr_w b2 (by decide) (by decide) (by decide))
  have c2 : ∀ j, j < 8192 → (h2.2.1 62) j = (fun _ => (0 : Int32)) j := fun j hj => by rw [b2.2.1 _ (by decide), a3 j hj, if_pos (Nat.zero_le _)]
  have d2 : ∀ j, j < 8192 → (g1.2.1 114) j = (fun _ => (0 : Int32)) j := fun j hj => by rw [m3 j hj, if_pos (Nat.zero_le _)]
  have Ea : yB_E h0 ha := fun a h1 h2 => by rw [ea]; exact E a h1 h2
  obtain ⟨h3, p1, p2, p3⟩ := yB_CA C n0 n16 h8 hK (fun j hj => (eK j hj).1) (fun j hj z => (hP j hj z).1) nb 0 zF (fun _ => 0) h2 (by omega) (by omega) (yB_Ef Ea f2) ((f2.1 _ _ List.not_mem_nil).trans ((fa.1 _ _ (by decide)).trans eB)) c2 (fun _ _ _ _ _ _ => rfl) (fun u hu => .inl ((b3 u (by omega)).trans (if_pos (Nat.zero_le _))))
  obtain ⟨g2, q1, q2, q3⟩ := yB_MA C h8 hK.2 (fun j hj => (eK j hj).2) nb 0 zF (fun _ => 0) g1 (by omega) (by omega) n16 (yB_ef e m2) (fun j hj z => (hP j hj z).2) d2
  have cc : ∀ j, j < 8192 → (h3.2.1 62) j = (g2.2.1 114) j := fun j hj => (p3 j hj).trans (q3 j hj).symm
  have F3 : zfr [(58, 4)] [62, 65] [] h h3 := zfr_trans (zfr_w fa (by decide) (by decide) (by decide)) (zfr_w (zfr_trans f2 p2) (by decide) (by decide) (by decide))
  have G2 : zfr [] [114] [] g g2 := zfr_trans m2 q2
  have io3 : yY_io h3 g2 := fun i hi => by
    rw [F3.2.1 59 (by decide), F3.2.1 60 (by decide), F3.2.1 61 (by decide), G2.2.1 118 (by decide), G2.2.1 119 (by decide), G2.2.1 120 (by decide)]
    exact io i hi
  obtain ⟨h4, g4, r1, r2, r3, r4, r5⟩ := yY_pubS io3
  have s3 : (h3.1 58 4) = 0 := (p2.1 _ _ List.not_mem_nil).trans ((f2.1 _ _ List.not_mem_nil).trans (by rw [ea]; rfl))
  refine ⟨h4, zs_uF g4 68 86 0, ?_, ?_, zfr_trans (zfr_w F3 (by decide) (by decide) (by decide)) (zfr_w r3 (by decide) (by decide) (by decide)), zfr_F (by decide) (zfr_trans (zfr_w G2 (by decide) (by decide) (by decide)) (zfr_w r4 (by decide) (by decide) (by decide))), fun j hj => ?_, ?_, ?_, (r3.1 _ _ List.not_mem_nil).trans s3, rfl⟩
  · unfold f_Mc_beginAnew f_Ar_fill_c62 f_Ar_fill_c65
    rw [← ea, show f_Ar_fill_c62_L5 zF ha 0 0 8192 = some h1 from a1, Option.bind_some, show f_Ar_fill_c65_L5 zF h1 (-1) 0 16 = some h2 from b1, Option.bind_some, show f_Mc_beginAnew_L24 zF h2 9 = _ from p1, r1]
    rfl
  · unfold f_Mo_anew f_Mo_fillAll
    rw [show f_Mo_fillAll_L2 zF g 0 = _ from m1, show f_Mo_fillAll_L24 zF g1 0 = some g2 from q1, Option.bind_some, r2, Option.bind_some]
  · rw [r3.2.1 _ (by decide)]
    exact (cc j hj).trans (by show _ = (g4.2.1 114) j; rw [r4.2.1 _ (by decide)])
  · have A := fun LD => yB_Aj (LD := LD) C n0 hK nb 0 (fun _ => 0) (by omega) (fun u _ _ j _ => .inl rfl)
    have e0 : yB_l X K nb (nb - 1) = 0 := by
      unfold yB_l
      rw [if_neg (by rw [hK.1]; decide)]
    refine ⟨fun j hj => ?_, fun LD => ⟨fun j hj => ?_, fun w hw hk j hj => ?_⟩⟩
    · left
      have hj' := yq_Y C (show nb - 1 < nb by omega) hj
      have kB := (C.2.2 (nb - 1) (by omega)).1
      show (g4.2.1 114) (0 + j) = 0
      rw [r4.2.1 _ (by decide), q3 (0 + j) (by omega)]
      exact yB_Ag C n0 hK hj nb 0 (fun _ => 0) (by omega)
    · have hx := yq_bX C (show nb - 1 < nb by omega) hj
      have lb := yB_lb (X := X) h8 hK.2 (show nb - 1 < nb by omega) (by rw [hK.1]; decide)
      show yJ_01 ((g4.2.1 114) (0 + j))
      rw [r4.2.1 _ (by decide), q3 (0 + j) (by omega)]
      have := A LD (nb - 1) (by omega) (by rw [hK.1]; decide) j hj
      rwa [e0] at this
    · have hw' : w < nb := by omega
      have hx := yq_bX C hw' hj
      have k1 : K w = 1 := by
        have e : nI (K w) = 1 := (eK w hw').1.symm.trans hk
        have := (hK.2 w hw').1
        exact (zc_eq (k := 1) (by decide) (by omega)).mp e
      have lb := yB_lb (X := X) h8 hK.2 hw' (by omega)
      have el : yB_l X K nb w = yh_pl X K (X (nb - 1)) w := if_pos k1
      show yJ_01 ((g4.2.1 114) (yh_pl X K (X (nb - 1)) w + j))
      rw [r4.2.1 _ (by decide), ← el, q3 _ (by omega)]
      exact A LD w hw' (by omega) j hj
  · exact r5
end YBR
