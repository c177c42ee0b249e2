section
/-! Both readers in step: constants and simple types. -/
/-- a tree has been read -/
def zk_T (h0 g0 : zs_H) (T : Nat → Int32) (n K : Nat) (LC LM : List (List Int32)) (W : zt_T → Prop) (j d s m o q b : Nat) (h g : zs_H) (x : Int32) (h' g' : zs_H) : Prop := ∃ (t : zt_T) (LM' : List (List Int32)) (j' s' m' a : Nat), (W t ∧ 2 * zg_c t ≤ j' - j) ∧ LM <+: LM' ∧ zk_L h0 g0 T n K LC h' g' LM' j' d s' m' o q ∧ j < j' ∧ s < s' ∧ s' ≤ s + 2 * (j' - j) ∧ m < m' ∧ m' ≤ m + 2 * (j' - j) ∧ x = nI a ∧ s ≤ a ∧ a < s' ∧ zt_C h' t (fun i => s ≤ i ∧ i < s') (nI a) (nI a) ∧ zq_kp s h h' ∧ zx_AP LC LM LM' b m m' t g g'
/-- both are behind a fault, with at most M nodes -/
def zk_Z (h0 g0 : zs_H) (T : Nat → Int32) (n K : Nat) (LC : List (List Int32)) (M0 M O : Nat) (x : Int32) (h' g' : zs_H) : Prop := zq_v x ∧ ∃ φ w m', M0 ≤ m' ∧ m' ≤ M ∧ zq_Z h0 T n K LC φ w h' ∧ zx_B g0 T n φ w m' O g'
theorem zk_Tv {h0 g0 h g h' g' : zs_H} {T : Nat → Int32} {n K : Nat} {LC LM : List (List Int32)} {W : zt_T → Prop} {j d s m o q b : Nat} {x : Int32} (R : zk_T h0 g0 T n K LC LM W j d s m o q b h g x h' g') : zq_v x := by
  obtain ⟨t, LM3, j3, s3, m3, a, r0, r1, r2, r3, r4, r5, r6, r7, r8, r9, r10, r11, r12, r13⟩ := R
  have hs3 : s3 ≤ 32784 := r2.2.2.2.1.2.2.2.2.2.2
  exact ⟨a, by omega, r8⟩
section ZE
variable {h0 g0 h g : zs_H} {T : Nat → Int32} {n K : Nat} {LC LM : List (List Int32)} {j d s m o q : Nat}
theorem zz_constant_99 {φ w : Nat} {x1 x2 : Int32} (H : zq_Z h0 T n K LC φ w h) (hx : zq_v x1) : zw (f_Ps_constant_99 h x1 x2) (fun p => p.1 = x1 ∧ zq_Z h0 T n K LC φ w p.2) := by
  obtain ⟨i, hi, rfl⟩ := hx
  unfold f_Ps_constant_99 f_Ps_constant_139
  rw [if_pos (zq_at H), if_pos (zi_in (by omega) hi)]
  split
  · rw [zw_bind]; exact zw_mono (zz_take (zz_uM H (by decide))) fun g' z => zw_some.mpr ⟨rfl, z⟩
  · rw [if_pos (zq_at H), if_pos (zi_in (by omega) hi), zw_bind]; exact zw_mono (zz_take (zz_uM H (by decide))) fun g' z => zw_some.mpr ⟨rfl, z⟩
theorem zxb_constant_90 {φ w O b : Nat} {x2 x3 x4 y0 : Int32} (H : zx_B g0 T n φ w m O g) (hm : m < 33500) (hb : b < m) : zw (f_Mo_constant_90 g (nI b) x2 x3 x4 y0) (zx_B g0 T n φ w (m + 1) O) := by
  unfold f_Mo_constant_90 f_Mo_constant_110
  rw [zx_want H, zw_bind, zw_some]
  split
  · rw [zw_B]; exact zw_mono (zxb_add (kn := 30) H hm rfl hb) fun p z => zw_some.mpr z.2
  · rw [zw_B]; exact zw_mono (zxb_add (kn := 30) H hm rfl hb) fun p z => zw_some.mpr z.2
theorem zxb_constant_70 {φ w O b : Nat} {x2 x3 : Int32} (H : zx_B g0 T n φ w m O g) (hm : m < 33500) (hb : b < m) : zw (f_Mo_constant_70 g (nI b) x2 x3) (zx_B g0 T n φ w (m + 1) O) := by
  unfold f_Mo_constant_70
  split
  · exact zxb_constant_90 H hm hb
  · exact zxb_constant_90 H hm hb
theorem zxb_constant {φ w O b : Nat} (H : zx_B g0 T n φ w m O g) (hm : m < 33500) (hb : b < m) : zw (f_Mo_constant g (nI b)) (zx_B g0 T n φ w (m + 1) O) := by
  have h31 : zw (f_Mo_constant_31 g (nI b)) (zx_B g0 T n φ w (m + 1) O) := by
    unfold f_Mo_constant_31
    rw [zw_B]
    refine zw_mono (zxb_add (kn := 31) H hm rfl hb) fun p z => ?_
    rw [zw_bind]
    exact zw_mono (zx_next z.2) fun g' y => zw_some.mpr y
  have h55 : zw (f_Mo_constant_55 g (nI b) ((g.1 68 7))) (zx_B g0 T n φ w (m + 1) O) := by
    unfold f_Mo_constant_55
    rw [zx_isSign H, if_pos rfl]
    exact zxb_constant_70 H hm hb
  unfold f_Mo_constant
  repeat' split
  all_goals first | exact h31 | exact h55
/-- a number of a text in the class -/
theorem zk_num (H : zk_L h0 g0 T n K LC h g LM j d s m o q) (h1 : (zl_at T n j).1 = 3 ∨ (zl_at T n j).1 = 4) : zd_in ((h.1 19 4)) 16385 ∧ h.2.1 11 ((h.1 19 4)).toNatClampNeg = nI (zl_at T n j).2.2.2 ∧ (g.1 68 9) = nI (zl_at T n j).2.2.2 := by
  obtain ⟨a1, a2, a3, a4, a5, a6⟩ := H
  obtain ⟨m1, m2, m3, m4, m5, m6, m7, m8, _⟩ := a6
  obtain ⟨s1, s2, s3, s4, s5, s6, s7, s8, s9, s10⟩ := a3
  obtain ⟨t1, t2, t3, t4⟩ := s1.1 j (by omega)
  rw [a4.2.1, nI_clamp (by omega), t3, m8 (by omega) (by omega)]
  refine ⟨zi_in (by omega) (by omega), ?_, rfl⟩
  unfold zl_cv
  rw [if_neg (by omega), if_neg (by omega)]
theorem zk_atI (H : zk_L h0 g0 T n K LC h g LM j d s m o q) : zd_in ((h.1 19 4)) 16385 := by
  have h1 := H.2.2.2.2.1
  have h2 := H.2.2.1.2.1
  have h3 := H.2.2.1.2.2.1
  rw [H.2.2.2.1.2.1]
  exact zi_in (by omega) (by omega)
/-- one node more, then a token more -/
theorem zk_leaf (H : zk_L h0 g0 T n K LC h g LM j d s m o q) {W : zt_T → Prop} {b kd : Nat} {p v' : Int32} {h1 g1 h2 g2 : zs_H} (hW : W (zt_n kd p v' .leaf)) (h37 : ¬ kd = 37) (hb : b < m) (hs : s < 32784) (hm : m < 33500) (qA : zq_A s kd p v' h h1) (qM : zx_AP LC LM LM b m (m + 1) (zt_n kd p v' .leaf) g g1) (f1 : zfr [(19, 4), (19, 5), (19, 6)] [] [] h1 h2) (f2 : zfr zk_lx [70, 71] [] g1 g2) {LM' : List (List Int32)} (hp : LM <+: LM') (L2 : zk_L h0 g0 T n K LC h2 g2 LM' (j + 1) d (s + 1) (m + 1) o q) : zk_T h0 g0 T n K LC LM W j d s m o q b h g (nI s) h2 g2 := by
  refine ⟨zt_n kd p v' .leaf, LM', j + 1, s + 1, m + 1, s, ⟨hW, by rw [zg_c_n h37]; exact Nat.zero_le _⟩, hp, L2, by omega, by omega, by omega, by omega, by omega, rfl, by omega, by omega, ?_, zq_kp_t (zq_kp_A qA) (zq_kp_f f1) (Nat.le_refl s), ?_⟩
  · exact zt_Ck (zq_kp_f (s := s + 1) f1) (fun i hi => hi.2) (zt_Cm (fun i hi => by omega) (zt_Cn (by omega) qA))
  · have := zx_AP_t qM (zx_AP_0 hp (zx_ka_l (m := m + 1) f2) (by omega)) (by omega) (by omega) hb
    exact this
/-- the number itself -/
theorem zk_cnum (L : zk_L h0 g0 T n K LC h g LM j d (s + 1) m o q) {b : Nat} {p x2 x3 : Int32} (hb : b < m) (hs : s < 32784) (hm : m < 33500) (hx : x2 = 0 ↔ x3 = 0) : ∃ h' g', f_Ps_constant_99 h (nI s) x2 = some (nI s, h') ∧ f_Mo_constant_70 g (nI b) p x3 = some g' ∧ ((∃ LM' v, LM <+: LM' ∧ zk_L h0 g0 T n K LC h' g' LM' (j + 1) d (s + 1) (m + 1) o q ∧ zx_AP LC LM LM' b m (m + 1) (zt_n 30 p v .leaf) g g' ∧ (h'.2.1 16) s = v ∧ (∀ i, (h'.2.1 13) i = (h.2.1 13) i ∧ (h'.2.1 15) i = (h.2.1 15) i ∧ (¬ i = s → (h'.2.1 16) i = (h.2.1 16) i) ∧ (h'.2.1 17) i = (h.2.1 17) i ∧ (h'.2.1 18) i = (h.2.1 18) i)) ∨ zk_Z h0 g0 T n K LC m (m + 1) o (nI s) h' g') := by
  have hk := (zk_kind L).2.1
  have hF := zk_F L
  have hA := zl_ckA hF
  have m6 := L.2.2.2.2.2.2.2.2.2.2.1
  obtain ⟨val, hval⟩ : ∃ val : Int32, val = (if x2 = 0 then h.2.1 11 ((h.1 19 4)).toNatClampNeg else -(h.2.1 11 ((h.1 19 4)).toNatClampNeg)) := ⟨_, rfl⟩
  have ec : f_Ps_constant_99 h (nI s) x2 = (f_Ps_take (zs_uM h 16 s val) 9).bind fun h3 => some (nI s, h3) := by
    unfold f_Ps_constant_99 f_Ps_constant_139
    rw [if_pos (zk_atI L), if_pos (zk_atI L), if_pos (zi_in (by omega) hs), if_pos (zi_in (by omega) hs), nI_clamp (by omega), hval]
    split <;> rfl
  have fV : zfr [] [16] [] h (zs_uM h 16 s val) := zfr_M (by decide) zfr_rfl
  have L1 : zk_L h0 g0 T n K LC (zs_uM h 16 s val) g LM j d (s + 1) m o q := zk_cf L fV (by decide)
  have em : f_Mo_constant_70 g (nI b) p x3 = (f_Mo_want g (if (g.1 68 6) = 3 then 1 else 0)).bind fun h2 => (zd_B (f_Mo_add h2 (nI b) 30 p (if x3 = 0 then (g.1 68 9) else -((g.1 68 9)))) fun v2 h3 => some h3) := by
    unfold f_Mo_constant_70 f_Mo_constant_90 f_Mo_constant_110
    by_cases c : (g.1 68 6) = 3
    · rw [if_pos c, if_pos c]
      by_cases c2 : x3 = 0
      · rw [if_pos c2]; simp only [c2, if_true]
      · rw [if_neg c2]; simp only [c2, if_false]
    · rw [if_neg c, if_neg c]
      by_cases c2 : x3 = 0
      · rw [if_pos c2]; simp only [c2, if_true]
      · rw [if_neg c2]; simp only [c2, if_false]
  obtain ⟨h2, g2, e1, e2, e3⟩ := zk_want L1 (x := 9) (y := if (g.1 68 6) = 3 then 1 else 0) (by rw [show (zs_uM h 16 s val).1 19 5 = (h.1 19 5) from rfl, ← hk]; by_cases c : (g.1 68 6) = 3 <;> simp [c]) (by decide)
  rw [ec, em, e1, e2]
  simp only [Option.bind_some]
  have bk : zk_B h0 g0 T n K LC m o h2 g2 → ∃ h' g', some (nI s, h2) = some (nI s, h') ∧ (zd_B (f_Mo_add g2 (nI b) 30 p (if x3 = 0 then (g.1 68 9) else -((g.1 68 9)))) fun v2 h3 => some h3) = some g' ∧ ((∃ LM' v, LM <+: LM' ∧ zk_L h0 g0 T n K LC h' g' LM' (j + 1) d (s + 1) (m + 1) o q ∧ zx_AP LC LM LM' b m (m + 1) (zt_n 30 p v .leaf) g g' ∧ (h'.2.1 16) s = v ∧ (∀ i, (h'.2.1 13) i = (h.2.1 13) i ∧ (h'.2.1 15) i = (h.2.1 15) i ∧ (¬ i = s → (h'.2.1 16) i = (h.2.1 16) i) ∧ (h'.2.1 17) i = (h.2.1 17) i ∧ (h'.2.1 18) i = (h.2.1 18) i)) ∨ zk_Z h0 g0 T n K LC m (m + 1) o (nI s) h' g') := by
    rintro ⟨φ, w, z1, z2⟩
    obtain ⟨⟨x, g3⟩, e4, e5, e6⟩ := zxb_add (p := p) (v := if x3 = 0 then (g.1 68 9) else -((g.1 68 9))) (kn := 30) (kd := 30) z2 hm rfl hb
    exact ⟨h2, g3, rfl, by rw [e4]; rfl, Or.inr ⟨⟨s, hs, rfl⟩, φ, w, m + 1, by omega, by omega, z1, e6⟩⟩
  rcases e3 with e3 | ⟨e3, e4 | e4⟩
  · exact bk e3
  · obtain ⟨f1, f2, LM', hp, L2⟩ := e4
    have h3 : (zl_at T n j).1 = 3 := by
      have := hk.mpr e3
      rw [m6] at this
      exact (zc_eq (k := 3) (by decide) (by have := hF.1; omega)).mp this
    obtain ⟨-, n2, n3⟩ := zk_num L (Or.inl h3)
    have ev : (if x3 = 0 then (g.1 68 9) else -((g.1 68 9))) = val := by
      rw [hval, n2, n3]
      by_cases c : x2 = 0
      · rw [if_pos c, if_pos (hx.mp c)]
      · rw [if_neg c, if_neg (fun z => c (hx.mpr z))]
    rw [ev]
    obtain ⟨g3, e5, L3, qM, _⟩ := zk_madd L2 (b := b) (kd := 30) (kv := 30) (p := p) (v := val) (v' := val) hm hb rfl (by rw [if_neg (by decide)])
    refine ⟨h2, g3, rfl, by rw [e5]; rfl, Or.inl ⟨LM', val, hp, L3, ?_, ?_, fun i => ?_⟩⟩
    · exact zx_AP_t (zx_AP_0 hp (zx_ka_l (m := m) f2) hb) qM (Nat.le_refl m) (by omega) hb
    · rw [f1.2.1 _ List.not_mem_nil]
      show (if 16 = 16 ∧ s = s then val else _) = val
      rw [if_pos ⟨rfl, rfl⟩]
    · rw [f1.2.1 _ List.not_mem_nil, f1.2.1 _ List.not_mem_nil, f1.2.1 _ List.not_mem_nil, f1.2.1 _ List.not_mem_nil, f1.2.1 _ List.not_mem_nil]
      refine ⟨rfl, rfl, fun z => ?_, rfl, rfl⟩
      show (if 16 = 16 ∧ i = s then val else _) = _
      rw [if_neg (fun w => z w.2)]
  · exact bk e4
theorem zk_constant (H : zk_L h0 g0 T n K LC h g LM j d s m o q) {b : Nat} (hb : b < m) (hs : s < 32784) (hm : m < 33500) : ∃ x h' g', f_Ps_constant h = some (x, h') ∧ f_Mo_constant g (nI b) = some g' ∧ (zk_T h0 g0 T n K LC LM (zg_T [30, 31] 1) j d s m o q b h g x h' g' ∨ zk_Z h0 g0 T n K LC m (m + 1) o x h' g') := by
  have hW35 := zk_word H (c := 35) (by decide)
  have hW36 := zk_word H (c := 36) (by decide)
  have hF := zk_F H
  have hA := zl_ckA hF
  have m6 := H.2.2.2.2.2.2.2.2.2.2.1
  have m8 := H.2.2.2.2.2.2.2.2.2.2.2.2.1
  have m4 := H.2.2.2.2.2.2.2.2.1
  have hT : ∀ c : Nat, c < 41 → ((h.1 19 5) = nI (128 + c) ↔ ((g.1 68 6) = 2 ∧ (g.1 68 9) = nI c)) := by
    intro c hc
    rw [zk_tok H (by omega), hA.2.2.1 c hc, m6]
    constructor
    · intro z
      rw [z.1]
      exact ⟨rfl, by rw [m8 (by omega) (by omega), z.2]⟩
    · intro z
      have z1 := (zc_eq (k := 2) (by decide) (by have := hF.1; omega)).mp z.1
      have z2 := z.2
      rw [m8 (by omega) (by omega)] at z2
      exact ⟨z1, (nI_eq (by have := hF.2.1 z1; omega) (by omega)).mp z2⟩
  have tr : ∀ (c : Nat) (v : Int32), (c = 35 ∨ c = 36) → (h.1 19 5) = nI (128 + c) → (36 : Int32) - nI c = v → (v = 1 ∨ v = 0) → ∃ x h' g', f_Ps_constant_45 h v ((h.1 19 6)) 31 = some (x, h') ∧ f_Mo_constant_31 g (nI b) = some g' ∧ (zk_T h0 g0 T n K LC LM (zg_T [30, 31] 1) j d s m o q b h g x h' g' ∨ zk_Z h0 g0 T n K LC m (m + 1) o x h' g') := by
    intro c v hc ht hv hv2
    obtain ⟨k2, v2⟩ := (hT c (by omega)).mp ht
    have hE : ¬ (zl_at T n j).1 = 0 := by
      rw [m6] at k2
      have := (zc_eq (k := 2) (by decide) (by have := hF.1; omega)).mp k2
      omega
    obtain ⟨h1, e1, L1, qA⟩ := zk_cadd H (kd := 31) (kv := 31) (v := v) hs (by decide) rfl
    obtain ⟨g1, e2, L2, qM, _⟩ := zk_madd L1 (b := b) (kd := 31) (kv := 31) (p := (g.1 68 7)) (v := 36 - (g.1 68 9)) (v' := v) hm hb rfl (by rw [if_neg (by decide), v2]; exact hv)
    obtain ⟨h2, g2, e3, e4, f1, f2, L3⟩ := zk_step L2 hE
    refine ⟨nI s, h2, g2, ?_, ?_, ?_⟩
    · unfold f_Ps_constant_45
      rw [e1]
      show (f_Ps_take h1 _).bind _ = _
      rw [e3]; rfl
    · unfold f_Mo_constant_31
      rw [e2]
      show (f_Mo_next g1).bind _ = _
      rw [e4]; rfl
    · rw [m4] at qM
      rcases L3 with ⟨LM', hp, L3⟩ | ⟨φ, w, z1, z2⟩
      · exact Or.inl (zk_leaf H (zg_n zg_U0 rfl (by rcases hv2 with e | e; exact Or.inr ⟨1, by decide, e, by decide⟩; exact Or.inr ⟨0, by decide, e, by decide⟩) (by decide)) (by decide) hb hs hm qA qM f1 f2 hp L3)
      · exact Or.inr ⟨⟨s, hs, rfl⟩, φ, w, m + 1, by omega, by omega, z1, z2⟩
  unfold f_Ps_constant f_Mo_constant f_Ps_constant_20
  by_cases c35 : (h.1 19 5) = 163
  · obtain ⟨k2, v2⟩ := (hT 35 (by decide)).mp c35
    obtain ⟨x, h', g', r1, r2, r3⟩ := tr 35 1 (Or.inl rfl) c35 rfl (Or.inl rfl)
    rw [if_pos c35, if_pos c35, if_pos k2, if_pos (show (g.1 68 9) = 35 from v2)]
    exact ⟨x, h', g', r1, r2, r3⟩
  · by_cases c36 : (h.1 19 5) = 164
    · obtain ⟨k2, v2⟩ := (hT 36 (by decide)).mp c36
      obtain ⟨x, h', g', r1, r2, r3⟩ := tr 36 0 (Or.inr rfl) c36 rfl (Or.inr rfl)
      rw [if_neg c35, if_pos c36, if_neg c35, if_pos k2, if_neg (show ¬ (g.1 68 9) = 35 by rw [v2]; decide), if_pos (show (g.1 68 9) = 36 from v2)]
      exact ⟨x, h', g', r1, r2, r3⟩
    · rw [if_neg c35, if_neg c36]
      have e55 : (if (g.1 68 6) = 2 then (if (g.1 68 9) = 35 then f_Mo_constant_31 g (nI b) else (if (g.1 68 9) = 36 then f_Mo_constant_31 g (nI b) else f_Mo_constant_55 g (nI b) ((g.1 68 7)))) else f_Mo_constant_55 g (nI b) ((g.1 68 7))) = f_Mo_constant_55 g (nI b) ((g.1 68 7)) := by
        by_cases k2 : (g.1 68 6) = 2
        · rw [if_pos k2, if_neg (show ¬ (g.1 68 9) = 35 from fun z => c35 ((hT 35 (by decide)).mpr ⟨k2, z⟩)), if_neg (show ¬ (g.1 68 9) = 36 from fun z => c36 ((hT 36 (by decide)).mpr ⟨k2, z⟩))]
        · rw [if_neg k2]
      rw [e55]
      obtain ⟨h1, e1, L1, qA⟩ := zk_cadd H (kd := 30) (kv := 30) (v := 0) hs (by decide) rfl
      rw [e1]
      show ∃ x h' g', (if (h1.1 19 5) = 45 then f_Ps_constant_88 h1 (nI s) 1 else f_Ps_constant_88 h1 (nI s) 0) = some (x, h') ∧ _
      have hsg := zk_sign H (c := 45) (k := 45) (by decide)
      have etk : (h1.1 19 5) = (h.1 19 5) := qA.2.2.2.2.2.2.1 _ _ (by decide)
      have mk : ∀ (h2 h3 g2 g3 : zs_H) (LM2 LM3 : List (List Int32)) (v : Int32) (j2 : Nat), (j2 = j ∨ j2 = j + 1) → zq_kp (s + 1) h1 h2 → LM <+: LM2 → LM2 <+: LM3 → zx_ka m g g2 → zk_L h0 g0 T n K LC h3 g3 LM3 (j2 + 1) d (s + 1) (m + 1) o q → zx_AP LC LM2 LM3 b m (m + 1) (zt_n 30 (nI (zl_at T n j).2.1) v .leaf) g2 g3 → (h3.2.1 16) s = v → (∀ i, (h3.2.1 13) i = (h2.2.1 13) i ∧ (h3.2.1 15) i = (h2.2.1 15) i ∧ (¬ i = s → (h3.2.1 16) i = (h2.2.1 16) i) ∧ (h3.2.1 17) i = (h2.2.1 17) i ∧ (h3.2.1 18) i = (h2.2.1 18) i) → zk_T h0 g0 T n K LC LM (zg_T [30, 31] 1) j d s m o q b h g (nI s) h3 g3 := by
        intro h2 h3 g2 g3 LM2 LM3 v j2 hj k1 p1 p2 ka L3 ap hv hr
        obtain ⟨q1, q2, q3, q4, q5, q6, q7⟩ := qA
        have kA := zq_kp_A ⟨q1, q2, q3, q4, q5, q6, q7⟩
        obtain ⟨r1, r2, r3, r4, r5⟩ := hr s
        obtain ⟨t1, t2, t3, t4, t5⟩ := k1 s (by omega)
        refine ⟨zt_n 30 (nI (zl_at T n j).2.1) v .leaf, LM3, j2 + 1, s + 1, m + 1, s, ⟨zg_n zg_U0 rfl (Or.inl rfl) (by decide), by rw [zg_c_n (by decide)]; exact Nat.zero_le _⟩, p1.trans p2, L3, by omega, by omega, by omega, by omega, by omega, rfl, by omega, by omega, ?_, ?_, ?_⟩
        · refine zt_Cm (P := fun i => i = s ∨ False) (fun i hi => by rcases hi with z | z; omega; exact z.elim) (zt_Cp (t := .leaf) (y := -1) (P := fun _ => False) (by omega) (fun z => z) ?_ ?_ hv ?_ ⟨?_, rfl⟩)
          · rw [r1, t1, q2, if_pos rfl]
          · rw [r2, t2, q3, if_pos rfl]
          · rw [r5, t5, q6, if_pos rfl]
          · rw [r4, t4, q5, if_pos rfl]
        · intro i hi
          obtain ⟨x1, x2, x3, x4, x5⟩ := kA i hi
          obtain ⟨y1, y2, y3, y4, y5⟩ := k1 i (by omega)
          obtain ⟨z1, z2, z3, z4, z5⟩ := hr i
          exact ⟨z1.trans (y1.trans x1), z2.trans (y2.trans x2), (z3 (by omega)).trans (y3.trans x3), z4.trans (y4.trans x4), z5.trans (y5.trans x5)⟩
        · exact zx_AP_t (zx_AP_0 p1 ka hb) ap (Nat.le_refl m) (by omega) hb
      unfold f_Mo_constant_55
      rw [show f_Mo_isSign g 45 = if (h.1 19 5) = nI 45 then 1 else 0 from hsg, etk, m4]
      by_cases c45 : (h.1 19 5) = 45
      · have c45' : (h.1 19 5) = nI 45 := c45
        rw [if_pos c45, if_pos c45', if_neg (by decide)]
        have hE : ¬ (zl_at T n j).1 = 0 := by
          intro z
          have := ((zk_kind H).2.2.2).mp (by rw [m6, z]; rfl)
          rw [c45] at this
          exact absurd this (by decide)
        obtain ⟨h2, g2, e3, e4, f1, f2, L2⟩ := zk_step L1 hE
        have e3' : f_Ps_take h1 45 = some h2 := by rw [← c45, ← etk]; exact e3
        unfold f_Ps_constant_88
        rw [if_neg (by decide), e3', e4]
        simp only [Option.bind_some]
        rcases L2 with ⟨LM2, p1, L2⟩ | ⟨φ, w, z1, z2⟩
        · obtain ⟨h3, g3, e5, e6, e7⟩ := zk_cnum L2 (b := b) (p := nI (zl_at T n j).2.1) (x2 := 1) (x3 := 1) hb hs hm Iff.rfl
          refine ⟨nI s, h3, g3, e5, e6, ?_⟩
          rcases e7 with ⟨LM3, v, p2, L3, ap, hv, hr⟩ | e7
          · exact Or.inl (mk h2 h3 g2 g3 LM2 LM3 v (j + 1) (Or.inr rfl) (zq_kp_f f1) p1 p2 (zx_ka_l f2) L3 ap hv hr)
          · exact Or.inr e7
        · obtain ⟨⟨x, h3⟩, e5, e6, e7⟩ := zz_constant_99 (x1 := nI s) (x2 := 1) z1 ⟨s, hs, rfl⟩
          obtain ⟨g3, e8, e9⟩ := zxb_constant_70 (x2 := nI (zl_at T n j).2.1) (x3 := 1) z2 hm hb
          exact ⟨x, h3, g3, e5, e8, Or.inr ⟨by rw [show x = nI s from e6]; exact ⟨s, hs, rfl⟩, φ, w, m + 1, by omega, by omega, e7, e9⟩⟩
      · have c45' : ¬ (h.1 19 5) = nI 45 := c45
        rw [if_neg c45, if_neg c45', if_pos rfl]
        unfold f_Ps_constant_88
        rw [if_pos rfl]
        obtain ⟨h3, g3, e5, e6, e7⟩ := zk_cnum L1 (b := b) (p := nI (zl_at T n j).2.1) (x2 := 0) (x3 := 0) hb hs hm Iff.rfl
        refine ⟨nI s, h3, g3, e5, e6, ?_⟩
        rcases e7 with ⟨LM3, v, p2, L3, ap, hv, hr⟩ | e7
        · exact Or.inl (mk h1 h3 g g3 LM LM3 v j (Or.inl rfl) zq_kp_r (List.prefix_refl _) p2 (fun i _ => ⟨rfl, rfl, rfl, rfl, rfl, rfl, rfl⟩) L3 ap hv hr)
        · exact Or.inr e7
end ZE
end
section
/-! Both readers in step: nodes with something below them. -/
theorem zo_B {α β : Type} {a : α} {h : zs_H} {F : α → zs_H → Option β} : zd_B (some (a, h)) F = F a h := rfl
/-- a node is being read: in the class node s, in the model node m below b -/
def zk_I (h0 g0 : zs_H) (T : Nat → Int32) (n K : Nat) (LC LM : List (List Int32)) (j s m o q b kd : Nat) (p v : Int32) (h g g1 : zs_H) (u : zt_T) (y : Int32) (LM' : List (List Int32)) (j' d' s' m' e st D f : Nat) (h' g' : zs_H) : Prop :=
  zk_L h0 g0 T n K LC h' g' LM' j' d' s' m' o q ∧ LM <+: LM' ∧ zq_kp s h h' ∧ ((h'.2.1 13) s = nI kd ∧ (h'.2.1 15) s = p ∧ (h'.2.1 16) s = v ∧ (h'.2.1 18) s = -1 ∧ zt_C h' u (fun i => s < i ∧ i < s') ((h'.2.1 17) s) y) ∧ (∃ LM1, (LM <+: LM1 ∧ LM1 <+: LM') ∧ zx_AP LC LM LM1 b m (m + 1) (zt_n kd p v .leaf) g g1 ∧ (g1.2.1 76) m = -1 ∧ (g1.2.1 77) m = -1 ∧ zt_Nf LC LM1 g1 m kd p v ∧ (g1.2.1 75) m = nI b ∧ (g1.2.1 77) b = nI m ∧ zx_AP LC LM1 LM' m (m + 1) m' u g1 g') ∧ (j ≤ j' ∧ s < s' ∧ m < m' ∧ s' + e ≤ s + 1 + 2 * (j' - j) ∧ m' + e ≤ m + 1 + 2 * (j' - j) ∧ b < m ∧ s < 32784 ∧ m < 33500) ∧ zg_U kd st D u ∧ 2 * zg_c u + f ≤ j' - j + 1
section ZFc
variable {h0 g0 h g g1 h' g' : zs_H} {T : Nat → Int32} {n K : Nat} {LC LM LM' : List (List Int32)} {j d s m o q b kd j' d' s' m' e st D f : Nat} {p v y : Int32} {u : zt_T}
/-- it begins -/
theorem zk_I0 (H : zk_L h0 g0 T n K LC h g LM j d s m o q) {b kd D : Nat} {kc km v w : Int32} (hs : s < 32784) (hm : m < 33500) (hb : b < m) (hk : kd < 128) (hkc : kc = nI kd) (hkm : km = nI (zt_km kd)) (hv : if zt_nk kd = true then zt_nr LC LM v w else w = v) : ∃ h1 g1, f_Tr_add h kc ((h.1 19 6)) v = some (nI s, h1) ∧ f_Mo_add g (nI b) km ((g.1 68 7)) w = some (nI m, g1) ∧ zk_I h0 g0 T n K LC LM j s m o q b kd (nI (zl_at T n j).2.1) v h g g1 .leaf (-1) LM j d (s + 1) (m + 1) 0 0 D 1 h1 g1 := by
  have m4 := H.2.2.2.2.2.2.2.2.1
  obtain ⟨h1, e1, L1, qA⟩ := zk_cadd H (kd := kd) (kv := kc) (v := v) hs hk hkc
  obtain ⟨g1, e2, L2, qM, q1, q2, q3, q4, q5, q6, q7⟩ := zk_madd L1 (b := b) (kd := kd) (kv := km) (p := (g.1 68 7)) (v := w) (v' := v) hm hb hkm hv
  refine ⟨h1, g1, e1, e2, L2, List.prefix_refl _, zq_kp_A qA, ?_, ⟨LM, ⟨List.prefix_refl _, List.prefix_refl _⟩, by rw [← m4]; exact qM, q3, q4, by rw [← m4]; exact q1, q2, q6, zx_AP_0 (List.prefix_refl _) (fun i _ => ⟨rfl, rfl, rfl, rfl, rfl, rfl, rfl⟩) (by omega)⟩, by omega, zg_U0, by show 2 * 0 + 1 ≤ _; omega⟩
  obtain ⟨a1, a2, a3, a4, a5, a6, a7⟩ := qA
  exact ⟨by rw [a2, if_pos rfl], by rw [a3, if_pos rfl], by rw [a4, if_pos rfl], by rw [a6, if_pos rfl], by rw [a5, if_pos rfl], rfl⟩
/-- it begins, in the model behind some tokens -/
theorem zk_I1 {h2 g2 : zs_H} {LM2 : List (List Int32)} {j2 d2 : Nat} (L2 : zk_L h0 g0 T n K LC h2 g2 LM2 j2 d2 (s + 1) m o q) {b kd D : Nat} {km p v w : Int32} (hp : LM <+: LM2) (hj : j ≤ j2) (hkp : zq_kp s h h2) (hn : (h2.2.1 13) s = nI kd ∧ (h2.2.1 15) s = p ∧ (h2.2.1 16) s = v ∧ (h2.2.1 18) s = -1 ∧ (h2.2.1 17) s = -1) (hka : zx_ka m g g2) (hs : s < 32784) (hm : m < 33500) (hb : b < m) (hkm : km = nI (zt_km kd)) (hv : if zt_nk kd = true then zt_nr LC LM2 v w else w = v) : ∃ g3, f_Mo_add g2 (nI b) km p w = some (nI m, g3) ∧ zk_I h0 g0 T n K LC LM j s m o q b kd p v h g g3 .leaf (-1) LM2 j2 d2 (s + 1) (m + 1) (2 * (j2 - j)) 0 D (1 + (j2 - j)) h2 g3 := by
  obtain ⟨g3, e2, L3, qM, q1, q2, q3, q4, q5, q6, q7⟩ := zk_madd L2 (b := b) (kd := kd) (kv := km) (p := p) (v := w) (v' := v) hm hb hkm hv
  refine ⟨g3, e2, L3, hp, hkp, ⟨hn.1, hn.2.1, hn.2.2.1, hn.2.2.2.1, hn.2.2.2.2, rfl⟩, ⟨LM2, ⟨hp, List.prefix_refl _⟩, zx_AP_t (zx_AP_0 hp hka hb) qM (Nat.le_refl m) (by omega) hb, q3, q4, q1, q2, q6, zx_AP_0 (List.prefix_refl _) (fun i _ => ⟨rfl, rfl, rfl, rfl, rfl, rfl, rfl⟩) (by omega)⟩, by omega, zg_U0, by show 2 * 0 + _ ≤ _; omega⟩
/-- a token -/
theorem zk_It (I : zk_I h0 g0 T n K LC LM j s m o q b kd p v h g g1 u y LM' j' d' s' m' e st D f h' g') {h2 g2 : zs_H} {LM2 : List (List Int32)} (f1 : zfr [(19, 4), (19, 5), (19, 6)] [] [] h' h2) (f2 : zfr zk_lx [70, 71] [] g' g2) (hp : LM' <+: LM2) (L2 : zk_L h0 g0 T n K LC h2 g2 LM2 (j' + 1) d' s' m' o q) : zk_I h0 g0 T n K LC LM j s m o q b kd p v h g g1 u y LM2 (j' + 1) d' s' m' (e + 2) st D (f + 1) h2 g2 := by
  obtain ⟨i1, i2, i3, ⟨c1, c2, c3, c4, c5⟩, ⟨LM1, ⟨p1, p2⟩, m1, m2, m3, m4, m5, m6, m7⟩, ⟨n1, n2, n3, n4, n5, n6, n7, n8⟩, w1, w2⟩ := I
  have k := zq_kp_f (s := s') f1
  obtain ⟨k1, k2, k3, k4, k5⟩ := k s n2
  refine ⟨L2, i2.trans hp, zq_kp_t i3 k (by omega), ⟨k1.trans c1, k2.trans c2, k3.trans c3, k5.trans c4, ?_⟩, ⟨LM1, ⟨p1, p2.trans hp⟩, m1, m2, m3, m4, m5, m6, ?_⟩, by omega, w1, by omega⟩
  · rw [k4]; exact zt_Ck k (fun i hi => hi.2) c5
  · have := zx_AP_t m7 (zx_AP_0 hp (zx_ka_l (m := m') f2) n3) (by omega) (Nat.le_refl _) (by omega)
    rwa [zt_ap_leaf] at this
/-- a child -/
theorem zk_Ic (I : zk_I h0 g0 T n K LC LM j s m o q b kd p v h g g1 u y LM' j' d' s' m' e st D f h' g') {h2 g2 : zs_H} {x : Int32} {S : List Nat} {st' : Nat} (R : zk_T h0 g0 T n K LC LM' (zg_T S D) j' d' s' m' o q m h' g' x h2 g2) (hq : ∀ c ∈ S, zg_q kd st c = st') : ∃ h3 u3 LM3 j3 s3 m3, f_Tr_hang h2 (nI s) y x = some (x, h3) ∧ j' < j3 ∧ zk_I h0 g0 T n K LC LM j s m o q b kd p v h g g1 u3 x LM3 j3 d' s3 m3 e st' D f h3 g2 := by
  obtain ⟨i1, i2, i3, ⟨c1, c2, c3, c4, c5⟩, ⟨LM1, ⟨p1, p2⟩, m1, m2, m3, m4, m5, m6, m7⟩, ⟨n1, n2, n3, n4, n5, n6, n7, n8⟩, w1, w2⟩ := I
  obtain ⟨t, LM3, j3, s3, m3', a, ⟨r0, r0c⟩, r1, r2, r3, r4, r5, r6, r7, r8, r9, r10, r11, r12, r13⟩ := R
  have hs3 : s3 ≤ 32784 := r2.2.2.2.1.2.2.2.2.2.2
  obtain ⟨k1, k2, k3, k4, k5⟩ := r12 s n2
  have c5' : zt_C h2 u (fun i => s < i ∧ i < s') ((h2.2.1 17) s) y := by rw [k4]; exact zt_Ck r12 (fun i hi => hi.2) c5
  subst r8
  obtain ⟨h3, e1, e2, e3, e4⟩ := zq_hangC (ip := s) (a := a) (by omega) (fun i hi => by omega) c5' r11 (fun i hi z => by omega) (by omega) (by omega) (by omega)
  refine ⟨h3, zt_ap u t, LM3, j3, s3, m3', e1, r3, zk_cf r2 e4 (by decide), i2.trans r1, ?_, ⟨(e3 s).1.trans (k1.trans c1), (e3 s).2.1.trans (k2.trans c2), (e3 s).2.2.1.trans (k3.trans c3), ((e3 s).2.2.2.2 (by omega)).trans (k5.trans c4), zt_Cm (fun i hi => by omega) e2⟩, ⟨LM1, ⟨p1, p2.trans r1⟩, m1, m2, m3, m4, m5, m6, zx_AP_t m7 r13 (by omega) (by omega) (by omega)⟩, by omega, zg_U1 w1 r0 hq, by rw [zg_c_ap]; omega⟩
  intro i hi
  obtain ⟨x1, x2, x3, x4, x5⟩ := i3 i hi
  obtain ⟨y1, y2, y3, y4, y5⟩ := r12 i (by omega)
  obtain ⟨z1, z2, z3, z4, z5⟩ := e3 i
  exact ⟨z1.trans (y1.trans x1), z2.trans (y2.trans x2), z3.trans (y3.trans x3), (z4 (by omega)).trans (y4.trans x4), (z5 (by omega)).trans (y5.trans x5)⟩
/-- it is done -/
theorem zk_Id (I : zk_I h0 g0 T n K LC LM j s m o q b kd p v h g g1 u y LM' j' d' s' m' e st D f h' g') {S : List Nat} (he : 1 ≤ e) (hj : j < j') (ha : zg_A kd st = true) (hv : zg_v kd v) (hS : kd ∈ S) (hf : 1 ≤ f) (h37 : ¬ (kd = 37 ∨ kd = 19)) : zk_T h0 g0 T n K LC LM (zg_T S (D + 1)) j d' s m o q b h g (nI s) h' g' := by
  obtain ⟨i1, i2, i3, ⟨c1, c2, c3, c4, c5⟩, ⟨LM1, ⟨p1, p2⟩, m1, m2, m3, m4, m5, m6, m7⟩, ⟨n1, n2, n3, n4, n5, n6, n7, n8⟩, w1, w2⟩ := I
  refine ⟨zt_n kd p v u, LM', j', s', m', s, ⟨zg_n w1 ha hv hS (fun z => h37 (.inr z)), by rw [zg_c_n (fun z => h37 (.inl z))]; omega⟩, i2, i1, hj, n2, by omega, n3, by omega, rfl, Nat.le_refl s, n2, ?_, i3, ?_⟩
  · exact zt_Cm (fun i hi => by omega) (zt_Cp (by omega) (by omega) c1 c2 c3 c4 c5)
  · exact zx_AP_n' n8 (by omega) n6 m1 p2 m2 m3 m7 m4 m5 m6
theorem zk_fin {A : Option (Int32 × zs_H)} {B : Option zs_H} {φ w M0 M O : Nat} {X : Int32 → zs_H → zs_H → Prop} (a : zw A (fun p => zq_v p.1 ∧ zq_Z h0 T n K LC φ w p.2)) (c : zw B (fun g' => ∃ m', (M0 ≤ m' ∧ m' ≤ M) ∧ zx_B g0 T n φ w m' O g')) : ∃ x h' g', A = some (x, h') ∧ B = some g' ∧ (X x h' g' ∨ zk_Z h0 g0 T n K LC M0 M O x h' g') := by
  obtain ⟨⟨x, h'⟩, e1, v1, z1⟩ := a
  obtain ⟨g', e2, m', v2, z2⟩ := c
  exact ⟨x, h', g', e1, e2, Or.inr ⟨v1, φ, w, m', v2.1, v2.2, z1, z2⟩⟩
end ZFc
section ZFm
variable {g0 g : zs_H} {T : Nat → Int32} {n φ w m O : Nat}
theorem zxw_want {x : Int32} (H : zx_B g0 T n φ w m O g) : zw (f_Mo_want g x) (zx_B g0 T n φ w m O) := by rw [zx_want H, zw_some]; exact H
theorem zxw_wantSign {x : Int32} (H : zx_B g0 T n φ w m O g) : zw (f_Mo_wantSign g x) (zx_B g0 T n φ w m O) := by rw [zx_wantSign H, zw_some]; exact H
theorem zxw_wantWord {x : Int32} (H : zx_B g0 T n φ w m O g) : zw (f_Mo_wantWord g x) (zx_B g0 T n φ w m O) := by rw [zx_wantWord H, zw_some]; exact H
theorem zxw_simple {b : Nat} (H : zx_B g0 T n φ w m O g) (hm : m < 33500) (hb : b < m) : zw (f_Mo_simple g (nI b)) (fun g' => ∃ m', m ≤ m' ∧ m' ≤ m + 1 ∧ zx_B g0 T n φ w m' O g') := by
  have h30 : zw (f_Mo_simple_30 g (nI b)) (fun g' => ∃ m', m ≤ m' ∧ m' ≤ m + 1 ∧ zx_B g0 T n φ w m' O g') := by
    unfold f_Mo_simple_30 f_Mo_simple_31 f_Mo_simple_58
    rw [if_pos rfl, zw_bind]
    exact zw_mono (zxw_want H) fun g' z => zw_some.mpr ⟨m, Nat.le_refl _, by omega, z⟩
  have h31 : zw (f_Mo_simple_31 g (nI b) 1) (fun g' => ∃ m', m ≤ m' ∧ m' ≤ m + 1 ∧ zx_B g0 T n φ w m' O g') := by
    unfold f_Mo_simple_31 f_Mo_simple_58
    rw [if_neg (by decide), zw_B]
    refine zw_mono (zxb_add (kn := 8) H hm rfl hb) fun p z => ?_
    rw [zw_bind]
    exact zw_mono (zxw_want z.2) fun g' z => zw_some.mpr ⟨m + 1, by omega, Nat.le_refl _, z⟩
  unfold f_Mo_simple
  repeat' split
  all_goals first | exact h30 | exact h31
end ZFm
end
section
/-! Both readers in step: one thing behind the other. -/
/-- both end: in step with X, or behind the same fault -/
def zk_G (h0 g0 : zs_H) (T : Nat → Int32) (n K : Nat) (LC : List (List Int32)) (M0 M O : Nat) (X : Int32 → zs_H → zs_H → Prop) (A : Option (Int32 × zs_H)) (B : Option zs_H) : Prop := ∃ x h' g', A = some (x, h') ∧ B = some g' ∧ (X x h' g' ∨ zk_Z h0 g0 T n K LC M0 M O x h' g')
theorem zk_bK {h0 g0 h g : zs_H} {T : Nat → Int32} {n K : Nat} {LC LM : List (List Int32)} {j d s m o q : Nat} (H : zk_L h0 g0 T n K LC h g LM j d s m o q) : j ≤ K ∧ K ≤ 10240 ∧ s ≤ 32784 := ⟨H.2.2.2.2.1, by have := H.2.2.1.2.1; have := H.2.2.1.2.2.1; omega, H.2.2.2.1.2.2.2.2.2.2⟩
/-- the model makes a node, whatever its value -/
theorem zk_madd0 {h0 g0 h g : zs_H} {T : Nat → Int32} {n K : Nat} {LC LM : List (List Int32)} {j d s m o q : Nat} (H : zk_L h0 g0 T n K LC h g LM j d s m o q) {b kn : Nat} {kv p v : Int32} (hm : m < 33500) (hb : b < m) (hk : kv = nI kn) : ∃ g', f_Mo_add g (nI b) kv p v = some (nI m, g') ∧ zk_L h0 g0 T n K LC h g' LM j d s (m + 1) o q ∧ (g'.1 68 6) = (g.1 68 6) := by
  have m14 := H.2.2.2.2.2.2.2.2.2.2.2.2.2.2.2.2.2.2.1
  have m15 := H.2.2.2.2.2.2.2.2.2.2.2.2.2.2.2.2.2.2.2.1
  obtain ⟨g1, e1, q1⟩ := zx_node (p := p) (v := v) m14 hm hk
  obtain ⟨g2, e2, q2, q3⟩ := zx_hang (a := m) (b := b) (m := m + 1) (by omega) (by omega) (by omega) (zx_W_N m15 q1)
  have f1 := q1.2.2.2.2.2.2.2.2
  have f2 := q2.2.2.2
  have f : zfr [(68, 14)] [72, 73, 74, 75, 76, 77, 78] [] g g2 := zfr_trans f1 (zfr_w f2 (by decide) (by decide) (by decide))
  refine ⟨g2, ?_, zk_mf H f ((f2.1 _ _ (by decide)).trans q1.1) q3, f.1 _ _ (by decide)⟩
  unfold f_Mo_add
  rw [e1]
  show (f_Mo_hang g1 (nI m) (nI b)).bind _ = _
  rw [e2]; rfl
theorem zk_notE {h0 g0 h g : zs_H} {T : Nat → Int32} {n K : Nat} {LC LM : List (List Int32)} {j d s m o q : Nat} (H : zk_L h0 g0 T n K LC h g LM j d s m o q) (h6 : ¬ (h.1 19 5) = 6) : ¬ (zl_at T n j).1 = 0 := by
  intro z
  exact h6 (((zk_kind H).2.2.2).mp (by rw [H.2.2.2.2.2.2.2.2.2.2.1, z]; rfl))
section ZFF
variable {h0 g0 h g g1 h' g' : zs_H} {T : Nat → Int32} {n K : Nat} {LC LM LM' : List (List Int32)} {j d s m o q b kd j' d' s' m' e st D f M0 M : Nat} {p v y : Int32} {u : zt_T} {X : Int32 → zs_H → zs_H → Prop}
theorem zk_Ib (I : zk_I h0 g0 T n K LC LM j s m o q b kd p v h g g1 u y LM' j' d' s' m' e st D f h' g') : j ≤ j' ∧ j' ≤ K ∧ K ≤ 10240 ∧ s < s' ∧ m < m' ∧ s' + e ≤ s + 1 + 2 * (j' - j) ∧ m' + e ≤ m + 1 + 2 * (j' - j) ∧ b < m ∧ s < 32784 ∧ m < 33500 := by
  have a := zk_bK I.1
  have c := I.2.2.2.2.2.1
  omega
theorem zk_Iv (I : zk_I h0 g0 T n K LC LM j s m o q b kd p v h g g1 u y LM' j' d' s' m' e st D f h' g') : zq_v (nI s) := ⟨s, (zk_Ib I).2.2.2.2.2.2.2.2.1, rfl⟩
theorem zk_Gf {A : Option (Int32 × zs_H)} {B : Option zs_H} {φ w O : Nat} (a : zw A (fun p => zq_v p.1 ∧ zq_Z h0 T n K LC φ w p.2)) (c : zw B (fun g' => ∃ m', (M0 ≤ m' ∧ m' ≤ M) ∧ zx_B g0 T n φ w m' O g')) : zk_G h0 g0 T n K LC M0 M O X A B := zk_fin a c
/-- a token that is wanted -/
theorem zk_sA (I : zk_I h0 g0 T n K LC LM j s m o q b kd p v h g g1 u y LM' j' d' s' m' e st D f h' g') {A B : Option zs_H} {x : Int32} {FA : zs_H → Option (Int32 × zs_H)} {FB : zs_H → Option zs_H} (R : ∃ h2 g2, A = some h2 ∧ B = some g2 ∧ (zk_B h0 g0 T n K LC m' o h2 g2 ∨ ((h'.1 19 5) = x ∧ zk_on h0 g0 T n K LC LM' j' d' s' m' o q h' g' h2 g2))) (bad : ∀ φ w h2 g2, zq_Z h0 T n K LC φ w h2 → zx_B g0 T n φ w m' o g2 → zk_G h0 g0 T n K LC M0 M o X (FA h2) (FB g2)) (good : ∀ h2 g2 LM2, zk_I h0 g0 T n K LC LM j s m o q b kd p v h g g1 u y LM2 (j' + 1) d' s' m' (e + 2) st D (f + 1) h2 g2 → zk_G h0 g0 T n K LC M0 M o X (FA h2) (FB g2)) : zk_G h0 g0 T n K LC M0 M o X (A.bind FA) (B.bind FB) := by
  obtain ⟨h2, g2, rfl, rfl, R⟩ := R
  rcases R with ⟨φ, w, z1, z2⟩ | ⟨_, ⟨f1, f2, LM2, hp, L2⟩ | ⟨φ, w, z1, z2⟩⟩
  · exact bad φ w h2 g2 z1 z2
  · exact good h2 g2 LM2 (zk_It I f1 f2 hp L2)
  · exact bad φ w h2 g2 z1 z2
/-- a token that is there -/
theorem zk_sN (I : zk_I h0 g0 T n K LC LM j s m o q b kd p v h g g1 u y LM' j' d' s' m' e st D f h' g') {x : Int32} {FA : zs_H → Option (Int32 × zs_H)} {FB : zs_H → Option zs_H} (hx : (h'.1 19 5) = x) (h6 : ¬ x = 6) (bad : ∀ φ w h2 g2, zq_Z h0 T n K LC φ w h2 → zx_B g0 T n φ w m' o g2 → zk_G h0 g0 T n K LC M0 M o X (FA h2) (FB g2)) (good : ∀ h2 g2 LM2, zk_I h0 g0 T n K LC LM j s m o q b kd p v h g g1 u y LM2 (j' + 1) d' s' m' (e + 2) st D (f + 1) h2 g2 → zk_G h0 g0 T n K LC M0 M o X (FA h2) (FB g2)) : zk_G h0 g0 T n K LC M0 M o X ((f_Ps_take h' x).bind FA) ((f_Mo_next g').bind FB) := by
  obtain ⟨h2, g2, e1, e2, f1, f2, R⟩ := zk_step I.1 (zk_notE I.1 (by rw [hx]; exact h6))
  rw [hx] at e1
  rw [e1, e2]
  rcases R with ⟨LM2, hp, L2⟩ | ⟨φ, w, z1, z2⟩
  · exact good h2 g2 LM2 (zk_It I f1 f2 hp L2)
  · exact bad φ w h2 g2 z1 z2
/-- a child -/
theorem zk_sK (I : zk_I h0 g0 T n K LC LM j s m o q b kd p v h g g1 u y LM' j' d' s' m' e st D f h' g') {A : Option (Int32 × zs_H)} {B : Option zs_H} {M1 st' : Nat} {S : List Nat} {FA : Int32 → zs_H → Option (Int32 × zs_H)} {FB : zs_H → Option zs_H} (R : ∃ x h2 g2, A = some (x, h2) ∧ B = some g2 ∧ (zk_T h0 g0 T n K LC LM' (zg_T S D) j' d' s' m' o q m h' g' x h2 g2 ∨ zk_Z h0 g0 T n K LC m' M1 o x h2 g2)) (hq : ∀ c ∈ S, zg_q kd st c = st') (bad : ∀ φ w m2 x h2 g2, m' ≤ m2 → m2 ≤ M1 → zq_v x → zq_Z h0 T n K LC φ w h2 → zx_B g0 T n φ w m2 o g2 → zk_G h0 g0 T n K LC M0 M o X (zd_B (f_Tr_hang h2 (nI s) y x) FA) (FB g2)) (good : ∀ x h3 g2 u3 LM3 j3 s3 m3, zq_v x → j' < j3 → zk_I h0 g0 T n K LC LM j s m o q b kd p v h g g1 u3 x LM3 j3 d' s3 m3 e st' D f h3 g2 → zk_G h0 g0 T n K LC M0 M o X (FA x h3) (FB g2)) : zk_G h0 g0 T n K LC M0 M o X (zd_B A fun x2 h2 => zd_B (f_Tr_hang h2 (nI s) y x2) FA) (B.bind FB) := by
  obtain ⟨x, h2, g2, rfl, rfl, R⟩ := R
  rw [zo_B]
  rcases R with R | ⟨vx, φ, w, m2, w1, w2, z1, z2⟩
  · have vx := zk_Tv R
    obtain ⟨h3, u3, LM3, j3, s3, m3, e1, e2, I3⟩ := zk_Ic I R hq
    rw [e1]
    exact good x h3 g2 u3 LM3 j3 s3 m3 vx e2 I3
  · exact bad φ w m2 x h2 g2 w1 w2 vx z1 z2
/-- a child without children: made, hung, then its token -/
theorem zk_sLf (I : zk_I h0 g0 T n K LC LM j s m o q b kd p v h g g1 u y LM' j' d' s' m' e st D f h' g') {k2 st' f' : Nat} {kc km x yy v2 w2 : Int32} {Q : Int32 → zs_H → Option zs_H} {FA : Int32 → zs_H → Option (Int32 × zs_H)} {FB : zs_H → Option zs_H} (hk : k2 < 128) (hkc : kc = nI k2) (hkm : km = nI (zt_km k2)) (hx : ¬ yy = 0 ↔ (h'.1 19 5) = x) (hx6 : ¬ x = 6) (hv : (h'.1 19 5) = x → (if zt_nk k2 = true then zt_nr LC LM' v2 w2 else w2 = v2) ∧ zg_v k2 v2) (hq : zg_q kd st k2 = st') (hA : zg_A k2 0 = true) (hD : 1 ≤ D) (hf : (if k2 = 37 then 2 else 0) + f' ≤ f + 1) (hs : s' < 32784) (hm : m' < 33500) (hQ : ∀ x g2, (g2.1 68 6) = (g'.1 68 6) → (g2.1 68 10) = 0 → Q x g2 = (f_Mo_want g2 yy).bind FB) (bad : ∀ φ w x h2 g2, zq_v x → zq_Z h0 T n K LC φ w h2 → zx_B g0 T n φ w (m' + 1) o g2 → zk_G h0 g0 T n K LC M0 M o X (FA x h2) (FB g2)) (good : ∀ h3 g2 u3 LM3, zk_I h0 g0 T n K LC LM j s m o q b kd p v h g g1 u3 (nI s') LM3 (j' + 1) d' (s' + 1) (m' + 1) (e + 1) st' D f' h3 g2 → zk_G h0 g0 T n K LC M0 M o X (FA (nI s') h3) (FB g2)) : zk_G h0 g0 T n K LC M0 M o X (zd_B (f_Tr_add h' kc ((h'.1 19 6)) v2) fun x1 h1 => zd_B (f_Tr_hang h1 (nI s) y x1) fun x2 h2 => (f_Ps_take h2 x).bind fun h3 => FA x2 h3) (zd_B (f_Mo_add g' (nI m) km ((g'.1 68 7)) w2) Q) := by
  have hb := zk_Ib I
  obtain ⟨i1, i2, i3, ⟨c1, c2, c3, c4, c5⟩, ⟨LM1, ⟨p1, p2⟩, m1, m2, m3, m4, m5, m6, m7⟩, ⟨n1, n2, n3, n4, n5, n6, n7, n8⟩, w1, w3⟩ := I
  have m4' := i1.2.2.2.2.2.2.2.2.1
  obtain ⟨ha, e1, L1, qA⟩ := zk_cadd i1 (kd := k2) (kv := kc) (v := v2) hs hk hkc
  have kA := zq_kp_A qA
  obtain ⟨k1, k2', k3, k4, k5⟩ := kA s n2
  have c5' : zt_C ha u (fun i => s < i ∧ i < s') ((ha.2.1 17) s) y := by rw [k4]; exact zt_Ck kA (fun i hi => hi.2) c5
  obtain ⟨hb', e2, t2, e3, e4⟩ := zq_hangC (ip := s) (a := s') (by omega) (fun i hi => by omega) c5' (zt_Cn (by omega) qA) (fun i hi z => by omega) (by omega) (by omega) (by omega)
  have L2 := zk_cf L1 e4 (by decide)
  have etk : (hb'.1 19 5) = (h'.1 19 5) := by rw [L2.2.2.2.1.2.2.1, i1.2.2.2.1.2.2.1]
  rw [e1, zo_B, e2, zo_B]
  by_cases c : (h'.1 19 5) = x
  · obtain ⟨hv1, hv2⟩ := hv c
    obtain ⟨g2, e5, L3, qM, q1, q2, q3, q4, q5, q6, q7⟩ := zk_madd L2 (b := m) (kd := k2) (kv := km) (p := (g'.1 68 7)) (v := w2) (v' := v2) hm n3 hkm hv1
    rw [e5, zo_B, hQ _ _ (q7.1 _ _ (by decide)) L3.2.2.2.2.2.2.1]
    obtain ⟨h3, g3, e6, e7, R⟩ := zk_want L3 (x := x) (y := yy) (by rw [etk]; exact hx) hx6
    rw [e6, e7]
    show zk_G h0 g0 T n K LC M0 M o X (FA (nI s') h3) (FB g3)
    rcases R with ⟨φ, w, z1, z2⟩ | ⟨_, ⟨f1, f2, LM3, hp, L4⟩ | ⟨φ, w, z1, z2⟩⟩
    · exact bad φ w _ h3 g3 ⟨s', hs, rfl⟩ z1 z2
    · refine good h3 g3 (zt_ap u (zt_n k2 (nI (zl_at T n j').2.1) v2 .leaf)) LM3 ⟨L4, i2.trans hp, ?_, ?_, ⟨LM1, ⟨p1, p2.trans hp⟩, m1, m2, m3, m4, m5, m6, ?_⟩, by omega, zg_U1 w1 (zg_Tm (zg_n (S := [k2]) (D := 0) zg_U0 hA hv2 (List.mem_singleton.mpr rfl) (fun z => by rw [z] at hA; exact absurd hA (by decide))) (fun _ z => z) hD) (fun c hc => by rw [List.mem_singleton.mp hc]; exact hq), ?_⟩
      · intro i hi
        obtain ⟨x1, x2, x3, x4, x5⟩ := i3 i hi
        obtain ⟨y1, y2, y3, y4, y5⟩ := kA i (by omega)
        obtain ⟨z1, z2, z3, z4, z5⟩ := e3 i
        obtain ⟨r1, r2, r3, r4, r5⟩ := zq_kp_f (s := s' + 1) f1 i (by omega)
        exact ⟨r1.trans (z1.trans (y1.trans x1)), r2.trans (z2.trans (y2.trans x2)), r3.trans (z3.trans (y3.trans x3)), r4.trans ((z4 (by omega)).trans (y4.trans x4)), r5.trans ((z5 (by omega)).trans (y5.trans x5))⟩
      · obtain ⟨z1, z2, z3, z4, z5⟩ := e3 s
        have kf := zq_kp_f (s := s' + 1) f1
        obtain ⟨r1, r2, r3, r4, r5⟩ := kf s (by omega)
        refine ⟨r1.trans (z1.trans (k1.trans c1)), r2.trans (z2.trans (k2'.trans c2)), r3.trans (z3.trans (k3.trans c3)), r5.trans ((z5 (by omega)).trans (k5.trans c4)), ?_⟩
        rw [r4]
        exact zt_Ck kf (fun i hi => hi.2) (zt_Cm (fun i hi => by omega) t2)
      · rw [m4'] at qM
        have := zx_AP_t (zx_AP_t m7 qM (by omega) (by omega) (by omega)) (zx_AP_0 hp (zx_ka_l (m := m' + 1) f2) (by omega)) (by omega) (Nat.le_refl _) (by omega)
        rwa [zt_ap_leaf] at this
      · rw [zg_c_ap]
        show 2 * (zg_c u + ((if k2 = 37 then 1 else 0) + 0 + 0)) + f' ≤ _
        split at hf <;> rename_i w <;> simp only [w, if_true, if_false] <;> omega
    · exact bad φ w _ h3 g3 ⟨s', hs, rfl⟩ z1 z2
  · obtain ⟨g2, e5, L3, q7⟩ := zk_madd0 L2 (b := m) (kn := zt_km k2) (kv := km) (p := (g'.1 68 7)) (v := w2) hm n3 hkm
    rw [e5, zo_B, hQ _ _ q7 L3.2.2.2.2.2.2.1]
    obtain ⟨h3, g3, e6, e7, R⟩ := zk_want L3 (x := x) (y := yy) (by rw [etk]; exact hx) hx6
    rw [e6, e7]
    show zk_G h0 g0 T n K LC M0 M o X (FA (nI s') h3) (FB g3)
    rcases R with ⟨φ, w, z1, z2⟩ | ⟨z, _⟩
    · exact bad φ w _ h3 g3 ⟨s', hs, rfl⟩ z1 z2
    · rw [etk] at z; exact absurd z c
/-- a child that hangs already -/
theorem zk_Ihg (I : zk_I h0 g0 T n K LC LM j s m o q b kd p v h g g1 .leaf (-1) LM' j' d' s' m' e st D f h' g') {S : List Nat} {st' : Nat} {h2 g2 : zs_H} {t : zt_T} {LM3 : List (List Int32)} {j3 s3 m3 e' : Nat} (hW : zg_T S D t) (hc : 2 * zg_c t ≤ j3 - j') (hp : LM' <+: LM3) (L : zk_L h0 g0 T n K LC h2 g2 LM3 j3 d' s3 m3 o q) (hj : j' < j3) (hs : s' < s3) (hs2 : s3 + e' ≤ s' + e + 2 * (j3 - j')) (hm : m' < m3) (hm2 : m3 + e' ≤ m' + e + 2 * (j3 - j')) (ht : zt_C h2 t (fun i => s' ≤ i ∧ i < s3) (nI s') (nI s')) (hk : zq_kp s h' h2) (hn : (h2.2.1 13) s = (h'.2.1 13) s ∧ (h2.2.1 15) s = (h'.2.1 15) s ∧ (h2.2.1 16) s = (h'.2.1 16) s ∧ (h2.2.1 18) s = (h'.2.1 18) s ∧ (h2.2.1 17) s = nI s') (ha : zx_AP LC LM' LM3 m m' m3 t g' g2) (hq : ∀ c ∈ S, zg_q kd st c = st') : zk_I h0 g0 T n K LC LM j s m o q b kd p v h g g1 t (nI s') LM3 j3 d' s3 m3 e' st' D f h2 g2 := by
  obtain ⟨i1, i2, i3, ⟨c1, c2, c3, c4, c5⟩, ⟨LM1, ⟨p1, p2⟩, m1, m2, m3', m4, m5, m6, m7⟩, ⟨n1, n2, n3, n4, n5, n6, n7, n8⟩, w1, w3⟩ := I
  obtain ⟨k1, k2, k3, k4, k5⟩ := hn
  refine ⟨L, i2.trans hp, zq_kp_t i3 hk (Nat.le_refl s), ⟨k1.trans c1, k2.trans c2, k3.trans c3, k4.trans c4, ?_⟩, ⟨LM1, ⟨p1, p2.trans hp⟩, m1, m2, m3', m4, m5, m6, zx_AP_t m7 ha (by omega) (by omega) (by omega)⟩, by omega, zg_U1 w1 hW hq, ?_⟩
  · rw [k5]; exact zt_Cm (fun i hi => by omega) ht
  · rw [show zg_c .leaf = 0 from rfl] at w3; omega
end ZFF
section ZFL
variable {h0 g0 h g : zs_H} {T : Nat → Int32} {n K : Nat} {LC LM : List (List Int32)} {j d s m o q M0 M : Nat} {X : Int32 → zs_H → zs_H → Prop}
/-- what the two states of a token have in common -/
abbrev zk_tf (h g h2 g2 : zs_H) : Prop := zfr [(19, 4), (19, 5), (19, 6)] [] [] h h2 ∧ zfr zk_lx [70, 71] [] g g2
theorem zk_lA (L : zk_L h0 g0 T n K LC h g LM j d s m o q) {A B : Option zs_H} {x : Int32} {FA : zs_H → Option (Int32 × zs_H)} {FB : zs_H → Option zs_H} (R : ∃ h2 g2, A = some h2 ∧ B = some g2 ∧ (zk_B h0 g0 T n K LC m o h2 g2 ∨ ((h.1 19 5) = x ∧ zk_on h0 g0 T n K LC LM j d s m o q h g h2 g2))) (bad : ∀ φ w h2 g2, zq_Z h0 T n K LC φ w h2 → zx_B g0 T n φ w m o g2 → zk_G h0 g0 T n K LC M0 M o X (FA h2) (FB g2)) (good : ∀ h2 g2 LM2, (h.1 19 5) = x → zk_tf h g h2 g2 → LM <+: LM2 → zk_L h0 g0 T n K LC h2 g2 LM2 (j + 1) d s m o q → zk_G h0 g0 T n K LC M0 M o X (FA h2) (FB g2)) : zk_G h0 g0 T n K LC M0 M o X (A.bind FA) (B.bind FB) := by
  obtain ⟨h2, g2, rfl, rfl, R⟩ := R
  rcases R with ⟨φ, w, z1, z2⟩ | ⟨c, ⟨f1, f2, LM2, hp, L2⟩ | ⟨φ, w, z1, z2⟩⟩
  · exact bad φ w h2 g2 z1 z2
  · exact good h2 g2 LM2 c ⟨f1, f2⟩ hp L2
  · exact bad φ w h2 g2 z1 z2
theorem zk_lN (L : zk_L h0 g0 T n K LC h g LM j d s m o q) {x : Int32} {FA : zs_H → Option (Int32 × zs_H)} {FB : zs_H → Option zs_H} (hx : (h.1 19 5) = x) (h6 : ¬ x = 6) (bad : ∀ φ w h2 g2, zq_Z h0 T n K LC φ w h2 → zx_B g0 T n φ w m o g2 → zk_G h0 g0 T n K LC M0 M o X (FA h2) (FB g2)) (good : ∀ h2 g2 LM2, zk_tf h g h2 g2 → LM <+: LM2 → zk_L h0 g0 T n K LC h2 g2 LM2 (j + 1) d s m o q → zk_G h0 g0 T n K LC M0 M o X (FA h2) (FB g2)) : zk_G h0 g0 T n K LC M0 M o X ((f_Ps_take h x).bind FA) ((f_Mo_next g).bind FB) := by
  obtain ⟨h2, g2, e1, e2, f1, f2, R⟩ := zk_step L (zk_notE L (by rw [hx]; exact h6))
  rw [hx] at e1
  rw [e1, e2]
  rcases R with ⟨LM2, hp, L2⟩ | ⟨φ, w, z1, z2⟩
  · exact good h2 g2 LM2 ⟨f1, f2⟩ hp L2
  · exact bad φ w h2 g2 z1 z2
end ZFL
end
section
/-! Both readers in step: types. -/
theorem zq_vl_n : zq_vl (-1) := Or.inl rfl
theorem zq_vl_v {x : Int32} (h : zq_v x) : zq_vl x := Or.inr h
section ZG
variable {h0 g0 h g : zs_H} {T : Nat → Int32} {n K : Nat} {LC LM : List (List Int32)} {j d s m o q : Nat}
/-- words, in the class and in the model -/
theorem zk_wd (H : zk_L h0 g0 T n K LC h g LM j d s m o q) (c : Nat) (hc : c < 41) : (h.1 19 5) = nI (128 + c) ↔ ((g.1 68 6) = 2 ∧ (g.1 68 9) = nI c) := by
  have hF := zk_F H
  have hA := zl_ckA hF
  have m6 := H.2.2.2.2.2.2.2.2.2.2.1
  have m8 := H.2.2.2.2.2.2.2.2.2.2.2.2.1
  rw [zk_tok H (by omega), hA.2.2.1 c hc, m6]
  constructor
  · intro z
    rw [z.1]
    exact ⟨rfl, by rw [m8 (by omega) (by omega), z.2]⟩
  · intro z
    have z1 := (zc_eq (k := 2) (by decide) (by have := hF.1; omega)).mp z.1
    have z2 := z.2
    rw [m8 (by omega) (by omega)] at z2
    exact ⟨z1, (nI_eq (by have := hF.2.1 z1; omega) (by omega)).mp z2⟩
theorem zk_TW {W W' : zt_T → Prop} {b : Nat} {x : Int32} {h' g' : zs_H} (R : zk_T h0 g0 T n K LC LM W j d s m o q b h g x h' g') (hW : ∀ t, W t → W' t) : zk_T h0 g0 T n K LC LM W' j d s m o q b h g x h' g' := by
  obtain ⟨t, LM', j', s', m', a, ⟨r1, r2⟩, r3⟩ := R
  exact ⟨t, LM', j', s', m', a, ⟨hW t r1, r2⟩, r3⟩
theorem zk_TD {S : List Nat} {D D' M0 M b : Nat} {A : Option (Int32 × zs_H)} {B : Option zs_H} (R : ∃ x h' g', A = some (x, h') ∧ B = some g' ∧ (zk_T h0 g0 T n K LC LM (zg_T S D) j d s m o q b h g x h' g' ∨ zk_Z h0 g0 T n K LC M0 M o x h' g')) (hD : D ≤ D') : ∃ x h' g', A = some (x, h') ∧ B = some g' ∧ (zk_T h0 g0 T n K LC LM (zg_T S D') j d s m o q b h g x h' g' ∨ zk_Z h0 g0 T n K LC M0 M o x h' g') := by
  obtain ⟨x, h', g', e1, e2, e3⟩ := R
  exact ⟨x, h', g', e1, e2, e3.imp (fun z => zk_TW z fun t z => zg_Tm z (fun _ z => z) hD) id⟩
theorem zk_simple (H : zk_L h0 g0 T n K LC h g LM j d s m o q) {b : Nat} (hb : b < m) (hs : s < 32784) (hm : m < 33500) : zk_G h0 g0 T n K LC m (m + 1) o (zk_T h0 g0 T n K LC LM (zg_T [8] 1) j d s m o q b h g) (f_Ps_simpleType h) (f_Mo_simple g (nI b)) := by
  have hF := zk_F H
  have hA := zl_ckA hF
  have m6 := H.2.2.2.2.2.2.2.2.2.2.1
  have m8 := H.2.2.2.2.2.2.2.2.2.2.2.2.1
  have m4 := H.2.2.2.2.2.2.2.2.1
  have htk := H.2.2.2.1.2.2.1
  have hck := hA.2.2.2.2.2.2.2.2.1
  by_cases c : (zl_at T n j).1 = 2 ∧ 11 ≤ (zl_at T n j).2.2.2 ∧ (zl_at T n j).2.2.2 < 14
  · obtain ⟨c1, c2, c3⟩ := c
    have ek : zl_ck (zl_at T n j) = 128 + (zl_at T n j).2.2.2 := (hA.2.2.1 _ (by omega)).mpr ⟨c1, rfl⟩
    have ev := m8 (by omega) (by omega)
    obtain ⟨h1, e1, L1, qA⟩ := zk_cadd H (kd := 8) (kv := 8) (v := (h.1 19 5) - 139) hs (by decide) rfl
    have etk : (h1.1 19 5) = (h.1 19 5) := qA.2.2.2.2.2.2.1 _ _ (by decide)
    have evv : (g.1 68 9) - 11 = (h.1 19 5) - 139 := by
      rw [ev, htk, ek, show (11 : Int32) = nI 11 from rfl, show (139 : Int32) = nI 139 from rfl, zi_sub (by omega), zi_sub (by omega)]
      rw [show 128 + (zl_at T n j).2.2.2 - 139 = (zl_at T n j).2.2.2 - 11 by omega]
    obtain ⟨g1, e2, L2, qM, _⟩ := zk_madd L1 (b := b) (kd := 8) (kv := 8) (p := (g.1 68 7)) (v := (g.1 68 9) - 11) (v' := (h.1 19 5) - 139) hm hb rfl (by rw [if_neg (by decide)]; exact evv)
    obtain ⟨h2, g2, e3, e4, f1, f2, L3⟩ := zk_step L2 (by omega)
    refine ⟨nI s, h2, g2, ?_, ?_, ?_⟩
    · unfold f_Ps_simpleType f_Ps_simpleType_47 f_Ps_simpleType_61
      rw [e1, zo_B]
      rw [if_neg (by rw [etk, htk, ek]; exact mt (zc_tl (k := 139) (by decide) (by omega)).mp (by omega)), if_neg (by rw [etk, htk, ek]; exact mt (zc_lt (k := 141) (by decide) (by omega)).mp (by omega)), if_neg (by decide), e3]; rfl
    · unfold f_Mo_simple f_Mo_simple_31 f_Mo_simple_58 f_Mo_want
      rw [if_pos (by rw [m6, c1]; rfl), if_neg (by rw [ev]; exact mt (zc_tl (k := 11) (by decide) (by omega)).mp (by omega)), if_neg (by rw [ev]; exact mt (zc_le (k := 14) (by decide) (by omega)).mp (by omega)), if_neg (by decide), e2, zo_B]
      rw [if_pos L2.2.2.2.2.2.2.1, if_neg (by decide), e4]; rfl
    · rw [m4] at qM
      rcases L3 with ⟨LM', hp, L3⟩ | ⟨φ, w, z1, z2⟩
      · refine Or.inl (zk_leaf H (zg_n zg_U0 rfl (Or.inr ⟨(zl_at T n j).2.2.2 - 11, by show _ < 3; omega, ?_, fun z => absurd z (by decide)⟩) (by decide)) (by decide) hb hs hm qA qM f1 f2 hp L3)
        rw [htk, ek, show (139 : Int32) = nI 139 from rfl, zi_sub (by omega), show 128 + (zl_at T n j).2.2.2 - 139 = (zl_at T n j).2.2.2 - 11 by omega]
      · exact Or.inr ⟨⟨s, hs, rfl⟩, φ, w, m + 1, by omega, by omega, z1, z2⟩
  · obtain ⟨h1, e1, L1, qA⟩ := zk_cadd H (kd := 8) (kv := 8) (v := (h.1 19 5) - 139) hs (by decide) rfl
    have etk : (h1.1 19 5) = (h.1 19 5) := qA.2.2.2.2.2.2.1 _ _ (by decide)
    have hne : ¬ (h1.1 19 5) = -1 := by rw [etk, htk]; exact zc_m1 (by omega)
    obtain ⟨h2, g2, e3, e4, φ, w, z1, z2⟩ := zk_wrong L1 hne
    have hrange : zl_ck (zl_at T n j) < 139 ∨ 141 < zl_ck (zl_at T n j) := by
      rcases zl_ckD hF with a | a | a | a | a | a | a | ⟨_, a1, a2⟩
      · omega
      · omega
      · omega
      · omega
      · omega
      · omega
      · omega
      · have := zl_svb a1; omega
    have e46 : f_Ps_simpleType_46 h1 (nI s) = some (nI s, h2) := by
      unfold f_Ps_simpleType_46 f_Ps_simpleType_47 f_Ps_simpleType_61
      rw [if_pos rfl, e3]; rfl
    have e30 : f_Mo_simple_30 g (nI b) = some g2 := by
      unfold f_Mo_simple_30 f_Mo_simple_31 f_Mo_simple_58 f_Mo_want
      rw [if_pos rfl, if_pos H.2.2.2.2.2.2.1, if_pos rfl, e4]; rfl
    refine ⟨nI s, h2, g2, ?_, ?_, Or.inr ⟨⟨s, hs, rfl⟩, φ, w, m, by omega, by omega, z1, z2⟩⟩
    · unfold f_Ps_simpleType
      rw [e1, zo_B, etk, htk]
      rcases hrange with z | z
      · rw [if_pos ((zc_tl (k := 139) (by decide) (by omega)).mpr z)]; exact e46
      · rw [if_neg (mt (zc_tl (k := 139) (by decide) (by omega)).mp (by omega)), if_pos ((zc_lt (k := 141) (by decide) (by omega)).mpr z)]; exact e46
    · unfold f_Mo_simple
      by_cases k2 : (zl_at T n j).1 = 2
      · have ev := m8 (by omega) (by omega)
        have hv := hF.2.1 k2
        rw [if_pos (by rw [m6, k2]; rfl), ev]
        by_cases v1 : (zl_at T n j).2.2.2 < 11
        · rw [if_pos ((zc_tl (k := 11) (by decide) (by omega)).mpr v1)]; exact e30
        · rw [if_neg (mt (zc_tl (k := 11) (by decide) (by omega)).mp v1), if_pos ((zc_le (k := 14) (by decide) (by omega)).mpr (by omega))]; exact e30
      · rw [if_neg (fun z => k2 ((zc_eq (k := 2) (by decide) (by have := hF.1; omega)).mp (by rw [← m6]; exact z)))]; exact e30
theorem zk_type (H : zk_L h0 g0 T n K LC h g LM j d s m o q) {b : Nat} (hb : b < m) (hjs : s ≤ 2 * j + 12) (hjm : m ≤ 2 * j + 12) : zk_G h0 g0 T n K LC m 20600 o (zk_T h0 g0 T n K LC LM (zg_T [8, 9, 10] 2) j d s m o q b h g) (f_Ps_type h) (f_Mo_readType g (nI b)) := by
  have hw := zk_word H (c := 14) (by decide)
  have hk := (zk_kind H).1
  have hK := zk_bK H
  unfold f_Ps_type f_Mo_readType
  rw [show f_Mo_isWord g 14 = if (h.1 19 5) = nI 142 then 1 else 0 from hw]
  by_cases c1 : (h.1 19 5) = 8
  · have hk1 : (zl_at T n j).1 = 1 := (zc_eq (k := 1) (by decide) (by have := (zk_F H).1; omega)).mp (by rw [← H.2.2.2.2.2.2.2.2.2.2.1]; exact hk.mpr c1)
    obtain ⟨n1, n2⟩ := zk_nm H hk1
    rw [if_pos c1, if_pos n1, if_neg (show ¬ (h.1 19 5) = nI 142 by rw [c1]; decide), if_pos rfl, if_pos (hk.mpr c1)]
    obtain ⟨h1, g1, e1, e2, I⟩ := zk_I0 H (b := b) (kd := 10) (kc := 10) (km := 10) (D := 1) (v := h.2.1 11 ((h.1 19 4)).toNatClampNeg) (w := (g.1 68 9)) (by omega) (by omega) hb (by decide) rfl rfl (by rw [if_pos (by decide)]; exact n2)
    rw [e1, e2, zo_B, zo_B]
    have v0 := zk_Iv I
    refine zk_sN I (by rw [I.1.2.2.2.1.2.2.1, ← H.2.2.2.1.2.2.1]; exact c1) (by decide) ?_ fun h2 g2 LM2 I2 => ?_
    · intro φ w hz gz z1 z2
      refine zk_Gf (φ := φ) (w := w) ?_ ?_
      · repeat' first
          | with_reducible exact zw_some.mpr ⟨by assumption, by assumption⟩
          | (rw [zw_bind]; with_reducible refine zw_mono (zz_take (by assumption)) ?_; intro _ _)
          | (rw [zw_B]; with_reducible refine zw_mono (zz_constant (by assumption)) ?_; rintro _ ⟨_, _⟩)
          | (rw [zw_B]; with_reducible refine zw_mono (zz_simpleType (by assumption)) ?_; rintro _ ⟨_, _⟩)
          | (rw [zw_B]; with_reducible refine zw_mono (zz_type (by assumption)) ?_; rintro _ ⟨_, _⟩)
          | (rw [zw_B]; with_reducible refine zw_mono (zz_whole (by assumption)) ?_; rintro _ ⟨_, _⟩)
          | (rw [zw_B]; with_reducible refine zw_mono (zz_add (by assumption)) ?_; rintro _ ⟨_, _⟩)
          | (rw [zw_B]; with_reducible refine zw_mono (zz_hang (by assumption) (by assumption) (by first | assumption | exact zq_vl_n | exact zq_vl_v (by assumption)) (by assumption)) ?_; rintro _ ⟨_, _⟩)
          | rw [if_pos (zq_at (by assumption))]
          | rw [zz_isCell (by assumption), if_pos rfl]
          | rw [if_neg (zq_ne (by assumption) (by decide) (by decide))]
      · repeat' first
          | (with_reducible refine zw_some.mpr ⟨_, ⟨?_, ?_⟩, by assumption⟩ <;> omega)
          | (rw [zw_bind]; with_reducible refine zw_mono (zxw_wantSign (by assumption)) ?_; intro _ _)
          | (rw [zw_bind]; with_reducible refine zw_mono (zxw_wantWord (by assumption)) ?_; intro _ _)
          | (rw [zw_bind]; with_reducible refine zw_mono (zxw_want (by assumption)) ?_; intro _ _)
          | (rw [zw_bind]; with_reducible refine zw_mono (zx_next (by assumption)) ?_; intro _ _)
          | (rw [zw_bind]; with_reducible refine zw_mono (zxb_constant (by assumption) (by omega) (by omega)) ?_; intro _ _)
          | (rw [zw_bind]; with_reducible refine zw_mono (zxw_simple (by assumption) (by omega) (by omega)) ?_; rintro _ ⟨_, _, _, _⟩)
          | (rw [zw_B]; with_reducible refine zw_mono (zxb_add (by assumption) (by omega) rfl (by omega)) ?_; rintro _ ⟨e1, _⟩; try rw [e1])
          | rw [zx_isSign (by assumption), if_pos rfl]
          | rw [zx_isWord (by assumption), if_pos rfl]
          | rw [if_neg (zx_ne (by assumption))]
          | rw [if_neg (zx_pos (by assumption))]
          | rw [if_pos (show (0 : Int32) ≤ 0 by decide)]
    exact ⟨nI s, h2, g2, rfl, rfl, Or.inl (zk_Id I2 (by omega) (by omega) rfl (Or.inl rfl) (by decide) (by omega) (by decide))⟩
  · rw [if_neg c1]
    by_cases c2 : (h.1 19 5) = 142
    · rw [if_pos c2, if_pos (show (h.1 19 5) = nI 142 from c2), if_neg (by decide)]
      obtain ⟨h1, g1, e1, e2, I⟩ := zk_I0 H (b := b) (kd := 9) (kc := 9) (km := 9) (D := 1) (v := 0) (w := 0) (by omega) (by omega) hb (by decide) rfl rfl (by rw [if_neg (by decide)])
      rw [e1, e2, zo_B, zo_B]
      have v0 := zk_Iv I
      refine zk_sN I (by rw [I.1.2.2.2.1.2.2.1, ← H.2.2.2.1.2.2.1]; exact c2) (by decide) ?_ fun h2 g2 LM2 I2 => ?_
      · intro φ w hz gz z1 z2
        refine zk_Gf (φ := φ) (w := w) ?_ ?_
        · repeat' first
            | with_reducible exact zw_some.mpr ⟨by assumption, by assumption⟩
            | (rw [zw_bind]; with_reducible refine zw_mono (zz_take (by assumption)) ?_; intro _ _)
            | (rw [zw_B]; with_reducible refine zw_mono (zz_constant (by assumption)) ?_; rintro _ ⟨_, _⟩)
            | (rw [zw_B]; with_reducible refine zw_mono (zz_simpleType (by assumption)) ?_; rintro _ ⟨_, _⟩)
            | (rw [zw_B]; with_reducible refine zw_mono (zz_type (by assumption)) ?_; rintro _ ⟨_, _⟩)
            | (rw [zw_B]; with_reducible refine zw_mono (zz_whole (by assumption)) ?_; rintro _ ⟨_, _⟩)
            | (rw [zw_B]; with_reducible refine zw_mono (zz_add (by assumption)) ?_; rintro _ ⟨_, _⟩)
            | (rw [zw_B]; with_reducible refine zw_mono (zz_hang (by assumption) (by assumption) (by first | assumption | exact zq_vl_n | exact zq_vl_v (by assumption)) (by assumption)) ?_; rintro _ ⟨_, _⟩)
            | rw [if_pos (zq_at (by assumption))]
            | rw [zz_isCell (by assumption), if_pos rfl]
            | rw [if_neg (zq_ne (by assumption) (by decide) (by decide))]
        · repeat' first
            | (with_reducible refine zw_some.mpr ⟨_, ⟨?_, ?_⟩, by assumption⟩ <;> omega)
            | (rw [zw_bind]; with_reducible refine zw_mono (zxw_wantSign (by assumption)) ?_; intro _ _)
            | (rw [zw_bind]; with_reducible refine zw_mono (zxw_wantWord (by assumption)) ?_; intro _ _)
            | (rw [zw_bind]; with_reducible refine zw_mono (zxw_want (by assumption)) ?_; intro _ _)
            | (rw [zw_bind]; with_reducible refine zw_mono (zx_next (by assumption)) ?_; intro _ _)
            | (rw [zw_bind]; with_reducible refine zw_mono (zxb_constant (by assumption) (by omega) (by omega)) ?_; intro _ _)
            | (rw [zw_bind]; with_reducible refine zw_mono (zxw_simple (by assumption) (by omega) (by omega)) ?_; rintro _ ⟨_, _, _, _⟩)
            | (rw [zw_B]; with_reducible refine zw_mono (zxb_add (by assumption) (by omega) rfl (by omega)) ?_; rintro _ ⟨e1, _⟩; try rw [e1])
            | rw [zx_isSign (by assumption), if_pos rfl]
            | rw [zx_isWord (by assumption), if_pos rfl]
            | rw [if_neg (zx_ne (by assumption))]
            | rw [if_neg (zx_pos (by assumption))]
            | rw [if_pos (show (0 : Int32) ≤ 0 by decide)]
      refine zk_sA I2 (zk_wantS I2.1 (c := 91) (k := 91) (by decide) (by decide)) ?_ fun h3 g3 LM3 I3 => ?_
      · intro φ w hz gz z1 z2
        refine zk_Gf (φ := φ) (w := w) ?_ ?_
        · repeat' first
            | with_reducible exact zw_some.mpr ⟨by assumption, by assumption⟩
            | (rw [zw_bind]; with_reducible refine zw_mono (zz_take (by assumption)) ?_; intro _ _)
            | (rw [zw_B]; with_reducible refine zw_mono (zz_constant (by assumption)) ?_; rintro _ ⟨_, _⟩)
            | (rw [zw_B]; with_reducible refine zw_mono (zz_simpleType (by assumption)) ?_; rintro _ ⟨_, _⟩)
            | (rw [zw_B]; with_reducible refine zw_mono (zz_type (by assumption)) ?_; rintro _ ⟨_, _⟩)
            | (rw [zw_B]; with_reducible refine zw_mono (zz_whole (by assumption)) ?_; rintro _ ⟨_, _⟩)
            | (rw [zw_B]; with_reducible refine zw_mono (zz_add (by assumption)) ?_; rintro _ ⟨_, _⟩)
            | (rw [zw_B]; with_reducible refine zw_mono (zz_hang (by assumption) (by assumption) (by first | assumption | exact zq_vl_n | exact zq_vl_v (by assumption)) (by assumption)) ?_; rintro _ ⟨_, _⟩)
            | rw [if_pos (zq_at (by assumption))]
            | rw [zz_isCell (by assumption), if_pos rfl]
            | rw [if_neg (zq_ne (by assumption) (by decide) (by decide))]
        · repeat' first
            | (with_reducible refine zw_some.mpr ⟨_, ⟨?_, ?_⟩, by assumption⟩ <;> omega)
            | (rw [zw_bind]; with_reducible refine zw_mono (zxw_wantSign (by assumption)) ?_; intro _ _)
            | (rw [zw_bind]; with_reducible refine zw_mono (zxw_wantWord (by assumption)) ?_; intro _ _)
            | (rw [zw_bind]; with_reducible refine zw_mono (zxw_want (by assumption)) ?_; intro _ _)
            | (rw [zw_bind]; with_reducible refine zw_mono (zx_next (by assumption)) ?_; intro _ _)
            | (rw [zw_bind]; with_reducible refine zw_mono (zxb_constant (by assumption) (by omega) (by omega)) ?_; intro _ _)
            | (rw [zw_bind]; with_reducible refine zw_mono (zxw_simple (by assumption) (by omega) (by omega)) ?_; rintro _ ⟨_, _, _, _⟩)
            | (rw [zw_B]; with_reducible refine zw_mono (zxb_add (by assumption) (by omega) rfl (by omega)) ?_; rintro _ ⟨e1, _⟩; try rw [e1])
            | rw [zx_isSign (by assumption), if_pos rfl]
            | rw [zx_isWord (by assumption), if_pos rfl]
            | rw [if_neg (zx_ne (by assumption))]
            | rw [if_neg (zx_pos (by assumption))]
            | rw [if_pos (show (0 : Int32) ≤ 0 by decide)]
      have b3 := zk_Ib I3
      refine zk_sK (st' := 1) I3 (zk_constant I3.1 (by omega) (by omega) (by omega)) (by decide) ?_ fun x4 h4 g4 u4 LM4 j4 s4 m4 v4 l4 I4 => ?_
      · intro φ w mz xz hz gz w1 w2 vz z1 z2
        refine zk_Gf (φ := φ) (w := w) ?_ ?_
        · repeat' first
            | with_reducible exact zw_some.mpr ⟨by assumption, by assumption⟩
            | (rw [zw_bind]; with_reducible refine zw_mono (zz_take (by assumption)) ?_; intro _ _)
            | (rw [zw_B]; with_reducible refine zw_mono (zz_constant (by assumption)) ?_; rintro _ ⟨_, _⟩)
            | (rw [zw_B]; with_reducible refine zw_mono (zz_simpleType (by assumption)) ?_; rintro _ ⟨_, _⟩)
            | (rw [zw_B]; with_reducible refine zw_mono (zz_type (by assumption)) ?_; rintro _ ⟨_, _⟩)
            | (rw [zw_B]; with_reducible refine zw_mono (zz_whole (by assumption)) ?_; rintro _ ⟨_, _⟩)
            | (rw [zw_B]; with_reducible refine zw_mono (zz_add (by assumption)) ?_; rintro _ ⟨_, _⟩)
            | (rw [zw_B]; with_reducible refine zw_mono (zz_hang (by assumption) (by assumption) (by first | assumption | exact zq_vl_n | exact zq_vl_v (by assumption)) (by assumption)) ?_; rintro _ ⟨_, _⟩)
            | rw [if_pos (zq_at (by assumption))]
            | rw [zz_isCell (by assumption), if_pos rfl]
            | rw [if_neg (zq_ne (by assumption) (by decide) (by decide))]
        · repeat' first
            | (with_reducible refine zw_some.mpr ⟨_, ⟨?_, ?_⟩, by assumption⟩ <;> omega)
            | (rw [zw_bind]; with_reducible refine zw_mono (zxw_wantSign (by assumption)) ?_; intro _ _)
            | (rw [zw_bind]; with_reducible refine zw_mono (zxw_wantWord (by assumption)) ?_; intro _ _)
            | (rw [zw_bind]; with_reducible refine zw_mono (zxw_want (by assumption)) ?_; intro _ _)
            | (rw [zw_bind]; with_reducible refine zw_mono (zx_next (by assumption)) ?_; intro _ _)
            | (rw [zw_bind]; with_reducible refine zw_mono (zxb_constant (by assumption) (by omega) (by omega)) ?_; intro _ _)
            | (rw [zw_bind]; with_reducible refine zw_mono (zxw_simple (by assumption) (by omega) (by omega)) ?_; rintro _ ⟨_, _, _, _⟩)
            | (rw [zw_B]; with_reducible refine zw_mono (zxb_add (by assumption) (by omega) rfl (by omega)) ?_; rintro _ ⟨e1, _⟩; try rw [e1])
            | rw [zx_isSign (by assumption), if_pos rfl]
            | rw [zx_isWord (by assumption), if_pos rfl]
            | rw [if_neg (zx_ne (by assumption))]
            | rw [if_neg (zx_pos (by assumption))]
            | rw [if_pos (show (0 : Int32) ≤ 0 by decide)]
      have b4 := zk_Ib I4
      refine zk_sA I4 (zk_wantS I4.1 (c := 257) (k := 2) (by decide) (by decide)) ?_ fun h5 g5 LM5 I5 => ?_
      · intro φ w hz gz z1 z2
        refine zk_Gf (φ := φ) (w := w) ?_ ?_
        · repeat' first
            | with_reducible exact zw_some.mpr ⟨by assumption, by assumption⟩
            | (rw [zw_bind]; with_reducible refine zw_mono (zz_take (by assumption)) ?_; intro _ _)
            | (rw [zw_B]; with_reducible refine zw_mono (zz_constant (by assumption)) ?_; rintro _ ⟨_, _⟩)
            | (rw [zw_B]; with_reducible refine zw_mono (zz_simpleType (by assumption)) ?_; rintro _ ⟨_, _⟩)
            | (rw [zw_B]; with_reducible refine zw_mono (zz_type (by assumption)) ?_; rintro _ ⟨_, _⟩)
            | (rw [zw_B]; with_reducible refine zw_mono (zz_whole (by assumption)) ?_; rintro _ ⟨_, _⟩)
            | (rw [zw_B]; with_reducible refine zw_mono (zz_add (by assumption)) ?_; rintro _ ⟨_, _⟩)
            | (rw [zw_B]; with_reducible refine zw_mono (zz_hang (by assumption) (by assumption) (by first | assumption | exact zq_vl_n | exact zq_vl_v (by assumption)) (by assumption)) ?_; rintro _ ⟨_, _⟩)
            | rw [if_pos (zq_at (by assumption))]
            | rw [zz_isCell (by assumption), if_pos rfl]
            | rw [if_neg (zq_ne (by assumption) (by decide) (by decide))]
        · repeat' first
            | (with_reducible refine zw_some.mpr ⟨_, ⟨?_, ?_⟩, by assumption⟩ <;> omega)
            | (rw [zw_bind]; with_reducible refine zw_mono (zxw_wantSign (by assumption)) ?_; intro _ _)
            | (rw [zw_bind]; with_reducible refine zw_mono (zxw_wantWord (by assumption)) ?_; intro _ _)
            | (rw [zw_bind]; with_reducible refine zw_mono (zxw_want (by assumption)) ?_; intro _ _)
            | (rw [zw_bind]; with_reducible refine zw_mono (zx_next (by assumption)) ?_; intro _ _)
            | (rw [zw_bind]; with_reducible refine zw_mono (zxb_constant (by assumption) (by omega) (by omega)) ?_; intro _ _)
            | (rw [zw_bind]; with_reducible refine zw_mono (zxw_simple (by assumption) (by omega) (by omega)) ?_; rintro _ ⟨_, _, _, _⟩)
            | (rw [zw_B]; with_reducible refine zw_mono (zxb_add (by assumption) (by omega) rfl (by omega)) ?_; rintro _ ⟨e1, _⟩; try rw [e1])
            | rw [zx_isSign (by assumption), if_pos rfl]
            | rw [zx_isWord (by assumption), if_pos rfl]
            | rw [if_neg (zx_ne (by assumption))]
            | rw [if_neg (zx_pos (by assumption))]
            | rw [if_pos (show (0 : Int32) ≤ 0 by decide)]
      have b5 := zk_Ib I5
      refine zk_sK (st' := 2) I5 (zk_constant I5.1 (by omega) (by omega) (by omega)) (by decide) ?_ fun x6 h6 g6 u6 LM6 j6 s6 m6 v6 l6 I6 => ?_
      · intro φ w mz xz hz gz w1 w2 vz z1 z2
        refine zk_Gf (φ := φ) (w := w) ?_ ?_
        · repeat' first
            | with_reducible exact zw_some.mpr ⟨by assumption, by assumption⟩
            | (rw [zw_bind]; with_reducible refine zw_mono (zz_take (by assumption)) ?_; intro _ _)
            | (rw [zw_B]; with_reducible refine zw_mono (zz_constant (by assumption)) ?_; rintro _ ⟨_, _⟩)
            | (rw [zw_B]; with_reducible refine zw_mono (zz_simpleType (by assumption)) ?_; rintro _ ⟨_, _⟩)
            | (rw [zw_B]; with_reducible refine zw_mono (zz_type (by assumption)) ?_; rintro _ ⟨_, _⟩)
            | (rw [zw_B]; with_reducible refine zw_mono (zz_whole (by assumption)) ?_; rintro _ ⟨_, _⟩)
            | (rw [zw_B]; with_reducible refine zw_mono (zz_add (by assumption)) ?_; rintro _ ⟨_, _⟩)
            | (rw [zw_B]; with_reducible refine zw_mono (zz_hang (by assumption) (by assumption) (by first | assumption | exact zq_vl_n | exact zq_vl_v (by assumption)) (by assumption)) ?_; rintro _ ⟨_, _⟩)
            | rw [if_pos (zq_at (by assumption))]
            | rw [zz_isCell (by assumption), if_pos rfl]
            | rw [if_neg (zq_ne (by assumption) (by decide) (by decide))]
        · repeat' first
            | (with_reducible refine zw_some.mpr ⟨_, ⟨?_, ?_⟩, by assumption⟩ <;> omega)
            | (rw [zw_bind]; with_reducible refine zw_mono (zxw_wantSign (by assumption)) ?_; intro _ _)
            | (rw [zw_bind]; with_reducible refine zw_mono (zxw_wantWord (by assumption)) ?_; intro _ _)
            | (rw [zw_bind]; with_reducible refine zw_mono (zxw_want (by assumption)) ?_; intro _ _)
            | (rw [zw_bind]; with_reducible refine zw_mono (zx_next (by assumption)) ?_; intro _ _)
            | (rw [zw_bind]; with_reducible refine zw_mono (zxb_constant (by assumption) (by omega) (by omega)) ?_; intro _ _)
            | (rw [zw_bind]; with_reducible refine zw_mono (zxw_simple (by assumption) (by omega) (by omega)) ?_; rintro _ ⟨_, _, _, _⟩)
            | (rw [zw_B]; with_reducible refine zw_mono (zxb_add (by assumption) (by omega) rfl (by omega)) ?_; rintro _ ⟨e1, _⟩; try rw [e1])
            | rw [zx_isSign (by assumption), if_pos rfl]
            | rw [zx_isWord (by assumption), if_pos rfl]
            | rw [if_neg (zx_ne (by assumption))]
            | rw [if_neg (zx_pos (by assumption))]
            | rw [if_pos (show (0 : Int32) ≤ 0 by decide)]
      have b6 := zk_Ib I6
      refine zk_sA I6 (zk_wantS I6.1 (c := 93) (k := 93) (by decide) (by decide)) ?_ fun h7 g7 LM7 I7 => ?_
      · intro φ w hz gz z1 z2
        refine zk_Gf (φ := φ) (w := w) ?_ ?_
        · repeat' first
            | with_reducible exact zw_some.mpr ⟨by assumption, by assumption⟩
            | (rw [zw_bind]; with_reducible refine zw_mono (zz_take (by assumption)) ?_; intro _ _)
            | (rw [zw_B]; with_reducible refine zw_mono (zz_constant (by assumption)) ?_; rintro _ ⟨_, _⟩)
            | (rw [zw_B]; with_reducible refine zw_mono (zz_simpleType (by assumption)) ?_; rintro _ ⟨_, _⟩)
            | (rw [zw_B]; with_reducible refine zw_mono (zz_type (by assumption)) ?_; rintro _ ⟨_, _⟩)
            | (rw [zw_B]; with_reducible refine zw_mono (zz_whole (by assumption)) ?_; rintro _ ⟨_, _⟩)
            | (rw [zw_B]; with_reducible refine zw_mono (zz_add (by assumption)) ?_; rintro _ ⟨_, _⟩)
            | (rw [zw_B]; with_reducible refine zw_mono (zz_hang (by assumption) (by assumption) (by first | assumption | exact zq_vl_n | exact zq_vl_v (by assumption)) (by assumption)) ?_; rintro _ ⟨_, _⟩)
            | rw [if_pos (zq_at (by assumption))]
            | rw [zz_isCell (by assumption), if_pos rfl]
            | rw [if_neg (zq_ne (by assumption) (by decide) (by decide))]
        · repeat' first
            | (with_reducible refine zw_some.mpr ⟨_, ⟨?_, ?_⟩, by assumption⟩ <;> omega)
            | (rw [zw_bind]; with_reducible refine zw_mono (zxw_wantSign (by assumption)) ?_; intro _ _)
            | (rw [zw_bind]; with_reducible refine zw_mono (zxw_wantWord (by assumption)) ?_; intro _ _)
            | (rw [zw_bind]; with_reducible refine zw_mono (zxw_want (by assumption)) ?_; intro _ _)
            | (rw [zw_bind]; with_reducible refine zw_mono (zx_next (by assumption)) ?_; intro _ _)
            | (rw [zw_bind]; with_reducible refine zw_mono (zxb_constant (by assumption) (by omega) (by omega)) ?_; intro _ _)
            | (rw [zw_bind]; with_reducible refine zw_mono (zxw_simple (by assumption) (by omega) (by omega)) ?_; rintro _ ⟨_, _, _, _⟩)
            | (rw [zw_B]; with_reducible refine zw_mono (zxb_add (by assumption) (by omega) rfl (by omega)) ?_; rintro _ ⟨e1, _⟩; try rw [e1])
            | rw [zx_isSign (by assumption), if_pos rfl]
            | rw [zx_isWord (by assumption), if_pos rfl]
            | rw [if_neg (zx_ne (by assumption))]
            | rw [if_neg (zx_pos (by assumption))]
            | rw [if_pos (show (0 : Int32) ≤ 0 by decide)]
      refine zk_sA I7 (zk_wantW I7.1 (c := 15) (by decide)) ?_ fun h8 g8 LM8 I8 => ?_
      · intro φ w hz gz z1 z2
        refine zk_Gf (φ := φ) (w := w) ?_ ?_
        · repeat' first
            | with_reducible exact zw_some.mpr ⟨by assumption, by assumption⟩
            | (rw [zw_bind]; with_reducible refine zw_mono (zz_take (by assumption)) ?_; intro _ _)
            | (rw [zw_B]; with_reducible refine zw_mono (zz_constant (by assumption)) ?_; rintro _ ⟨_, _⟩)
            | (rw [zw_B]; with_reducible refine zw_mono (zz_simpleType (by assumption)) ?_; rintro _ ⟨_, _⟩)
            | (rw [zw_B]; with_reducible refine zw_mono (zz_type (by assumption)) ?_; rintro _ ⟨_, _⟩)
            | (rw [zw_B]; with_reducible refine zw_mono (zz_whole (by assumption)) ?_; rintro _ ⟨_, _⟩)
            | (rw [zw_B]; with_reducible refine zw_mono (zz_add (by assumption)) ?_; rintro _ ⟨_, _⟩)
            | (rw [zw_B]; with_reducible refine zw_mono (zz_hang (by assumption) (by assumption) (by first | assumption | exact zq_vl_n | exact zq_vl_v (by assumption)) (by assumption)) ?_; rintro _ ⟨_, _⟩)
            | rw [if_pos (zq_at (by assumption))]
            | rw [zz_isCell (by assumption), if_pos rfl]
            | rw [if_neg (zq_ne (by assumption) (by decide) (by decide))]
        · repeat' first
            | (with_reducible refine zw_some.mpr ⟨_, ⟨?_, ?_⟩, by assumption⟩ <;> omega)
            | (rw [zw_bind]; with_reducible refine zw_mono (zxw_wantSign (by assumption)) ?_; intro _ _)
            | (rw [zw_bind]; with_reducible refine zw_mono (zxw_wantWord (by assumption)) ?_; intro _ _)
            | (rw [zw_bind]; with_reducible refine zw_mono (zxw_want (by assumption)) ?_; intro _ _)
            | (rw [zw_bind]; with_reducible refine zw_mono (zx_next (by assumption)) ?_; intro _ _)
            | (rw [zw_bind]; with_reducible refine zw_mono (zxb_constant (by assumption) (by omega) (by omega)) ?_; intro _ _)
            | (rw [zw_bind]; with_reducible refine zw_mono (zxw_simple (by assumption) (by omega) (by omega)) ?_; rintro _ ⟨_, _, _, _⟩)
            | (rw [zw_B]; with_reducible refine zw_mono (zxb_add (by assumption) (by omega) rfl (by omega)) ?_; rintro _ ⟨e1, _⟩; try rw [e1])
            | rw [zx_isSign (by assumption), if_pos rfl]
            | rw [zx_isWord (by assumption), if_pos rfl]
            | rw [if_neg (zx_ne (by assumption))]
            | rw [if_neg (zx_pos (by assumption))]
            | rw [if_pos (show (0 : Int32) ≤ 0 by decide)]
      have b8 := zk_Ib I8
      refine zk_sK (st' := 3) I8 (zk_simple I8.1 (by omega) (by omega) (by omega)) (by decide) ?_ fun x9 h9 g9 u9 LM9 j9 s9 m9 v9 l9 I9 => ?_
      · intro φ w mz xz hz gz w1 w2 vz z1 z2
        refine zk_Gf (φ := φ) (w := w) ?_ ?_
        · repeat' first
            | with_reducible exact zw_some.mpr ⟨by assumption, by assumption⟩
            | (rw [zw_bind]; with_reducible refine zw_mono (zz_take (by assumption)) ?_; intro _ _)
            | (rw [zw_B]; with_reducible refine zw_mono (zz_constant (by assumption)) ?_; rintro _ ⟨_, _⟩)
            | (rw [zw_B]; with_reducible refine zw_mono (zz_simpleType (by assumption)) ?_; rintro _ ⟨_, _⟩)
            | (rw [zw_B]; with_reducible refine zw_mono (zz_type (by assumption)) ?_; rintro _ ⟨_, _⟩)
            | (rw [zw_B]; with_reducible refine zw_mono (zz_whole (by assumption)) ?_; rintro _ ⟨_, _⟩)
            | (rw [zw_B]; with_reducible refine zw_mono (zz_add (by assumption)) ?_; rintro _ ⟨_, _⟩)
            | (rw [zw_B]; with_reducible refine zw_mono (zz_hang (by assumption) (by assumption) (by first | assumption | exact zq_vl_n | exact zq_vl_v (by assumption)) (by assumption)) ?_; rintro _ ⟨_, _⟩)
            | rw [if_pos (zq_at (by assumption))]
            | rw [zz_isCell (by assumption), if_pos rfl]
            | rw [if_neg (zq_ne (by assumption) (by decide) (by decide))]
        · repeat' first
            | (with_reducible refine zw_some.mpr ⟨_, ⟨?_, ?_⟩, by assumption⟩ <;> omega)
            | (rw [zw_bind]; with_reducible refine zw_mono (zxw_wantSign (by assumption)) ?_; intro _ _)
            | (rw [zw_bind]; with_reducible refine zw_mono (zxw_wantWord (by assumption)) ?_; intro _ _)
            | (rw [zw_bind]; with_reducible refine zw_mono (zxw_want (by assumption)) ?_; intro _ _)
            | (rw [zw_bind]; with_reducible refine zw_mono (zx_next (by assumption)) ?_; intro _ _)
            | (rw [zw_bind]; with_reducible refine zw_mono (zxb_constant (by assumption) (by omega) (by omega)) ?_; intro _ _)
            | (rw [zw_bind]; with_reducible refine zw_mono (zxw_simple (by assumption) (by omega) (by omega)) ?_; rintro _ ⟨_, _, _, _⟩)
            | (rw [zw_B]; with_reducible refine zw_mono (zxb_add (by assumption) (by omega) rfl (by omega)) ?_; rintro _ ⟨e1, _⟩; try rw [e1])
            | rw [zx_isSign (by assumption), if_pos rfl]
            | rw [zx_isWord (by assumption), if_pos rfl]
            | rw [if_neg (zx_ne (by assumption))]
            | rw [if_neg (zx_pos (by assumption))]
            | rw [if_pos (show (0 : Int32) ≤ 0 by decide)]
      exact ⟨nI s, h9, g9, rfl, rfl, Or.inl (zk_Id I9 (by omega) (by omega) rfl (Or.inl rfl) (by decide) (by omega) (by decide))⟩
    · rw [if_neg c2, if_neg (show ¬ (h.1 19 5) = nI 142 from c2), if_pos rfl, if_neg (fun z => c1 (hk.mp z))]
      obtain ⟨x, h', g', e1, e2, e3⟩ := zk_simple H hb (by omega) (by omega)
      rw [e1, e2]
      refine ⟨x, h', g', rfl, rfl, ?_⟩
      rcases e3 with z | ⟨v1, φ, w, m', z0, z1, z2, z3⟩
      · exact Or.inl (zk_TW z fun t z => zg_Tm z (by decide) (by decide))
      · exact Or.inr ⟨v1, φ, w, m', z0, by omega, z2, z3⟩
end ZG
end
section
/-! Small things for both readers. -/
theorem zz_isCell {h0 h : zs_H} {T : Nat → Int32} {n K φ w : Nat} {LC : List (List Int32)} (H : zq_Z h0 T n K LC φ w h) : f_Ps_isCell h = 0 := by
  unfold f_Ps_isCell
  iterate 7 rw [if_neg (zq_ne H (by decide) (by decide))]
theorem zk_sgv {h0 g0 h g : zs_H} {T : Nat → Int32} {n K : Nat} {LC LM : List (List Int32)} {j d s m o q : Nat} (H : zk_L h0 g0 T n K LC h g LM j d s m o q) {c k : Nat} (hc : zk_cs c k = true) (ht : (h.1 19 5) = nI k) : (g.1 68 6) = 5 ∧ (g.1 68 9) = nI c := by
  have hA := zl_ckA (zk_F H)
  have hk : k < 200 := by
    rcases zk_csf hc with ⟨a, b⟩ | ⟨a, b, e⟩
    · have := zl_svb a; omega
    · omega
  have key : (zl_at T n j).1 = 5 ∧ (zl_at T n j).2.2.2 = c := by
    have z := (zk_tok H hk).mp ht
    rcases zk_csf hc with ⟨a, b⟩ | ⟨a, b, e⟩
    · rw [b] at z; exact (hA.1 c a).mp z
    · rw [e]; exact (hA.2.1 k a b).mp z
  have m6 := H.2.2.2.2.2.2.2.2.2.2.1
  have m8 := H.2.2.2.2.2.2.2.2.2.2.2.2.1
  exact ⟨by rw [m6, key.1]; rfl, by rw [m8 (by omega) (by omega), key.2]⟩
end
