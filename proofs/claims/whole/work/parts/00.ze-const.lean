/-! Both readers in step: constants and simple types. -/
/-- a tree has been read -/
def zk_T (h0 g0 : zs_H) (T : Nat → Int32) (n K : Nat) (LC LM : List (List Int32)) (W : zt_T → Prop) (j d s m o q b : Nat) (h g : zs_H) (x : Int32) (h' g' : zs_H) : Prop := ∃ (t : zt_T) (LM' : List (List Int32)) (j' s' m' a : Nat), (W t ∧ 2 * zg_c t ≤ j' - j) ∧ LM <+: LM' ∧ zk_L h0 g0 T n K LC h' g' LM' j' d s' m' o q ∧ j < j' ∧ s < s' ∧ s' ≤ s + 2 * (j' - j) ∧ m < m' ∧ m' ≤ m + 2 * (j' - j) ∧ x = nI a ∧ s ≤ a ∧ a < s' ∧ zt_C h' t (fun i => s ≤ i ∧ i < s') (nI a) (nI a) ∧ zq_kp s h h' ∧ zx_AP LC LM LM' b m m' t g g'
/-- both are behind a fault, with at most M nodes -/
def zk_Z (h0 g0 : zs_H) (T : Nat → Int32) (n K : Nat) (LC : List (List Int32)) (M0 M O : Nat) (x : Int32) (h' g' : zs_H) : Prop := zq_v x ∧ ∃ φ w m', M0 ≤ m' ∧ m' ≤ M ∧ zq_Z h0 T n K LC φ w h' ∧ zx_B g0 T n φ w m' O g'
theorem zk_Tv {h0 g0 h g h' g' : zs_H} {T : Nat → Int32} {n K : Nat} {LC LM : List (List Int32)} {W : zt_T → Prop} {j d s m o q b : Nat} {x : Int32} (R : zk_T h0 g0 T n K LC LM W j d s m o q b h g x h' g') : zq_v x := by
  obtain ⟨t, LM3, j3, s3, m3, a, r0, r1, r2, r3, r4, r5, r6, r7, r8, r9, r10, r11, r12, r13⟩ := R
  have hs3 : s3 ≤ 32784 := r2.2.2.2.1.2.2.2.2.2.2
  exact ⟨a, by omega, r8⟩
section ZE
variable {h0 g0 h g : zs_H} {T : Nat → Int32} {n K : Nat} {LC LM : List (List Int32)} {j d s m o q : Nat}
theorem zz_constant_99 {φ w : Nat} {x1 x2 : Int32} (H : zq_Z h0 T n K LC φ w h) (hx : zq_v x1) : zw (f_Ps_constant_99 h x1 x2) (fun p => p.1 = x1 ∧ zq_Z h0 T n K LC φ w p.2) := by
  obtain ⟨i, hi, rfl⟩ := hx
  unfold f_Ps_constant_99 f_Ps_constant_139
  rw [if_pos (zq_at H), if_pos (zi_in (by omega) hi)]
  split
  · rw [zw_bind]; exact zw_mono (zz_take (zz_uM H (by decide))) fun g' z => zw_some.mpr ⟨rfl, z⟩
  · rw [if_pos (zq_at H), if_pos (zi_in (by omega) hi), zw_bind]; exact zw_mono (zz_take (zz_uM H (by decide))) fun g' z => zw_some.mpr ⟨rfl, z⟩
theorem zxb_constant_90 {φ w O b : Nat} {x2 x3 x4 y0 : Int32} (H : zx_B g0 T n φ w m O g) (hm : m < 33500) (hb : b < m) : zw (f_Mo_constant_90 g (nI b) x2 x3 x4 y0) (zx_B g0 T n φ w (m + 1) O) := by
  unfold f_Mo_constant_90 f_Mo_constant_110
  rw [zx_want H, zw_bind, zw_some]
  split
  · rw [zw_B]; exact zw_mono (zxb_add (kn := 30) H hm rfl hb) fun p z => zw_some.mpr z.2
  · rw [zw_B]; exact zw_mono (zxb_add (kn := 30) H hm rfl hb) fun p z => zw_some.mpr z.2
theorem zxb_constant_70 {φ w O b : Nat} {x2 x3 : Int32} (H : zx_B g0 T n φ w m O g) (hm : m < 33500) (hb : b < m) : zw (f_Mo_constant_70 g (nI b) x2 x3) (zx_B g0 T n φ w (m + 1) O) := by
  unfold f_Mo_constant_70
  split
  · exact zxb_constant_90 H hm hb
  · exact zxb_constant_90 H hm hb
theorem zxb_constant {φ w O b : Nat} (H : zx_B g0 T n φ w m O g) (hm : m < 33500) (hb : b < m) : zw (f_Mo_constant g (nI b)) (zx_B g0 T n φ w (m + 1) O) := by
  have h31 : zw (f_Mo_constant_31 g (nI b)) (zx_B g0 T n φ w (m + 1) O) := by
    unfold f_Mo_constant_31
    rw [zw_B]
    refine zw_mono (zxb_add (kn := 31) H hm rfl hb) fun p z => ?_
    rw [zw_bind]
    exact zw_mono (zx_next z.2) fun g' y => zw_some.mpr y
  have h55 : zw (f_Mo_constant_55 g (nI b) ((g.1 68 7))) (zx_B g0 T n φ w (m + 1) O) := by
    unfold f_Mo_constant_55
    rw [zx_isSign H, if_pos rfl]
    exact zxb_constant_70 H hm hb
  unfold f_Mo_constant
  repeat' split
  all_goals first | exact h31 | exact h55
/-- a number of a text in the class -/
theorem zk_num (H : zk_L h0 g0 T n K LC h g LM j d s m o q) (h1 : (zl_at T n j).1 = 3 ∨ (zl_at T n j).1 = 4) : zd_in ((h.1 19 4)) 16385 ∧ h.2.1 11 ((h.1 19 4)).toNatClampNeg = nI (zl_at T n j).2.2.2 ∧ (g.1 68 9) = nI (zl_at T n j).2.2.2 := by
  obtain ⟨a1, a2, a3, a4, a5, a6⟩ := H
  obtain ⟨m1, m2, m3, m4, m5, m6, m7, m8, _⟩ := a6
  obtain ⟨s1, s2, s3, s4, s5, s6, s7, s8, s9, s10⟩ := a3
  obtain ⟨t1, t2, t3, t4⟩ := s1.1 j (by omega)
  rw [a4.2.1, nI_clamp (by omega), t3, m8 (by omega) (by omega)]
  refine ⟨zi_in (by omega) (by omega), ?_, rfl⟩
  unfold zl_cv
  rw [if_neg (by omega), if_neg (by omega)]
theorem zk_atI (H : zk_L h0 g0 T n K LC h g LM j d s m o q) : zd_in ((h.1 19 4)) 16385 := by
  have h1 := H.2.2.2.2.1
  have h2 := H.2.2.1.2.1
  have h3 := H.2.2.1.2.2.1
  rw [H.2.2.2.1.2.1]
  exact zi_in (by omega) (by omega)
/-- one node more, then a token more -/
theorem zk_leaf (H : zk_L h0 g0 T n K LC h g LM j d s m o q) {W : zt_T → Prop} {b kd : Nat} {p v' : Int32} {h1 g1 h2 g2 : zs_H} (hW : W (zt_n kd p v' .leaf)) (h37 : ¬ kd = 37) (hb : b < m) (hs : s < 32784) (hm : m < 33500) (qA : zq_A s kd p v' h h1) (qM : zx_AP LC LM LM b m (m + 1) (zt_n kd p v' .leaf) g g1) (f1 : zfr [(19, 4), (19, 5), (19, 6)] [] [] h1 h2) (f2 : zfr zk_lx [70, 71] [] g1 g2) {LM' : List (List Int32)} (hp : LM <+: LM') (L2 : zk_L h0 g0 T n K LC h2 g2 LM' (j + 1) d (s + 1) (m + 1) o q) : zk_T h0 g0 T n K LC LM W j d s m o q b h g (nI s) h2 g2 := by
  refine ⟨zt_n kd p v' .leaf, LM', j + 1, s + 1, m + 1, s, ⟨hW, by rw [zg_c_n h37]; exact Nat.zero_le _⟩, hp, L2, by omega, by omega, by omega, by omega, by omega, rfl, by omega, by omega, ?_, zq_kp_t (zq_kp_A qA) (zq_kp_f f1) (Nat.le_refl s), ?_⟩
  · exact zt_Ck (zq_kp_f (s := s + 1) f1) (fun i hi => hi.2) (zt_Cm (fun i hi => by omega) (zt_Cn (by omega) qA))
  · have := zx_AP_t qM (zx_AP_0 hp (zx_ka_l (m := m + 1) f2) (by omega)) (by omega) (by omega) hb
    exact this
/-- the number itself -/
theorem zk_cnum (L : zk_L h0 g0 T n K LC h g LM j d (s + 1) m o q) {b : Nat} {p x2 x3 : Int32} (hb : b < m) (hs : s < 32784) (hm : m < 33500) (hx : x2 = 0 ↔ x3 = 0) : ∃ h' g', f_Ps_constant_99 h (nI s) x2 = some (nI s, h') ∧ f_Mo_constant_70 g (nI b) p x3 = some g' ∧ ((∃ LM' v, LM <+: LM' ∧ zk_L h0 g0 T n K LC h' g' LM' (j + 1) d (s + 1) (m + 1) o q ∧ zx_AP LC LM LM' b m (m + 1) (zt_n 30 p v .leaf) g g' ∧ (h'.2.1 16) s = v ∧ (∀ i, (h'.2.1 13) i = (h.2.1 13) i ∧ (h'.2.1 15) i = (h.2.1 15) i ∧ (¬ i = s → (h'.2.1 16) i = (h.2.1 16) i) ∧ (h'.2.1 17) i = (h.2.1 17) i ∧ (h'.2.1 18) i = (h.2.1 18) i)) ∨ zk_Z h0 g0 T n K LC m (m + 1) o (nI s) h' g') := by
  have hk := (zk_kind L).2.1
  have hF := zk_F L
  have hA := zl_ckA hF
  have m6 := L.2.2.2.2.2.2.2.2.2.2.1
  obtain ⟨val, hval⟩ : ∃ val : Int32, val = (if x2 = 0 then h.2.1 11 ((h.1 19 4)).toNatClampNeg else -(h.2.1 11 ((h.1 19 4)).toNatClampNeg)) := ⟨_, rfl⟩
  have ec : f_Ps_constant_99 h (nI s) x2 = (f_Ps_take (zs_uM h 16 s val) 9).bind fun h3 => some (nI s, h3) := by
    unfold f_Ps_constant_99 f_Ps_constant_139
    rw [if_pos (zk_atI L), if_pos (zk_atI L), if_pos (zi_in (by omega) hs), if_pos (zi_in (by omega) hs), nI_clamp (by omega), hval]
    split <;> rfl
  have fV : zfr [] [16] [] h (zs_uM h 16 s val) := zfr_M (by decide) zfr_rfl
  have L1 : zk_L h0 g0 T n K LC (zs_uM h 16 s val) g LM j d (s + 1) m o q := zk_cf L fV (by decide)
  have em : f_Mo_constant_70 g (nI b) p x3 = (f_Mo_want g (if (g.1 68 6) = 3 then 1 else 0)).bind fun h2 => (zd_B (f_Mo_add h2 (nI b) 30 p (if x3 = 0 then (g.1 68 9) else -((g.1 68 9)))) fun v2 h3 => some h3) := by
    unfold f_Mo_constant_70 f_Mo_constant_90 f_Mo_constant_110
    by_cases c : (g.1 68 6) = 3
    · rw [if_pos c, if_pos c]
      by_cases c2 : x3 = 0
      · rw [if_pos c2]; simp only [c2, if_true]
      · rw [if_neg c2]; simp only [c2, if_false]
    · rw [if_neg c, if_neg c]
      by_cases c2 : x3 = 0
      · rw [if_pos c2]; simp only [c2, if_true]
      · rw [if_neg c2]; simp only [c2, if_false]
  obtain ⟨h2, g2, e1, e2, e3⟩ := zk_want L1 (x := 9) (y := if (g.1 68 6) = 3 then 1 else 0) (by rw [show (zs_uM h 16 s val).1 19 5 = (h.1 19 5) from rfl, ← hk]; by_cases c : (g.1 68 6) = 3 <;> simp [c]) (by decide)
  rw [ec, em, e1, e2]
  simp only [Option.bind_some]
  have bk : zk_B h0 g0 T n K LC m o h2 g2 → ∃ h' g', some (nI s, h2) = some (nI s, h') ∧ (zd_B (f_Mo_add g2 (nI b) 30 p (if x3 = 0 then (g.1 68 9) else -((g.1 68 9)))) fun v2 h3 => some h3) = some g' ∧ ((∃ LM' v, LM <+: LM' ∧ zk_L h0 g0 T n K LC h' g' LM' (j + 1) d (s + 1) (m + 1) o q ∧ zx_AP LC LM LM' b m (m + 1) (zt_n 30 p v .leaf) g g' ∧ (h'.2.1 16) s = v ∧ (∀ i, (h'.2.1 13) i = (h.2.1 13) i ∧ (h'.2.1 15) i = (h.2.1 15) i ∧ (¬ i = s → (h'.2.1 16) i = (h.2.1 16) i) ∧ (h'.2.1 17) i = (h.2.1 17) i ∧ (h'.2.1 18) i = (h.2.1 18) i)) ∨ zk_Z h0 g0 T n K LC m (m + 1) o (nI s) h' g') := by
    rintro ⟨φ, w, z1, z2⟩
    obtain ⟨⟨x, g3⟩, e4, e5, e6⟩ := zxb_add (p := p) (v := if x3 = 0 then (g.1 68 9) else -((g.1 68 9))) (kn := 30) (kd := 30) z2 hm rfl hb
    exact ⟨h2, g3, rfl, by rw [e4]; rfl, Or.inr ⟨⟨s, hs, rfl⟩, φ, w, m + 1, by omega, by omega, z1, e6⟩⟩
  rcases e3 with e3 | ⟨e3, e4 | e4⟩
  · exact bk e3
  · obtain ⟨f1, f2, LM', hp, L2⟩ := e4
    have h3 : (zl_at T n j).1 = 3 := by
      have := hk.mpr e3
      rw [m6] at this
      exact (zc_eq (k := 3) (by decide) (by have := hF.1; omega)).mp this
    obtain ⟨-, n2, n3⟩ := zk_num L (Or.inl h3)
    have ev : (if x3 = 0 then (g.1 68 9) else -((g.1 68 9))) = val := by
      rw [hval, n2, n3]
      by_cases c : x2 = 0
      · rw [if_pos c, if_pos (hx.mp c)]
      · rw [if_neg c, if_neg (fun z => c (hx.mpr z))]
    rw [ev]
    obtain ⟨g3, e5, L3, qM, _⟩ := zk_madd L2 (b := b) (kd := 30) (kv := 30) (p := p) (v := val) (v' := val) hm hb rfl (by rw [if_neg (by decide)])
    refine ⟨h2, g3, rfl, by rw [e5]; rfl, Or.inl ⟨LM', val, hp, L3, ?_, ?_, fun i => ?_⟩⟩
    · exact zx_AP_t (zx_AP_0 hp (zx_ka_l (m := m) f2) hb) qM (Nat.le_refl m) (by omega) hb
    · rw [f1.2.1 _ List.not_mem_nil]
      show (if 16 = 16 ∧ s = s then val else _) = val
      rw [if_pos ⟨rfl, rfl⟩]
    · rw [f1.2.1 _ List.not_mem_nil, f1.2.1 _ List.not_mem_nil, f1.2.1 _ List.not_mem_nil, f1.2.1 _ List.not_mem_nil, f1.2.1 _ List.not_mem_nil]
      refine ⟨rfl, rfl, fun z => ?_, rfl, rfl⟩
      show (if 16 = 16 ∧ i = s then val else _) = _
      rw [if_neg (fun w => z w.2)]
  · exact bk e4
theorem zk_constant (H : zk_L h0 g0 T n K LC h g LM j d s m o q) {b : Nat} (hb : b < m) (hs : s < 32784) (hm : m < 33500) : ∃ x h' g', f_Ps_constant h = some (x, h') ∧ f_Mo_constant g (nI b) = some g' ∧ (zk_T h0 g0 T n K LC LM (zg_T [30, 31] 1) j d s m o q b h g x h' g' ∨ zk_Z h0 g0 T n K LC m (m + 1) o x h' g') := by
  have hW35 := zk_word H (c := 35) (by decide)
  have hW36 := zk_word H (c := 36) (by decide)
  have hF := zk_F H
  have hA := zl_ckA hF
  have m6 := H.2.2.2.2.2.2.2.2.2.2.1
  have m8 := H.2.2.2.2.2.2.2.2.2.2.2.2.1
  have m4 := H.2.2.2.2.2.2.2.2.1
  have hT : ∀ c : Nat, c < 41 → ((h.1 19 5) = nI (128 + c) ↔ ((g.1 68 6) = 2 ∧ (g.1 68 9) = nI c)) := by
    intro c hc
    rw [zk_tok H (by omega), hA.2.2.1 c hc, m6]
    constructor
    · intro z
      rw [z.1]
      exact ⟨rfl, by rw [m8 (by omega) (by omega), z.2]⟩
    · intro z
      have z1 := (zc_eq (k := 2) (by decide) (by have := hF.1; omega)).mp z.1
      have z2 := z.2
      rw [m8 (by omega) (by omega)] at z2
      exact ⟨z1, (nI_eq (by have := hF.2.1 z1; omega) (by omega)).mp z2⟩
  have tr : ∀ (c : Nat) (v : Int32), (c = 35 ∨ c = 36) → (h.1 19 5) = nI (128 + c) → (36 : Int32) - nI c = v → (v = 1 ∨ v = 0) → ∃ x h' g', f_Ps_constant_45 h v ((h.1 19 6)) 31 = some (x, h') ∧ f_Mo_constant_31 g (nI b) = some g' ∧ (zk_T h0 g0 T n K LC LM (zg_T [30, 31] 1) j d s m o q b h g x h' g' ∨ zk_Z h0 g0 T n K LC m (m + 1) o x h' g') := by
    intro c v hc ht hv hv2
    obtain ⟨k2, v2⟩ := (hT c (by omega)).mp ht
    have hE : ¬ (zl_at T n j).1 = 0 := by
      rw [m6] at k2
      have := (zc_eq (k := 2) (by decide) (by have := hF.1; omega)).mp k2
      omega
    obtain ⟨h1, e1, L1, qA⟩ := zk_cadd H (kd := 31) (kv := 31) (v := v) hs (by decide) rfl
    obtain ⟨g1, e2, L2, qM, _⟩ := zk_madd L1 (b := b) (kd := 31) (kv := 31) (p := (g.1 68 7)) (v := 36 - (g.1 68 9)) (v' := v) hm hb rfl (by rw [if_neg (by decide), v2]; exact hv)
    obtain ⟨h2, g2, e3, e4, f1, f2, L3⟩ := zk_step L2 hE
    refine ⟨nI s, h2, g2, ?_, ?_, ?_⟩
    · unfold f_Ps_constant_45
      rw [e1]
      show (f_Ps_take h1 _).bind _ = _
      rw [e3]; rfl
    · unfold f_Mo_constant_31
      rw [e2]
      show (f_Mo_next g1).bind _ = _
      rw [e4]; rfl
    · rw [m4] at qM
      rcases L3 with ⟨LM', hp, L3⟩ | ⟨φ, w, z1, z2⟩
      · exact Or.inl (zk_leaf H (zg_n zg_U0 rfl (by rcases hv2 with e | e; exact Or.inr ⟨1, by decide, e, by decide⟩; exact Or.inr ⟨0, by decide, e, by decide⟩) (by decide)) (by decide) hb hs hm qA qM f1 f2 hp L3)
      · exact Or.inr ⟨⟨s, hs, rfl⟩, φ, w, m + 1, by omega, by omega, z1, z2⟩
  unfold f_Ps_constant f_Mo_constant f_Ps_constant_20
  by_cases c35 : (h.1 19 5) = 163
  · obtain ⟨k2, v2⟩ := (hT 35 (by decide)).mp c35
    obtain ⟨x, h', g', r1, r2, r3⟩ := tr 35 1 (Or.inl rfl) c35 rfl (Or.inl rfl)
    rw [if_pos c35, if_pos c35, if_pos k2, if_pos (show (g.1 68 9) = 35 from v2)]
    exact ⟨x, h', g', r1, r2, r3⟩
  · by_cases c36 : (h.1 19 5) = 164
    · obtain ⟨k2, v2⟩ := (hT 36 (by decide)).mp c36
      obtain ⟨x, h', g', r1, r2, r3⟩ := tr 36 0 (Or.inr rfl) c36 rfl (Or.inr rfl)
      rw [if_neg c35, if_pos c36, if_neg c35, if_pos k2, if_neg (show ¬ (g.1 68 9) = 35 by rw [v2]; decide), if_pos (show (g.1 68 9) = 36 from v2)]
      exact ⟨x, h', g', r1, r2, r3⟩
    · rw [if_neg c35, if_neg c36]
      have e55 : (if (g.1 68 6) = 2 then (if (g.1 68 9) = 35 then f_Mo_constant_31 g (nI b) else (if (g.1 68 9) = 36 then f_Mo_constant_31 g (nI b) else f_Mo_constant_55 g (nI b) ((g.1 68 7)))) else f_Mo_constant_55 g (nI b) ((g.1 68 7))) = f_Mo_constant_55 g (nI b) ((g.1 68 7)) := by
        by_cases k2 : (g.1 68 6) = 2
        · rw [if_pos k2, if_neg (show ¬ (g.1 68 9) = 35 from fun z => c35 ((hT 35 (by decide)).mpr ⟨k2, z⟩)), if_neg (show ¬ (g.1 68 9) = 36 from fun z => c36 ((hT 36 (by decide)).mpr ⟨k2, z⟩))]
        · rw [if_neg k2]
      rw [e55]
      obtain ⟨h1, e1, L1, qA⟩ := zk_cadd H (kd := 30) (kv := 30) (v := 0) hs (by decide) rfl
      rw [e1]
      show ∃ x h' g', (if (h1.1 19 5) = 45 then f_Ps_constant_88 h1 (nI s) 1 else f_Ps_constant_88 h1 (nI s) 0) = some (x, h') ∧ _
      have hsg := zk_sign H (c := 45) (k := 45) (by decide)
      have etk : (h1.1 19 5) = (h.1 19 5) := qA.2.2.2.2.2.2.1 _ _ (by decide)
      have mk : ∀ (h2 h3 g2 g3 : zs_H) (LM2 LM3 : List (List Int32)) (v : Int32) (j2 : Nat), (j2 = j ∨ j2 = j + 1) → zq_kp (s + 1) h1 h2 → LM <+: LM2 → LM2 <+: LM3 → zx_ka m g g2 → zk_L h0 g0 T n K LC h3 g3 LM3 (j2 + 1) d (s + 1) (m + 1) o q → zx_AP LC LM2 LM3 b m (m + 1) (zt_n 30 (nI (zl_at T n j).2.1) v .leaf) g2 g3 → (h3.2.1 16) s = v → (∀ i, (h3.2.1 13) i = (h2.2.1 13) i ∧ (h3.2.1 15) i = (h2.2.1 15) i ∧ (¬ i = s → (h3.2.1 16) i = (h2.2.1 16) i) ∧ (h3.2.1 17) i = (h2.2.1 17) i ∧ (h3.2.1 18) i = (h2.2.1 18) i) → zk_T h0 g0 T n K LC LM (zg_T [30, 31] 1) j d s m o q b h g (nI s) h3 g3 := by
        intro h2 h3 g2 g3 LM2 LM3 v j2 hj k1 p1 p2 ka L3 ap hv hr
        obtain ⟨q1, q2, q3, q4, q5, q6, q7⟩ := qA
        have kA := zq_kp_A ⟨q1, q2, q3, q4, q5, q6, q7⟩
        obtain ⟨r1, r2, r3, r4, r5⟩ := hr s
        obtain ⟨t1, t2, t3, t4, t5⟩ := k1 s (by omega)
        refine ⟨zt_n 30 (nI (zl_at T n j).2.1) v .leaf, LM3, j2 + 1, s + 1, m + 1, s, ⟨zg_n zg_U0 rfl (Or.inl rfl) (by decide), by rw [zg_c_n (by decide)]; exact Nat.zero_le _⟩, p1.trans p2, L3, by omega, by omega, by omega, by omega, by omega, rfl, by omega, by omega, ?_, ?_, ?_⟩
        · refine zt_Cm (P := fun i => i = s ∨ False) (fun i hi => by rcases hi with z | z; omega; exact z.elim) (zt_Cp (t := .leaf) (y := -1) (P := fun _ => False) (by omega) (fun z => z) ?_ ?_ hv ?_ ⟨?_, rfl⟩)
          · rw [r1, t1, q2, if_pos rfl]
          · rw [r2, t2, q3, if_pos rfl]
          · rw [r5, t5, q6, if_pos rfl]
          · rw [r4, t4, q5, if_pos rfl]
        · intro i hi
          obtain ⟨x1, x2, x3, x4, x5⟩ := kA i hi
          obtain ⟨y1, y2, y3, y4, y5⟩ := k1 i (by omega)
          obtain ⟨z1, z2, z3, z4, z5⟩ := hr i
          exact ⟨z1.trans (y1.trans x1), z2.trans (y2.trans x2), (z3 (by omega)).trans (y3.trans x3), z4.trans (y4.trans x4), z5.trans (y5.trans x5)⟩
        · exact zx_AP_t (zx_AP_0 p1 ka hb) ap (Nat.le_refl m) (by omega) hb
      unfold f_Mo_constant_55
      rw [show f_Mo_isSign g 45 = if (h.1 19 5) = nI 45 then 1 else 0 from hsg, etk, m4]
      by_cases c45 : (h.1 19 5) = 45
      · have c45' : (h.1 19 5) = nI 45 := c45
        rw [if_pos c45, if_pos c45', if_neg (by decide)]
        have hE : ¬ (zl_at T n j).1 = 0 := by
          intro z
          have := ((zk_kind H).2.2.2).mp (by rw [m6, z]; rfl)
          rw [c45] at this
          exact absurd this (by decide)
        obtain ⟨h2, g2, e3, e4, f1, f2, L2⟩ := zk_step L1 hE
        have e3' : f_Ps_take h1 45 = some h2 := by rw [← c45, ← etk]; exact e3
        unfold f_Ps_constant_88
        rw [if_neg (by decide), e3', e4]
        simp only [Option.bind_some]
        rcases L2 with ⟨LM2, p1, L2⟩ | ⟨φ, w, z1, z2⟩
        · obtain ⟨h3, g3, e5, e6, e7⟩ := zk_cnum L2 (b := b) (p := nI (zl_at T n j).2.1) (x2 := 1) (x3 := 1) hb hs hm Iff.rfl
          refine ⟨nI s, h3, g3, e5, e6, ?_⟩
          rcases e7 with ⟨LM3, v, p2, L3, ap, hv, hr⟩ | e7
          · exact Or.inl (mk h2 h3 g2 g3 LM2 LM3 v (j + 1) (Or.inr rfl) (zq_kp_f f1) p1 p2 (zx_ka_l f2) L3 ap hv hr)
          · exact Or.inr e7
        · obtain ⟨⟨x, h3⟩, e5, e6, e7⟩ := zz_constant_99 (x1 := nI s) (x2 := 1) z1 ⟨s, hs, rfl⟩
          obtain ⟨g3, e8, e9⟩ := zxb_constant_70 (x2 := nI (zl_at T n j).2.1) (x3 := 1) z2 hm hb
          exact ⟨x, h3, g3, e5, e8, Or.inr ⟨by rw [show x = nI s from e6]; exact ⟨s, hs, rfl⟩, φ, w, m + 1, by omega, by omega, e7, e9⟩⟩
      · have c45' : ¬ (h.1 19 5) = nI 45 := c45
        rw [if_neg c45, if_neg c45', if_pos rfl]
        unfold f_Ps_constant_88
        rw [if_pos rfl]
        obtain ⟨h3, g3, e5, e6, e7⟩ := zk_cnum L1 (b := b) (p := nI (zl_at T n j).2.1) (x2 := 0) (x3 := 0) hb hs hm Iff.rfl
        refine ⟨nI s, h3, g3, e5, e6, ?_⟩
        rcases e7 with ⟨LM3, v, p2, L3, ap, hv, hr⟩ | e7
        · exact Or.inl (mk h1 h3 g g3 LM LM3 v j (Or.inl rfl) zq_kp_r (List.prefix_refl _) p2 (fun i _ => ⟨rfl, rfl, rfl, rfl, rfl, rfl, rfl⟩) L3 ap hv hr)
        · exact Or.inr e7
end ZE
