section
/-! Both readers in step: more on nodes with something below them. -/
theorem zt_sub2 {N N' : Nat → Nat → Int32 × Int32 → Int32 → Int32 → Prop} {A A' B B' : Nat → Int32} {i kd kd0 : Nat} {p v p0 v0 up z1 : Int32} {l : zt_T} {Q : Nat → Prop} (hi : i < 40000) (hn : N' i kd (p, v) up z1) (hl : zt_G N' A' B' l Q (nI i) (A' i) z1) (hQi : ¬ Q i) : ∀ (t : zt_T) (P : Nat → Prop) (x : Int32), (∀ a, P a → ¬ Q a) → zt_G N A B (zt_ap t (zt_n kd0 p0 v0 .leaf)) P up x (nI i) → (∀ a, P a → (¬ a = i → (∀ kd k up z, N a kd k up z → N' a kd k up z) ∧ A' a = A a) ∧ B' a = B a) → zt_G N' A' B' (zt_ap t (zt_n kd p v l)) (fun a => P a ∨ Q a) up x (nI i) := by
  intro t
  induction t with
  | leaf =>
    intro P x hPQ q hN2
    obtain ⟨i', P1, P2, z1', z2, q1, q2, q3, q4, q5, q6, q7, q8, q9⟩ := q
    obtain ⟨q8a, q8b⟩ := q8
    rw [if_pos q8b, q3] at q9
    have e : i = i' := (nI_eq (by omega) (by omega)).mp q9
    subst e
    refine ⟨i, Q, fun _ => False, z1, -1, Or.inl q1, q2, q3, hn, fun a ha => ⟨Or.inr ha, fun z => hQi (z ▸ ha), fun z => z⟩, fun a z => z.elim, hl, ⟨by rw [(hN2 i q1).2]; exact q8a, rfl⟩, by rw [if_pos rfl]; exact q3.symm⟩
  | inner kd' k' v' l' r ihl ihr =>
    intro P x hPQ q hN2
    obtain ⟨i', P1, P2, z1', z2, q1, q2, q3, q4, q5, q6, q7, q8, q9⟩ := q
    have hz : ¬ z2 = -1 := by
      intro z
      rcases zt_last _ P2 _ _ _ q8 with ⟨w, _, _⟩ | ⟨_, j, _, _, _, _, j2, j3⟩
      · revert w
        cases r with
        | leaf => intro w; cases w
        | inner => intro w; cases w
      · rw [z] at j3; exact absurd j3.symm (zc_m1 (by omega))
    rw [if_neg hz] at q9
    have hP2 : P2 i := by
      rcases zt_last _ P2 _ _ _ q8 with ⟨_, _, w⟩ | ⟨_, j, _, _, _, j1, j2, j3⟩
      · exact absurd w hz
      · rw [← q9] at j3
        have := (nI_eq (by omega) (by omega)).mp j3
        rw [this]; exact j1
    have hne : ¬ i' = i := fun z => (q6 i hP2).2 z.symm
    have hr := ihr P2 (B i') (fun a ha => hPQ a (q6 a ha).1) (by rw [q9]; exact q8) (fun a ha => hN2 a (q6 a ha).1)
    refine ⟨i', P1, fun a => P2 a ∨ Q a, z1', nI i, Or.inl q1, q2, q3, ((hN2 i' q1).1 hne).1 _ _ _ _ q4, fun a ha => ⟨Or.inl (q5 a ha).1, (q5 a ha).2.1, fun z => z.elim (q5 a ha).2.2 (hPQ a (q5 a ha).1)⟩, fun a ha => ha.elim (fun z => ⟨Or.inl (q6 a z).1, (q6 a z).2⟩) (fun z => ⟨Or.inr z, fun w => hPQ i' q1 (w ▸ z)⟩), ?_, ?_, by rw [if_neg (zc_m1 (by omega))]⟩
    · rw [((hN2 i' q1).1 hne).2]
      refine zt_fr l' P1 P1 _ _ _ (fun a ha => ?_) (fun _ z => z) q7
      have ha2 : ¬ a = i := fun z => (q5 a ha).2.2 (z ▸ hP2)
      have ha3 := hN2 a (q5 a ha).1
      exact ⟨(ha3.1 ha2).1, (ha3.1 ha2).2, ha3.2⟩
    · rw [(hN2 i' q1).2]; exact hr
/-- a node with what is below it; it began as another one -/
theorem zx_AP_n2 {LC LM LM1 LM' : List (List Int32)} {g g1 g2 : zs_H} {b m m' kd kd0 : Nat} {p v p0 v0 : Int32} {l : zt_T} (hm : m < 33500) (hm' : m + 1 ≤ m') (hb : b < m) (a : zx_AP LC LM LM1 b m (m + 1) (zt_n kd0 p0 v0 .leaf) g g1) (hp : LM1 <+: LM') (hl : zt_M LC LM' g2 l (fun i => m + 1 ≤ i ∧ i < m') (nI m) ((g2.2.1 76) m) ((g2.2.1 77) m)) (hN : zt_Nf LC LM' g2 m kd p v) (hab : (g2.2.1 75) m = nI b) (h6 : (g1.2.1 77) b = nI m) (ka : zx_ka m g1 g2) (hbs : (g2.2.1 78) m = (g1.2.1 78) m) : zx_AP LC LM LM' b m m' (zt_n kd p v l) g g2 := by
  intro P u hP H
  obtain ⟨a1, a2⟩ := a P u hP H
  refine ⟨zx_kp_t a1 (zx_ka_kp ka hb), ?_⟩
  obtain ⟨_, _, _, _, k5, k6, _⟩ := ka b hb
  rw [k5, k6, h6]
  rw [h6] at a2
  have hmono : ∀ i, i < m → ∀ kd k up z, zt_NM LC LM1 g1 i kd k up z → zt_NM LC LM' g2 i kd k up z := by
    intro i hi kd k up z q
    obtain ⟨x1, x2, x3, x4, x5, x6, x7⟩ := ka i hi
    unfold zt_NM at q ⊢
    rw [x1, x2, x3, x4, x6]
    refine ⟨q.1, q.2.1, ?_, q.2.2.2⟩
    have q3 := q.2.2.1
    by_cases w : zt_nk kd = true
    · rw [if_pos w] at q3 ⊢; exact zt_nrm hp q3
    · rw [if_neg w] at q3 ⊢; exact q3
  have hn : zt_NM LC LM' g2 m kd (p, v) (nI b) ((g2.2.1 77) m) := ⟨hN.1, hN.2.1, hN.2.2, hab, rfl⟩
  have r := zt_sub2 (by omega) hn hl (fun z => by omega) u _ _ (fun i hi z => by rcases hi with y | y; (have := (hP i y).2; omega); omega) a2 (fun i hi => ?_)
  · refine zt_Mm (fun i hi => ?_) r
    rcases hi with (z | z) | z
    · exact Or.inl z
    · exact Or.inr ⟨z.1, by omega⟩
    · exact Or.inr ⟨by omega, z.2⟩
  · rcases hi with y | y
    · have := (hP i y).2
      exact ⟨fun _ => ⟨hmono i this, (ka i this).2.2.2.2.1⟩, (ka i this).2.2.2.2.2.2⟩
    · have e : i = m := by omega
      subst e
      exact ⟨fun z => absurd rfl z, hbs⟩
/-- a tree has been read; e: by how much it has fewer nodes than it could have -/
def zk_TT (h0 g0 : zs_H) (T : Nat → Int32) (n K : Nat) (LC LM : List (List Int32)) (W : zt_T → Prop) (e j d s m o q b : Nat) (h g : zs_H) (x : Int32) (h' g' : zs_H) : Prop := ∃ (t : zt_T) (LM' : List (List Int32)) (j' s' m' a : Nat), (W t ∧ 2 * zg_c t ≤ j' - j) ∧ LM <+: LM' ∧ zk_L h0 g0 T n K LC h' g' LM' j' d s' m' o q ∧ j ≤ j' ∧ s < s' ∧ s' + e ≤ s + 1 + 2 * (j' - j) ∧ m < m' ∧ m' + e ≤ m + 1 + 2 * (j' - j) ∧ x = nI a ∧ s ≤ a ∧ a < s' ∧ zt_C h' t (fun i => s ≤ i ∧ i < s') (nI a) (nI a) ∧ zq_kp s h h' ∧ zx_AP LC LM LM' b m m' t g g'
section ZV1
variable {h0 g0 h g : zs_H} {T : Nat → Int32} {n K : Nat} {LC LM : List (List Int32)} {j d s m o q : Nat}
theorem zk_TTv {h' g' : zs_H} {W : zt_T → Prop} {e b : Nat} {x : Int32} (R : zk_TT h0 g0 T n K LC LM W e j d s m o q b h g x h' g') : zq_v x := by
  obtain ⟨t, LM3, j3, s3, m3', a, _, r1, r2, r3, r4, r5, r6, r7, r8, r9, r10, _⟩ := R
  have := (zk_bK r2).2.2
  exact ⟨a, by omega, r8⟩
theorem zk_TTof {h' g' : zs_H} {W : zt_T → Prop} {b : Nat} {x : Int32} (R : zk_T h0 g0 T n K LC LM W j d s m o q b h g x h' g') : zk_TT h0 g0 T n K LC LM W 1 j d s m o q b h g x h' g' := by
  obtain ⟨t, LM3, j3, s3, m3', a, r0, r1, r2, r3, r4, r5, r6, r7, r8⟩ := R
  exact ⟨t, LM3, j3, s3, m3', a, r0, r1, r2, by omega, r4, by omega, r6, by omega, r8⟩
theorem zk_Tof {h' g' : zs_H} {W : zt_T → Prop} {e b : Nat} {x : Int32} (R : zk_TT h0 g0 T n K LC LM W e j d s m o q b h g x h' g') (he : 1 ≤ e) : zk_T h0 g0 T n K LC LM W j d s m o q b h g x h' g' := by
  obtain ⟨t, LM3, j3, s3, m3', a, r0, r1, r2, r3, r4, r5, r6, r7, r8⟩ := R
  exact ⟨t, LM3, j3, s3, m3', a, r0, r1, r2, by omega, r4, by omega, r6, by omega, r8⟩
theorem zk_TTm {h' g' : zs_H} {W W' : zt_T → Prop} {e e' b : Nat} {x : Int32} (R : zk_TT h0 g0 T n K LC LM W e j d s m o q b h g x h' g') (he : e' ≤ e) (hW : ∀ t, W t → W' t) : zk_TT h0 g0 T n K LC LM W' e' j d s m o q b h g x h' g' := by
  obtain ⟨t, LM3, j3, s3, m3', a, r0, r1, r2, r3, r4, r5, r6, r7, r8⟩ := R
  exact ⟨t, LM3, j3, s3, m3', a, ⟨hW t r0.1, r0.2⟩, r1, r2, r3, r4, by omega, r6, by omega, r8⟩
theorem zk_GM {M0 M0' M M' O : Nat} {X X' : Int32 → zs_H → zs_H → Prop} {A : Option (Int32 × zs_H)} {B : Option zs_H} (G : zk_G h0 g0 T n K LC M0 M O X A B) (h1 : M0' ≤ M0) (h2 : M ≤ M') (hX : ∀ x h g, X x h g → X' x h g) : zk_G h0 g0 T n K LC M0' M' O X' A B := by
  obtain ⟨x, h', g', e1, e2, R⟩ := G
  refine ⟨x, h', g', e1, e2, ?_⟩
  rcases R with R | ⟨v, φ, w, m', w1, w2, z⟩
  · exact Or.inl (hX _ _ _ R)
  · exact Or.inr ⟨v, φ, w, m', by omega, by omega, z⟩
theorem zk_leaf2 (H : zk_L h0 g0 T n K LC h g LM j d s m o q) {W : zt_T → Prop} {b kd : Nat} {p v' : Int32} {h1 g1 h2 g2 : zs_H} (hW : W (zt_n kd p v' .leaf)) (h37 : ¬ kd = 37) (hb : b < m) (hs : s < 32784) (hm : m < 33500) (qA : zq_A s kd p v' h h1) (qM : zx_AP LC LM LM b m (m + 1) (zt_n kd p v' .leaf) g g1) (f1 : zfr [(19, 4), (19, 5), (19, 6)] [] [] h1 h2) (f2 : zfr zk_lx [70, 71] [] g1 g2) {LM' : List (List Int32)} (hp : LM <+: LM') (L2 : zk_L h0 g0 T n K LC h2 g2 LM' (j + 1) d (s + 1) (m + 1) o q) : zk_TT h0 g0 T n K LC LM W 2 j d s m o q b h g (nI s) h2 g2 := by
  refine ⟨zt_n kd p v' .leaf, LM', j + 1, s + 1, m + 1, s, ⟨hW, by rw [zg_c_n h37]; exact Nat.zero_le _⟩, hp, L2, by omega, by omega, by omega, by omega, by omega, rfl, by omega, by omega, ?_, zq_kp_t (zq_kp_A qA) (zq_kp_f f1) (Nat.le_refl s), ?_⟩
  · exact zt_Ck (zq_kp_f (s := s + 1) f1) (fun i hi => hi.2) (zt_Cm (fun i hi => by omega) (zt_Cn (by omega) qA))
  · have := zx_AP_t qM (zx_AP_0 hp (zx_ka_l (m := m + 1) f2) (by omega)) (by omega) (by omega) hb
    exact this
theorem zk_constant2 (H : zk_L h0 g0 T n K LC h g LM j d s m o q) {b : Nat} (hb : b < m) (hs : s < 32784) (hm : m < 33500) : ∃ x h' g', f_Ps_constant h = some (x, h') ∧ f_Mo_constant g (nI b) = some g' ∧ (zk_TT h0 g0 T n K LC LM (zg_T [30, 31] 1) 2 j d s m o q b h g x h' g' ∨ zk_Z h0 g0 T n K LC m (m + 1) o x h' g') := by
  have hW35 := zk_word H (c := 35) (by decide)
  have hW36 := zk_word H (c := 36) (by decide)
  have hF := zk_F H
  have hA := zl_ckA hF
  have m6 := H.2.2.2.2.2.2.2.2.2.2.1
  have m8 := H.2.2.2.2.2.2.2.2.2.2.2.2.1
  have m4 := H.2.2.2.2.2.2.2.2.1
  have hT : ∀ c : Nat, c < 41 → ((h.1 19 5) = nI (128 + c) ↔ ((g.1 68 6) = 2 ∧ (g.1 68 9) = nI c)) := by
    intro c hc
    rw [zk_tok H (by omega), hA.2.2.1 c hc, m6]
    constructor
    · intro z
      rw [z.1]
      exact ⟨rfl, by rw [m8 (by omega) (by omega), z.2]⟩
    · intro z
      have z1 := (zc_eq (k := 2) (by decide) (by have := hF.1; omega)).mp z.1
      have z2 := z.2
      rw [m8 (by omega) (by omega)] at z2
      exact ⟨z1, (nI_eq (by have := hF.2.1 z1; omega) (by omega)).mp z2⟩
  have tr : ∀ (c : Nat) (v : Int32), (c = 35 ∨ c = 36) → (h.1 19 5) = nI (128 + c) → (36 : Int32) - nI c = v → (v = 1 ∨ v = 0) → ∃ x h' g', f_Ps_constant_45 h v ((h.1 19 6)) 31 = some (x, h') ∧ f_Mo_constant_31 g (nI b) = some g' ∧ (zk_TT h0 g0 T n K LC LM (zg_T [30, 31] 1) 2 j d s m o q b h g x h' g' ∨ zk_Z h0 g0 T n K LC m (m + 1) o x h' g') := by
    intro c v hc ht hv hv2
    obtain ⟨k2, v2⟩ := (hT c (by omega)).mp ht
    have hE : ¬ (zl_at T n j).1 = 0 := by
      rw [m6] at k2
      have := (zc_eq (k := 2) (by decide) (by have := hF.1; omega)).mp k2
      omega
    obtain ⟨h1, e1, L1, qA⟩ := zk_cadd H (kd := 31) (kv := 31) (v := v) hs (by decide) rfl
    obtain ⟨g1, e2, L2, qM, _⟩ := zk_madd L1 (b := b) (kd := 31) (kv := 31) (p := (g.1 68 7)) (v := 36 - (g.1 68 9)) (v' := v) hm hb rfl (by rw [if_neg (by decide), v2]; exact hv)
    obtain ⟨h2, g2, e3, e4, f1, f2, L3⟩ := zk_step L2 hE
    refine ⟨nI s, h2, g2, ?_, ?_, ?_⟩
    · unfold f_Ps_constant_45
      rw [e1]
      show (f_Ps_take h1 _).bind _ = _
      rw [e3]; rfl
    · unfold f_Mo_constant_31
      rw [e2]
      show (f_Mo_next g1).bind _ = _
      rw [e4]; rfl
    · rw [m4] at qM
      rcases L3 with ⟨LM', hp, L3⟩ | ⟨φ, w, z1, z2⟩
      · exact Or.inl (zk_leaf2 H (zg_n zg_U0 rfl (by rcases hv2 with e | e; exact Or.inr ⟨1, by decide, e, by decide⟩; exact Or.inr ⟨0, by decide, e, by decide⟩) (by decide)) (by decide) hb hs hm qA qM f1 f2 hp L3)
      · exact Or.inr ⟨⟨s, hs, rfl⟩, φ, w, m + 1, by omega, by omega, z1, z2⟩
  unfold f_Ps_constant f_Mo_constant f_Ps_constant_20
  by_cases c35 : (h.1 19 5) = 163
  · obtain ⟨k2, v2⟩ := (hT 35 (by decide)).mp c35
    obtain ⟨x, h', g', r1, r2, r3⟩ := tr 35 1 (Or.inl rfl) c35 rfl (Or.inl rfl)
    rw [if_pos c35, if_pos c35, if_pos k2, if_pos (show (g.1 68 9) = 35 from v2)]
    exact ⟨x, h', g', r1, r2, r3⟩
  · by_cases c36 : (h.1 19 5) = 164
    · obtain ⟨k2, v2⟩ := (hT 36 (by decide)).mp c36
      obtain ⟨x, h', g', r1, r2, r3⟩ := tr 36 0 (Or.inr rfl) c36 rfl (Or.inr rfl)
      rw [if_neg c35, if_pos c36, if_neg c35, if_pos k2, if_neg (show ¬ (g.1 68 9) = 35 by rw [v2]; decide), if_pos (show (g.1 68 9) = 36 from v2)]
      exact ⟨x, h', g', r1, r2, r3⟩
    · rw [if_neg c35, if_neg c36]
      have e55 : (if (g.1 68 6) = 2 then (if (g.1 68 9) = 35 then f_Mo_constant_31 g (nI b) else (if (g.1 68 9) = 36 then f_Mo_constant_31 g (nI b) else f_Mo_constant_55 g (nI b) ((g.1 68 7)))) else f_Mo_constant_55 g (nI b) ((g.1 68 7))) = f_Mo_constant_55 g (nI b) ((g.1 68 7)) := by
        by_cases k2 : (g.1 68 6) = 2
        · rw [if_pos k2, if_neg (show ¬ (g.1 68 9) = 35 from fun z => c35 ((hT 35 (by decide)).mpr ⟨k2, z⟩)), if_neg (show ¬ (g.1 68 9) = 36 from fun z => c36 ((hT 36 (by decide)).mpr ⟨k2, z⟩))]
        · rw [if_neg k2]
      rw [e55]
      obtain ⟨h1, e1, L1, qA⟩ := zk_cadd H (kd := 30) (kv := 30) (v := 0) hs (by decide) rfl
      rw [e1]
      show ∃ x h' g', (if (h1.1 19 5) = 45 then f_Ps_constant_88 h1 (nI s) 1 else f_Ps_constant_88 h1 (nI s) 0) = some (x, h') ∧ _
      have hsg := zk_sign H (c := 45) (k := 45) (by decide)
      have etk : (h1.1 19 5) = (h.1 19 5) := qA.2.2.2.2.2.2.1 _ _ (by decide)
      have mk : ∀ (h2 h3 g2 g3 : zs_H) (LM2 LM3 : List (List Int32)) (v : Int32) (j2 : Nat), (j2 = j ∨ j2 = j + 1) → zq_kp (s + 1) h1 h2 → LM <+: LM2 → LM2 <+: LM3 → zx_ka m g g2 → zk_L h0 g0 T n K LC h3 g3 LM3 (j2 + 1) d (s + 1) (m + 1) o q → zx_AP LC LM2 LM3 b m (m + 1) (zt_n 30 (nI (zl_at T n j).2.1) v .leaf) g2 g3 → (h3.2.1 16) s = v → (∀ i, (h3.2.1 13) i = (h2.2.1 13) i ∧ (h3.2.1 15) i = (h2.2.1 15) i ∧ (¬ i = s → (h3.2.1 16) i = (h2.2.1 16) i) ∧ (h3.2.1 17) i = (h2.2.1 17) i ∧ (h3.2.1 18) i = (h2.2.1 18) i) → zk_TT h0 g0 T n K LC LM (zg_T [30, 31] 1) 2 j d s m o q b h g (nI s) h3 g3 := by
        intro h2 h3 g2 g3 LM2 LM3 v j2 hj k1 p1 p2 ka L3 ap hv hr
        obtain ⟨q1, q2, q3, q4, q5, q6, q7⟩ := qA
        have kA := zq_kp_A ⟨q1, q2, q3, q4, q5, q6, q7⟩
        obtain ⟨r1, r2, r3, r4, r5⟩ := hr s
        obtain ⟨t1, t2, t3, t4, t5⟩ := k1 s (by omega)
        refine ⟨zt_n 30 (nI (zl_at T n j).2.1) v .leaf, LM3, j2 + 1, s + 1, m + 1, s, ⟨zg_n zg_U0 rfl (Or.inl rfl) (by decide), by rw [zg_c_n (by decide)]; exact Nat.zero_le _⟩, p1.trans p2, L3, by omega, by omega, by omega, by omega, by omega, rfl, by omega, by omega, ?_, ?_, ?_⟩
        · refine zt_Cm (P := fun i => i = s ∨ False) (fun i hi => by rcases hi with z | z; omega; exact z.elim) (zt_Cp (t := .leaf) (y := -1) (P := fun _ => False) (by omega) (fun z => z) ?_ ?_ hv ?_ ⟨?_, rfl⟩)
          · rw [r1, t1, q2, if_pos rfl]
          · rw [r2, t2, q3, if_pos rfl]
          · rw [r5, t5, q6, if_pos rfl]
          · rw [r4, t4, q5, if_pos rfl]
        · intro i hi
          obtain ⟨x1, x2, x3, x4, x5⟩ := kA i hi
          obtain ⟨y1, y2, y3, y4, y5⟩ := k1 i (by omega)
          obtain ⟨z1, z2, z3, z4, z5⟩ := hr i
          exact ⟨z1.trans (y1.trans x1), z2.trans (y2.trans x2), (z3 (by omega)).trans (y3.trans x3), z4.trans (y4.trans x4), z5.trans (y5.trans x5)⟩
        · exact zx_AP_t (zx_AP_0 p1 ka hb) ap (Nat.le_refl m) (by omega) hb
      unfold f_Mo_constant_55
      rw [show f_Mo_isSign g 45 = if (h.1 19 5) = nI 45 then 1 else 0 from hsg, etk, m4]
      by_cases c45 : (h.1 19 5) = 45
      · have c45' : (h.1 19 5) = nI 45 := c45
        rw [if_pos c45, if_pos c45', if_neg (by decide)]
        have hE : ¬ (zl_at T n j).1 = 0 := by
          intro z
          have := ((zk_kind H).2.2.2).mp (by rw [m6, z]; rfl)
          rw [c45] at this
          exact absurd this (by decide)
        obtain ⟨h2, g2, e3, e4, f1, f2, L2⟩ := zk_step L1 hE
        have e3' : f_Ps_take h1 45 = some h2 := by rw [← c45, ← etk]; exact e3
        unfold f_Ps_constant_88
        rw [if_neg (by decide), e3', e4]
        simp only [Option.bind_some]
        rcases L2 with ⟨LM2, p1, L2⟩ | ⟨φ, w, z1, z2⟩
        · obtain ⟨h3, g3, e5, e6, e7⟩ := zk_cnum L2 (b := b) (p := nI (zl_at T n j).2.1) (x2 := 1) (x3 := 1) hb hs hm Iff.rfl
          refine ⟨nI s, h3, g3, e5, e6, ?_⟩
          rcases e7 with ⟨LM3, v, p2, L3, ap, hv, hr⟩ | e7
          · exact Or.inl (mk h2 h3 g2 g3 LM2 LM3 v (j + 1) (Or.inr rfl) (zq_kp_f f1) p1 p2 (zx_ka_l f2) L3 ap hv hr)
          · exact Or.inr e7
        · obtain ⟨⟨x, h3⟩, e5, e6, e7⟩ := zz_constant_99 (x1 := nI s) (x2 := 1) z1 ⟨s, hs, rfl⟩
          obtain ⟨g3, e8, e9⟩ := zxb_constant_70 (x2 := nI (zl_at T n j).2.1) (x3 := 1) z2 hm hb
          exact ⟨x, h3, g3, e5, e8, Or.inr ⟨by rw [show x = nI s from e6]; exact ⟨s, hs, rfl⟩, φ, w, m + 1, by omega, by omega, e7, e9⟩⟩
      · have c45' : ¬ (h.1 19 5) = nI 45 := c45
        rw [if_neg c45, if_neg c45', if_pos rfl]
        unfold f_Ps_constant_88
        rw [if_pos rfl]
        obtain ⟨h3, g3, e5, e6, e7⟩ := zk_cnum L1 (b := b) (p := nI (zl_at T n j).2.1) (x2 := 0) (x3 := 0) hb hs hm Iff.rfl
        refine ⟨nI s, h3, g3, e5, e6, ?_⟩
        rcases e7 with ⟨LM3, v, p2, L3, ap, hv, hr⟩ | e7
        · exact Or.inl (mk h1 h3 g g3 LM LM3 v j (Or.inl rfl) zq_kp_r (List.prefix_refl _) p2 (fun i _ => ⟨rfl, rfl, rfl, rfl, rfl, rfl, rfl⟩) L3 ap hv hr)
        · exact Or.inr e7
end ZV1
section ZV2
variable {h0 g0 h g g1 h' g' : zs_H} {T : Nat → Int32} {n K : Nat} {LC LM LM' : List (List Int32)} {j d s m o q b kd j' d' s' m' e st D f M0 M : Nat} {p v y : Int32} {u : zt_T} {X : Int32 → zs_H → zs_H → Prop}
/-- something else has changed: tokens, or what is open -/
theorem zk_Ig (I : zk_I h0 g0 T n K LC LM j s m o q b kd p v h g g1 u y LM' j' d' s' m' e st D f h' g') {h2 g2 : zs_H} {LM2 : List (List Int32)} {j2 d2 : Nat} (k : zq_kp s' h' h2) (ka : zx_ka m' g' g2) (hp : LM' <+: LM2) (hj : j' ≤ j2) (L2 : zk_L h0 g0 T n K LC h2 g2 LM2 j2 d2 s' m' o q) : zk_I h0 g0 T n K LC LM j s m o q b kd p v h g g1 u y LM2 j2 d2 s' m' (e + 2 * (j2 - j')) st D (f + (j2 - j')) h2 g2 := by
  obtain ⟨i1, i2, i3, ⟨c1, c2, c3, c4, c5⟩, ⟨LM1, ⟨p1, p2⟩, m1, m2, m3, m4, m5, m6, m7⟩, ⟨n1, n2, n3, n4, n5, n6, n7, n8⟩, w1, w2⟩ := I
  obtain ⟨k1, k2, k3, k4, k5⟩ := k s n2
  refine ⟨L2, i2.trans hp, zq_kp_t i3 k (by omega), ⟨k1.trans c1, k2.trans c2, k3.trans c3, k5.trans c4, ?_⟩, ⟨LM1, ⟨p1, p2.trans hp⟩, m1, m2, m3, m4, m5, m6, ?_⟩, by omega, w1, by omega⟩
  · rw [k4]; exact zt_Ck k (fun i hi => hi.2) c5
  · have := zx_AP_t m7 (zx_AP_0 hp ka n3) (by omega) (Nat.le_refl _) (by omega)
    rwa [zt_ap_leaf] at this
/-- what is open has changed -/
theorem zk_Io (I : zk_I h0 g0 T n K LC LM j s m o q b kd p v h g g1 u y LM' j' d' s' m' e st D f h' g') {h2 g2 : zs_H} {d2 : Nat} (f1 : zfr [(19, 7)] [] [] h' h2) (f2 : zfr [(68, 12)] [] [] g' g2) (L2 : zk_L h0 g0 T n K LC h2 g2 LM' j' d2 s' m' o q) : zk_I h0 g0 T n K LC LM j s m o q b kd p v h g g1 u y LM' j' d2 s' m' e st D f h2 g2 := by
  have := zk_Ig I (zq_kp_f f1) (zx_ka_f f2) (List.prefix_refl _) (Nat.le_refl _) L2
  rwa [Nat.sub_self, Nat.mul_zero, Nat.add_zero, Nat.add_zero] at this
/-- fewer nodes are promised -/
theorem zk_Iw (I : zk_I h0 g0 T n K LC LM j s m o q b kd p v h g g1 u y LM' j' d' s' m' e st D f h' g') {e2 f2 : Nat} (he : e2 ≤ e) (hf : f2 ≤ f) : zk_I h0 g0 T n K LC LM j s m o q b kd p v h g g1 u y LM' j' d' s' m' e2 st D f2 h' g' := by
  obtain ⟨i1, i2, i3, i4, i5, n, w1, w2⟩ := I
  exact ⟨i1, i2, i3, i4, i5, by omega, w1, by omega⟩
/-- a child -/
theorem zk_Ic2 (I : zk_I h0 g0 T n K LC LM j s m o q b kd p v h g g1 u y LM' j' d' s' m' e st D f h' g') {h2 g2 : zs_H} {x : Int32} {S : List Nat} {st' e2 e3 : Nat} (R : zk_TT h0 g0 T n K LC LM' (zg_T S D) e2 j' d' s' m' o q m h' g' x h2 g2) (hq : ∀ c ∈ S, zg_q kd st c = st') (he : e3 + 1 ≤ e + e2) : ∃ h3 u3 LM3 j3 s3 m3, f_Tr_hang h2 (nI s) y x = some (x, h3) ∧ j' ≤ j3 ∧ zk_I h0 g0 T n K LC LM j s m o q b kd p v h g g1 u3 x LM3 j3 d' s3 m3 e3 st' D f h3 g2 := by
  obtain ⟨i1, i2, i3, ⟨c1, c2, c3, c4, c5⟩, ⟨LM1, ⟨p1, p2⟩, m1, m2, m3, m4, m5, m6, m7⟩, ⟨n1, n2, n3, n4, n5, n6, n7, n8⟩, w1, w2⟩ := I
  obtain ⟨t, LM3, j3, s3, m3', a, ⟨r0, r0c⟩, r1, r2, r3, r4, r5, r6, r7, r8, r9, r10, r11, r12, r13⟩ := R
  have hs3 : s3 ≤ 32784 := r2.2.2.2.1.2.2.2.2.2.2
  obtain ⟨k1, k2, k3, k4, k5⟩ := r12 s n2
  have c5' : zt_C h2 u (fun i => s < i ∧ i < s') ((h2.2.1 17) s) y := by rw [k4]; exact zt_Ck r12 (fun i hi => hi.2) c5
  subst r8
  obtain ⟨h3, e1, e2, e3, e4⟩ := zq_hangC (ip := s) (a := a) (by omega) (fun i hi => by omega) c5' r11 (fun i hi z => by omega) (by omega) (by omega) (by omega)
  refine ⟨h3, zt_ap u t, LM3, j3, s3, m3', e1, r3, zk_cf r2 e4 (by decide), i2.trans r1, ?_, ⟨(e3 s).1.trans (k1.trans c1), (e3 s).2.1.trans (k2.trans c2), (e3 s).2.2.1.trans (k3.trans c3), ((e3 s).2.2.2.2 (by omega)).trans (k5.trans c4), zt_Cm (fun i hi => by omega) e2⟩, ⟨LM1, ⟨p1, p2.trans r1⟩, m1, m2, m3, m4, m5, m6, zx_AP_t m7 r13 (by omega) (by omega) (by omega)⟩, by omega, zg_U1 w1 r0 hq, by rw [zg_c_ap]; omega⟩
  intro i hi
  obtain ⟨x1, x2, x3, x4, x5⟩ := i3 i hi
  obtain ⟨y1, y2, y3, y4, y5⟩ := r12 i (by omega)
  obtain ⟨z1, z2, z3, z4, z5⟩ := e3 i
  exact ⟨z1.trans (y1.trans x1), z2.trans (y2.trans x2), z3.trans (y3.trans x3), (z4 (by omega)).trans (y4.trans x4), (z5 (by omega)).trans (y5.trans x5)⟩
/-- a child, and what comes then -/
theorem zk_sK2 (I : zk_I h0 g0 T n K LC LM j s m o q b kd p v h g g1 u y LM' j' d' s' m' e st D f h' g') {A : Option (Int32 × zs_H)} {B : Option zs_H} {M1 st' e2 e3 : Nat} {S : List Nat} {FA : Int32 → zs_H → Option (Int32 × zs_H)} {FB : zs_H → Option zs_H} (R : zk_G h0 g0 T n K LC m' M1 o (zk_TT h0 g0 T n K LC LM' (zg_T S D) e2 j' d' s' m' o q m h' g') A B) (hq : ∀ c ∈ S, zg_q kd st c = st') (he : e3 + 1 ≤ e + e2) (bad : ∀ φ w m2 x h2 g2, m' ≤ m2 → m2 ≤ M1 → zq_v x → zq_Z h0 T n K LC φ w h2 → zx_B g0 T n φ w m2 o g2 → zk_G h0 g0 T n K LC M0 M o X (zd_B (f_Tr_hang h2 (nI s) y x) FA) (FB g2)) (good : ∀ x h3 g2 u3 LM3 j3 s3 m3, zq_v x → j' ≤ j3 → zk_I h0 g0 T n K LC LM j s m o q b kd p v h g g1 u3 x LM3 j3 d' s3 m3 e3 st' D f h3 g2 → zk_G h0 g0 T n K LC M0 M o X (FA x h3) (FB g2)) : zk_G h0 g0 T n K LC M0 M o X (zd_B A fun x2 h2 => zd_B (f_Tr_hang h2 (nI s) y x2) FA) (B.bind FB) := by
  obtain ⟨x, h2, g2, rfl, rfl, R⟩ := R
  rw [zo_B]
  rcases R with R | ⟨vx, φ, w, m2, w1, w2, z1, z2⟩
  · have vx := zk_TTv R
    obtain ⟨h3, u3, LM3, j3, s3, m3, e1, e2, I3⟩ := zk_Ic2 I R hq he
    rw [e1]
    exact good x h3 g2 u3 LM3 j3 s3 m3 vx e2 I3
  · exact bad φ w m2 x h2 g2 w1 w2 vx z1 z2
/-- it is done -/
theorem zk_IdT (I : zk_I h0 g0 T n K LC LM j s m o q b kd p v h g g1 u y LM' j' d' s' m' e st D f h' g') {S : List Nat} (ha : zg_A kd st = true) (hv : zg_v kd v) (hS : kd ∈ S) (hf : 1 ≤ f) (h37 : ¬ (kd = 37 ∨ kd = 19)) : zk_TT h0 g0 T n K LC LM (zg_T S (D + 1)) e j d' s m o q b h g (nI s) h' g' := by
  obtain ⟨i1, i2, i3, ⟨c1, c2, c3, c4, c5⟩, ⟨LM1, ⟨p1, p2⟩, m1, m2, m3, m4, m5, m6, m7⟩, ⟨n1, n2, n3, n4, n5, n6, n7, n8⟩, w1, w2⟩ := I
  refine ⟨zt_n kd p v u, LM', j', s', m', s, ⟨zg_n w1 ha hv hS (fun z => h37 (.inr z)), by rw [zg_c_n (fun z => h37 (.inl z))]; omega⟩, i2, i1, n1, n2, n4, n3, n5, rfl, Nat.le_refl s, n2, ?_, i3, ?_⟩
  · exact zt_Cm (fun i hi => by omega) (zt_Cp (by omega) (by omega) c1 c2 c3 c4 c5)
  · exact zx_AP_n' n8 (by omega) n6 m1 p2 m2 m3 m7 m4 m5 m6
theorem zk_IdF (I : zk_I h0 g0 T n K LC LM j s m o q b 19 p v h g g1 u y LM' j' d' s' m' e st D f h' g') {S : List Nat} (ha : zg_A 19 st = true) (hv : zg_v 19 v) (hS : 19 ∈ S) (hf : 1 ≤ f) : zk_TT h0 g0 T n K LC LM (zg_T S (D + 2)) e j d' s m o q b h g (nI s) h' g' := by
  obtain ⟨i1, i2, i3, ⟨c1, c2, c3, c4, c5⟩, ⟨LM1, ⟨p1, p2⟩, m1, m2, m3, m4, m5, m6, m7⟩, ⟨n1, n2, n3, n4, n5, n6, n7, n8⟩, w1, w2⟩ := I
  refine ⟨zt_n 19 p v u, LM', j', s', m', s, ⟨zg_n19 w1 ha hv hS, by rw [zg_c_n (by decide)]; omega⟩, i2, i1, n1, n2, n4, n3, n5, rfl, Nat.le_refl s, n2, ?_, i3, ?_⟩
  · exact zt_Cm (fun i hi => by omega) (zt_Cp (by omega) (by omega) c1 c2 c3 c4 c5)
  · exact zx_AP_n' n8 (by omega) n6 m1 p2 m2 m3 m7 m4 m5 m6
/-- both give a node that has no children yet another value -/
theorem zk_Iset (I : zk_I h0 g0 T n K LC LM j s m o q b kd p v h g g1 .leaf (-1) LM' j' d' s' (m + 1) e st D f h' g') {v2 w2 : Int32} (hv : if zt_nk kd = true then zt_nr LC LM' v2 w2 else w2 = v2) : zk_I h0 g0 T n K LC LM j s m o q b kd p v2 h g (zs_uM g' 74 m w2) .leaf (-1) LM' j' d' s' (m + 1) e st D f (zs_uM h' 16 s v2) (zs_uM g' 74 m w2) := by
  obtain ⟨i1, i2, i3, ⟨c1, c2, c3, c4, c5⟩, ⟨LM1, ⟨p1, p2⟩, m1, m2, m3, m4, m5, m6, m7⟩, ⟨n1, n2, n3, n4, n5, n6, n7, n8⟩, w1, w2'⟩ := I
  have fV : zfr [] [16] [] h' (zs_uM h' 16 s v2) := zfr_M (by decide) zfr_rfl
  have gV : zfr [] [74] [] g' (zs_uM g' 74 m w2) := zfr_M (by decide) zfr_rfl
  have eh : ∀ i, (zs_uM h' 16 s v2).2.1 16 i = if i = s then v2 else (h'.2.1 16) i := fun i => by simp [zu_MM]
  have eg : ∀ i, (zs_uM g' 74 m w2).2.1 74 i = if i = m then w2 else (g'.2.1 74) i := fun i => by simp [zu_MM]
  obtain ⟨a1, a2⟩ := m7 (fun _ => False) .leaf (fun i z => z.elim) ⟨m2, m3⟩
  obtain ⟨k0, k1, k2, k3, k4, k5⟩ := a1
  have hd := zk_dd i1
  have L2 := zk_mf (zk_cf i1 fV (by decide)) (zfr_w gV (by decide) (by decide) (by decide)) (m' := m + 1) hd.2.2.2.1 hd.2.2.2.2.1
  have hN : zt_Nf LC LM' (zs_uM g' 74 m w2) m kd p v2 := by
    refine ⟨k1.trans m4.1, fun z => k2.trans (m4.2.1 z), ?_⟩
    rw [eg, if_pos rfl]; exact hv
  refine ⟨L2, i2, zq_kp_t i3 (fun i hi => ⟨rfl, rfl, by rw [eh, if_neg (by omega)], rfl, rfl⟩) (Nat.le_refl s), ⟨c1, c2, by rw [eh, if_pos rfl], c4, c5⟩, ⟨LM', ⟨i2, List.prefix_refl _⟩, ?_, a2.1, a2.2, hN, k4.trans m5, ?_, zx_AP_0 (List.prefix_refl _) (fun i _ => ⟨rfl, rfl, rfl, rfl, rfl, rfl, rfl⟩) (by omega)⟩, ⟨n1, n2, n3, n4, n5, n6, n7, n8⟩, w1, w2'⟩
  · refine zx_AP_n2 n8 (by omega) n6 m1 p2 ⟨a2.1, a2.2⟩ hN (k4.trans m5) m6 (fun i hi => ?_) k5
    obtain ⟨x1, x2, x3, x4, x5, x6, x7⟩ := k0 i hi
    exact ⟨x1, x2, by rw [eg, if_neg (by omega)]; exact x3, x4, x5, x6, x7⟩
  · obtain ⟨x1, x2, x3, x4, x5, x6, x7⟩ := k0 b n6
    exact x6.trans m6
/-- a child that the class hangs before it reads it -/
theorem zk_Ihc (I : zk_I h0 g0 T n K LC LM j s m o q b kd p v h g g1 u y LM' j' d' s' m' e st D f h' g') {k2 D2 : Nat} {kc km v2 w2 : Int32} (hk : k2 < 128) (hkc : kc = nI k2) (hkm : km = nI (zt_km k2)) (hv : if zt_nk k2 = true then zt_nr LC LM' v2 w2 else w2 = v2) (hs : s' < 32784) (hm : m' < 33500) : ∃ ha h1 g2, f_Tr_add h' kc ((h'.1 19 6)) v2 = some (nI s', ha) ∧ f_Tr_hang ha (nI s) y (nI s') = some (nI s', h1) ∧ f_Mo_add g' (nI m) km ((g'.1 68 7)) w2 = some (nI m', g2) ∧ zk_I h0 g0 T n K LC LM' j' s' m' o q m k2 (nI (zl_at T n j').2.1) v2 h1 g' g2 .leaf (-1) LM' j' d' (s' + 1) (m' + 1) 0 0 D2 1 h1 g2 ∧ (∀ {S : List Nat} {st' e2 e3 : Nat} {h2 g3 : zs_H} {x : Int32}, zk_TT h0 g0 T n K LC LM' (zg_T S D) e2 j' d' s' m' o q m h1 g' (nI s') h2 g3 → (∀ c ∈ S, zg_q kd st c = st') → e3 + 1 ≤ e + e2 → ∃ u3 LM3 j3 s3 m3, j' ≤ j3 ∧ zk_I h0 g0 T n K LC LM j s m o q b kd p v h g g1 u3 (nI s') LM3 j3 d' s3 m3 e3 st' D f h2 g3) := by
  obtain ⟨ha, g2, e1, e2, I0⟩ := zk_I0 I.1 (b := m) (kd := k2) (kc := kc) (km := km) (D := D2) (v := v2) (w := w2) hs hm (zk_Ib I).2.2.2.2.1 hk hkc hkm hv
  obtain ⟨i1, i2, i3, ⟨c1, c2, c3, c4, c5⟩, ⟨LM1, ⟨p1, p2⟩, m1, m2, m3, m4, m5, m6, m7⟩, ⟨n1, n2, n3, n4, n5, n6, n7, n8⟩, w1, w2'⟩ := I
  obtain ⟨a1, a2, kA, ⟨b1, b2, b3, b4, b5⟩, rest⟩ := I0
  obtain ⟨k1, k2', k3, k4, k5⟩ := kA s n2
  have c5' : zt_C ha u (fun i => s < i ∧ i < s') ((ha.2.1 17) s) y := by rw [k4]; exact zt_Ck kA (fun i hi => hi.2) c5
  have cn : zt_C ha (zt_n k2 (nI (zl_at T n j').2.1) v2 .leaf) (fun i => i = s') (nI s') (nI s') := zt_Cm (P := fun i => i = s' ∨ False) (fun i hi => hi.elim (fun z => z) (fun z => z.elim)) (zt_Cp (t := .leaf) (y := -1) (P := fun _ => False) (by omega) (fun z => z) b1 b2 b3 b4 b5)
  obtain ⟨h1, e3, t3, e4, f4⟩ := zq_hangC (ip := s) (a := s') (by omega) (fun i hi => by omega) c5' cn (fun i hi z => by omega) (by omega) (by omega) (by omega)
  refine ⟨ha, h1, g2, e1, e3, e2, ⟨zk_cf a1 f4 (by decide), a2, zq_kp_r, ⟨(e4 s').1.trans b1, (e4 s').2.1.trans b2, (e4 s').2.2.1.trans b3, ((e4 s').2.2.2.2 (by omega)).trans b4, ((e4 s').2.2.2.1 (by omega)).trans b5.1, rfl⟩, rest⟩, ?_⟩
  intro S st' e2 e3' h2 g3 x R hq he
  obtain ⟨t, LM3, j3, s3, m3', a, ⟨r0, r0c⟩, r1, r2, r3, r4, r5, r6, r7, r8, r9, r10, r11, r12, r13⟩ := R
  have hs3 : s3 ≤ 32784 := r2.2.2.2.1.2.2.2.2.2.2
  have ea : a = s' := (nI_eq (by omega) (by omega)).mp r8.symm
  subst ea
  have r0' := r0
  obtain ⟨kt, pt, vt, l, et, _, _, _⟩ := r0'
  refine ⟨zt_ap u t, LM3, j3, s3, m3', r3, r2, i2.trans r1, ?_, ?_, ⟨LM1, ⟨p1, p2.trans r1⟩, m1, m2, m3, m4, m5, m6, zx_AP_t m7 r13 (by omega) (by omega) (by omega)⟩, by omega, zg_U1 w1 r0 hq, by rw [zg_c_ap]; omega⟩
  · intro i hi
    obtain ⟨x1, x2, x3, x4, x5⟩ := i3 i hi
    obtain ⟨y1, y2, y3, y4, y5⟩ := kA i (by omega)
    obtain ⟨z1, z2, z3, z4, z5⟩ := e4 i
    obtain ⟨q1, q2, q3, q4, q5⟩ := r12 i (by omega)
    exact ⟨q1.trans (z1.trans (y1.trans x1)), q2.trans (z2.trans (y2.trans x2)), q3.trans (z3.trans (y3.trans x3)), q4.trans ((z4 (by omega)).trans (y4.trans x4)), q5.trans ((z5 (by omega)).trans (y5.trans x5))⟩
  · obtain ⟨z1, z2, z3, z4, z5⟩ := e4 s
    obtain ⟨q1, q2, q3, q4, q5⟩ := r12 s n2
    refine ⟨q1.trans (z1.trans (k1.trans c1)), q2.trans (z2.trans (k2'.trans c2)), q3.trans (z3.trans (k3.trans c3)), q5.trans ((z5 (by omega)).trans (k5.trans c4)), ?_⟩
    rw [q4, et]
    rw [et] at r11
    obtain ⟨i, P1, P2, y1, y2, x1, x2, x3, x4, x5, x6, x7, x8, x9⟩ := r11
    have ei : i = a := (nI_eq (by omega) (by omega)).mp x3.symm
    subst ei
    have hnx : (h2.2.1 18) i = -1 := x8.1
    have hn1 : (h1.2.1 18) i = -1 := ((e4 i).2.2.2.2 (by omega)).trans b4
    have r := zt_sub2 (N := zt_NC h1) (A := (h1.2.1 17)) (B := (h1.2.1 18)) (N' := zt_NC h2) (A' := (h2.2.1 17)) (B' := (h2.2.1 18)) (Q := P1) (up := 0) (by omega) x4 x7 (fun z => (x5 i z).2.1 rfl) u _ _ (fun w hw z => by have := (x5 w z).1; have := (x5 w z).2.1; omega) t3 (fun w hw => ?_)
    · exact zt_Cm (fun w hw => by rcases hw with (z | z) | z; omega; omega; (have := (x5 w z).1; omega)) r
    · by_cases ew : w = i
      · subst ew
        exact ⟨fun z => absurd rfl z, hnx.trans hn1.symm⟩
      · obtain ⟨q1, q2, q3, q4, q5⟩ := r12 w (by omega)
        refine ⟨fun _ => ⟨fun kd k up z q => ?_, q4⟩, q5⟩
        unfold zt_NC at q ⊢
        rw [q1, q2, q3]; exact q
end ZV2
end
section
/-! Both readers in step: bodies, IF. -/
theorem zy_ps (d : Nat) : f_Ps_statements (d + 1) = g_Ps_statements (f_Ps_statement d) := rfl
theorem zy_pt (d : Nat) : f_Ps_statement (d + 1) = g_Ps_statement (f_Ps_caseStatement d) (f_Ps_forStatement d) (f_Ps_ifStatement d) := rfl
theorem zy_pi (d : Nat) : f_Ps_ifStatement (d + 1) = g_Ps_ifStatement (f_Ps_statements d) := rfl
theorem zy_pc (d : Nat) : f_Ps_caseStatement (d + 1) = g_Ps_caseStatement (f_Ps_statements d) := rfl
theorem zy_pf (d : Nat) : f_Ps_forStatement (d + 1) = g_Ps_forStatement (f_Ps_statements d) := rfl
theorem zy_xs (d : Nat) : f_Mo_statements (d + 1) = g_Mo_statements (f_Mo_opened d) := by
  delta f_Mo_statements f_Mo_opened zy_Mo_body
  rw [zd_s]
theorem zy_xo (d : Nat) : f_Mo_opened (d + 1) = g_Mo_opened (f_Mo_cases d) (f_Mo_choose d) (f_Mo_loop d) := rfl
theorem zy_xh (d : Nat) : f_Mo_choose (d + 1) = g_Mo_choose (f_Mo_body d) := rfl
theorem zy_xc (d : Nat) : f_Mo_cases (d + 1) = g_Mo_cases (f_Mo_body d) := rfl
theorem zy_xl (d : Nat) : f_Mo_loop (d + 1) = g_Mo_loop (f_Mo_body d) := rfl
theorem zy_xb (d : Nat) : f_Mo_body (d + 1) = g_Mo_body (f_Mo_statements d) := rfl
abbrev zg_Sx : List Nat := [12, 13, 15, 16, 19, 20, 21]
section ZWz
variable {h0 g0 h g : zs_H} {T : Nat → Int32} {n K φ w m O : Nat} {LC : List (List Int32)}
theorem zz_isStatement (H : zq_Z h0 T n K LC φ w h) : f_Ps_isStatement h = 0 := by
  unfold f_Ps_isStatement
  rw [if_neg (zq_ne H (by decide) (by decide)), if_neg (zq_ne H (by decide) (by decide)), if_neg (zq_ne H (by decide) (by decide)), if_neg (zq_ne H (by decide) (by decide)), if_neg (zq_ne H (by decide) (by decide)), if_neg (zq_ne H (by decide) (by decide)), if_neg (zq_ne H (by decide) (by decide))]
theorem zz_isConstant (H : zq_Z h0 T n K LC φ w h) : f_Ps_isConstant h = 0 := by
  unfold f_Ps_isConstant
  rw [if_neg (zq_ne H (by decide) (by decide)), if_neg (zq_ne H (by decide) (by decide)), if_neg (zq_ne H (by decide) (by decide)), if_neg (zq_ne H (by decide) (by decide))]
theorem zz_stL {r : zs_H → Option (Int32 × zs_H)} {N : Nat} {x1 x2 x3 : Int32} (H : zq_Z h0 T n K LC φ w h) (h1 : zq_v x1) : zw (f_Ps_statements_L19 r (N + 1) h x1 x2 x3) (fun p => zq_v p.1 ∧ zq_Z h0 T n K LC φ w p.2) := by
  show zw (f_Ps_statements_19 r (f_Ps_statements_L19 r N) h x1 x2 x3) _
  unfold f_Ps_statements_19
  rw [zz_isStatement H, if_pos (show (0 : Int32) = 0 from rfl)]
  split <;> exact zw_some.mpr ⟨h1, H⟩
theorem zz_statements {d : Nat} (H : zq_Z h0 T n K LC φ w h) : zw (f_Ps_statements (d + 1) h) (fun p => zq_v p.1 ∧ zq_Z h0 T n K LC φ w p.2) := by
  rw [zy_ps]
  unfold g_Ps_statements
  rw [show zF = 18446744073709551615 + 1 from rfl, zw_B]
  refine zw_mono (zz_add H) ?_
  rintro _ ⟨a, b⟩
  exact zz_stL b a
theorem zxb_stL {r : zs_H → Int32 → Option zs_H} {N : Nat} {x : Int32} (H : zx_B g0 T n φ w m O g) : f_Mo_statements_L0 r (N + 1) g x = some g := by
  show f_Mo_statements_0 r (f_Mo_statements_L0 r N) g x = _
  unfold f_Mo_statements_0
  rw [if_neg (zx_ne H)]
theorem zxb_body {r : zs_H → Int32 → Option zs_H} {x1 x2 : Int32} (H : zx_B g0 T n φ w m O g) : zw (g_Mo_body r g x1 x2) (zx_B g0 T n φ w m O) := by
  unfold g_Mo_body
  rw [zx_want H, Option.bind_some, if_neg (zx_ne H), zw_some]
  exact H
theorem zxw_expr4 {x : Int32} (H : zx_B g0 T n φ w m O g) : zw (f_Mo_expression 400 g x) (zx_B g0 T n φ w m O) := zxw_expression (d := 399) H
end ZWz
section ZWs
variable (h0 g0 : zs_H) (T : Nat → Int32) (n K : Nat) (LC : List (List Int32))
def zk_SS (d0 : Nat) : Prop := ∀ {h g : zs_H} {LM : List (List Int32)} {j d s m D D' b : Nat} {p : Int32}, zk_L h0 g0 T n K LC h g LM j d s m 0 0 → d0 ≤ d → 3 * (60 - d) + 4 ≤ D → 4 * (60 - d) + 5 ≤ D' → s ≤ 2 * j + 9 → m ≤ 2 * j + 9 → b < m → zk_G h0 g0 T n K LC m 20950 0 (zk_TT h0 g0 T n K LC LM (zg_T [11] (3 * (60 - d) + 5)) 0 j d s m 0 0 b h g) (f_Ps_statements D h) (zd_B (f_Mo_add g (nI b) 11 p 0) fun v5 h6 => (f_Mo_statements D' h6 v5).bind fun h8 => some h8)
end ZWs
section ZWw
variable {h0 g0 h g g1 h' g' : zs_H} {T : Nat → Int32} {n K : Nat} {LC LM LM' : List (List Int32)} {j d s m o q b kd j' d' s' m' e st D f M0 M : Nat} {p v y : Int32} {u : zt_T} {X : Int32 → zs_H → zs_H → Prop}
theorem zk_SSm {a b : Nat} (w : a ≤ b) (O : zk_SS h0 g0 T n K LC a) : zk_SS h0 g0 T n K LC b := by
  intro h g LM j d s m D D' b' p H h1
  exact O H (by omega)
theorem zk_wexprD {b D' : Nat} (H : zk_L h0 g0 T n K LC h g LM j d s m 0 0) (hD : 245 ≤ D') (h7 : s ≤ 2 * j + 12) (h8 : m ≤ 2 * j + 12) (hb : b < m) : zk_G h0 g0 T n K LC m 20900 0 (zk_TT h0 g0 T n K LC LM (zg_T zg_E (2 * (60 - d) + 2)) 1 j d s m 0 0 b h g) (f_Ps_wholeExpression h) (f_Mo_expression D' g (nI b)) := by
  obtain ⟨x1, x2, x3, x4, x5, x6, x7⟩ := zk_dd H
  obtain ⟨x, h', g', e1, e2, R⟩ := zk_expr0 (D := 400) (D' := D') (zk_allE 61 0 (by omega)).2 H (Nat.zero_le _) (Nat.zero_le _) (Nat.zero_le _) (by omega) (by omega) h7 h8 hb
  unfold f_Ps_wholeExpression
  rw [e1, zo_B, e2]
  refine ⟨x, _, g', rfl, rfl, ?_⟩
  rcases R with ⟨t, LM', j', d', s', m', a, ⟨r0, r0c⟩, r1, ⟨r2, r2a, r2b⟩, r3, ⟨r4, r5, r6, r7, r8⟩, ⟨r9, r9a, r9b⟩, r10, r11, r12, r13⟩ | ⟨vx, φ, w, m', w1, w2, z1, z2⟩
  · refine Or.inl (zk_TTof ⟨t, LM', j', s', m', a, ⟨zg_Tm r0 (fun _ z => z) (by omega), by omega⟩, r1, r3 _ d (by rw [if_pos rfl]) (zfr_F (by decide) zfr_rfl) (by rw [← x1]; rfl), r4, r5, r6, r7, r8, r9, r9a, r9b, r10, r11, r12⟩)
  · exact Or.inr ⟨vx, φ, w, m', w1, w2, zz_open z1, z2⟩
/-- a body begins -/
theorem zk_I0b (H : zk_L h0 g0 T n K LC h g LM j d s m o q) {b D : Nat} {p : Int32} (hs : s < 32784) (hm : m < 33500) (hb : b < m) : ∃ h1 g1, f_Tr_add h 11 ((h.1 19 6)) 0 = some (nI s, h1) ∧ f_Mo_add g (nI b) 11 p 0 = some (nI m, g1) ∧ zk_I h0 g0 T n K LC LM j s m o q b 11 (nI (zl_at T n j).2.1) 0 h g g1 .leaf (-1) LM j d (s + 1) (m + 1) 0 0 D 1 h1 g1 := by
  obtain ⟨h1, e1, L1, qA⟩ := zk_cadd H (kd := 11) (kv := 11) (v := 0) hs (by decide) rfl
  obtain ⟨g1, e2, L2, qM, q1, q2, q3, q4, q5, q6, q7⟩ := zk_madd L1 (b := b) (kd := 11) (kv := 11) (p := p) (v := 0) (v' := 0) hm hb rfl (by rw [if_neg (by decide)])
  have hN : zt_Nf LC LM g1 m 11 (nI (zl_at T n j).2.1) 0 := ⟨q1.1, fun z => absurd rfl z, q1.2.2⟩
  refine ⟨h1, g1, e1, e2, L2, List.prefix_refl _, zq_kp_A qA, ?_, ⟨LM, ⟨List.prefix_refl _, List.prefix_refl _⟩, zx_AP_n2 hm (Nat.le_refl _) hb qM (List.prefix_refl _) ⟨q3, q4⟩ hN q2 q6 (fun i _ => ⟨rfl, rfl, rfl, rfl, rfl, rfl, rfl⟩) rfl, q3, q4, hN, q2, q6, zx_AP_0 (List.prefix_refl _) (fun i _ => ⟨rfl, rfl, rfl, rfl, rfl, rfl, rfl⟩) (by omega)⟩, by omega, zg_U0, by show 2 * 0 + 1 ≤ _; omega⟩
  obtain ⟨a1, a2, a3, a4, a5, a6, a7⟩ := qA
  exact ⟨by rw [a2, if_pos rfl], by rw [a3, if_pos rfl], by rw [a4, if_pos rfl], by rw [a6, if_pos rfl], by rw [a5, if_pos rfl], rfl⟩
/-- both give a node that has no children yet another value -/
theorem zk_Iset2 (I : zk_I h0 g0 T n K LC LM j s m o q b kd p v h g g1 .leaf (-1) LM' j' d' s' (m + 1) e st D f h' g') {h2 g2 : zs_H} {LM2 : List (List Int32)} {j2 d2 : Nat} {v2 w2 : Int32} (L2 : zk_L h0 g0 T n K LC h2 g2 LM2 j2 d2 s' (m + 1) o q) (hj : j' ≤ j2) (hp : LM' <+: LM2) (hk : zq_kp s h' h2) (hn : (h2.2.1 13) s = (h'.2.1 13) s ∧ (h2.2.1 15) s = (h'.2.1 15) s ∧ (h2.2.1 16) s = v2 ∧ (h2.2.1 18) s = (h'.2.1 18) s ∧ (h2.2.1 17) s = (h'.2.1 17) s) (ka : zx_ka (m + 1) g' g2) (hv : if zt_nk kd = true then zt_nr LC LM2 v2 w2 else w2 = v2) : zk_I h0 g0 T n K LC LM j s m o q b kd p v2 h g (zs_uM g2 74 m w2) .leaf (-1) LM2 j2 d2 s' (m + 1) (e + 2 * (j2 - j')) st D (f + (j2 - j')) h2 (zs_uM g2 74 m w2) := by
  obtain ⟨i1, i2, i3, ⟨c1, c2, c3, c4, c5⟩, ⟨LM1, ⟨p1, p2⟩, m1, m2, m3, m4, m5, m6, m7⟩, ⟨n1, n2, n3, n4, n5, n6, n7, n8⟩, w1, w2'⟩ := I
  have gV : zfr [] [74] [] g2 (zs_uM g2 74 m w2) := zfr_M (by decide) zfr_rfl
  have eg : ∀ i, (zs_uM g2 74 m w2).2.1 74 i = if i = m then w2 else (g2.2.1 74) i := fun i => by simp [zu_MM]
  obtain ⟨a1, a2⟩ := m7 (fun _ => False) .leaf (fun i z => z.elim) ⟨m2, m3⟩
  obtain ⟨k0, k1, k2, k3, k4, k5⟩ := a1
  obtain ⟨t1, t2, t3, t4, t5, t6, t7⟩ := ka m (by omega)
  have hd := zk_dd L2
  have L3 := zk_mf L2 (zfr_w gV (by decide) (by decide) (by decide)) (m' := m + 1) hd.2.2.2.1 hd.2.2.2.2.1
  have hN : zt_Nf LC LM2 (zs_uM g2 74 m w2) m kd p v2 := by
    refine ⟨t1.trans (k1.trans m4.1), fun z => t2.trans (k2.trans (m4.2.1 z)), ?_⟩
    rw [eg, if_pos rfl]; exact hv
  refine ⟨L3, i2.trans hp, zq_kp_t i3 hk (Nat.le_refl s), ⟨hn.1.trans c1, hn.2.1.trans c2, hn.2.2.1, hn.2.2.2.1.trans c4, hn.2.2.2.2.trans c5.1, rfl⟩, ⟨LM2, ⟨i2.trans hp, List.prefix_refl _⟩, ?_, t5.trans a2.1, t6.trans a2.2, hN, t4.trans (k4.trans m5), ?_, zx_AP_0 (List.prefix_refl _) (fun i _ => ⟨rfl, rfl, rfl, rfl, rfl, rfl, rfl⟩) (by omega)⟩, by omega, w1, by omega⟩
  · refine zx_AP_n2 n8 (by omega) n6 m1 (p2.trans hp) ⟨t5.trans a2.1, t6.trans a2.2⟩ hN (t4.trans (k4.trans m5)) m6 (fun i hi => ?_) (t7.trans k5)
    obtain ⟨x1, x2, x3, x4, x5, x6, x7⟩ := k0 i hi
    obtain ⟨y1, y2, y3, y4, y5, y6, y7⟩ := ka i (by omega)
    exact ⟨y1.trans x1, y2.trans x2, by rw [eg, if_neg (by omega)]; exact y3.trans x3, y4.trans x4, y5.trans x5, y6.trans x6, y7.trans x7⟩
  · obtain ⟨x1, x2, x3, x4, x5, x6, x7⟩ := k0 b n6
    obtain ⟨y1, y2, y3, y4, y5, y6, y7⟩ := ka b (by omega)
    exact y6.trans (x6.trans m6)
/-- a word or sign, then a body -/
theorem zk_sBody {Dc Dm st' : Nat} (SS : zk_SS h0 g0 T n K LC d') (I : zk_I h0 g0 T n K LC LM j s m 0 0 b kd p v h g g1 u y LM' j' d' s' m' e st D f h' g') {x yy : Int32} {FA : Int32 → zs_H → Option (Int32 × zs_H)} {FB : zs_H → Option zs_H} (hxy : ¬ yy = 0 ↔ (h'.1 19 5) = x) (hx6 : ¬ x = 6) (hDc : 3 * (60 - d') + 4 ≤ Dc) (hDm : 4 * (60 - d') + 5 ≤ Dm) (hs : s ≤ 2 * j + 10) (hm : m ≤ 2 * j + 10) (hq : zg_q kd st 11 = st') (hD : 3 * (60 - d') + 5 ≤ D) (bad : ∀ φ w m2 x h2 g2, m' ≤ m2 → m2 ≤ 20950 → zq_v x → zq_Z h0 T n K LC φ w h2 → zx_B g0 T n φ w m2 0 g2 → zk_G h0 g0 T n K LC M0 M 0 X (zd_B (f_Tr_hang h2 (nI s) y x) FA) (FB g2)) (good : ∀ x h3 g2 u3 LM3 j3 s3 m3, zq_v x → j' < j3 → zk_I h0 g0 T n K LC LM j s m 0 0 b kd p v h g g1 u3 x LM3 j3 d' s3 m3 (e + 1) st' D (f + 1) h3 g2 → zk_G h0 g0 T n K LC M0 M 0 X (FA x h3) (FB g2)) : zk_G h0 g0 T n K LC M0 M 0 X ((f_Ps_take h' x).bind fun h2 => zd_B (f_Ps_statements Dc h2) fun x2 h3 => zd_B (f_Tr_hang h3 (nI s) y x2) FA) ((g_Mo_body (f_Mo_statements Dm) g' (nI m) yy).bind FB) := by
  have b1 := zk_Ib I
  obtain ⟨Dc, rfl⟩ : ∃ z, Dc = z + 1 := ⟨Dc - 1, by omega⟩
  unfold g_Mo_body
  obtain ⟨h2, g2, e1, e2, R⟩ := zk_want I.1 hxy hx6
  rw [e1, e2, Option.bind_some, Option.bind_some]
  have bad2 : ∀ φ w, zq_Z h0 T n K LC φ w h2 → zx_B g0 T n φ w m' 0 g2 → zk_G h0 g0 T n K LC M0 M 0 X (zd_B (f_Ps_statements (Dc + 1) h2) fun x2 h3 => zd_B (f_Tr_hang h3 (nI s) y x2) FA) ((if (g2.1 68 10) = 0 then (zd_B (f_Mo_add g2 (nI m) 11 ((g'.1 68 7)) 0) fun v5 h6 => ((f_Mo_statements Dm h6 v5).bind fun h8 => (some h8))) else (some g2)).bind FB) := by
    intro φ w z1 z2
    rw [if_neg (zx_ne z2), Option.bind_some]
    obtain ⟨⟨x2, h3⟩, e3, v3, z3⟩ := zz_statements (d := Dc) z1
    rw [e3, zo_B]
    exact bad φ w m' x2 h3 g2 (Nat.le_refl _) (by omega) v3 z3 z2
  rcases R with ⟨φ, w, z1, z2⟩ | ⟨_, ⟨f1, f2, LM2, hp, L2⟩ | ⟨φ, w, z1, z2⟩⟩
  · exact bad2 φ w z1 z2
  · have I2 := zk_It I f1 f2 hp L2
    rw [if_pos L2.2.2.2.2.2.2.1]
    refine zk_sK2 (e2 := 0) (e3 := e + 1) (S := [11]) (st' := st') I2 (zk_GM (SS (p := (g'.1 68 7)) L2 (Nat.le_refl _) hDc hDm (by omega) (by omega) (by omega)) (Nat.le_refl _) (Nat.le_refl 20950) (fun x h g R => zk_TTm R (Nat.le_refl _) (fun t W => zg_Tm W (fun _ z => z) hD))) (fun c hc => by rw [List.mem_singleton.mp hc]; exact hq) (by omega) bad (fun x h3 g3 u3 LM3 j3 s3 m3 vx hj I3 => good x h3 g3 u3 LM3 j3 s3 m3 vx (by omega) I3)
  · exact bad2 φ w z1 z2
/-- IF ends -/
theorem zk_ifE {Dc Dm : Nat} (SS : zk_SS h0 g0 T n K LC (d + 1)) (I : zk_I h0 g0 T n K LC LM j s m 0 0 b 15 p 0 h g g1 u y LM' j' (d + 1) s' m' e 2 (3 * (60 - d) + 3) f h' g') (vy : zq_v y) (hd : d < 60) (he : 1 ≤ e) (hf : 1 ≤ f) (hDc : 3 * (60 - d) + 1 ≤ Dc) (hDm : 4 * (60 - d) + 1 ≤ Dm) (hs : s ≤ 2 * j + 10) (hm : m ≤ 2 * j + 10) : zk_G h0 g0 T n K LC m 20950 0 (zk_T h0 g0 T n K LC LM (zg_T zg_Sx (3 * (60 - d) + 4)) j d s m 0 0 b h g) (f_Ps_ifStatement_94 (f_Ps_statements Dc) h' (nI s) y) ((f_Mo_choose_56 (g_Mo_body (f_Mo_statements Dm)) g' (nI m)).bind fun h10 => f_Mo_opened_42 h10) := by
  have v0 := zk_Iv I
  have b1 := zk_Ib I
  unfold f_Ps_ifStatement_94 f_Mo_choose_56 f_Mo_choose_71 f_Mo_opened_42 f_Ps_ifStatement_125
  have fin : ∀ {u2 : zt_T} {y2 : Int32} {LM2 : List (List Int32)} {j2 s2 m2 e2 st2 f2 : Nat} {h2 g2 : zs_H}, zk_I h0 g0 T n K LC LM j s m 0 0 b 15 p 0 h g g1 u2 y2 LM2 j2 (d + 1) s2 m2 e2 st2 (3 * (60 - d) + 3) f2 h2 g2 → (st2 = 2 ∨ st2 = 3) → 1 ≤ e2 → 1 ≤ f2 → zk_G h0 g0 T n K LC m 20950 0 (zk_T h0 g0 T n K LC LM (zg_T zg_Sx (3 * (60 - d) + 4)) j d s m 0 0 b h g) ((f_Ps_take h2 148).bind fun h2 => (some (nI s, (zs_uF h2 19 7 ((h2.1 19 7) - 1))))) ((f_Mo_wantWord g2 20).bind fun h2 => some (zs_uF h2 68 12 ((h2.1 68 12) - 1))) := by
    intro u2 y2 LM2 j2 s2 m2 e2 st2 f2 h2 g2 I2 hst he2 hf2
    have b2 := zk_Ib I2
    refine zk_sA I2 (zk_wantW I2.1 (c := 20) (by decide)) ?_ fun h3 g3 LM3 I3 => ?_
    · intro φ w hz gz z1 z2
      refine zk_Gf (φ := φ) (w := w) ?_ ?_
      · repeat' first
          | with_reducible exact zw_some.mpr ⟨by assumption, by assumption⟩
          | with_reducible exact zw_some.mpr ⟨by assumption, zz_open (by assumption)⟩
          | (rw [zw_B]; with_reducible refine zw_mono (zz_expression (by assumption)) ?_; rintro _ ⟨_, _⟩)
          | (rw [zw_B]; with_reducible refine zw_mono (zz_operand (by assumption)) ?_; rintro _ ⟨_, _⟩)
          | (rw [zw_B]; with_reducible refine zw_mono (zz_statements (by assumption)) ?_; rintro _ ⟨_, _⟩)
          | (rw [zw_bind]; with_reducible refine zw_mono (zz_take (by assumption)) ?_; intro _ _)
          | (rw [zw_B]; with_reducible refine zw_mono (zz_constant (by assumption)) ?_; rintro _ ⟨_, _⟩)
          | (rw [zw_B]; with_reducible refine zw_mono (zz_simpleType (by assumption)) ?_; rintro _ ⟨_, _⟩)
          | (rw [zw_B]; with_reducible refine zw_mono (zz_type (by assumption)) ?_; rintro _ ⟨_, _⟩)
          | (rw [zw_B]; with_reducible refine zw_mono (zz_whole (by assumption)) ?_; rintro _ ⟨_, _⟩)
          | (rw [zw_B]; with_reducible refine zw_mono (zz_add (by assumption)) ?_; rintro _ ⟨_, _⟩)
          | (rw [zw_B]; with_reducible refine zw_mono (zz_hang (by assumption) (by assumption) (by first | assumption | exact zq_vl_n | exact zq_vl_v (by assumption)) (by assumption)) ?_; rintro _ ⟨_, _⟩)
          | rw [if_pos (zq_at (by assumption))]
          | rw [zz_isCell (by assumption), if_pos rfl]
          | rw [if_neg (zq_ne (by assumption) (by decide) (by decide))]
          | rw [Option.bind_assoc]
          | rw [Option.bind_some]
      · repeat' first
          | (with_reducible refine zw_some.mpr ⟨_, ⟨?_, ?_⟩, by assumption⟩ <;> omega)
          | (with_reducible refine zw_some.mpr ⟨_, ⟨?_, ?_⟩, zx_Om (by assumption) ?_⟩ <;> omega)
          | (with_reducible refine zw_some.mpr ⟨_, ⟨?_, ?_⟩, zx_Om (zx_uF (by assumption) (Or.inl rfl)) ?_⟩ <;> omega)
          | (with_reducible refine zw_mono (zxb_142 (by assumption) (by omega)) ?_; intro _ z; exact ⟨_, by omega, z⟩)
          | (with_reducible refine zw_mono (zxb_142c (by assumption) (by omega)) ?_; intro _ z; exact ⟨_, by omega, z⟩)
          | (rw [zw_bind]; with_reducible refine zw_mono (zxb_body (by assumption)) ?_; intro _ _)
          | (rw [zw_bind]; with_reducible refine zw_mono (zxw_expr4 (by assumption)) ?_; intro _ _)
          | (rw [zw_bind]; with_reducible refine zw_mono (zxw_next2 (by assumption)) ?_; intro _ _)
          | (rw [zw_bind]; with_reducible refine zw_mono (zx_open (by assumption)) ?_; intro _ _)
          | (rw [zw_bind]; with_reducible refine zw_mono (zxw_expression (by assumption)) ?_; intro _ _)
          | (rw [zw_bind]; with_reducible refine zw_mono (zxw_operand (by assumption)) ?_; intro _ _)
          | (rw [zw_bind]; with_reducible refine zw_mono (zxb_keep (by assumption) (by omega)) ?_; intro _ _)
          | (rw [zw_B]; with_reducible refine zw_mono (zxb_node (by assumption) (by omega) rfl) ?_; rintro _ ⟨e1, _⟩; try rw [e1])
          | (rw [zw_bind]; with_reducible refine zw_mono (zxw_wantSign (by assumption)) ?_; intro _ _)
          | (rw [zw_bind]; with_reducible refine zw_mono (zxw_wantWord (by assumption)) ?_; intro _ _)
          | (rw [zw_bind]; with_reducible refine zw_mono (zxw_want (by assumption)) ?_; intro _ _)
          | (rw [zw_bind]; with_reducible refine zw_mono (zx_next (by assumption)) ?_; intro _ _)
          | (rw [zw_bind]; with_reducible refine zw_mono (zxb_constant (by assumption) (by omega) (by omega)) ?_; intro _ _)
          | (rw [zw_bind]; with_reducible refine zw_mono (zxw_simple (by assumption) (by omega) (by omega)) ?_; rintro _ ⟨_, _, _, _⟩)
          | (rw [zw_B]; with_reducible refine zw_mono (zxb_add (by assumption) (by omega) rfl (by omega)) ?_; rintro _ ⟨e1, _⟩; try rw [e1])
          | rw [zx_isSign (by assumption), if_pos rfl]
          | rw [zx_isWord (by assumption), if_pos rfl]
          | rw [if_neg (zx_ne (by assumption))]
          | rw [if_neg (zx_pos (by assumption))]
          | rw [if_pos (show (0 : Int32) ≤ 0 by decide)]
          | rw [Option.bind_assoc]
          | rw [Option.bind_some]
    have I4 := zk_Io I3 (d2 := d) (zfr_F (by decide) zfr_rfl) (zfr_F (by decide) zfr_rfl) (zk_close I3.1)
    exact ⟨nI s, _, _, rfl, rfl, Or.inl (zk_Tof (zk_IdT (S := zg_Sx) I4 (by rcases hst with z | z <;> subst z <;> rfl) (Or.inl rfl) (by decide) (by omega) (by decide)) (by omega))⟩
  rw [show f_Mo_isWord g' 19 = if (h'.1 19 5) = nI 147 then 1 else 0 from zk_word I.1 (c := 19) (by decide)]
  by_cases c : (h'.1 19 5) = 147
  · rw [if_pos c, if_pos (show (h'.1 19 5) = nI 147 from c), if_neg (show ¬ (1 : Int32) = 0 by decide), Option.bind_assoc]
    refine zk_sBody (st' := 3) SS I ⟨fun _ => c, fun _ => by decide⟩ (by decide) (by omega) (by omega) hs hm (by decide) (by omega) ?_ fun x h3 g3 u3 LM3 j3 s3 m3 vx hj I3 => ?_
    · intro φ w mz xz hz gz w1 w2 vz z1 z2
      refine zk_Gf (φ := φ) (w := w) ?_ ?_
      · repeat' first
          | with_reducible exact zw_some.mpr ⟨by assumption, by assumption⟩
          | with_reducible exact zw_some.mpr ⟨by assumption, zz_open (by assumption)⟩
          | (rw [zw_B]; with_reducible refine zw_mono (zz_expression (by assumption)) ?_; rintro _ ⟨_, _⟩)
          | (rw [zw_B]; with_reducible refine zw_mono (zz_operand (by assumption)) ?_; rintro _ ⟨_, _⟩)
          | (rw [zw_B]; with_reducible refine zw_mono (zz_statements (by assumption)) ?_; rintro _ ⟨_, _⟩)
          | (rw [zw_bind]; with_reducible refine zw_mono (zz_take (by assumption)) ?_; intro _ _)
          | (rw [zw_B]; with_reducible refine zw_mono (zz_constant (by assumption)) ?_; rintro _ ⟨_, _⟩)
          | (rw [zw_B]; with_reducible refine zw_mono (zz_simpleType (by assumption)) ?_; rintro _ ⟨_, _⟩)
          | (rw [zw_B]; with_reducible refine zw_mono (zz_type (by assumption)) ?_; rintro _ ⟨_, _⟩)
          | (rw [zw_B]; with_reducible refine zw_mono (zz_whole (by assumption)) ?_; rintro _ ⟨_, _⟩)
          | (rw [zw_B]; with_reducible refine zw_mono (zz_add (by assumption)) ?_; rintro _ ⟨_, _⟩)
          | (rw [zw_B]; with_reducible refine zw_mono (zz_hang (by assumption) (by assumption) (by first | assumption | exact zq_vl_n | exact zq_vl_v (by assumption)) (by assumption)) ?_; rintro _ ⟨_, _⟩)
          | rw [if_pos (zq_at (by assumption))]
          | rw [zz_isCell (by assumption), if_pos rfl]
          | rw [if_neg (zq_ne (by assumption) (by decide) (by decide))]
          | rw [Option.bind_assoc]
          | rw [Option.bind_some]
      · repeat' first
          | (with_reducible refine zw_some.mpr ⟨_, ⟨?_, ?_⟩, by assumption⟩ <;> omega)
          | (with_reducible refine zw_some.mpr ⟨_, ⟨?_, ?_⟩, zx_Om (by assumption) ?_⟩ <;> omega)
          | (with_reducible refine zw_some.mpr ⟨_, ⟨?_, ?_⟩, zx_Om (zx_uF (by assumption) (Or.inl rfl)) ?_⟩ <;> omega)
          | (with_reducible refine zw_mono (zxb_142 (by assumption) (by omega)) ?_; intro _ z; exact ⟨_, by omega, z⟩)
          | (with_reducible refine zw_mono (zxb_142c (by assumption) (by omega)) ?_; intro _ z; exact ⟨_, by omega, z⟩)
          | (rw [zw_bind]; with_reducible refine zw_mono (zxb_body (by assumption)) ?_; intro _ _)
          | (rw [zw_bind]; with_reducible refine zw_mono (zxw_expr4 (by assumption)) ?_; intro _ _)
          | (rw [zw_bind]; with_reducible refine zw_mono (zxw_next2 (by assumption)) ?_; intro _ _)
          | (rw [zw_bind]; with_reducible refine zw_mono (zx_open (by assumption)) ?_; intro _ _)
          | (rw [zw_bind]; with_reducible refine zw_mono (zxw_expression (by assumption)) ?_; intro _ _)
          | (rw [zw_bind]; with_reducible refine zw_mono (zxw_operand (by assumption)) ?_; intro _ _)
          | (rw [zw_bind]; with_reducible refine zw_mono (zxb_keep (by assumption) (by omega)) ?_; intro _ _)
          | (rw [zw_B]; with_reducible refine zw_mono (zxb_node (by assumption) (by omega) rfl) ?_; rintro _ ⟨e1, _⟩; try rw [e1])
          | (rw [zw_bind]; with_reducible refine zw_mono (zxw_wantSign (by assumption)) ?_; intro _ _)
          | (rw [zw_bind]; with_reducible refine zw_mono (zxw_wantWord (by assumption)) ?_; intro _ _)
          | (rw [zw_bind]; with_reducible refine zw_mono (zxw_want (by assumption)) ?_; intro _ _)
          | (rw [zw_bind]; with_reducible refine zw_mono (zx_next (by assumption)) ?_; intro _ _)
          | (rw [zw_bind]; with_reducible refine zw_mono (zxb_constant (by assumption) (by omega) (by omega)) ?_; intro _ _)
          | (rw [zw_bind]; with_reducible refine zw_mono (zxw_simple (by assumption) (by omega) (by omega)) ?_; rintro _ ⟨_, _, _, _⟩)
          | (rw [zw_B]; with_reducible refine zw_mono (zxb_add (by assumption) (by omega) rfl (by omega)) ?_; rintro _ ⟨e1, _⟩; try rw [e1])
          | rw [zx_isSign (by assumption), if_pos rfl]
          | rw [zx_isWord (by assumption), if_pos rfl]
          | rw [if_neg (zx_ne (by assumption))]
          | rw [if_neg (zx_pos (by assumption))]
          | rw [if_pos (show (0 : Int32) ≤ 0 by decide)]
          | rw [Option.bind_assoc]
          | rw [Option.bind_some]
    simp only [Option.bind_assoc, Option.bind_some]
    exact fin I3 (Or.inr rfl) (by omega) (by omega)
  · rw [if_neg c, if_neg (show ¬ (h'.1 19 5) = nI 147 from c), if_pos (show (0 : Int32) = 0 from rfl)]
    simp only [Option.bind_assoc, Option.bind_some]
    exact fin I (Or.inl rfl) he hf
/-- the branches of an IF -/
theorem zk_ifL {Dc Dm : Nat} (SS : zk_SS h0 g0 T n K LC (d + 1)) (hd : d < 60) (hDc : 3 * (60 - d) + 1 ≤ Dc) (hDm : 4 * (60 - d) + 1 ≤ Dm) (hs : s ≤ 2 * j + 10) (hm : m ≤ 2 * j + 10) : ∀ (r N N' : Nat) {c : Nat} {wd : Int32} {y : Int32} {u : zt_T} {LM' : List (List Int32)} {j' s' m' e st f : Nat} {h' g' : zs_H}, zk_I h0 g0 T n K LC LM j s m 0 0 b 15 p 0 h g g1 u y LM' j' (d + 1) s' m' e st (3 * (60 - d) + 3) f h' g' → (st = 0 ∨ st = 2) → (h'.1 19 5) = wd → ¬ wd = 6 → K < j' + r → r + 2 ≤ N → r + 2 ≤ N' → c ≤ j' → zq_vl y → 1 ≤ f → zk_G h0 g0 T n K LC m 20950 0 (zk_T h0 g0 T n K LC LM (zg_T zg_Sx (3 * (60 - d) + 4)) j d s m 0 0 b h g) (f_Ps_ifStatement_L28 (f_Ps_statements Dc) N h' (nI s) y wd (nI c)) ((f_Mo_choose_L15 (g_Mo_body (f_Mo_statements Dm)) N' g' (nI m) 1).bind fun h10 => f_Mo_opened_42 h10) := by
  intro r
  induction r with
  | zero => intro N N' c wd y u LM' j' s' m' e st f h' g' I _ _ _ hr; have := zk_Ib I; omega
  | succ r ih =>
    intro N N' c wd y u LM' j' s' m' e st f h' g' I hst hwd hw6 hr hN hN' hc vy hf
    have v0 := zk_Iv I
    have b1 := zk_Ib I
    obtain ⟨N, rfl⟩ : ∃ z, N = z + 3 := ⟨N - 3, by omega⟩
    obtain ⟨N', rfl⟩ : ∃ z, N' = z + 3 := ⟨N' - 3, by omega⟩
    obtain ⟨Dc, rfl⟩ : ∃ z, Dc = z + 1 := ⟨Dc - 1, by omega⟩
    show zk_G _ _ _ _ _ _ _ _ _ _ (f_Ps_ifStatement_28 (f_Ps_statements (Dc + 1)) (f_Ps_ifStatement_L28 (f_Ps_statements (Dc + 1)) (N + 2)) h' (nI s) y wd (nI c)) ((f_Mo_choose_15 (g_Mo_body (f_Mo_statements Dm)) (f_Mo_choose_L15 (g_Mo_body (f_Mo_statements Dm)) (N' + 2)) g' (nI m) 1).bind fun h10 => f_Mo_opened_42 h10)
    unfold f_Ps_ifStatement_28 f_Mo_choose_15
    rw [if_neg (mt (zc_le (k := 16384) (t := c) (by decide) (by omega)).mp (by omega)), if_pos hwd, if_neg (show ¬ (1 : Int32) = 0 by decide), if_pos I.1.2.2.2.2.2.2.1]
    simp only [Option.bind_assoc]
    -- behind a fault both loops end
    have endc : ∀ φ w hz x2, zq_Z h0 T n K LC φ w hz → zw (f_Ps_ifStatement_L28 (f_Ps_statements (Dc + 1)) (N + 2) hz (nI s) x2 146 (nI c + 1)) (fun p => zq_v p.1 ∧ zq_Z h0 T n K LC φ w p.2) := by
      intro φ w hz x2 z1
      show zw (f_Ps_ifStatement_28 (f_Ps_statements (Dc + 1)) (f_Ps_ifStatement_L28 (f_Ps_statements (Dc + 1)) (N + 1)) hz (nI s) x2 146 (nI c + 1)) _
      unfold f_Ps_ifStatement_28 f_Ps_ifStatement_94 f_Ps_ifStatement_125
      rw [if_neg (zq_ne z1 (by decide) (by decide)), if_neg (zq_ne z1 (by decide) (by decide))]
      split
      · repeat' first
          | with_reducible exact zw_some.mpr ⟨by assumption, by assumption⟩
          | with_reducible exact zw_some.mpr ⟨by assumption, zz_open (by assumption)⟩
          | (rw [zw_B]; with_reducible refine zw_mono (zz_expression (by assumption)) ?_; rintro _ ⟨_, _⟩)
          | (rw [zw_B]; with_reducible refine zw_mono (zz_operand (by assumption)) ?_; rintro _ ⟨_, _⟩)
          | (rw [zw_B]; with_reducible refine zw_mono (zz_statements (by assumption)) ?_; rintro _ ⟨_, _⟩)
          | (rw [zw_bind]; with_reducible refine zw_mono (zz_take (by assumption)) ?_; intro _ _)
          | (rw [zw_B]; with_reducible refine zw_mono (zz_constant (by assumption)) ?_; rintro _ ⟨_, _⟩)
          | (rw [zw_B]; with_reducible refine zw_mono (zz_simpleType (by assumption)) ?_; rintro _ ⟨_, _⟩)
          | (rw [zw_B]; with_reducible refine zw_mono (zz_type (by assumption)) ?_; rintro _ ⟨_, _⟩)
          | (rw [zw_B]; with_reducible refine zw_mono (zz_whole (by assumption)) ?_; rintro _ ⟨_, _⟩)
          | (rw [zw_B]; with_reducible refine zw_mono (zz_add (by assumption)) ?_; rintro _ ⟨_, _⟩)
          | (rw [zw_B]; with_reducible refine zw_mono (zz_hang (by assumption) (by assumption) (by first | assumption | exact zq_vl_n | exact zq_vl_v (by assumption)) (by assumption)) ?_; rintro _ ⟨_, _⟩)
          | rw [if_pos (zq_at (by assumption))]
          | rw [zz_isCell (by assumption), if_pos rfl]
          | rw [if_neg (zq_ne (by assumption) (by decide) (by decide))]
          | rw [Option.bind_assoc]
          | rw [Option.bind_some]
      · repeat' first
          | with_reducible exact zw_some.mpr ⟨by assumption, by assumption⟩
          | with_reducible exact zw_some.mpr ⟨by assumption, zz_open (by assumption)⟩
          | (rw [zw_B]; with_reducible refine zw_mono (zz_expression (by assumption)) ?_; rintro _ ⟨_, _⟩)
          | (rw [zw_B]; with_reducible refine zw_mono (zz_operand (by assumption)) ?_; rintro _ ⟨_, _⟩)
          | (rw [zw_B]; with_reducible refine zw_mono (zz_statements (by assumption)) ?_; rintro _ ⟨_, _⟩)
          | (rw [zw_bind]; with_reducible refine zw_mono (zz_take (by assumption)) ?_; intro _ _)
          | (rw [zw_B]; with_reducible refine zw_mono (zz_constant (by assumption)) ?_; rintro _ ⟨_, _⟩)
          | (rw [zw_B]; with_reducible refine zw_mono (zz_simpleType (by assumption)) ?_; rintro _ ⟨_, _⟩)
          | (rw [zw_B]; with_reducible refine zw_mono (zz_type (by assumption)) ?_; rintro _ ⟨_, _⟩)
          | (rw [zw_B]; with_reducible refine zw_mono (zz_whole (by assumption)) ?_; rintro _ ⟨_, _⟩)
          | (rw [zw_B]; with_reducible refine zw_mono (zz_add (by assumption)) ?_; rintro _ ⟨_, _⟩)
          | (rw [zw_B]; with_reducible refine zw_mono (zz_hang (by assumption) (by assumption) (by first | assumption | exact zq_vl_n | exact zq_vl_v (by assumption)) (by assumption)) ?_; rintro _ ⟨_, _⟩)
          | rw [if_pos (zq_at (by assumption))]
          | rw [zz_isCell (by assumption), if_pos rfl]
          | rw [if_neg (zq_ne (by assumption) (by decide) (by decide))]
          | rw [Option.bind_assoc]
          | rw [Option.bind_some]
    have endm : ∀ φ w gz m2, m ≤ m2 → m2 ≤ 20950 → zx_B g0 T n φ w m2 0 gz → zw ((f_Mo_choose_L15 (g_Mo_body (f_Mo_statements Dm)) (N' + 2) gz (nI m) (f_Mo_isWord gz 18)).bind fun h10 => f_Mo_opened_42 h10) (fun g' => ∃ m', (m ≤ m' ∧ m' ≤ 20950) ∧ zx_B g0 T n φ w m' 0 g') := by
      intro φ w gz m2 hm1 hm2 z2
      rw [zx_isWord z2]
      show zw ((f_Mo_choose_15 (g_Mo_body (f_Mo_statements Dm)) (f_Mo_choose_L15 (g_Mo_body (f_Mo_statements Dm)) (N' + 1)) gz (nI m) 0).bind fun h10 => f_Mo_opened_42 h10) _
      unfold f_Mo_choose_15 f_Mo_choose_56 f_Mo_choose_71 f_Mo_opened_42
      rw [if_pos (show (0 : Int32) = 0 from rfl), zx_isWord z2, if_pos (show (0 : Int32) = 0 from rfl), zx_wantWord z2, Option.bind_some, Option.bind_some, zw_some]
      exact ⟨m2, by omega, zx_uF z2 (Or.inl rfl)⟩
    refine zk_sN I hwd hw6 ?_ fun h2 g2 LM2 I2 => ?_
    · intro φ w hz gz z1 z2
      refine zk_Gf (φ := φ) (w := w) ?_ ?_
      · repeat' first
          | with_reducible exact zw_some.mpr ⟨by assumption, by assumption⟩
          | with_reducible exact zw_some.mpr ⟨by assumption, zz_open (by assumption)⟩
          | (rw [zw_B]; with_reducible refine zw_mono (zz_expression (by assumption)) ?_; rintro _ ⟨_, _⟩)
          | (rw [zw_B]; with_reducible refine zw_mono (zz_operand (by assumption)) ?_; rintro _ ⟨_, _⟩)
          | (rw [zw_B]; with_reducible refine zw_mono (zz_statements (by assumption)) ?_; rintro _ ⟨_, _⟩)
          | (rw [zw_bind]; with_reducible refine zw_mono (zz_take (by assumption)) ?_; intro _ _)
          | (rw [zw_B]; with_reducible refine zw_mono (zz_constant (by assumption)) ?_; rintro _ ⟨_, _⟩)
          | (rw [zw_B]; with_reducible refine zw_mono (zz_simpleType (by assumption)) ?_; rintro _ ⟨_, _⟩)
          | (rw [zw_B]; with_reducible refine zw_mono (zz_type (by assumption)) ?_; rintro _ ⟨_, _⟩)
          | (rw [zw_B]; with_reducible refine zw_mono (zz_whole (by assumption)) ?_; rintro _ ⟨_, _⟩)
          | (rw [zw_B]; with_reducible refine zw_mono (zz_add (by assumption)) ?_; rintro _ ⟨_, _⟩)
          | (rw [zw_B]; with_reducible refine zw_mono (zz_hang (by assumption) (by assumption) (by first | assumption | exact zq_vl_n | exact zq_vl_v (by assumption)) (by assumption)) ?_; rintro _ ⟨_, _⟩)
          | rw [if_pos (zq_at (by assumption))]
          | rw [zz_isCell (by assumption), if_pos rfl]
          | rw [if_neg (zq_ne (by assumption) (by decide) (by decide))]
          | rw [Option.bind_assoc]
          | rw [Option.bind_some]
        exact endc φ w _ _ (by assumption)
      · repeat' first
          | (with_reducible refine zw_some.mpr ⟨_, ⟨?_, ?_⟩, by assumption⟩ <;> omega)
          | (with_reducible refine zw_some.mpr ⟨_, ⟨?_, ?_⟩, zx_Om (by assumption) ?_⟩ <;> omega)
          | (with_reducible refine zw_some.mpr ⟨_, ⟨?_, ?_⟩, zx_Om (zx_uF (by assumption) (Or.inl rfl)) ?_⟩ <;> omega)
          | (with_reducible refine zw_mono (zxb_142 (by assumption) (by omega)) ?_; intro _ z; exact ⟨_, by omega, z⟩)
          | (with_reducible refine zw_mono (zxb_142c (by assumption) (by omega)) ?_; intro _ z; exact ⟨_, by omega, z⟩)
          | (rw [zw_bind]; with_reducible refine zw_mono (zxb_body (by assumption)) ?_; intro _ _)
          | (rw [zw_bind]; with_reducible refine zw_mono (zxw_expr4 (by assumption)) ?_; intro _ _)
          | (rw [zw_bind]; with_reducible refine zw_mono (zxw_next2 (by assumption)) ?_; intro _ _)
          | (rw [zw_bind]; with_reducible refine zw_mono (zx_open (by assumption)) ?_; intro _ _)
          | (rw [zw_bind]; with_reducible refine zw_mono (zxw_expression (by assumption)) ?_; intro _ _)
          | (rw [zw_bind]; with_reducible refine zw_mono (zxw_operand (by assumption)) ?_; intro _ _)
          | (rw [zw_bind]; with_reducible refine zw_mono (zxb_keep (by assumption) (by omega)) ?_; intro _ _)
          | (rw [zw_B]; with_reducible refine zw_mono (zxb_node (by assumption) (by omega) rfl) ?_; rintro _ ⟨e1, _⟩; try rw [e1])
          | (rw [zw_bind]; with_reducible refine zw_mono (zxw_wantSign (by assumption)) ?_; intro _ _)
          | (rw [zw_bind]; with_reducible refine zw_mono (zxw_wantWord (by assumption)) ?_; intro _ _)
          | (rw [zw_bind]; with_reducible refine zw_mono (zxw_want (by assumption)) ?_; intro _ _)
          | (rw [zw_bind]; with_reducible refine zw_mono (zx_next (by assumption)) ?_; intro _ _)
          | (rw [zw_bind]; with_reducible refine zw_mono (zxb_constant (by assumption) (by omega) (by omega)) ?_; intro _ _)
          | (rw [zw_bind]; with_reducible refine zw_mono (zxw_simple (by assumption) (by omega) (by omega)) ?_; rintro _ ⟨_, _, _, _⟩)
          | (rw [zw_B]; with_reducible refine zw_mono (zxb_add (by assumption) (by omega) rfl (by omega)) ?_; rintro _ ⟨e1, _⟩; try rw [e1])
          | rw [zx_isSign (by assumption), if_pos rfl]
          | rw [zx_isWord (by assumption), if_pos rfl]
          | rw [if_neg (zx_ne (by assumption))]
          | rw [if_neg (zx_pos (by assumption))]
          | rw [if_pos (show (0 : Int32) ≤ 0 by decide)]
          | rw [Option.bind_assoc]
          | rw [Option.bind_some]
        refine endm φ w _ _ ?_ ?_ (by assumption) <;> omega
    have b2 := zk_Ib I2
    refine zk_sK2 (e2 := 1) (e3 := e + 2) (S := zg_E) (st' := 1) I2 (zk_GM (zk_wexprD I2.1 (by decide) (by omega) (by omega) (by omega)) (Nat.le_refl _) (Nat.le_refl 20900) (fun x h g R => zk_TTm R (Nat.le_refl _) (fun t W => zg_Tm W (fun _ z => z) (by omega)))) (by rcases hst with z | z <;> subst z <;> decide) (by omega) ?_ fun x3 h3 g3 u3 LM3 j3 s3 m3 vx3 hj3 I3 => ?_
    · intro φ w mz xz hz gz w1 w2 vz z1 z2
      refine zk_Gf (φ := φ) (w := w) ?_ ?_
      · repeat' first
          | with_reducible exact zw_some.mpr ⟨by assumption, by assumption⟩
          | with_reducible exact zw_some.mpr ⟨by assumption, zz_open (by assumption)⟩
          | (rw [zw_B]; with_reducible refine zw_mono (zz_expression (by assumption)) ?_; rintro _ ⟨_, _⟩)
          | (rw [zw_B]; with_reducible refine zw_mono (zz_operand (by assumption)) ?_; rintro _ ⟨_, _⟩)
          | (rw [zw_B]; with_reducible refine zw_mono (zz_statements (by assumption)) ?_; rintro _ ⟨_, _⟩)
          | (rw [zw_bind]; with_reducible refine zw_mono (zz_take (by assumption)) ?_; intro _ _)
          | (rw [zw_B]; with_reducible refine zw_mono (zz_constant (by assumption)) ?_; rintro _ ⟨_, _⟩)
          | (rw [zw_B]; with_reducible refine zw_mono (zz_simpleType (by assumption)) ?_; rintro _ ⟨_, _⟩)
          | (rw [zw_B]; with_reducible refine zw_mono (zz_type (by assumption)) ?_; rintro _ ⟨_, _⟩)
          | (rw [zw_B]; with_reducible refine zw_mono (zz_whole (by assumption)) ?_; rintro _ ⟨_, _⟩)
          | (rw [zw_B]; with_reducible refine zw_mono (zz_add (by assumption)) ?_; rintro _ ⟨_, _⟩)
          | (rw [zw_B]; with_reducible refine zw_mono (zz_hang (by assumption) (by assumption) (by first | assumption | exact zq_vl_n | exact zq_vl_v (by assumption)) (by assumption)) ?_; rintro _ ⟨_, _⟩)
          | rw [if_pos (zq_at (by assumption))]
          | rw [zz_isCell (by assumption), if_pos rfl]
          | rw [if_neg (zq_ne (by assumption) (by decide) (by decide))]
          | rw [Option.bind_assoc]
          | rw [Option.bind_some]
        exact endc φ w _ _ (by assumption)
      · repeat' first
          | (with_reducible refine zw_some.mpr ⟨_, ⟨?_, ?_⟩, by assumption⟩ <;> omega)
          | (with_reducible refine zw_some.mpr ⟨_, ⟨?_, ?_⟩, zx_Om (by assumption) ?_⟩ <;> omega)
          | (with_reducible refine zw_some.mpr ⟨_, ⟨?_, ?_⟩, zx_Om (zx_uF (by assumption) (Or.inl rfl)) ?_⟩ <;> omega)
          | (with_reducible refine zw_mono (zxb_142 (by assumption) (by omega)) ?_; intro _ z; exact ⟨_, by omega, z⟩)
          | (with_reducible refine zw_mono (zxb_142c (by assumption) (by omega)) ?_; intro _ z; exact ⟨_, by omega, z⟩)
          | (rw [zw_bind]; with_reducible refine zw_mono (zxb_body (by assumption)) ?_; intro _ _)
          | (rw [zw_bind]; with_reducible refine zw_mono (zxw_expr4 (by assumption)) ?_; intro _ _)
          | (rw [zw_bind]; with_reducible refine zw_mono (zxw_next2 (by assumption)) ?_; intro _ _)
          | (rw [zw_bind]; with_reducible refine zw_mono (zx_open (by assumption)) ?_; intro _ _)
          | (rw [zw_bind]; with_reducible refine zw_mono (zxw_expression (by assumption)) ?_; intro _ _)
          | (rw [zw_bind]; with_reducible refine zw_mono (zxw_operand (by assumption)) ?_; intro _ _)
          | (rw [zw_bind]; with_reducible refine zw_mono (zxb_keep (by assumption) (by omega)) ?_; intro _ _)
          | (rw [zw_B]; with_reducible refine zw_mono (zxb_node (by assumption) (by omega) rfl) ?_; rintro _ ⟨e1, _⟩; try rw [e1])
          | (rw [zw_bind]; with_reducible refine zw_mono (zxw_wantSign (by assumption)) ?_; intro _ _)
          | (rw [zw_bind]; with_reducible refine zw_mono (zxw_wantWord (by assumption)) ?_; intro _ _)
          | (rw [zw_bind]; with_reducible refine zw_mono (zxw_want (by assumption)) ?_; intro _ _)
          | (rw [zw_bind]; with_reducible refine zw_mono (zx_next (by assumption)) ?_; intro _ _)
          | (rw [zw_bind]; with_reducible refine zw_mono (zxb_constant (by assumption) (by omega) (by omega)) ?_; intro _ _)
          | (rw [zw_bind]; with_reducible refine zw_mono (zxw_simple (by assumption) (by omega) (by omega)) ?_; rintro _ ⟨_, _, _, _⟩)
          | (rw [zw_B]; with_reducible refine zw_mono (zxb_add (by assumption) (by omega) rfl (by omega)) ?_; rintro _ ⟨e1, _⟩; try rw [e1])
          | rw [zx_isSign (by assumption), if_pos rfl]
          | rw [zx_isWord (by assumption), if_pos rfl]
          | rw [if_neg (zx_ne (by assumption))]
          | rw [if_neg (zx_pos (by assumption))]
          | rw [if_pos (show (0 : Int32) ≤ 0 by decide)]
          | rw [Option.bind_assoc]
          | rw [Option.bind_some]
        refine endm φ w _ _ ?_ ?_ (by assumption) <;> omega
    have b3 := zk_Ib I3
    refine zk_sBody (st' := 2) SS I3 (yy := f_Mo_isWord g3 17) (x := 145) (by rw [show f_Mo_isWord g3 17 = if (h3.1 19 5) = nI 145 then 1 else 0 from zk_word I3.1 (c := 17) (by decide)]; by_cases z : (h3.1 19 5) = 145; (rw [if_pos (show (h3.1 19 5) = nI 145 from z)]; exact ⟨fun _ => z, fun _ => by decide⟩); (rw [if_neg (show ¬ (h3.1 19 5) = nI 145 from z)]; exact ⟨fun w => absurd rfl w, fun w => absurd w z⟩)) (by decide) (by omega) (by omega) hs hm (by decide) (by omega) ?_ fun x4 h4 g4 u4 LM4 j4 s4 m4 vx4 hj4 I4 => ?_
    · intro φ w mz xz hz gz w1 w2 vz z1 z2
      refine zk_Gf (φ := φ) (w := w) ?_ ?_
      · repeat' first
          | with_reducible exact zw_some.mpr ⟨by assumption, by assumption⟩
          | with_reducible exact zw_some.mpr ⟨by assumption, zz_open (by assumption)⟩
          | (rw [zw_B]; with_reducible refine zw_mono (zz_expression (by assumption)) ?_; rintro _ ⟨_, _⟩)
          | (rw [zw_B]; with_reducible refine zw_mono (zz_operand (by assumption)) ?_; rintro _ ⟨_, _⟩)
          | (rw [zw_B]; with_reducible refine zw_mono (zz_statements (by assumption)) ?_; rintro _ ⟨_, _⟩)
          | (rw [zw_bind]; with_reducible refine zw_mono (zz_take (by assumption)) ?_; intro _ _)
          | (rw [zw_B]; with_reducible refine zw_mono (zz_constant (by assumption)) ?_; rintro _ ⟨_, _⟩)
          | (rw [zw_B]; with_reducible refine zw_mono (zz_simpleType (by assumption)) ?_; rintro _ ⟨_, _⟩)
          | (rw [zw_B]; with_reducible refine zw_mono (zz_type (by assumption)) ?_; rintro _ ⟨_, _⟩)
          | (rw [zw_B]; with_reducible refine zw_mono (zz_whole (by assumption)) ?_; rintro _ ⟨_, _⟩)
          | (rw [zw_B]; with_reducible refine zw_mono (zz_add (by assumption)) ?_; rintro _ ⟨_, _⟩)
          | (rw [zw_B]; with_reducible refine zw_mono (zz_hang (by assumption) (by assumption) (by first | assumption | exact zq_vl_n | exact zq_vl_v (by assumption)) (by assumption)) ?_; rintro _ ⟨_, _⟩)
          | rw [if_pos (zq_at (by assumption))]
          | rw [zz_isCell (by assumption), if_pos rfl]
          | rw [if_neg (zq_ne (by assumption) (by decide) (by decide))]
          | rw [Option.bind_assoc]
          | rw [Option.bind_some]
        exact endc φ w _ _ (by assumption)
      · exact endm φ w _ _ (by omega) (by omega) z2
    have b4 := zk_Ib I4
    rw [nI_1]
    rw [show f_Mo_isWord g4 18 = if (h4.1 19 5) = nI 146 then 1 else 0 from zk_word I4.1 (c := 18) (by decide)]
    by_cases c46 : (h4.1 19 5) = 146
    · rw [if_pos (show (h4.1 19 5) = nI 146 from c46)]
      exact ih (N + 2) (N' + 2) (c := c + 1) I4 (Or.inr rfl) c46 (by decide) (by omega) (by omega) (by omega) (by omega) (zq_vl_v vx4) (by omega)
    · rw [if_neg (show ¬ (h4.1 19 5) = nI 146 from c46)]
      have ec : f_Ps_ifStatement_L28 (f_Ps_statements (Dc + 1)) (N + 2) h4 (nI s) x4 146 (nI (c + 1)) = f_Ps_ifStatement_94 (f_Ps_statements (Dc + 1)) h4 (nI s) x4 := by
        show f_Ps_ifStatement_28 (f_Ps_statements (Dc + 1)) (f_Ps_ifStatement_L28 (f_Ps_statements (Dc + 1)) (N + 1)) h4 (nI s) x4 146 (nI (c + 1)) = _
        unfold f_Ps_ifStatement_28
        rw [if_neg c46]
        split <;> rfl
      have em : f_Mo_choose_L15 (g_Mo_body (f_Mo_statements Dm)) (N' + 2) g4 (nI m) 0 = f_Mo_choose_56 (g_Mo_body (f_Mo_statements Dm)) g4 (nI m) := by
        show f_Mo_choose_15 (g_Mo_body (f_Mo_statements Dm)) (f_Mo_choose_L15 (g_Mo_body (f_Mo_statements Dm)) (N' + 1)) g4 (nI m) 0 = _
        unfold f_Mo_choose_15
        rw [if_pos (show (0 : Int32) = 0 from rfl)]
      rw [ec, em]
      exact zk_ifE SS I4 vx4 hd (by omega) (by omega) hDc hDm hs hm
/-- IF -/
theorem zk_if {Dc Dm b : Nat} (SS : d < 60 → zk_SS h0 g0 T n K LC (d + 1)) (H : zk_L h0 g0 T n K LC h g LM j d s m 0 0) (ht : (h.1 19 5) = 144) (hDc : 3 * (60 - d) + 1 ≤ Dc) (hDm : 4 * (60 - d) + 1 ≤ Dm) (hs : s ≤ 2 * j + 10) (hm : m ≤ 2 * j + 10) (hb : b < m) : zk_G h0 g0 T n K LC m 20950 0 (zk_T h0 g0 T n K LC LM (zg_T zg_Sx (3 * (60 - d) + 4)) j d s m 0 0 b h g) (g_Ps_ifStatement (f_Ps_statements Dc) h) ((f_Mo_open g).bind fun h2 => (g_Mo_choose (g_Mo_body (f_Mo_statements Dm)) h2 (nI b)).bind fun h10 => f_Mo_opened_42 h10) := by
  have bK := zk_bK H
  have v0 : zq_v (nI s) := ⟨s, by omega, rfl⟩
  obtain ⟨Dc, rfl⟩ : ∃ z, Dc = z + 1 := ⟨Dc - 1, by omega⟩
  unfold g_Ps_ifStatement g_Mo_choose
  rw [show zF = 18446744073709551614 + 2 from rfl]
  obtain ⟨h1, e1, L1, qA⟩ := zk_cadd H (kd := 15) (kv := 15) (v := 0) (by omega) (by decide) rfl
  rw [e1, zo_B]
  obtain ⟨h2, g2, e2, e3, R⟩ := zk_deep L1
  rw [e2, e3, Option.bind_some, Option.bind_some]
  rcases R with ⟨hd, L2, f1, f2⟩ | ⟨φ, w, z1, z2⟩
  · obtain ⟨q1, q2, q3, q4, q5, q6, q7⟩ := id qA
    have kf := zq_kp_f (s := s + 1) f1
    obtain ⟨c1, c2, c3, c4, c5⟩ := kf s (by omega)
    obtain ⟨g3, e4, I⟩ := zk_I1 (D := 3 * (60 - d) + 3) (j := j) (h := h) (g := g) (LM := LM) (km := 15) (w := 0) (b := b) (kd := 15) (v := 0) (p := nI (zl_at T n j).2.1) L2 (List.prefix_refl _) (Nat.le_refl _) (zq_kp_t (zq_kp_A qA) kf (by omega)) ⟨c1.trans (by rw [q2, if_pos rfl]), c2.trans (by rw [q3, if_pos rfl]), c3.trans (by rw [q4, if_pos rfl]), c5.trans (by rw [q6, if_pos rfl]), c4.trans (by rw [q5, if_pos rfl])⟩ (zx_ka_f f2) (by omega) (by omega) hb rfl (by rw [if_neg (by decide)])
    have m4 := L2.2.2.2.2.2.2.2.2.1
    rw [m4, e4, zo_B]
    exact zk_ifL (SS hd) hd hDc hDm hs hm (K + 1) _ _ (c := 0) (wd := 144) I (Or.inl rfl) (by rw [L2.2.2.2.1.2.2.1, ← H.2.2.2.1.2.2.1]; exact ht) (by decide) (by omega) (by omega) (by omega) (by omega) zq_vl_n (by omega)
  · refine zk_Gf (φ := φ) (w := w) ?_ ?_
    · show zw (f_Ps_ifStatement_28 (f_Ps_statements (Dc + 1)) (f_Ps_ifStatement_L28 (f_Ps_statements (Dc + 1)) (18446744073709551614 + 1)) h2 (nI s) (-1) 144 0) _
      unfold f_Ps_ifStatement_28 f_Ps_ifStatement_94 f_Ps_ifStatement_125
      rw [if_neg (zq_ne z1 (by decide) (by decide)), if_neg (zq_ne z1 (by decide) (by decide))]
      split
      · repeat' first
          | with_reducible exact zw_some.mpr ⟨by assumption, by assumption⟩
          | with_reducible exact zw_some.mpr ⟨by assumption, zz_open (by assumption)⟩
          | (rw [zw_B]; with_reducible refine zw_mono (zz_expression (by assumption)) ?_; rintro _ ⟨_, _⟩)
          | (rw [zw_B]; with_reducible refine zw_mono (zz_operand (by assumption)) ?_; rintro _ ⟨_, _⟩)
          | (rw [zw_B]; with_reducible refine zw_mono (zz_statements (by assumption)) ?_; rintro _ ⟨_, _⟩)
          | (rw [zw_bind]; with_reducible refine zw_mono (zz_take (by assumption)) ?_; intro _ _)
          | (rw [zw_B]; with_reducible refine zw_mono (zz_constant (by assumption)) ?_; rintro _ ⟨_, _⟩)
          | (rw [zw_B]; with_reducible refine zw_mono (zz_simpleType (by assumption)) ?_; rintro _ ⟨_, _⟩)
          | (rw [zw_B]; with_reducible refine zw_mono (zz_type (by assumption)) ?_; rintro _ ⟨_, _⟩)
          | (rw [zw_B]; with_reducible refine zw_mono (zz_whole (by assumption)) ?_; rintro _ ⟨_, _⟩)
          | (rw [zw_B]; with_reducible refine zw_mono (zz_add (by assumption)) ?_; rintro _ ⟨_, _⟩)
          | (rw [zw_B]; with_reducible refine zw_mono (zz_hang (by assumption) (by assumption) (by first | assumption | exact zq_vl_n | exact zq_vl_v (by assumption)) (by assumption)) ?_; rintro _ ⟨_, _⟩)
          | rw [if_pos (zq_at (by assumption))]
          | rw [zz_isCell (by assumption), if_pos rfl]
          | rw [if_neg (zq_ne (by assumption) (by decide) (by decide))]
          | rw [Option.bind_assoc]
          | rw [Option.bind_some]
      · repeat' first
          | with_reducible exact zw_some.mpr ⟨by assumption, by assumption⟩
          | with_reducible exact zw_some.mpr ⟨by assumption, zz_open (by assumption)⟩
          | (rw [zw_B]; with_reducible refine zw_mono (zz_expression (by assumption)) ?_; rintro _ ⟨_, _⟩)
          | (rw [zw_B]; with_reducible refine zw_mono (zz_operand (by assumption)) ?_; rintro _ ⟨_, _⟩)
          | (rw [zw_B]; with_reducible refine zw_mono (zz_statements (by assumption)) ?_; rintro _ ⟨_, _⟩)
          | (rw [zw_bind]; with_reducible refine zw_mono (zz_take (by assumption)) ?_; intro _ _)
          | (rw [zw_B]; with_reducible refine zw_mono (zz_constant (by assumption)) ?_; rintro _ ⟨_, _⟩)
          | (rw [zw_B]; with_reducible refine zw_mono (zz_simpleType (by assumption)) ?_; rintro _ ⟨_, _⟩)
          | (rw [zw_B]; with_reducible refine zw_mono (zz_type (by assumption)) ?_; rintro _ ⟨_, _⟩)
          | (rw [zw_B]; with_reducible refine zw_mono (zz_whole (by assumption)) ?_; rintro _ ⟨_, _⟩)
          | (rw [zw_B]; with_reducible refine zw_mono (zz_add (by assumption)) ?_; rintro _ ⟨_, _⟩)
          | (rw [zw_B]; with_reducible refine zw_mono (zz_hang (by assumption) (by assumption) (by first | assumption | exact zq_vl_n | exact zq_vl_v (by assumption)) (by assumption)) ?_; rintro _ ⟨_, _⟩)
          | rw [if_pos (zq_at (by assumption))]
          | rw [zz_isCell (by assumption), if_pos rfl]
          | rw [if_neg (zq_ne (by assumption) (by decide) (by decide))]
          | rw [Option.bind_assoc]
          | rw [Option.bind_some]
    · obtain ⟨⟨x, g3⟩, e4, e5, z3⟩ := zxb_add (kd := 15) (kn := 15) (p := (g2.1 68 7)) (v := 0) (b := b) z2 (by omega) rfl hb
      rw [e4, zo_B]
      show zw ((f_Mo_choose_15 (g_Mo_body (f_Mo_statements Dm)) (f_Mo_choose_L15 (g_Mo_body (f_Mo_statements Dm)) (18446744073709551614 + 1)) g3 x 1).bind fun h10 => f_Mo_opened_42 h10) _
      unfold f_Mo_choose_15 f_Mo_choose_56 f_Mo_choose_71 f_Mo_opened_42
      rw [if_neg (show ¬ (1 : Int32) = 0 by decide), if_neg (zx_ne z3), zx_isWord z3, if_pos (show (0 : Int32) = 0 from rfl), zx_wantWord z3, Option.bind_some, Option.bind_some, zw_some]
      exact ⟨m + 1, by omega, zx_uF z3 (Or.inl rfl)⟩
end ZWw
end
