/-! Both readers in step: nodes with something below them. -/
theorem zo_B {α β : Type} {a : α} {h : zs_H} {F : α → zs_H → Option β} : zd_B (some (a, h)) F = F a h := rfl
/-- a node is being read: in the class node s, in the model node m below b -/
def zk_I (h0 g0 : zs_H) (T : Nat → Int32) (n K : Nat) (LC LM : List (List Int32)) (j s m o q b kd : Nat) (p v : Int32) (h g g1 : zs_H) (u : zt_T) (y : Int32) (LM' : List (List Int32)) (j' d' s' m' e st D f : Nat) (h' g' : zs_H) : Prop :=
  zk_L h0 g0 T n K LC h' g' LM' j' d' s' m' o q ∧ LM <+: LM' ∧ zq_kp s h h' ∧ ((h'.2.1 13) s = nI kd ∧ (h'.2.1 15) s = p ∧ (h'.2.1 16) s = v ∧ (h'.2.1 18) s = -1 ∧ zt_C h' u (fun i => s < i ∧ i < s') ((h'.2.1 17) s) y) ∧ (∃ LM1, (LM <+: LM1 ∧ LM1 <+: LM') ∧ zx_AP LC LM LM1 b m (m + 1) (zt_n kd p v .leaf) g g1 ∧ (g1.2.1 76) m = -1 ∧ (g1.2.1 77) m = -1 ∧ zt_Nf LC LM1 g1 m kd p v ∧ (g1.2.1 75) m = nI b ∧ (g1.2.1 77) b = nI m ∧ zx_AP LC LM1 LM' m (m + 1) m' u g1 g') ∧ (j ≤ j' ∧ s < s' ∧ m < m' ∧ s' + e ≤ s + 1 + 2 * (j' - j) ∧ m' + e ≤ m + 1 + 2 * (j' - j) ∧ b < m ∧ s < 32784 ∧ m < 33500) ∧ zg_U kd st D u ∧ 2 * zg_c u + f ≤ j' - j + 1
section ZFc
variable {h0 g0 h g g1 h' g' : zs_H} {T : Nat → Int32} {n K : Nat} {LC LM LM' : List (List Int32)} {j d s m o q b kd j' d' s' m' e st D f : Nat} {p v y : Int32} {u : zt_T}
/-- it begins -/
theorem zk_I0 (H : zk_L h0 g0 T n K LC h g LM j d s m o q) {b kd D : Nat} {kc km v w : Int32} (hs : s < 32784) (hm : m < 33500) (hb : b < m) (hk : kd < 128) (hkc : kc = nI kd) (hkm : km = nI (zt_km kd)) (hv : if zt_nk kd = true then zt_nr LC LM v w else w = v) : ∃ h1 g1, f_Tr_add h kc ((h.1 19 6)) v = some (nI s, h1) ∧ f_Mo_add g (nI b) km ((g.1 68 7)) w = some (nI m, g1) ∧ zk_I h0 g0 T n K LC LM j s m o q b kd (nI (zl_at T n j).2.1) v h g g1 .leaf (-1) LM j d (s + 1) (m + 1) 0 0 D 1 h1 g1 := by
  have m4 := H.2.2.2.2.2.2.2.2.1
  obtain ⟨h1, e1, L1, qA⟩ := zk_cadd H (kd := kd) (kv := kc) (v := v) hs hk hkc
  obtain ⟨g1, e2, L2, qM, q1, q2, q3, q4, q5, q6, q7⟩ := zk_madd L1 (b := b) (kd := kd) (kv := km) (p := (g.1 68 7)) (v := w) (v' := v) hm hb hkm hv
  refine ⟨h1, g1, e1, e2, L2, List.prefix_refl _, zq_kp_A qA, ?_, ⟨LM, ⟨List.prefix_refl _, List.prefix_refl _⟩, by rw [← m4]; exact qM, q3, q4, by rw [← m4]; exact q1, q2, q6, zx_AP_0 (List.prefix_refl _) (fun i _ => ⟨rfl, rfl, rfl, rfl, rfl, rfl, rfl⟩) (by omega)⟩, by omega, zg_U0, by show 2 * 0 + 1 ≤ _; omega⟩
  obtain ⟨a1, a2, a3, a4, a5, a6, a7⟩ := qA
  exact ⟨by rw [a2, if_pos rfl], by rw [a3, if_pos rfl], by rw [a4, if_pos rfl], by rw [a6, if_pos rfl], by rw [a5, if_pos rfl], rfl⟩
/-- it begins, in the model behind some tokens -/
theorem zk_I1 {h2 g2 : zs_H} {LM2 : List (List Int32)} {j2 d2 : Nat} (L2 : zk_L h0 g0 T n K LC h2 g2 LM2 j2 d2 (s + 1) m o q) {b kd D : Nat} {km p v w : Int32} (hp : LM <+: LM2) (hj : j ≤ j2) (hkp : zq_kp s h h2) (hn : (h2.2.1 13) s = nI kd ∧ (h2.2.1 15) s = p ∧ (h2.2.1 16) s = v ∧ (h2.2.1 18) s = -1 ∧ (h2.2.1 17) s = -1) (hka : zx_ka m g g2) (hs : s < 32784) (hm : m < 33500) (hb : b < m) (hkm : km = nI (zt_km kd)) (hv : if zt_nk kd = true then zt_nr LC LM2 v w else w = v) : ∃ g3, f_Mo_add g2 (nI b) km p w = some (nI m, g3) ∧ zk_I h0 g0 T n K LC LM j s m o q b kd p v h g g3 .leaf (-1) LM2 j2 d2 (s + 1) (m + 1) (2 * (j2 - j)) 0 D (1 + (j2 - j)) h2 g3 := by
  obtain ⟨g3, e2, L3, qM, q1, q2, q3, q4, q5, q6, q7⟩ := zk_madd L2 (b := b) (kd := kd) (kv := km) (p := p) (v := w) (v' := v) hm hb hkm hv
  refine ⟨g3, e2, L3, hp, hkp, ⟨hn.1, hn.2.1, hn.2.2.1, hn.2.2.2.1, hn.2.2.2.2, rfl⟩, ⟨LM2, ⟨hp, List.prefix_refl _⟩, zx_AP_t (zx_AP_0 hp hka hb) qM (Nat.le_refl m) (by omega) hb, q3, q4, q1, q2, q6, zx_AP_0 (List.prefix_refl _) (fun i _ => ⟨rfl, rfl, rfl, rfl, rfl, rfl, rfl⟩) (by omega)⟩, by omega, zg_U0, by show 2 * 0 + _ ≤ _; omega⟩
/-- a token -/
theorem zk_It (I : zk_I h0 g0 T n K LC LM j s m o q b kd p v h g g1 u y LM' j' d' s' m' e st D f h' g') {h2 g2 : zs_H} {LM2 : List (List Int32)} (f1 : zfr [(19, 4), (19, 5), (19, 6)] [] [] h' h2) (f2 : zfr zk_lx [70, 71] [] g' g2) (hp : LM' <+: LM2) (L2 : zk_L h0 g0 T n K LC h2 g2 LM2 (j' + 1) d' s' m' o q) : zk_I h0 g0 T n K LC LM j s m o q b kd p v h g g1 u y LM2 (j' + 1) d' s' m' (e + 2) st D (f + 1) h2 g2 := by
  obtain ⟨i1, i2, i3, ⟨c1, c2, c3, c4, c5⟩, ⟨LM1, ⟨p1, p2⟩, m1, m2, m3, m4, m5, m6, m7⟩, ⟨n1, n2, n3, n4, n5, n6, n7, n8⟩, w1, w2⟩ := I
  have k := zq_kp_f (s := s') f1
  obtain ⟨k1, k2, k3, k4, k5⟩ := k s n2
  refine ⟨L2, i2.trans hp, zq_kp_t i3 k (by omega), ⟨k1.trans c1, k2.trans c2, k3.trans c3, k5.trans c4, ?_⟩, ⟨LM1, ⟨p1, p2.trans hp⟩, m1, m2, m3, m4, m5, m6, ?_⟩, by omega, w1, by omega⟩
  · rw [k4]; exact zt_Ck k (fun i hi => hi.2) c5
  · have := zx_AP_t m7 (zx_AP_0 hp (zx_ka_l (m := m') f2) n3) (by omega) (Nat.le_refl _) (by omega)
    rwa [zt_ap_leaf] at this
/-- a child -/
theorem zk_Ic (I : zk_I h0 g0 T n K LC LM j s m o q b kd p v h g g1 u y LM' j' d' s' m' e st D f h' g') {h2 g2 : zs_H} {x : Int32} {S : List Nat} {st' : Nat} (R : zk_T h0 g0 T n K LC LM' (zg_T S D) j' d' s' m' o q m h' g' x h2 g2) (hq : ∀ c ∈ S, zg_q kd st c = st') : ∃ h3 u3 LM3 j3 s3 m3, f_Tr_hang h2 (nI s) y x = some (x, h3) ∧ j' < j3 ∧ zk_I h0 g0 T n K LC LM j s m o q b kd p v h g g1 u3 x LM3 j3 d' s3 m3 e st' D f h3 g2 := by
  obtain ⟨i1, i2, i3, ⟨c1, c2, c3, c4, c5⟩, ⟨LM1, ⟨p1, p2⟩, m1, m2, m3, m4, m5, m6, m7⟩, ⟨n1, n2, n3, n4, n5, n6, n7, n8⟩, w1, w2⟩ := I
  obtain ⟨t, LM3, j3, s3, m3', a, ⟨r0, r0c⟩, r1, r2, r3, r4, r5, r6, r7, r8, r9, r10, r11, r12, r13⟩ := R
  have hs3 : s3 ≤ 32784 := r2.2.2.2.1.2.2.2.2.2.2
  obtain ⟨k1, k2, k3, k4, k5⟩ := r12 s n2
  have c5' : zt_C h2 u (fun i => s < i ∧ i < s') ((h2.2.1 17) s) y := by rw [k4]; exact zt_Ck r12 (fun i hi => hi.2) c5
  subst r8
  obtain ⟨h3, e1, e2, e3, e4⟩ := zq_hangC (ip := s) (a := a) (by omega) (fun i hi => by omega) c5' r11 (fun i hi z => by omega) (by omega) (by omega) (by omega)
  refine ⟨h3, zt_ap u t, LM3, j3, s3, m3', e1, r3, zk_cf r2 e4 (by decide), i2.trans r1, ?_, ⟨(e3 s).1.trans (k1.trans c1), (e3 s).2.1.trans (k2.trans c2), (e3 s).2.2.1.trans (k3.trans c3), ((e3 s).2.2.2.2 (by omega)).trans (k5.trans c4), zt_Cm (fun i hi => by omega) e2⟩, ⟨LM1, ⟨p1, p2.trans r1⟩, m1, m2, m3, m4, m5, m6, zx_AP_t m7 r13 (by omega) (by omega) (by omega)⟩, by omega, zg_U1 w1 r0 hq, by rw [zg_c_ap]; omega⟩
  intro i hi
  obtain ⟨x1, x2, x3, x4, x5⟩ := i3 i hi
  obtain ⟨y1, y2, y3, y4, y5⟩ := r12 i (by omega)
  obtain ⟨z1, z2, z3, z4, z5⟩ := e3 i
  exact ⟨z1.trans (y1.trans x1), z2.trans (y2.trans x2), z3.trans (y3.trans x3), (z4 (by omega)).trans (y4.trans x4), (z5 (by omega)).trans (y5.trans x5)⟩
/-- it is done -/
theorem zk_Id (I : zk_I h0 g0 T n K LC LM j s m o q b kd p v h g g1 u y LM' j' d' s' m' e st D f h' g') {S : List Nat} (he : 1 ≤ e) (hj : j < j') (ha : zg_A kd st = true) (hv : zg_v kd v) (hS : kd ∈ S) (hf : 1 ≤ f) (h37 : ¬ (kd = 37 ∨ kd = 19)) : zk_T h0 g0 T n K LC LM (zg_T S (D + 1)) j d' s m o q b h g (nI s) h' g' := by
  obtain ⟨i1, i2, i3, ⟨c1, c2, c3, c4, c5⟩, ⟨LM1, ⟨p1, p2⟩, m1, m2, m3, m4, m5, m6, m7⟩, ⟨n1, n2, n3, n4, n5, n6, n7, n8⟩, w1, w2⟩ := I
  refine ⟨zt_n kd p v u, LM', j', s', m', s, ⟨zg_n w1 ha hv hS (fun z => h37 (.inr z)), by rw [zg_c_n (fun z => h37 (.inl z))]; omega⟩, i2, i1, hj, n2, by omega, n3, by omega, rfl, Nat.le_refl s, n2, ?_, i3, ?_⟩
  · exact zt_Cm (fun i hi => by omega) (zt_Cp (by omega) (by omega) c1 c2 c3 c4 c5)
  · exact zx_AP_n' n8 (by omega) n6 m1 p2 m2 m3 m7 m4 m5 m6
theorem zk_fin {A : Option (Int32 × zs_H)} {B : Option zs_H} {φ w M0 M O : Nat} {X : Int32 → zs_H → zs_H → Prop} (a : zw A (fun p => zq_v p.1 ∧ zq_Z h0 T n K LC φ w p.2)) (c : zw B (fun g' => ∃ m', (M0 ≤ m' ∧ m' ≤ M) ∧ zx_B g0 T n φ w m' O g')) : ∃ x h' g', A = some (x, h') ∧ B = some g' ∧ (X x h' g' ∨ zk_Z h0 g0 T n K LC M0 M O x h' g') := by
  obtain ⟨⟨x, h'⟩, e1, v1, z1⟩ := a
  obtain ⟨g', e2, m', v2, z2⟩ := c
  exact ⟨x, h', g', e1, e2, Or.inr ⟨v1, φ, w, m', v2.1, v2.2, z1, z2⟩⟩
end ZFc
section ZFm
variable {g0 g : zs_H} {T : Nat → Int32} {n φ w m O : Nat}
theorem zxw_want {x : Int32} (H : zx_B g0 T n φ w m O g) : zw (f_Mo_want g x) (zx_B g0 T n φ w m O) := by rw [zx_want H, zw_some]; exact H
theorem zxw_wantSign {x : Int32} (H : zx_B g0 T n φ w m O g) : zw (f_Mo_wantSign g x) (zx_B g0 T n φ w m O) := by rw [zx_wantSign H, zw_some]; exact H
theorem zxw_wantWord {x : Int32} (H : zx_B g0 T n φ w m O g) : zw (f_Mo_wantWord g x) (zx_B g0 T n φ w m O) := by rw [zx_wantWord H, zw_some]; exact H
theorem zxw_simple {b : Nat} (H : zx_B g0 T n φ w m O g) (hm : m < 33500) (hb : b < m) : zw (f_Mo_simple g (nI b)) (fun g' => ∃ m', m ≤ m' ∧ m' ≤ m + 1 ∧ zx_B g0 T n φ w m' O g') := by
  have h30 : zw (f_Mo_simple_30 g (nI b)) (fun g' => ∃ m', m ≤ m' ∧ m' ≤ m + 1 ∧ zx_B g0 T n φ w m' O g') := by
    unfold f_Mo_simple_30 f_Mo_simple_31 f_Mo_simple_58
    rw [if_pos rfl, zw_bind]
    exact zw_mono (zxw_want H) fun g' z => zw_some.mpr ⟨m, Nat.le_refl _, by omega, z⟩
  have h31 : zw (f_Mo_simple_31 g (nI b) 1) (fun g' => ∃ m', m ≤ m' ∧ m' ≤ m + 1 ∧ zx_B g0 T n φ w m' O g') := by
    unfold f_Mo_simple_31 f_Mo_simple_58
    rw [if_neg (by decide), zw_B]
    refine zw_mono (zxb_add (kn := 8) H hm rfl hb) fun p z => ?_
    rw [zw_bind]
    exact zw_mono (zxw_want z.2) fun g' z => zw_some.mpr ⟨m + 1, by omega, Nat.le_refl _, z⟩
  unfold f_Mo_simple
  repeat' split
  all_goals first | exact h30 | exact h31
end ZFm
