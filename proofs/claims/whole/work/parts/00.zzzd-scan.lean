/-! The judge: both sides find a declaration's parts. -/
theorem zv_chQ {Q Q' : Nat → Prop} {g : zs_H} (hq : ∀ j, Q' j → Q j) : ∀ r x, zv_ch Q' g r x → zv_ch Q g r x := by
  intro r
  induction r with
  | zero => intro x h; exact h
  | succ r ih => intro x ⟨k, h1, h2, h3, h5, h4⟩; exact ⟨k, h1, h2, h3, hq k h5, ih _ h4⟩
/-- how many names stand in front -/
def zv_nm : zt_T → Nat
  | .leaf => 0
  | .inner c _ _ _ r => (if c = 37 then 1 else 0) + zv_nm r
theorem zv_nmle : ∀ u : zt_T, zv_nm u ≤ zt_ln u := by
  intro u
  induction u with
  | leaf => exact Nat.le_refl _
  | inner c k v l r ihl ihr =>
    show (if c = 37 then 1 else 0) + zv_nm r ≤ 1 + zt_ln r
    split <;> omega
/-- behind the names there are none -/
theorem zv_nm0 : ∀ (u : zt_T) (st : Nat), 2 ≤ st → st ≤ 4 → ¬ zg_run 5 st u = 99 → zv_nm u = 0 := by
  intro u
  induction u with
  | leaf => intro st _ _ _; rfl
  | inner c k v l r ihl ihr =>
    intro st h1 h2 h3
    have h3' : ¬ zg_run 5 (zg_q 5 st c) r = 99 := h3
    have h4 : ¬ zg_q 5 st c = 99 := fun z => h3' (by rw [z]; exact zv_q99 5 r)
    show (if c = 37 then 1 else 0) + zv_nm r = 0
    rcases zv_q5 h4 with ⟨e1, e2, e3⟩ | ⟨e1, e2, e3⟩ | ⟨e1, e2, e3⟩ | ⟨e1, e2, e3⟩
    · omega
    · omega
    · rw [e3] at h3'
      rw [if_neg (by omega), ihr 3 (by omega) (by omega) h3']
    · rw [e3] at h3'
      rw [if_neg (by omega), ihr 4 (by omega) (by omega) h3']
/-- the place, or none -/
def zv_plc : zt_T → Int32
  | .leaf => -1
  | .inner c kv _ _ r => if c = 7 then kv.2 else zv_plc r
/-- what is so for the type -/
def zv_tyok (Φ : Nat → Int32 × Int32 → zt_T → Prop) : zt_T → Prop
  | .leaf => True
  | .inner c kv _ l r => (c = 8 ∨ c = 9 ∨ c = 10 → Φ c kv l) ∧ zv_tyok Φ r
theorem zv_plc0 : ∀ (u : zt_T) (st : Nat), 2 ≤ st → st ≤ 4 → ¬ zg_run 5 st u = 99 → zv_plc u = -1 := by
  intro u
  induction u with
  | leaf => intro st _ _ _; rfl
  | inner c k v l r ihl ihr =>
    intro st h1 h2 h3
    have h3' : ¬ zg_run 5 (zg_q 5 st c) r = 99 := h3
    have h4 : ¬ zg_q 5 st c = 99 := fun z => h3' (by rw [z]; exact zv_q99 5 r)
    show (if c = 7 then k.2 else zv_plc r) = -1
    rcases zv_q5 h4 with ⟨e1, e2, e3⟩ | ⟨e1, e2, e3⟩ | ⟨e1, e2, e3⟩ | ⟨e1, e2, e3⟩
    · omega
    · omega
    · rw [e3] at h3'
      rw [if_neg (by omega)]; exact ihr 3 (by omega) (by omega) h3'
    · rw [e3] at h3'
      rw [if_neg (by omega)]; exact ihr 4 (by omega) (by omega) h3'
/-- the names -/
theorem zv_scanN {LC LM : List (List Int32)} {h g : zs_H} {sz : Nat} (hsz : (h.1 12 6) = nI sz) (hsz2 : sz < 100000) : ∀ (u : zt_T) (st : Nat) (P Q : Nat → Prop) (x y up x' y' : Int32), st ≤ 1 → ¬ zg_run 5 st u = 99 → 3 ≤ zg_run 5 st u → zt_C h u P x y → zt_M LC LM g u Q up x' y' → (∀ i, P i → i < 32784) → (∀ i, Q i → i < 33500) → zg_ok u →
    ∃ (w : zt_T) (P' Q' : Nat → Prop) (a b : Nat) (z z' : Int32), ¬ zg_run 5 1 w = 99 ∧ 3 ≤ zg_run 5 1 w ∧ zv_nm w = 0 ∧ zg_ok w ∧ zt_C h w P' (nI a) z ∧ zt_M LC LM g w Q' up (nI b) z' ∧ (∀ i, P' i → P i) ∧ (∀ i, Q' i → Q i) ∧ a < 32784 ∧ b < 33500 ∧ (zv_plc w = zv_plc u ∧ ∀ Φ, zv_tyok Φ u → zv_tyok Φ w) ∧ zv_ch Q g (zv_nm u) x' ∧
      (∀ N turn x1, zv_nm u < N → turn + zt_ln u ≤ sz → f_Jd_judgeDeclaration_L12 N h x1 x (nI turn) = f_Jd_judgeDeclaration_53 h x1 (nI a)) ∧
      (∀ N n x1, zv_nm u < N → f_Mo_lookAtDeclaration_L18 N g x1 (nI n) (-1) (-1) (-1) x' = f_Mo_lookAtDeclaration_L18 (N - zv_nm u) g x1 (nI (n + zv_nm u)) (-1) (-1) (-1) (nI b)) := by
  intro u
  induction u with
  | leaf =>
    intro st P Q x y up x' y' h1 h2 h3
    exact absurd (show 3 ≤ st from h3) (by omega)
  | inner c kv v l r ihl ihr =>
    intro st P Q x y up x' y' h1 h2 h3 hC hM hP hQ hok
    have h2' : ¬ zg_run 5 (zg_q 5 st c) r = 99 := h2
    have h4 : ¬ zg_q 5 st c = 99 := fun z => h2' (by rw [z]; exact zv_q99 5 r)
    have hC0 := hC
    have hM0 := hM
    obtain ⟨a, P1, P2, z1, z2, ea, a1, a2, a3, a4, a5, a6, a7, a8, a9, a10⟩ := zv_hC hC
    obtain ⟨b, Q1, Q2, z3, eb, b1, b2, b3, b4, b5, b6, b7, b8, b9, b10, b11⟩ := zv_hM hM
    have ha := hP a a2
    have hb := hQ b b2
    have hin : zd_in (nI a) 32784 := zi_in (by omega) ha
    have ca : (nI a).toNatClampNeg = a := nI_clamp (by omega)
    by_cases c37 : c = 37
    · subst c37
      have e3 : zg_q 5 st 37 = 1 := by rcases zv_q5 h4 with ⟨_, _, e⟩ | ⟨e, _⟩ | ⟨e, _⟩ | ⟨e, _⟩ <;> first | exact e | omega
      have h3' : 3 ≤ zg_run 5 (zg_q 5 st 37) r := h3
      rw [e3] at h2' h3'
      obtain ⟨w, P', Q', a', b', z, z', k1, k2, k3, k4, k5, k6, k7, k8, k9, k10, kx, k11, k12, k13⟩ := ihr 1 P2 Q2 _ _ up _ _ (by omega) h2' h3' a9 b10 (fun i hi => hP i (a7 i hi).1) (fun i hi => hQ i (b8 i hi).1) hok.2.2
      have en : zv_nm (.inner 37 kv v l r) = zv_nm r + 1 := by show 1 + zv_nm r = _; omega
      have el : zt_ln (.inner 37 kv v l r) = 1 + zt_ln r := rfl
      refine ⟨w, P', Q', a', b', z, z', k1, k2, k3, k4, k5, k6, fun i hi => (a7 i (k7 i hi)).1, fun i hi => (b8 i (k8 i hi)).1, k9, k10, ⟨kx.1, fun Φ hΦ => kx.2 Φ hΦ.2⟩, ?_, ?_, ?_⟩
      · rw [en]; exact ⟨b, hb, eb, b3, b2, zv_chQ (fun j hj => (b8 j hj).1) _ _ k11⟩
      · intro N turn x1 h5 h6
        rw [en] at h5
        rw [el] at h6
        obtain ⟨N, rfl⟩ : ∃ n, N = n + 1 := ⟨N - 1, by omega⟩
        rw [← k12 N (turn + 1) x1 (by omega) (by omega)]
        show f_Jd_judgeDeclaration_12 (f_Jd_judgeDeclaration_L12 N) h x1 x (nI turn) = _
        unfold f_Jd_judgeDeclaration_12
        rw [hsz, if_neg (mt (nI_leI (by omega) (by omega)).mp (by omega)), ea, if_pos hin, ca, a3, if_pos (by decide), nI_1]
      · intro N n x1 h5
        rw [en] at h5 ⊢
        obtain ⟨N, rfl⟩ : ∃ n, N = n + 1 := ⟨N - 1, by omega⟩
        rw [show N + 1 - (zv_nm r + 1) = N - zv_nm r by omega, show n + (zv_nm r + 1) = n + 1 + zv_nm r by omega, ← k13 N (n + 1) x1 (by omega)]
        show f_Mo_lookAtDeclaration_18 (f_Mo_lookAtDeclaration_L18 N) g x1 (nI n) (-1) (-1) (-1) x' = _
        rw [eb, zv_m18 (kd := 6) hb (by decide) b3]
        rfl
    · have hst : st = 1 ∧ (c = 7 ∨ c = 8 ∨ c = 9 ∨ c = 10) := by
        rcases zv_q5 h4 with ⟨e, _⟩ | ⟨e1, e2, _⟩ | ⟨e1, e2, _⟩ | ⟨e1, e2, _⟩
        · exact absurd e c37
        · exact ⟨e2, .inl e1⟩
        · exact ⟨by omega, .inr e1⟩
        · omega
      obtain ⟨s1, s2⟩ := hst
      subst s1
      have e0 : zv_nm (.inner c kv v l r) = 0 := by
        show (if c = 37 then 1 else 0) + zv_nm r = 0
        rw [if_neg c37]
        rcases zv_q5 h4 with ⟨e, _⟩ | ⟨e1, e2, e3⟩ | ⟨e1, e2, e3⟩ | ⟨e1, e2, e3⟩
        · exact absurd e c37
        · rw [e3] at h2'; rw [zv_nm0 r 2 (by omega) (by omega) h2']
        · rw [e3] at h2'; rw [zv_nm0 r 3 (by omega) (by omega) h2']
        · omega
      rw [ea] at hC0
      rw [eb] at hM0
      rw [e0]
      refine ⟨_, P, Q, a, b, y, y', h2, h3, e0, hok, hC0, hM0, fun i hi => hi, fun i hi => hi, ha, hb, ⟨rfl, fun Φ hΦ => hΦ⟩, ?_, ?_, ?_⟩
      · refine ⟨b, hb, eb, ?_⟩
        rw [b3]
        unfold zt_km
        rcases s2 with e | e | e | e <;> subst e <;> decide
      · intro N turn x1 h5 h6
        obtain ⟨N, rfl⟩ : ∃ n, N = n + 1 := ⟨N - 1, by omega⟩
        show f_Jd_judgeDeclaration_12 (f_Jd_judgeDeclaration_L12 N) h x1 x (nI turn) = _
        unfold f_Jd_judgeDeclaration_12
        rw [ea, if_pos hin, ca, a3, if_neg (show ¬ nI c = 37 from fun z => c37 ((zc_eq (k := 37) (by decide) (by omega)).mp z)), ite_self]
      · intro N n x1 h5
        rw [eb]; rfl
