/-! The judge: calls of FUNCTIONs (25, 26). -/
/-- the arguments' types, in the class and in the model -/
def ya_C (h : zs_H) (i : Nat) : List Nat → Int32 → Prop
  | [], x => x = -1
  | t :: l, x => ∃ a, a < 32784 ∧ ¬ a = i ∧ x = nI a ∧ (h.2.1 14) a = nI t ∧ t < 3 ∧ ya_C h i l ((h.2.1 18) a)
def ya_M (g : zs_H) : List Nat → Int32 → Prop
  | [], x => x = -1
  | t :: l, x => ∃ b, b < 33500 ∧ x = nI b ∧ (g.2.1 100) b = nI t ∧ t < 3 ∧ ya_M g l ((g.2.1 78) b)
section YA
variable {h g : zs_H} {i k sz : Nat}
theorem ya_cntC {nm : Int32} (hsz : (h.1 12 6) = nI sz) (hs2 : sz < 100000) : ∀ l x n turn N, ya_C h i l x → turn + l.length ≤ sz → l.length < N → f_Jd_judgeCall_L26 N h (nI i) nm (nI n) x (nI turn) = f_Jd_judgeCall_65 h (nI i) nm (nI (n + l.length)) := by
  intro l
  induction l with
  | nil =>
    intro x n turn N hx h1 h2
    obtain ⟨N, rfl⟩ : ∃ z, N = z + 1 := ⟨N - 1, by omega⟩
    show f_Jd_judgeCall_26 (f_Jd_judgeCall_L26 N) h (nI i) nm (nI n) x (nI turn) = _
    unfold f_Jd_judgeCall_26
    rw [if_pos (show x = -1 from hx), ite_self]
    rfl
  | cons t l ih =>
    intro x n turn N hx h1 h2
    have hl : (t :: l).length = l.length + 1 := rfl
    obtain ⟨N, rfl⟩ : ∃ z, N = z + 1 := ⟨N - 1, by omega⟩
    obtain ⟨a, a1, a2, a3, a4, a5, a6⟩ := hx
    show f_Jd_judgeCall_26 (f_Jd_judgeCall_L26 N) h (nI i) nm (nI n) x (nI turn) = _
    unfold f_Jd_judgeCall_26
    rw [hsz, if_neg (mt (nI_leI (by omega) (by omega)).mp (by omega)), a3, if_neg (zc_m1 (by omega)), if_pos (zi_in (by omega) a1), nI_clamp (show a < 2147483648 by omega), nI_1, nI_1, ih _ (n + 1) (turn + 1) N a6 (by omega) (by omega), hl, show n + 1 + l.length = n + (l.length + 1) by omega]
def ya_fl (y : Int32) : List Nat → Int32
  | [] => y
  | t :: l => ya_fl (if y = 0 then 0 else if t = 0 then 0 else 1) l
def ya_wd (w : Int32) : List Nat → Int32
  | [] => w
  | t :: l => ya_wd (f_Mo_wider w (nI t)) l
theorem ya_cntM {s b : Int32} (hk : k < 33500) : ∀ l x n y w N, ya_M g l x → l.length < N → f_Mo_lookAtCall_L86 N g (nI k) s b (nI n) y w x = f_Mo_lookAtCall_86 (fun _ _ _ _ _ _ _ _ => none) g (nI k) s b (nI (n + l.length)) (ya_fl y l) (ya_wd w l) (-1) := by
  intro l
  induction l with
  | nil =>
    intro x n y w N hx h2
    obtain ⟨N, rfl⟩ : ∃ z, N = z + 1 := ⟨N - 1, by omega⟩
    rw [show x = -1 from hx]
    show f_Mo_lookAtCall_86 (f_Mo_lookAtCall_L86 N) g (nI k) s b (nI n) y w (-1) = f_Mo_lookAtCall_86 (fun _ _ _ _ _ _ _ _ => none) g (nI k) s b (nI n) y w (-1)
    unfold f_Mo_lookAtCall_86
    simp only [show ((-1 : Int32) < 0) by decide, if_true]
  | cons t l ih =>
    intro x n y w N hx h2
    have hl : (t :: l).length = l.length + 1 := rfl
    obtain ⟨N, rfl⟩ : ∃ z, N = z + 1 := ⟨N - 1, by omega⟩
    obtain ⟨b', a1, a3, a4, a5, a6⟩ := hx
    show f_Mo_lookAtCall_86 (f_Mo_lookAtCall_L86 N) g (nI k) s b (nI n) y w x = _
    have e1 : ∀ z, f_Mo_lookAtCall_117 (f_Mo_lookAtCall_L86 N) g (nI k) s b (nI (n + 1)) w (nI b') z = f_Mo_lookAtCall_L86 N g (nI k) s b (nI (n + 1)) z (f_Mo_wider w (nI t)) ((g.2.1 78) b') := by
      intro z
      unfold f_Mo_lookAtCall_117
      rw [if_pos (zi_in (by omega) a1), nI_clamp (show b' < 2147483648 by omega), a4]
    have e2 : f_Mo_lookAtCall_86 (f_Mo_lookAtCall_L86 N) g (nI k) s b (nI n) y w x = f_Mo_lookAtCall_L86 N g (nI k) s b (nI (n + 1)) (if y = 0 then 0 else if t = 0 then 0 else 1) (f_Mo_wider w (nI t)) ((g.2.1 78) b') := by
      unfold f_Mo_lookAtCall_86 f_Mo_lookAtCall_116
      rw [a3, if_neg (zv_neg (show b' < 2147483648 by omega)).2, nI_1, e1, e1, if_pos (zi_in (by omega) a1), nI_clamp (show b' < 2147483648 by omega), a4, zv_isn a5]
      by_cases z1 : y = 0
      · rw [if_pos z1, if_pos z1]
      · rw [if_neg z1, if_neg z1]
        by_cases z2 : t = 0
        · rw [if_pos z2, if_pos rfl]
        · rw [if_neg z2, if_neg (by decide)]
    rw [e2, ih _ (n + 1) _ _ N a6 (by omega), hl, show n + 1 + l.length = n + (l.length + 1) by omega]
    rfl
end YA
/-- the arguments fit the inputs -/
def ya_fit (h : zs_H) : List Nat → Int32 → Prop
  | [], _ => True
  | w :: ws, x => ∃ a, x = nI a ∧ a < 32784 ∧ ((h.2.1 31) (32 + w) = 0 → (h.2.1 14) a = 0) ∧ ya_fit h ws ((h.2.1 18) a)
theorem ya_fit0 : ∀ t, t < 3 → ¬ f_Jd_fits (nI t) 0 = 0 → nI t = 0 := by decide +kernel
section YB
variable {h g : zs_H} {i k b lo e : Nat}
/-- the arguments against the inputs (26) -/
theorem ya_args (J1 : (h.1 38 3) = 0) (J2 : (g.1 68 29) = 0) (hi : i < 32784) (hk : k < 33500) (hb : b < 600) (he : e ≤ 5900) (hbd : (h.2.1 24) (9 + b) = nI (32 + e)) (hfi : (h.2.1 23) (9 + b) = nI (32 + lo)) (hfm : (g.2.1 90) b = nI lo) (hsec : ∀ v, v < e → ((g.2.1 95) v = 1 ↔ (h.2.1 29) (32 + v) = 1)) (hT : ∀ w, lo ≤ w → w < e → (h.2.1 29) (32 + w) = 1 → ∃ tw, (h.2.1 31) (32 + w) = nI tw ∧ (g.2.1 93) w = nI tw) (hlo : lo ≤ e) :
    ∀ (l : List Nat) (x x' inp : Int32) (v m j N N' : Nat), ya_C h i l x → ya_M g l x' → v + m = e → lo ≤ v → (zv_il h (e - lo) lo).drop j = zv_il h m v → (zv_il h m v).length = l.length → j + l.length < 6000 → zd_max (inp + 1) (nI (32 + lo)) = nI (32 + v) → l.length + 1 < N → l.length + 1 < N' →
    ∃ h' g', f_Jd_judgeCall_L173 N h (nI i) (nI (j + l.length)) x (nI (9 + b)) inp (nI j) = f_Jd_judgeCall_269 h' (nI i) (nI (9 + b)) ∧ f_Mo_callOwn_L32 N' g (nI k) (nI b) (nI j) x' = f_Mo_callOwn_96 g' (nI k) (nI b) ∧ ((h' = h ∧ g' = g ∧ ya_fit h (zv_il h m v) x) ∨ (h' = zv_rf 26 i h ∧ g' = zv_ru 26 k g)) := by
  have hzF := zF_big
  intro l
  induction l with
  | nil =>
    intro x x' inp v m j N N' hx hx' hv hlv hd hll hj hm hN hN'
    obtain ⟨N, rfl⟩ : ∃ z, N = z + 1 := ⟨N - 1, by omega⟩
    obtain ⟨N', rfl⟩ : ∃ z, N' = z + 1 := ⟨N' - 1, by omega⟩
    refine ⟨h, g, ?_, ?_, .inl ⟨rfl, rfl, by rw [List.eq_nil_of_length_eq_zero hll]; trivial⟩⟩
    · show f_Jd_judgeCall_173 (f_Jd_judgeCall_L173 N) h (nI i) (nI j) x (nI (9 + b)) inp (nI j) = _
      unfold f_Jd_judgeCall_173
      rw [if_pos ((nI_leI (by omega) (by omega)).mpr (Nat.le_refl _))]
    · show f_Mo_callOwn_32 (f_Mo_callOwn_L32 N') g (nI k) (nI b) (nI j) x' = _
      unfold f_Mo_callOwn_32
      rw [if_pos (by rw [show x' = -1 from hx']; decide)]
  | cons t l ih =>
    intro x x' inp v m j N N' hx hx' hv hlv hd hll hj hm hN hN'
    have hl : (t :: l).length = l.length + 1 := rfl
    rw [hl] at hll hN hN' hj
    obtain ⟨N, rfl⟩ : ∃ z, N = z + 1 := ⟨N - 1, by omega⟩
    obtain ⟨N', rfl⟩ : ∃ z, N' = z + 1 := ⟨N' - 1, by omega⟩
    obtain ⟨a, a1, a2, a3, a4, a5, a6⟩ := hx
    obtain ⟨b', b1, b3, b4, b5, b6⟩ := hx'
    have hlen := zv_ilen h m v
    cases eil : zv_il h m v with
    | nil => rw [eil] at hll; cases hll
    | cons w il =>
      rw [eil] at hll hd
      have hll' : il.length = l.length := Nat.succ.inj hll
      obtain ⟨w1, w2, w3, w4, w5⟩ := zv_ilcons m v w il eil
      obtain ⟨tw, t1, t2⟩ := hT w (by omega) (by omega) w3
      have hin : f_Pl_inputFrom h (nI (9 + b)) (inp + 1) = some (nI (32 + w)) := by
        unfold f_Pl_inputFrom
        rw [if_pos (zi_in (by omega) (by omega)), nI_clamp (show 9 + b < 2147483648 by omega), hfi, hm]
        exact zv_ifrC (by omega) he hbd m v zF hv (by omega) w1 (by omega) w3 w5
      have hixM : f_Mo_input g (nI b) (nI j) = some (nI w) := by
        unfold f_Mo_input
        rw [if_pos (zi_in (by omega) (by omega)), nI_clamp (show b < 2147483648 by omega), hfm]
        refine zv_ixM he hsec (e - lo) lo j zF w (by omega) (by omega) (by omega) ?_
        have := congrArg (fun L : List Nat => L[0]?) hd
        rw [List.getElem?_drop] at this
        exact this
      have hmx : zd_max (nI (32 + w) + 1) (nI (32 + lo)) = nI (32 + (w + 1)) := by
        rw [nI_1]
        unfold zd_max
        rw [if_neg (mt (nI_ltI (by omega) (by omega)).mp (by omega))]
        rfl
      have ihh := ih ((h.2.1 18) a) ((g.2.1 78) b') (nI (32 + w)) (w + 1) (v + m - (w + 1)) (j + 1) N N' a6 b6 (by omega) (by omega) (by rw [w4, ← List.drop_drop, hd]; rfl) (by rw [w4]; exact hll') (by omega) hmx (by omega) (by omega)
      rw [show j + 1 + l.length = j + (l.length + 1) by omega] at ihh
      rw [hl]
      have eC : f_Jd_judgeCall_L173 (N + 1) h (nI i) (nI (j + (l.length + 1))) x (nI (9 + b)) inp (nI j) = if f_Jd_fits (nI t) (nI tw) = 0 then f_Jd_judgeCall_245 (f_Jd_judgeCall_L173 N) h (nI i) (nI (j + (l.length + 1))) (nI a) (nI (9 + b)) (nI (32 + w)) (nI j) 1 else f_Jd_judgeCall_245 (f_Jd_judgeCall_L173 N) h (nI i) (nI (j + (l.length + 1))) (nI a) (nI (9 + b)) (nI (32 + w)) (nI j) 0 := by
        show f_Jd_judgeCall_173 (f_Jd_judgeCall_L173 N) h (nI i) (nI (j + (l.length + 1))) x (nI (9 + b)) inp (nI j) = _
        unfold f_Jd_judgeCall_173 f_Jd_judgeCall_240
        rw [if_neg (mt (nI_leI (by omega) (by omega)).mp (by omega)), if_pos J1, a3, if_neg (zc_m1 (by omega)), hin, Option.bind_some, if_neg (zc_m1 (by omega)), if_pos (zi_in (by omega) a1), if_pos (zi_in (by omega) (by omega)), nI_clamp (show a < 2147483648 by omega), nI_clamp (show 32 + w < 2147483648 by omega), a4, t1]
      have eM : f_Mo_callOwn_L32 (N' + 1) g (nI k) (nI b) (nI j) x' = if f_Jd_fits (nI t) (nI tw) = 0 then f_Mo_callOwn_75 (f_Mo_callOwn_L32 N') g (nI k) (nI b) (nI j) (nI b') 1 else f_Mo_callOwn_75 (f_Mo_callOwn_L32 N') g (nI k) (nI b) (nI j) (nI b') 0 := by
        show f_Mo_callOwn_32 (f_Mo_callOwn_L32 N') g (nI k) (nI b) (nI j) x' = _
        unfold f_Mo_callOwn_32
        rw [b3, if_neg (zv_neg (show b' < 2147483648 by omega)).2, if_pos J2, if_pos (zi_in (by omega) b1), hixM, Option.bind_some, if_pos (zi_in (by omega) (by omega)), nI_clamp (show b' < 2147483648 by omega), nI_clamp (show w < 2147483648 by omega), b4, t2]
        rfl
      rw [eC, eM]
      by_cases zf : f_Jd_fits (nI t) (nI tw) = 0
      · rw [if_pos zf, if_pos zf]
        unfold f_Jd_judgeCall_245 f_Mo_callOwn_75
        rw [show (26 : Int32) = nI 26 from rfl, zv_ref1 (by decide) J1 hi, zv_rule1 (by decide) J2 hk, Option.bind_some, Option.bind_some, if_pos (zi_in (by omega) a1), if_pos (zi_in (by omega) b1), nI_1]
        obtain ⟨N, rfl⟩ : ∃ z, N = z + 1 := ⟨N - 1, by omega⟩
        obtain ⟨N', rfl⟩ : ∃ z, N' = z + 1 := ⟨N' - 1, by omega⟩
        refine ⟨zv_rf 26 i h, zv_ru 26 k g, ?_, ?_, .inr ⟨rfl, rfl⟩⟩
        · show f_Jd_judgeCall_173 (f_Jd_judgeCall_L173 N) (zv_rf 26 i h) (nI i) (nI (j + (l.length + 1))) _ (nI (9 + b)) (nI (32 + w)) (nI (j + 1)) = _
          unfold f_Jd_judgeCall_173
          rw [if_neg (zv_rff (φ := 26) (i := i) (h := h) (by decide) (by decide)), ite_self]
        · show f_Mo_callOwn_32 (f_Mo_callOwn_L32 N') (zv_ru 26 k g) (nI k) (nI b) (nI (j + 1)) _ = _
          unfold f_Mo_callOwn_32
          rw [if_neg (zv_ruf (φ := 26) (k := k) (g := g) (by decide) (by decide)), ite_self]
      · rw [if_neg zf, if_neg zf]
        unfold f_Jd_judgeCall_245 f_Mo_callOwn_75
        rw [zv_ref0, zv_rule0, Option.bind_some, Option.bind_some, if_pos (zi_in (by omega) a1), if_pos (zi_in (by omega) b1), nI_1, nI_clamp (show a < 2147483648 by omega), nI_clamp (show b' < 2147483648 by omega)]
        obtain ⟨h', g', q1, q2, q3⟩ := ihh
        refine ⟨h', g', q1, q2, ?_⟩
        rcases q3 with ⟨q3, q4, q5⟩ | q3
        · refine .inl ⟨q3, q4, a, a3, a1, fun z => ?_, by rw [← w4]; exact q5⟩
          rw [a4]
          rw [t1] at z
          rw [z] at zf
          exact ya_fit0 t a5 zf
        · exact .inr q3
end YB
