/-! The judge: a FUNCTION's inputs. -/
/-- the inputs among m variables from v on -/
def zv_il (h : zs_H) : Nat → Nat → List Nat
  | 0, _ => []
  | m + 1, v => if (h.2.1 29) (32 + v) = 1 then v :: zv_il h m (v + 1) else zv_il h m (v + 1)
theorem zv_ilen (h : zs_H) : ∀ m v, (zv_il h m v).length ≤ m := by
  intro m
  induction m with
  | zero => intro v; exact Nat.le_refl _
  | succ m ih =>
    intro v
    show (if (h.2.1 29) (32 + v) = 1 then v :: zv_il h m (v + 1) else zv_il h m (v + 1)).length ≤ m + 1
    have := ih (v + 1)
    split
    · show (zv_il h m (v + 1)).length + 1 ≤ m + 1; omega
    · omega
theorem zv_ilcons {h : zs_H} : ∀ m v w l, zv_il h m v = w :: l → v ≤ w ∧ w < v + m ∧ (h.2.1 29) (32 + w) = 1 ∧ zv_il h (v + m - (w + 1)) (w + 1) = l ∧ ∀ j, v ≤ j → j < w → ¬ (h.2.1 29) (32 + j) = 1 := by
  intro m
  induction m with
  | zero => intro v w l e; cases e
  | succ m ih =>
    intro v w l e
    have e' : (if (h.2.1 29) (32 + v) = 1 then v :: zv_il h m (v + 1) else zv_il h m (v + 1)) = w :: l := e
    by_cases z : (h.2.1 29) (32 + v) = 1
    · rw [if_pos z] at e'
      obtain ⟨rfl, rfl⟩ := List.cons.inj e'
      exact ⟨Nat.le_refl _, by omega, z, by rw [show v + (m + 1) - (v + 1) = m by omega], fun j h1 h2 => by omega⟩
    · rw [if_neg z] at e'
      obtain ⟨a1, a2, a3, a4, a5⟩ := ih (v + 1) w l e'
      refine ⟨by omega, by omega, a3, by rw [show v + (m + 1) - (w + 1) = v + 1 + m - (w + 1) by omega]; exact a4, fun j h1 h2 => ?_⟩
      by_cases ej : j = v
      · rw [ej]; exact z
      · exact a5 j (by omega) h2
section ZVI
variable {h g : zs_H} {b e : Nat}
theorem zv_inpC (hb : b < 620) (he : e ≤ 5900) (hbd : (h.2.1 24) (9 + b) = nI (32 + e)) : ∀ m v n N, v + m = e → m < N → f_Pl_inputs_L9 h N (nI (9 + b)) (nI n) (nI (32 + v)) = some (nI (n + (zv_il h m v).length)) := by
  intro m
  induction m with
  | zero =>
    intro v n N hv hN
    obtain ⟨N, rfl⟩ : ∃ z, N = z + 1 := ⟨N - 1, by omega⟩
    show f_Pl_inputs_9 h (f_Pl_inputs_L9 h N) (nI (9 + b)) (nI n) (nI (32 + v)) = _
    unfold f_Pl_inputs_9
    rw [if_pos (zi_in (by omega) (by omega)), nI_clamp (show 9 + b < 2147483648 by omega), hbd, if_pos ((nI_leI (by omega) (by omega)).mpr (by omega))]
    rfl
  | succ m ih =>
    intro v n N hv hN
    obtain ⟨N, rfl⟩ : ∃ z, N = z + 1 := ⟨N - 1, by omega⟩
    show f_Pl_inputs_9 h (f_Pl_inputs_L9 h N) (nI (9 + b)) (nI n) (nI (32 + v)) = some (nI (n + (if (h.2.1 29) (32 + v) = 1 then v :: zv_il h m (v + 1) else zv_il h m (v + 1)).length))
    unfold f_Pl_inputs_9 f_Pl_inputs_35
    rw [if_pos (zi_in (by omega) (by omega)), nI_clamp (show 9 + b < 2147483648 by omega), hbd, if_neg (mt (nI_leI (by omega) (by omega)).mp (by omega)), if_pos (zi_in (by omega) (by omega)), nI_clamp (show 32 + v < 2147483648 by omega), show nI (32 + v) + 1 = nI (32 + (v + 1)) from by rw [nI_1]; rfl]
    by_cases z : (h.2.1 29) (32 + v) = 1
    · rw [if_pos z, if_pos z, nI_1, ih (v + 1) (n + 1) N (by omega) (by omega)]
      show some (nI (n + 1 + (zv_il h m (v + 1)).length)) = some (nI (n + ((zv_il h m (v + 1)).length + 1)))
      rw [show n + 1 + (zv_il h m (v + 1)).length = n + ((zv_il h m (v + 1)).length + 1) by omega]
    · rw [if_neg z, if_neg z, show nI n + 0 = nI n from Int32.add_zero _]
      exact ih (v + 1) n N (by omega) (by omega)
theorem zv_inpM (hb : b < 600) (he : e ≤ 5900) (hbd : (if nI b = (g.1 68 33) - 1 then (g.1 68 41) else (g.2.1 90) (b + 1)) = nI e) (hsec : ∀ v, v < e → ((g.2.1 95) v = 1 ↔ (h.2.1 29) (32 + v) = 1)) : ∀ m v n N, v + m = e → m < N → f_Mo_inputs_L9 g N (nI b) (nI n) (nI v) = some (nI (n + (zv_il h m v).length)) := by
  have go : ∀ (N v n : Nat), f_Mo_inputs_9 g (f_Mo_inputs_L9 g N) (nI b) (nI n) (nI v) = f_Mo_inputs_35 g (f_Mo_inputs_L9 g N) (nI b) (nI n) (nI v) (nI e) (nI v) := by
    intro N v n
    unfold f_Mo_inputs_9
    rw [nI_1, if_pos (zi_in (show b + 1 < 2147483648 by omega) (by omega)), nI_clamp (show b + 1 < 2147483648 by omega), ← hbd]
    split <;> rfl
  intro m
  induction m with
  | zero =>
    intro v n N hv hN
    obtain ⟨N, rfl⟩ : ∃ z, N = z + 1 := ⟨N - 1, by omega⟩
    show f_Mo_inputs_9 g (f_Mo_inputs_L9 g N) (nI b) (nI n) (nI v) = _
    rw [go]
    unfold f_Mo_inputs_35
    rw [if_pos ((nI_leI (by omega) (by omega)).mpr (by omega))]
    rfl
  | succ m ih =>
    intro v n N hv hN
    obtain ⟨N, rfl⟩ : ∃ z, N = z + 1 := ⟨N - 1, by omega⟩
    show f_Mo_inputs_9 g (f_Mo_inputs_L9 g N) (nI b) (nI n) (nI v) = some (nI (n + (if (h.2.1 29) (32 + v) = 1 then v :: zv_il h m (v + 1) else zv_il h m (v + 1)).length))
    rw [go]
    unfold f_Mo_inputs_35 f_Mo_inputs_54
    rw [if_neg (mt (nI_leI (by omega) (by omega)).mp (by omega)), if_pos (zi_in (by omega) (by omega)), nI_clamp (show v < 2147483648 by omega)]
    have hs := hsec v (by omega)
    by_cases z : (h.2.1 29) (32 + v) = 1
    · rw [if_pos (hs.mpr z), if_pos z, nI_1, nI_1, ih (v + 1) (n + 1) N (by omega) (by omega)]
      show some (nI (n + 1 + (zv_il h m (v + 1)).length)) = some (nI (n + ((zv_il h m (v + 1)).length + 1)))
      rw [show n + 1 + (zv_il h m (v + 1)).length = n + ((zv_il h m (v + 1)).length + 1) by omega]
    · rw [if_neg (mt hs.mp z), if_neg z, show nI n + 0 = nI n from Int32.add_zero _, nI_1]
      exact ih (v + 1) n N (by omega) (by omega)
/-- the next input -/
theorem zv_ifrC (hb : b < 620) (he : e ≤ 5900) (hbd : (h.2.1 24) (9 + b) = nI (32 + e)) {w : Nat} : ∀ m v N, v + m = e → m < N → v ≤ w → w < e → (h.2.1 29) (32 + w) = 1 → (∀ j, v ≤ j → j < w → ¬ (h.2.1 29) (32 + j) = 1) → f_Pl_inputFrom_L11 h N (nI (9 + b)) (nI (32 + v)) = some (nI (32 + w)) := by
  intro m
  induction m with
  | zero => intro v N hv _ h1 h2; omega
  | succ m ih =>
    intro v N hv hN h1 h2 h3 h4
    obtain ⟨N, rfl⟩ : ∃ z, N = z + 1 := ⟨N - 1, by omega⟩
    show f_Pl_inputFrom_11 h (f_Pl_inputFrom_L11 h N) (nI (9 + b)) (nI (32 + v)) = _
    unfold f_Pl_inputFrom_11
    rw [if_pos (zi_in (by omega) (by omega)), nI_clamp (show 9 + b < 2147483648 by omega), hbd, if_neg (mt (nI_leI (by omega) (by omega)).mp (by omega)), if_pos (zi_in (by omega) (by omega)), nI_clamp (show 32 + v < 2147483648 by omega)]
    by_cases ev : v = w
    · subst ev
      rw [if_pos h3]
    · rw [if_neg (h4 v (Nat.le_refl _) (by omega)), show nI (32 + v) + 1 = nI (32 + (v + 1)) from by rw [nI_1]; rfl]
      exact ih (v + 1) N (by omega) (by omega) (by omega) h2 h3 (fun j a1 a2 => h4 j (by omega) a2)
/-- the input of a number -/
theorem zv_ixM (he : e ≤ 5900) (hsec : ∀ v, v < e → ((g.2.1 95) v = 1 ↔ (h.2.1 29) (32 + v) = 1)) : ∀ m v k N w, v + m = e → m < N → k < 6000 → (zv_il h m v)[k]? = some w → f_Mo_input_L10 g N (nI k) (nI v) = some (nI w) := by
  intro m
  induction m with
  | zero => intro v k N w _ _ _ e; cases e
  | succ m ih =>
    intro v k N w hv hN hk e
    obtain ⟨N, rfl⟩ : ∃ z, N = z + 1 := ⟨N - 1, by omega⟩
    have e' : (if (h.2.1 29) (32 + v) = 1 then v :: zv_il h m (v + 1) else zv_il h m (v + 1))[k]? = some w := e
    show f_Mo_input_10 g (f_Mo_input_L10 g N) (nI k) (nI v) = _
    unfold f_Mo_input_10 f_Mo_input_25 f_Mo_input_42
    have hs := hsec v (by omega)
    simp only [if_pos (zi_in (show v < 2147483648 by omega) (show v < 8400 by omega)), nI_clamp (show v < 2147483648 by omega)]
    by_cases z : (h.2.1 29) (32 + v) = 1
    · rw [if_pos z] at e'
      rw [if_pos (hs.mpr z)]
      by_cases ek : k = 0
      · subst ek
        rw [if_pos ((zc_el (k := 0) (by decide) (by omega)).mpr (by omega))]
        exact congrArg (fun o => o.map nI) (show some v = some w from e')
      · obtain ⟨k, rfl⟩ : ∃ z, k = z + 1 := ⟨k - 1, by omega⟩
        rw [if_neg (mt (zc_el (k := 0) (by decide) (by omega)).mp (by omega)), show nI (k + 1) - 1 = nI k by rw [show (1 : Int32) = nI 1 from rfl, zi_sub (by omega)]; rfl, nI_1, if_pos (hs.mpr z)]
        exact ih (v + 1) k N w (by omega) (by omega) (by omega) e'
    · rw [if_neg z] at e'
      rw [if_neg (mt hs.mp z), if_neg (mt hs.mp z), show nI k - 0 = nI k from Int32.sub_zero _, nI_1]
      exact ih (v + 1) k N w (by omega) (by omega) hk e'
end ZVI
