/-! The machine: what standard blocks do; the model. -/
def yT_on (x : Int32) : Int32 := if x = 0 then 0 else 1
def yT_pt (x : Int32) : Int32 := if x ≤ 0 then 0 else x
def yT_gr (nw pt e l : Int32) : Int32 := (if pt.toInt64 ≤ e.toInt64 + nw.toInt64 - l.toInt64 then pt.toInt64 else e.toInt64 + nw.toInt64 - l.toInt64).toInt32
/-- the elapsed time of TON, TOF, TP -/
def yT_et (k : Nat) (c0 c2 c3 c4 pt gr : Int32) : Int32 :=
  if k = 0 then (if c0 = 0 ∨ c4 = 0 then 0 else gr)
  else if k = 1 then (if c0 = 0 ∧ c4 = 0 then (if c2 = 0 then c3 else gr) else 0)
  else if ¬ c2 = 0 ∧ gr < pt then gr else if c0 = 0 ∨ c4 = 0 then 0 else if c2 = 0 then c3 else gr
/-- their Q -/
def yT_q (k : Nat) (c0 c2 c3 c4 pt gr : Int32) : Int32 :=
  if k = 0 then (if c0 = 0 ∨ yT_et 0 c0 c2 c3 c4 pt gr < pt then 0 else 1)
  else if k = 1 then (if ¬ c0 = 0 then 1 else if ¬ c4 = 0 then (if 0 < pt then 1 else 0) else if c2 = 0 ∨ pt ≤ gr then 0 else 1)
  else if ¬ c2 = 0 ∧ gr < pt then 1 else if c0 = 0 then 0 else if c4 = 0 then (if pt ≤ 0 then 0 else 1) else 0
def yT_cv (k : Nat) (c0 c1 c2 c4 c5 : Int32) : Int32 :=
  if k = 3 then (if ¬ c1 = 0 then 0 else if ¬ c0 = 0 ∧ c5 = 0 ∧ ¬ 32767 ≤ c4 then c4 + 1 else c4)
  else (if ¬ c1 = 0 then c2 else if ¬ c0 = 0 ∧ c5 = 0 ∧ ¬ c4 ≤ -32768 then c4 - 1 else c4)
/-- what standard block k does -/
def yT_m (nw : Int32) (k p : Nat) (c : Nat → Int32) : Nat → Int32 :=
  if k < 3 then yE_u (yE_u (yE_u (yE_u c (p + 3) (yT_et k (c p) (c (p + 2)) (c (p + 3)) (c (p + 4)) (yT_pt (c (p + 1))) (yT_gr nw (yT_pt (c (p + 1))) (c (p + 3)) (c (p + 5))))) (p + 2) (yT_q k (c p) (c (p + 2)) (c (p + 3)) (c (p + 4)) (yT_pt (c (p + 1))) (yT_gr nw (yT_pt (c (p + 1))) (c (p + 3)) (c (p + 5))))) (p + 4) (yT_on (c p))) (p + 5) nw
  else if k < 5 then yE_u (yE_u (yE_u c (p + 4) (yT_cv k (c p) (c (p + 1)) (c (p + 2)) (c (p + 4)) (c (p + 5)))) (p + 3) (if k = 3 then (if yT_cv k (c p) (c (p + 1)) (c (p + 2)) (c (p + 4)) (c (p + 5)) < c (p + 2) then 0 else 1) else (if 0 < yT_cv k (c p) (c (p + 1)) (c (p + 2)) (c (p + 4)) (c (p + 5)) then 0 else 1))) (p + 5) (yT_on (c p))
  else if k < 7 then yE_u (yE_u c (p + 1) (if k = 5 then (if ¬ c p = 0 ∧ c (p + 2) = 0 then 1 else 0) else (if c p = 0 ∧ ¬ c (p + 2) = 0 then 1 else 0))) (p + 2) (yT_on (c p))
  else yE_u c (p + 2) (if k = 7 then (if ¬ c p = 0 ∨ (c (p + 1) = 0 ∧ ¬ c (p + 2) = 0) then 1 else 0) else (if c (p + 1) = 0 ∧ (¬ c p = 0 ∨ ¬ c (p + 2) = 0) then 1 else 0))
def yT_S (A : Nat) (h0 h : zs_H) (c : Nat → Int32) : Prop := zfr [] [A] [] h0 h ∧ ∀ j, j < 8192 → h.2.1 A j = c j
/-- it ends so -/
def yT_E (A : Nat) (h0 : zs_H) (r : Option zs_H) (c : Nat → Int32) : Prop := ∃ h', r = some h' ∧ yT_S A h0 h' c
section YTM
variable {A p : Nat} {g0 g : zs_H} {c c' : Nat → Int32} {v nw : Int32}
theorem yT_w (H : yT_S A g0 g c) : yT_S A g0 (zs_uM g A p v) (yE_u c p v) := by
  refine ⟨zfr_M (List.mem_singleton.mpr rfl) H.1, fun j hj => zu_MM.trans ?_⟩
  show (if A = A ∧ j = p then v else g.2.1 A j) = if j = p then v else c j
  by_cases z : j = p
  · rw [if_pos ⟨rfl, z⟩, if_pos z]
  · rw [if_neg (fun w => z w.2), if_neg z]; exact H.2 j hj
theorem yT_Ec {r : Option zs_H} (e : ∀ j, j < 8192 → c' j = c j) (H : yT_E A g0 r c) : yT_E A g0 r c' := by
  obtain ⟨h', a1, a2, a3⟩ := H
  exact ⟨h', a1, a2, fun j hj => (a3 j hj).trans (e j hj).symm⟩
theorem yT_aon (H : yT_S 114 g0 g c) {x : Nat} (hx : x < 8192) : f_Mo_on g (nI x) = some (yT_on (c x)) := by
  unfold f_Mo_on yT_on
  rw [if_pos (zi_in (by omega) hx), nI_clamp (by omega), H.2 x hx]
  split <;> rfl
theorem yT_atn (H : yT_S 114 g0 g c) {x : Nat} (hx : x < 8192) : ∃ g', f_Mo_turn g (nI x) v = some g' ∧ yT_S 114 g0 g' (yE_u c x (yT_on v)) := by
  unfold f_Mo_turn f_Mo_turn_14
  rw [if_pos (zi_in (by omega) hx), if_pos (zi_in (by omega) hx), nI_clamp (by omega)]
  have e : (if v = 0 then some (zs_uM g 114 x 0) else some (zs_uM g 114 x 1)) = some (zs_uM g 114 x (yT_on v)) := by
    unfold yT_on
    split <;> rfl
  rw [e]
  exact ⟨_, rfl, yT_w H⟩
theorem yT_oo (x : Int32) : yT_on (yT_on x) = yT_on x := by
  unfold yT_on
  by_cases z : x = 0
  · rw [if_pos z]; decide
  · rw [if_neg z]; decide
theorem yT_o0 {x : Int32} : yT_on x = 0 ↔ x = 0 := by
  unfold yT_on
  by_cases z : x = 0
  · rw [if_pos z]; exact ⟨fun _ => z, fun _ => rfl⟩
  · rw [if_neg z]; exact ⟨fun w => absurd w (by decide), fun w => absurd w z⟩
theorem yT_ad (p k : Nat) : nI p + (OfNat.ofNat k : Int32) = nI (p + k) := zc_ad k p
/-- the end: what was seen, when -/
theorem yT_end {k : Nat} (hk : k < 9) (H : yT_S 114 g0 g c) (hn : (g0.1 68 73) = nw) (hp : p + (zt_2.getD k 0).toNatClampNeg ≤ 8192) (x3 : Int32) : yT_E 114 g0 (f_Mo_timers_687 g (nI k) (nI p) (yT_on x3)) (if k < 3 then yE_u (yE_u c (p + 4) (yT_on x3)) (p + 5) nw else if k < 5 then yE_u c (p + 5) (yT_on x3) else if k < 7 then yE_u c (p + 2) (yT_on x3) else c) := by
  have z6 : ∀ k, k < 5 → (zt_2.getD k 0).toNatClampNeg = 6 := by decide
  have z3 : ∀ k, k < 9 → 3 ≤ (zt_2.getD k 0).toNatClampNeg := by decide
  have q3 := z3 k hk
  have e7 : ((7 : Int32) ≤ nI k) ↔ 7 ≤ k := zc_le (k := 7) (by decide) (by omega)
  have e3 : ((3 : Int32) ≤ nI k) ↔ 3 ≤ k := zc_le (k := 3) (by decide) (by omega)
  have e5 : ((5 : Int32) ≤ nI k) ↔ 5 ≤ k := zc_le (k := 5) (by decide) (by omega)
  unfold f_Mo_timers_687 f_Mo_timers_714 f_Mo_timers_719
  simp only [e7, e3, e5]
  by_cases k7 : 7 ≤ k
  · rw [if_pos k7, if_pos (show 3 ≤ k by omega), if_neg (show ¬ k < 3 by omega), if_neg (show ¬ k < 5 by omega), if_neg (show ¬ k < 7 by omega)]
    exact ⟨g, rfl, H⟩
  rw [if_neg k7]
  by_cases k3 : 3 ≤ k
  · rw [if_pos k3, if_neg (show ¬ k < 3 by omega)]
    by_cases k5 : 5 ≤ k
    · rw [if_pos k5, if_neg (show ¬ k < 5 by omega), if_pos (show k < 7 by omega), show nI p + 2 = nI (p + 2) from zc_ad 2 p]
      obtain ⟨g', a1, a2⟩ := yT_atn (v := yT_on x3) H (x := p + 2) (by omega)
      rw [a1, Option.bind_some, if_pos k3]
      rw [yT_oo] at a2
      exact ⟨g', rfl, a2⟩
    · have := z6 k (by omega)
      rw [if_neg k5, if_pos (show k < 5 by omega), show nI p + 5 = nI (p + 5) from zc_ad 5 p]
      obtain ⟨g', a1, a2⟩ := yT_atn (v := yT_on x3) H (x := p + 5) (by omega)
      rw [a1, Option.bind_some, if_pos k3]
      rw [yT_oo] at a2
      exact ⟨g', rfl, a2⟩
  · have := z6 k (by omega)
    rw [if_neg k3, if_pos (show k < 3 by omega), show nI p + 4 = nI (p + 4) from zc_ad 4 p, show nI p + 5 = nI (p + 5) from zc_ad 5 p]
    obtain ⟨g', a1, a2⟩ := yT_atn (v := yT_on x3) H (x := p + 4) (by omega)
    rw [a1, Option.bind_some, if_neg k3, if_pos (zi_in (by omega) (by omega)), nI_clamp (by omega)]
    rw [yT_oo] at a2
    have en : (g'.1 68 73) = nw := (a2.1.1 _ _ List.not_mem_nil).trans hn
    rw [en]
    exact ⟨_, rfl, yT_w a2⟩
/-- the beginning -/
theorem yT_beg {k : Nat} (hk : k < 9) (H : yT_S 114 g0 g c) (hp : p + (zt_2.getD k 0).toNatClampNeg ≤ 8192) : f_Mo_timers g (nI k) (nI p) = f_Mo_timers_56 g (nI k) (nI p) (yT_on (c p)) (yT_on (c (p + (if k < 3 then 4 else if k < 5 then 5 else 2)))) (yT_pt (c (p + 1))) := by
  have z6 : ∀ k, k < 5 → (zt_2.getD k 0).toNatClampNeg = 6 := by decide
  have z3 : ∀ k, k < 9 → 3 ≤ (zt_2.getD k 0).toNatClampNeg := by decide
  have q3 := z3 k hk
  have e3 : ((3 : Int32) ≤ nI k) ↔ 3 ≤ k := zc_le (k := 3) (by decide) (by omega)
  have e5 : ((5 : Int32) ≤ nI k) ↔ 5 ≤ k := zc_le (k := 5) (by decide) (by omega)
  unfold f_Mo_timers f_Mo_timers_27
  simp only [e3, e5, yT_aon H (show p < 8192 by omega), Option.bind_some, show nI p + 1 = nI (p + 1) from zc_ad 1 p, if_pos (zi_in (show p + 1 < 2147483648 by omega) (show p + 1 < 8192 by omega)), nI_clamp (show p + 1 < 2147483648 by omega), H.2 (p + 1) (by omega)]
  have ept : ∀ (r : Int32 → Option zs_H), (if c (p + 1) ≤ 0 then r 0 else r (c (p + 1))) = r (yT_pt (c (p + 1))) := fun r => by
    unfold yT_pt
    split <;> rfl
  by_cases k3 : 3 ≤ k
  · by_cases k5 : 5 ≤ k
    · rw [if_pos k3, if_pos k5, if_neg (show ¬ k < 3 by omega), if_neg (show ¬ k < 5 by omega), show nI p + 2 = nI (p + 2) from zc_ad 2 p, yT_aon H (show p + 2 < 8192 by omega), Option.bind_some]
      exact ept (fun x => f_Mo_timers_56 g (nI k) (nI p) (yT_on (c p)) (yT_on (c (p + 2))) x)
    · have := z6 k (by omega)
      rw [if_pos k3, if_neg k5, if_neg (show ¬ k < 3 by omega), if_pos (show k < 5 by omega), show nI p + 5 = nI (p + 5) from zc_ad 5 p, yT_aon H (show p + 5 < 8192 by omega), Option.bind_some]
      exact ept (fun x => f_Mo_timers_56 g (nI k) (nI p) (yT_on (c p)) (yT_on (c (p + 5))) x)
  · have := z6 k (by omega)
    rw [if_neg k3, if_pos (show k < 3 by omega), show nI p + 4 = nI (p + 4) from zc_ad 4 p, yT_aon H (show p + 4 < 8192 by omega), Option.bind_some]
    exact ept (fun x => f_Mo_timers_56 g (nI k) (nI p) (yT_on (c p)) (yT_on (c (p + 4))) x)
theorem yT_grM (H : yT_S 114 g0 g c) (hn : (g0.1 68 73) = nw) (hp : p + 5 < 8192) (pt : Int32) : f_Mo_grown g (nI p) pt = some (yT_gr nw pt (c (p + 3)) (c (p + 5))) := by
  have en : (g.1 68 73) = nw := (H.1.1 _ _ List.not_mem_nil).trans hn
  unfold f_Mo_grown f_Mo_grown_39 yT_gr
  rw [show nI p + 3 = nI (p + 3) from zc_ad 3 p, show nI p + 5 = nI (p + 5) from zc_ad 5 p, if_pos (zi_in (by omega) (by omega)), if_pos (zi_in (by omega) (by omega)), nI_clamp (n := p + 3) (by omega), nI_clamp (n := p + 5) (by omega), H.2 (p + 3) (by omega), H.2 (p + 5) (by omega), en]
  split <;> rfl
/-- a turn, then the end -/
theorem yT_te {k x : Nat} (hk : k < 9) (H : yT_S 114 g0 g c) (hn : (g0.1 68 73) = nw) (hp : p + (zt_2.getD k 0).toNatClampNeg ≤ 8192) (hx : x < 8192) (x3 v : Int32) : yT_E 114 g0 ((f_Mo_turn g (nI x) v).bind fun h2 => f_Mo_timers_687 h2 (nI k) (nI p) (yT_on x3)) (if k < 3 then yE_u (yE_u (yE_u c x (yT_on v)) (p + 4) (yT_on x3)) (p + 5) nw else if k < 5 then yE_u (yE_u c x (yT_on v)) (p + 5) (yT_on x3) else if k < 7 then yE_u (yE_u c x (yT_on v)) (p + 2) (yT_on x3) else yE_u c x (yT_on v)) := by
  obtain ⟨g', a1, a2⟩ := yT_atn (v := v) H hx
  rw [a1, Option.bind_some]
  exact yT_end hk a2 hn hp x3
end YTM
