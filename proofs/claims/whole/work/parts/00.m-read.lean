/-! The class's tokens: each of them. -/
def zl_ad (h : zs_H) (s : Nat) (k a v : Int32) : zs_H := zs_uF (zs_uM (zs_uM (zs_uM h 9 s k) 10 s a) 11 s v) 8 3 (nI (s + 1))
theorem zl_add {h : zs_H} {s k a : Nat} {v : Int32} (Hs : (h.1 8 3) = nI s) (hs : s < 16385) (hk : k < 65536) (Ha : (h.1 8 7) = nI a) (ha : a < 65536) : f_Tk_add h (nI k) v = some (zl_ad h s (nI k) (nI a) v) := by
  unfold f_Tk_add
  rw [Hs, Ha, if_neg (mt (zc_le (k := 16385) (by decide) (by omega)).mp (by omega)), if_pos (zi_in (by omega) hs), nI_clamp (by omega), zm_char hk, zm_char ha, nI_1]
  rfl
/-- the kind of a token in the class -/
def zl_ck (t : zl_T) : Nat := if t.1 = 0 then 6 else if t.1 = 1 then 8 else if t.1 = 2 then 128 + t.2.2.2 else if t.1 = 3 then 9 else if t.1 = 4 then 10 else if t.1 = 9 then 7 else if t.2.2.2 = 256 then 1 else if t.2.2.2 = 257 then 2 else if t.2.2.2 = 258 then 3 else if t.2.2.2 = 259 then 4 else if t.2.2.2 = 260 then 5 else t.2.2.2
def zl_cv (t : zl_T) (x : Nat) : Nat := if t.1 = 1 ∨ t.1 = 2 then x else if t.1 = 0 ∨ t.1 = 5 then 0 else t.2.2.2
/-- what the class leaves when it has read a token -/
def zl_KT (L : List (List Int32)) (c : List Int32) (s : Nat) (h : zs_H) (t : zl_T) (p : Int32 × zs_H) : Prop :=
  p.1 = (if t.1 = 0 ∨ t.1 = 9 then 0 else 1) ∧ (p.2.1 8 3) = nI (s + 1) ∧ (∀ j, (p.2.2.1 9) j = if j = s then nI (zl_ck t) else (h.2.1 9) j) ∧ (∀ j, (p.2.2.1 10) j = if j = s then nI t.2.1 else (h.2.1 10) j) ∧ (∀ j, (p.2.2.1 11) j = if j = s then nI (zl_cv t (L.idxOf c)) else (h.2.1 11) j) ∧ (¬ (t.1 = 0 ∨ t.1 = 9) → (p.2.1 8 7) = nI t.2.2.1) ∧ zn_C p.2 (if (t.1 = 1 ∨ t.1 = 2) ∧ ¬ c ∈ L then L ++ [c] else L) ∧ zfr [(2, 5), (8, 3), (8, 7)] [4, 5, 6, 7, 9, 10, 11] [] h p.2
theorem zl_adf {h : zs_H} {s : Nat} {k a v : Int32} : zfr [(8, 3)] [9, 10, 11] [] h (zl_ad h s k a v) :=
  zfr_F (by decide) (zfr_M (by decide) (zfr_M (by decide) (zfr_M (by decide) zfr_rfl)))
theorem zl_ada {h : zs_H} {s : Nat} {k a v : Int32} : (∀ j, (zl_ad h s k a v).2.1 9 j = if j = s then k else (h.2.1 9) j) ∧ (∀ j, (zl_ad h s k a v).2.1 10 j = if j = s then a else (h.2.1 10) j) ∧ (∀ j, (zl_ad h s k a v).2.1 11 j = if j = s then v else (h.2.1 11) j) := by
  refine ⟨fun j => ?_, fun j => ?_, fun j => ?_⟩ <;> simp [zl_ad, zu_FM, zu_MM]
/-- a token that is no name -/
theorem zl_KTa {h : zs_H} {n s a : Nat} {t : zl_T} {L : List (List Int32)} {c : List Int32} {v : Int32} (Hs : (h.1 8 3) = nI s) (HL : zn_C h L) (h1 : ¬ (t.1 = 1 ∨ t.1 = 2)) (ha : t.2.1 = a) (hv : v = nI (zl_cv t 0)) :
    ((t.1 = 0 ∨ t.1 = 9) → zl_KT L c s h t (0, zl_ad h s (nI (zl_ck t)) (nI a) v)) ∧ (¬ (t.1 = 0 ∨ t.1 = 9) → zl_KT L c s h t (1, zs_uF (zl_ad h s (nI (zl_ck t)) (nI a) v) 8 7 (nI t.2.2.1))) := by
  have hc : ∀ x, zl_cv t x = zl_cv t 0 := fun x => by unfold zl_cv; rw [if_neg h1, if_neg h1]
  have hL2 : (if (t.1 = 1 ∨ t.1 = 2) ∧ ¬ c ∈ L then L ++ [c] else L) = L := if_neg (fun q => h1 q.1)
  subst ha
  constructor
  · intro q
    refine ⟨(if_pos q).symm, rfl, zl_ada.1, zl_ada.2.1, fun j => ?_, fun z => absurd q z, ?_, zfr_w zl_adf (by decide) (by decide) (by decide)⟩
    · rw [hc, ← hv]; exact zl_ada.2.2 j
    · rw [hL2]; exact zn_C_fr zl_adf (by decide) (by decide) (by decide) (by decide) (by decide) HL
  · intro q
    refine ⟨(if_neg q).symm, rfl, zl_ada.1, zl_ada.2.1, fun j => ?_, fun _ => rfl, ?_, zfr_F (by decide) (zfr_w zl_adf (by decide) (by decide) (by decide))⟩
    · rw [hc, ← hv]; exact zl_ada.2.2 j
    · rw [hL2]; exact zn_C_fr (zfr_F (fs := [(8, 3), (8, 7)]) (by decide) (zfr_w zl_adf (by decide) (fun x q => q) (fun x q => q))) (by decide) (by decide) (by decide) (by decide) (by decide) HL
theorem zl_refuse {h : zs_H} {s a w e : Nat} {L : List (List Int32)} {c : List Int32} (Hs : (h.1 8 3) = nI s) (hs : s < 16385) (Ha : (h.1 8 7) = nI a) (ha : a < 65536) (HL : zn_C h L) : zw (f_Tk_refuse h (nI w)) (zl_KT L c s h (9, a, e, w)) := by
  unfold f_Tk_refuse
  rw [show (7 : Int32) = nI 7 from rfl, zl_add Hs hs (by decide) Ha ha, zw_bind, zw_some, zw_some]
  exact (zl_KTa (n := 0) (t := (9, a, e, w)) Hs HL (by simp) rfl rfl).1 (Or.inr rfl)
theorem zl_finish {h : zs_H} {s a e k v : Nat} {t : zl_T} {L : List (List Int32)} {c : List Int32} (Hs : (h.1 8 3) = nI s) (hs : s < 16385) (Ha : (h.1 8 7) = nI a) (ha : a < 65536) (HL : zn_C h L) (h1 : ¬ (t.1 = 1 ∨ t.1 = 2)) (h2 : ¬ (t.1 = 0 ∨ t.1 = 9)) (ha2 : t.2.1 = a) (he : t.2.2.1 = e) (hk : zl_ck t = k) (hk2 : k < 65536) (hv : zl_cv t 0 = v) : zw (f_Tk_finish h (nI k) (nI e) (nI v)) (zl_KT L c s h t) := by
  unfold f_Tk_finish
  rw [zl_add Hs hs hk2 Ha ha, zw_bind, zw_some, zw_some, ← hk, ← he]
  exact (zl_KTa (n := 0) Hs HL h1 ha2 (by rw [hv])).2 h2
theorem zl_w2 {α : Type} {o : Option (α × zs_H)} {Q : α × zs_H → Prop} (h : zw o Q) : zw (zd_B o fun v g => some (v, g)) Q := by
  rw [zw_B]
  exact zw_mono h fun p q => zw_some.mpr q
theorem zl_finN {h : zs_H} {T : Nat → Int32} {n s a e : Nat} {x : Nat} {L : List (List Int32)} {c : List Int32} (H : zl_Y h T n) (Hs : (h.1 8 3) = nI s) (hs : s < 16385) (Ha : (h.1 8 7) = nI a) (ha : a < 65536) (HL : zn_C h L) (he : e < 65536) {y : Nat} (hy : y < 9223372036854775808) (h1 : x ≤ 2147483647 → y = x) (h2 : y ≤ 2147483647 → y = x) : zw (f_Tk_finishNumber h (nI e) (lN y)) (zl_KT L c s h (zl_fin T n a (some x) e)) := by
  unfold f_Tk_finishNumber f_Tk_finishNumber_19 zl_fin
  rw [zl_peek H (by omega), zw_bind, zw_some]
  show zw (if f_Nm_isPart (zl_b T n e) = 0 then _ else _) (zl_KT L c s h (if x ≤ 2147483647 ∧ zl_pt T n e = false then _ else _))
  by_cases c1 : f_Nm_isPart (zl_b T n e) = 0
  · have p1 : zl_pt T n e = false := by unfold zl_pt; simpa using c1
    rw [if_pos c1]
    by_cases c2 : y ≤ 2147483647
    · have e1 := h2 c2
      subst e1
      rw [if_pos ((zj_el (k := 2147483647) (t := y) (by decide) hy).mpr c2), if_pos (show y ≤ 2147483647 ∧ zl_pt T n e = false from ⟨c2, p1⟩), lN_i]
      exact zl_w2 (zl_finish (k := 9) Hs hs Ha ha HL (by simp) (by simp) rfl rfl rfl (by decide) rfl)
    · rw [if_neg (mt (zj_el (k := 2147483647) (t := y) (by decide) hy).mp c2), if_neg (show ¬ (x ≤ 2147483647 ∧ zl_pt T n e = false) from fun q => c2 (by rw [h1 q.1]; exact q.1))]
      exact zl_w2 (zl_refuse (w := 4) Hs hs Ha ha HL)
  · have p1 : ¬ zl_pt T n e = false := by unfold zl_pt; simpa using c1
    rw [if_neg c1, if_neg (fun q => p1 q.2)]
    exact zl_w2 (zl_refuse (w := 4) Hs hs Ha ha HL)
theorem zl_v3 {v : Nat} : (v ≤ 2147483647 → min v zl_M3 = v) ∧ (min v zl_M3 ≤ 2147483647 → min v zl_M3 = v) ∧ min v zl_M3 < 9223372036854775808 := by
  have hM : zl_M3 = 8589934592 := rfl
  refine ⟨fun h => Nat.min_eq_left (by omega), fun h => ?_, ?_⟩
  · by_cases c : v ≤ zl_M3
    · exact Nat.min_eq_left c
    · rw [Nat.min_eq_right (by omega)] at h; omega
  · have := Nat.min_le_right v zl_M3; omega
theorem zl_dr_n {T : Nat → Int32} {n base s : Nat} (hb : base ≤ 16) (h : s < zl_dr T n base s) : zl_dr T n base s ≤ n := by
  have h1 := zl_run_all (zl_dp T n base) (n - s) s (zl_dr T n base s - 1) (by omega) (by unfold zl_dr at h ⊢; omega)
  refine Nat.le_of_not_lt fun q => ?_
  rw [zl_dp_hi hb (by omega)] at h1
  exact absurd h1 (by decide)
theorem zl_cNumber {h : zs_H} {T : Nat → Int32} {n s a : Nat} {L : List (List Int32)} {c : List Int32} (H : zl_Y h T n) (Hs : (h.1 8 3) = nI s) (hs : s < 16385) (Ha : (h.1 8 7) = nI a) (ha : a < n) (hd : zl_dp T n 10 a = true) (HL : zn_C h L) : zw (f_Tk_readNumber h) (zl_KT L c s h (zl_nb T n a)) := by
  have hn := H.2.1
  have hr1 : a + 1 ≤ zl_dr T n 10 a := by
    unfold zl_dr
    rw [zl_run_1 _ _ _ hd ha]
    exact zl_run_ge _ _ _
  have hr2 := zl_dr_n (T := T) (n := n) (base := 10) (s := a) (by decide) (by omega)
  unfold f_Tk_readNumber zl_nb
  rw [Ha, show (10 : Int32) = nI 10 from rfl, zl_digitsEnd H (by decide) (by omega), zw_bind, zw_some, zl_meaning H (by decide) (by decide) hr2 (by omega), zw_bind, zw_some, zl_peek H (by omega), zw_bind, zw_some]
  generalize hK : zl_vl T n 10 a (zl_dr T n 10 a - a) = v
  generalize hE : zl_dr T n 10 a = e1 at hr1 hr2 ⊢
  have hv := zl_v3 (v := v)
  have hM : zl_M3 = 8589934592 := rfl
  by_cases c1 : zl_b T n e1 = 35
  · rw [if_pos c1, if_pos c1]
    have h16 : (lN (min v zl_M3) = 16 ↔ v = 16) ∧ (lN (min v zl_M3) = 2 ↔ v = 2) := by
      have q1 := zj_eq (a := min v zl_M3) (b := 16) hv.2.2 (by decide)
      have q2 := zj_eq (a := min v zl_M3) (b := 2) hv.2.2 (by decide)
      exact ⟨q1.trans ⟨fun z => by have := hv.2.1 (by omega); omega, fun z => by rw [z]; decide⟩, q2.trans ⟨fun z => by have := hv.2.1 (by omega); omega, fun z => by rw [z]; decide⟩⟩
    by_cases c2 : v = 16 ∨ v = 2
    · have e0 : min v zl_M3 = v := Nat.min_eq_left (by omega)
      have he1 : e1 < n := Nat.lt_of_not_le fun q => by rw [zl_b_hi q] at c1; exact absurd c1 (by decide)
      have h62 : zw (f_Tk_readNumber_62 h (nI e1) (lN v)) (zl_KT L c s h (zl_fin T n a (if zl_dr T n v (e1 + 1) - (e1 + 1) = 0 then none else some (zl_vl T n v (e1 + 1) (zl_dr T n v (e1 + 1) - (e1 + 1)))) (zl_dr T n v (e1 + 1)))) := by
        have hr3 := zl_dr_le (T := T) (n := n) (base := v) (s := e1 + 1) (by omega)
        unfold f_Tk_readNumber_62
        rw [lN_i, nI_1, zl_digitsEnd H (by omega) (by omega), zw_bind, zw_some]
        by_cases c3 : zl_dr T n v (e1 + 1) - (e1 + 1) = 0
        · rw [if_pos (by congr 1; omega), if_pos c3]
          exact zl_w2 (zl_refuse (w := 4) Hs hs Ha (by omega) HL)
        · have hr4 := zl_dr_n (T := T) (n := n) (base := v) (s := e1 + 1) (by omega) (by omega)
          have hv2 := zl_v3 (v := zl_vl T n v (e1 + 1) (zl_dr T n v (e1 + 1) - (e1 + 1)))
          rw [if_neg (fun q => c3 (by have := (nI_eq (by omega) (by omega)).mp q; omega)), if_neg c3, zl_meaning H (by omega) (by omega) hr4 (by omega), zw_bind, zw_some]
          exact zl_w2 (zl_finN H Hs hs Ha (by omega) HL (by omega) hv2.2.2 hv2.1 hv2.2.1)
      rw [if_pos c2, e0]
      rw [e0] at h16
      by_cases c3 : v = 16
      · rw [if_pos (h16.1.mpr c3)]; exact h62
      · rw [if_neg (mt h16.1.mp c3), if_pos (h16.2.mpr (c2.resolve_left c3))]; exact h62
    · rw [if_neg c2, if_neg (mt h16.1.mp (fun q => c2 (Or.inl q))), if_neg (mt h16.2.mp (fun q => c2 (Or.inr q)))]
      exact zl_w2 (zl_refuse (w := 4) Hs hs Ha (by omega) HL)
  · rw [if_neg c1, if_neg c1]
    exact zl_w2 (zl_finN H Hs hs Ha (by omega) HL (by omega) hv.2.2 hv.1 hv.2.1)
theorem zl_cTime {h : zs_H} {T : Nat → Int32} {n s a : Nat} {L : List (List Int32)} {c : List Int32} (H : zl_Y h T n) (Hs : (h.1 8 3) = nI s) (hs : s < 16385) (Ha : (h.1 8 7) = nI a) (ha : a < n) (HL : zn_C h L) : zw (f_Tk_readTime h) (zl_KT L c s h (zl_tm T n a)) := by
  have hn := H.2.1
  have hr := zl_dr_le (T := T) (n := n) (base := 10) (s := a + 2) (by omega)
  unfold f_Tk_readTime zl_tm
  rw [Ha, show nI a + 2 = nI (a + 2) from nI_add a 2, show (10 : Int32) = nI 10 from rfl, zl_digitsEnd H (by decide) (by omega), zw_bind, zw_some, zl_peek H (by omega), zw_bind, zw_some]
  have hr2 := zl_dr_n (T := T) (n := n) (base := 10) (s := a + 2) (by decide)
  generalize hE : zl_dr T n 10 (a + 2) = e1 at hr hr2 ⊢
  have h47 : zw (f_Tk_readTime_47 h) (zl_KT L c s h (zl_fin T n a none (e1 + (if zl_un T n e1 = 1 then 2 else if zl_un T n e1 = 0 then 0 else 1)))) := by
    unfold f_Tk_readTime_47
    exact zl_w2 (zl_refuse (w := 4) Hs hs Ha (by omega) HL)
  by_cases c1 : e1 - (a + 2) = 0
  · rw [if_pos (by congr 1; omega), if_pos (Or.inr c1)]
    exact h47
  · rw [if_neg (fun q => c1 (by have := (nI_eq (by omega) (by omega)).mp q; omega))]
    have he := hr2 (by omega)
    have h53 : ¬ zl_un T n e1 = 0 → zw (f_Tk_readTime_53 h (nI (a + 2)) (nI e1) (zl_g T n e1)) (zl_KT L c s h (zl_fin T n a (if zl_un T n e1 = 0 ∨ e1 - (a + 2) = 0 then none else some (zl_vl T n 10 (a + 2) (e1 - (a + 2)) * zl_un T n e1)) (e1 + (if zl_un T n e1 = 1 then 2 else if zl_un T n e1 = 0 then 0 else 1)))) := by
      intro hu
      rw [if_neg (fun q => q.elim hu c1)]
      unfold f_Tk_readTime_53
      rw [show (10 : Int32) = nI 10 from rfl, zl_meaning H (by decide) (by decide) he (by omega), zw_bind, zw_some]
      generalize zl_vl T n 10 (a + 2) (e1 - (a + 2)) = v
      have hv := zl_v3 (v := v)
      have hM : zl_M3 = 8589934592 := rfl
      have h5 := Nat.min_le_right v zl_M3
      have h125 : ∀ u e : Nat, 1 ≤ u → u ≤ 3600000 → e < 65536 → zw (f_Tk_finishNumber h (nI e) (lN (min v zl_M3 * u))) (zl_KT L c s h (zl_fin T n a (some (v * u)) e)) := by
        intro u e hu1 hu2 he2
        have h6 : min v zl_M3 * u ≤ 8589934592 * 3600000 := Nat.mul_le_mul (by omega) hu2
        refine zl_finN H Hs hs Ha (by omega) HL he2 (by omega) (fun q => ?_) (fun q => ?_)
        · have h7 : v ≤ v * u := Nat.le_mul_of_pos_right _ hu1
          rw [hv.1 (by omega)]
        · have h7 : min v zl_M3 ≤ min v zl_M3 * u := Nat.le_mul_of_pos_right _ hu1
          rw [hv.2.1 (by omega)]
      have h94 : ¬ (zl_g T n e1 = 77 ∧ zl_g T n (e1 + 1) = 83) → zw (f_Tk_readTime_94 h (nI e1) (zl_g T n e1) (lN (min v zl_M3))) (zl_KT L c s h (zl_fin T n a (some (v * zl_un T n e1)) (e1 + (if zl_un T n e1 = 1 then 2 else if zl_un T n e1 = 0 then 0 else 1)))) := by
        intro q
        unfold f_Tk_readTime_94 f_Tk_readTime_125
        rw [nI_1]
        by_cases d1 : zl_g T n e1 = 83
        · have eu : zl_un T n e1 = 1000 := by unfold zl_un; rw [if_neg q, if_pos d1]
          rw [if_pos d1, eu, show (1000 : Int32).toInt64 = lN 1000 from rfl, lN_mul]
          exact zl_w2 (h125 1000 (e1 + 1) (by decide) (by decide) (by omega))
        · rw [if_neg d1]
          by_cases d2 : zl_g T n e1 = 77
          · have eu : zl_un T n e1 = 60000 := by unfold zl_un; rw [if_neg q, if_neg d1, if_pos d2]
            rw [if_pos d2, eu, show (60000 : Int32).toInt64 = lN 60000 from rfl, lN_mul]
            exact zl_w2 (h125 60000 (e1 + 1) (by decide) (by decide) (by omega))
          · have eu : zl_un T n e1 = 3600000 := by
              unfold zl_un at hu ⊢
              rw [if_neg q, if_neg d1, if_neg d2] at hu ⊢
              by_cases d3 : zl_g T n e1 = 72
              · rw [if_pos d3]
              · rw [if_neg d3] at hu; exact absurd rfl hu
            rw [if_neg d2, eu, show (3600000 : Int32).toInt64 = lN 3600000 from rfl, lN_mul]
            exact zl_w2 (h125 3600000 (e1 + 1) (by decide) (by decide) (by omega))
      by_cases d1 : zl_g T n e1 = 77
      · rw [if_pos d1, nI_1, zl_peek H (by omega), zw_bind, zw_some]
        by_cases d2 : f_Nm_great (zl_b T n (e1 + 1)) = 83
        · have eu : zl_un T n e1 = 1 := if_pos ⟨d1, d2⟩
          rw [if_pos d2, eu, show nI e1 + 2 = nI (e1 + 2) from nI_add e1 2]
          have := h125 1 (e1 + 2) (by decide) (by decide) (by omega)
          rw [Nat.mul_one] at this
          exact zl_w2 this
        · rw [if_neg d2]; exact h94 (fun q => d2 q.2)
      · rw [if_neg d1]; exact h94 (fun q => d1 q.1)
    have hx : zl_un T n e1 = 0 ↔ ¬ zl_g T n e1 = 77 ∧ ¬ zl_g T n e1 = 83 ∧ ¬ zl_g T n e1 = 72 := by
      unfold zl_un
      constructor
      · intro q
        refine ⟨fun z => ?_, fun z => ?_, fun z => ?_⟩
        · rw [z] at q; revert q; split <;> decide
        · rw [z, if_neg (fun w => absurd w.1 (by decide))] at q; revert q; decide
        · rw [z, if_neg (fun w => absurd w.1 (by decide))] at q; revert q; decide
      · rintro ⟨q1, q2, q3⟩
        rw [if_neg (fun z => q1 z.1), if_neg q2, if_neg q1, if_neg q3]
    show zw (if zl_g T n e1 = 77 then _ else (if zl_g T n e1 = 83 then _ else (if zl_g T n e1 = 72 then _ else _))) _
    by_cases d1 : zl_g T n e1 = 77
    · rw [if_pos d1]; exact h53 (fun q => (hx.mp q).1 d1)
    · rw [if_neg d1]
      by_cases d2 : zl_g T n e1 = 83
      · rw [if_pos d2]; exact h53 (fun q => (hx.mp q).2.1 d2)
      · rw [if_neg d2]
        by_cases d3 : zl_g T n e1 = 72
        · rw [if_pos d3]; exact h53 (fun q => (hx.mp q).2.2 d3)
        · rw [if_neg d3, if_pos (Or.inl (hx.mpr ⟨d1, d2, d3⟩))]; exact h47
