/-! The judge: the children of a declaration that have none of their own. -/
section ZVK
variable {LC LM : List (List Int32)} {nb nf ns i k D D' d : Nat} {F : Nat → Nat} {h g : zs_H}
theorem zv_vName {k5 k4 c s : Nat} {q w p : Int32} (I : zv_I LC LM nb nf ns F q h g) (hd : d ≤ 240) (hb : 0 < nb) (hnv : F nb < 5900) (hi : i < 32784) (hk : k < 33500) (h5 : k5 < 33500) (h4 : k4 < 33500) (hw : zt_nr LC LM (nI c) w) (hc : c < 6000) (hs : s < 3) (c0 : (h.2.1 13) i = 37) (c9 : (h.2.1 17) i = -1) (c1 : (h.2.1 16) i = nI c) (c2 : (h.2.1 15) i = p) (c3 : (h.1 38 5) = nI s) (m1 : (g.2.1 72) k = 6) (m9 : (g.2.1 76) k = -1) (m2 : (g.2.1 74) k = w) (m3 : (g.2.1 73) k = p) (a1 : (g.2.1 75) k = nI k5) (a2 : (g.2.1 75) k5 = nI k4) (a3 : (g.2.1 74) k4 = nI s) (a4 : (g.2.1 72) k5 = 5) :
    ∃ h' g', f_Jd_visit (D + 1) h (nI i) (nI d) = some h' ∧ f_Mo_look (D' + 2) g (nI k) = some g' ∧ zfr zv_cf zv_cm [] h h' ∧ zfr zv_mf zv_mm [] g g' ∧ ((∃ φ, zv_X φ p h' g') ∨ (zv_I LC LM nb nf ns (fun j => if j = nb then F nb + 1 else F j) q h' g' ∧ zfr [(20, 18)] zv_nl [] h h' ∧ zfr [(68, 41)] zv_gl [] g g')) := by
  have J1 : (h.1 38 3) = 0 := I.2.2.2.2.2.2.2.1
  have J2 : (g.1 68 29) = 0 := I.2.2.2.2.2.2.2.2
  obtain ⟨e1, e2⟩ := zv_leaf (D := D) (D' := D') (kd := 37) (km := 6) hd hi hk (by decide) (by decide) (by decide) (by decide) c0 c9 (by decide) (by decide) (by decide) m1 m9 J1
  rw [e1, e2, zv_lv37 hi c0, zv_54B (by decide) J2]
  exact zv_name I hb hnv hi hk h5 h4 hw hc hs c1 c2 c3 m1 m2 m3 a1 a2 a3 a4
theorem zv_vPlace {k5 k6 x : Nat} {p : Int32} (I : zv_I LC LM nb nf ns F (-1) h g) (hd : d ≤ 240) (hb : 0 < nb) (hi : i < 32784) (hk : k < 33500) (h5 : k5 < 33500) (h6 : k6 < 33500) (hx : x < 1536) (hx2 : 768 ≤ x → x % 256 < 64) (c0 : (h.2.1 13) i = 7) (c9 : (h.2.1 17) i = -1) (c1 : (h.2.1 16) i = nI x) (c2 : (h.2.1 15) i = p) (c3 : (h.1 38 6) = nI (32 + ns)) (m1 : (g.2.1 72) k = 7) (m9 : (g.2.1 76) k = -1) (m2 : (g.2.1 74) k = nI x) (m3 : (g.2.1 73) k = p) (a1 : (g.2.1 75) k = nI k5) (a2 : (g.2.1 76) k5 = nI k6) (a3 : (g.2.1 78) k6 = nI k ↔ F nb = ns + 1) (a4 : ns < F nb) :
    ∃ h', f_Jd_visit (D + 1) h (nI i) (nI d) = some h' ∧ ∃ g', f_Mo_look (D' + 2) g (nI k) = some g' ∧ zfr zv_cf zv_cm [] h h' ∧ zfr zv_mf zv_mm [] g g' ∧ ((∃ φ, zv_X φ p h' g') ∨ (h' = zs_uM h 40 (zv_pc x) 1 ∧ g' = g ∧ (h.2.1 21) (8 + nb) = 3 ∧ F nb = ns + 1 ∧ zv_I LC LM nb nf ns F (nI x) h' g')) := by
  have J1 : (h.1 38 3) = 0 := I.2.2.2.2.2.2.2.1
  have J2 : (g.1 68 29) = 0 := I.2.2.2.2.2.2.2.2
  obtain ⟨e1, e2⟩ := zv_leaf (D := D) (D' := D') (kd := 7) (km := 7) hd hi hk (by decide) (by decide) (by decide) (by decide) c0 c9 (by decide) (by decide) (by decide) m1 m9 J1
  rw [e1, e2, zv_lv7 hi c0, zv_54B (by decide) J2]
  exact zv_place I hb hi hk h5 h6 hx hx2 c1 c2 c3 m1 m2 m3 a1 a2 a3 a4
theorem zv_vBtype {c : Nat} {q w : Int32} (I : zv_I LC LM nb nf ns F q h g) (hd : d ≤ 240) (hb : 0 < nb) (hi : i < 32784) (hk : k < 33500) (hw : zt_nr LC LM (nI c) w) (hc : c < 6000) (c0 : (h.2.1 13) i = 10) (c9 : (h.2.1 17) i = -1) (c1 : (h.2.1 16) i = nI c) (m1 : (g.2.1 72) k = 10) (m9 : (g.2.1 76) k = -1) (m2 : (g.2.1 74) k = w) :
    ∃ h' g', f_Jd_visit (D + 1) h (nI i) (nI d) = some h' ∧ f_Mo_look (D' + 2) g (nI k) = some g' ∧ ((h' = h ∧ g' = g ∧ ¬ (h.2.1 21) (8 + nb) = 1 ∧ ∃ B, B < 8 + nb ∧ (h.2.1 36) c = nI B ∧ (9 ≤ B → (h.2.1 21) B = 2) ∧ f_Mo_blockOf g w = some (nI (if B < 9 then 100000 + B else B - 9))) ∨ zv_Y 17 i k h g h' g') := by
  have J1 : (h.1 38 3) = 0 := I.2.2.2.2.2.2.2.1
  have J2 : (g.1 68 29) = 0 := I.2.2.2.2.2.2.2.2
  obtain ⟨e1, e2⟩ := zv_leaf (D := D) (D' := D') (kd := 10) (km := 10) hd hi hk (by decide) (by decide) (by decide) (by decide) c0 c9 (by decide) (by decide) (by decide) m1 m9 J1
  rw [e1, e2, zv_lv10 hi c0, zv_54B (by decide) J2]
  exact zv_btype I hb hi hk hw hc c1 m1 m2
theorem zv_vType {v : Int32} (hd : d ≤ 240) (hi : i < 32784) (hk : k < 33500) (J1 : (h.1 38 3) = 0) (J2 : (g.1 68 29) = 0) (c0 : (h.2.1 13) i = 8) (c9 : (h.2.1 17) i = -1) (m1 : (g.2.1 72) k = 8) (m9 : (g.2.1 76) k = -1) (m2 : (g.2.1 74) k = v) :
    f_Jd_visit (D + 1) h (nI i) (nI d) = some h ∧ f_Mo_look (D' + 2) g (nI k) = some (zs_uM g 100 k v) := by
  obtain ⟨e1, e2⟩ := zv_leaf (D := D) (D' := D') (kd := 8) (km := 8) hd hi hk (by decide) (by decide) (by decide) (by decide) c0 c9 (by decide) (by decide) (by decide) m1 m9 J1
  rw [e1, e2, zv_lv8 hi c0, zv_54B (by decide) J2]
  refine ⟨rfl, ?_⟩
  unfold f_Mo_lookAtBlocks
  simp (config := { decide := true }) only [if_pos (zi_in (show k < 2147483648 by omega) hk), nI_clamp (show k < 2147483648 by omega), m1, m2, if_false, if_true]
end ZVK
