/-! The line: sending, and what is told, on both sides. -/
def zln_O (n : Nat) (h g : zs_H) : Prop := n ≤ 256 ∧ (h.1 66 1) = nI n ∧ (g.1 68 88) = nI n ∧ ∀ i, i < n → (h.2.1 67) i &&& 255 = (g.2.1 117) i
def zln_V (h g : zs_H) : Prop := (∀ j, j < 8192 → (h.2.1 62) j = (g.2.1 114) j) ∧ yY_io h g ∧ zln_b g
section ZLT
variable {h g h' g' : zs_H} {n : Nat}
theorem zln_255 (x : Int32) : x &&& 255 = nI (x.toBitVec.toNat % 256) := by
  apply Int32.toBitVec_inj.mp
  show x.toBitVec &&& 255#32 = BitVec.ofNat 32 (x.toBitVec.toNat % 256)
  apply BitVec.eq_of_toNat_eq
  rw [BitVec.toNat_and]
  show x.toBitVec.toNat &&& (2 ^ 8 - 1) = _
  rw [Nat.and_two_pow_sub_one_eq_mod, BitVec.toNat_ofNat, Nat.mod_eq_of_lt (a := x.toBitVec.toNat % 256)]
  have := Nat.mod_lt x.toBitVec.toNat (show 256 > 0 by decide)
  omega
theorem zln_bm (x : Int32) : ((x.toBitVec.toNat % 256 : Nat) : Int) = x.toInt % 256 := by
  have e : x.toInt = (x.toBitVec.toNat : Int).bmod (2 ^ 32) := BitVec.toInt_eq_toNat_bmod x.toBitVec
  have e2 := Int.bmod_emod (x := (x.toBitVec.toNat : Int)) (m := 2 ^ 32)
  rw [← e] at e2
  omega
theorem zln_nar (x : Int32) : vp_nar .byte (x.toInt8.toInt32) &&& 255 = x &&& 255 := by
  have e : ∀ y : Int32, y.toInt8.toInt32.toInt % 256 = y.toInt % 256 := fun y => by
    rw [Int8.toInt_toInt32, Int32.toInt_toInt8]
    exact Int.bmod_emod
  have h1 := zln_bm (vp_nar .byte (x.toInt8.toInt32))
  have h2 := zln_bm x
  rw [zln_255, zln_255 x]
  congr 1
  rw [vp_nar_byte, e, e, ← h2] at h1
  rw [vp_nar_byte]
  omega
theorem zln_snd (O : zln_O n h g) (hn : n < 256) (x : Int32) : ∃ h' g', f_Ln_send h x = some h' ∧ f_Mo_answer g x = some g' ∧ zln_O (n + 1) h' g' ∧ zfr [(66, 1)] [67] [] h h' ∧ zfr [(68, 88)] [117] [] g g' := by
  obtain ⟨o1, o2, o3, o4⟩ := O
  refine ⟨zs_uF (zs_uM h 67 n (vp_nar .byte (x.toInt8.toInt32))) 66 1 (nI (n + 1)), zs_uF (zs_uM g 117 n (x &&& 255)) 68 88 (nI (n + 1)), ?_, ?_, ⟨by omega, rfl, rfl, fun i hi => ?_⟩, zfr_F (by decide) (zfr_M (by decide) zfr_rfl), zfr_F (by decide) (zfr_M (by decide) zfr_rfl)⟩
  · unfold f_Ln_send
    rw [o2, if_neg (mt (zc_le (k := 256) (by decide) (by omega)).mp (by omega)), if_pos (zi_in (by omega) (show n < 256 by omega)), nI_clamp (by omega), nI_1]
  · unfold f_Mo_answer
    rw [o3, if_pos (zi_in (by omega) (show n < 300 by omega)), nI_clamp (by omega), nI_1]
  · show (zs_uM h 67 n _).2.1 67 i &&& 255 = (zs_uM g 117 n _).2.1 117 i
    rw [zu_MM, zu_MM]
    by_cases z : i = n
    · rw [if_pos ⟨rfl, z⟩, if_pos ⟨rfl, z⟩]; exact zln_nar x
    · rw [if_neg (fun q => z q.2), if_neg (fun q => z q.2)]; exact o4 i (by omega)
theorem zln_Vf (V : zln_V h g) (f1 : zfr [(66, 1)] [67] [] h h') (f2 : zfr [(68, 88)] [117] [] g g') : zln_V h' g' := by
  obtain ⟨v1, v2, v3⟩ := V
  refine ⟨fun j hj => by rw [f1.2.1 _ (by decide), f2.2.1 _ (by decide)]; exact v1 j hj, fun i hi => ?_, fun i hi => ?_⟩
  · rw [f1.2.1 _ (by decide), f1.2.1 _ (by decide), f1.2.1 _ (by decide), f2.2.1 _ (by decide), f2.2.1 _ (by decide), f2.2.1 _ (by decide)]
    exact v2 i hi
  · rw [f2.2.1 _ (by decide), f2.2.1 _ (by decide), f2.2.1 _ (by decide)]
    exact v3 i hi
/-- what the class tells of a table -/
def zln_C (h : zs_H) (fn j : Nat) : Option Int32 := if fn = 1 then f_Mc_seen h 2 (nI j) else if fn = 2 then f_Ln_lamp h (nI j) else if fn = 3 then f_Mc_seen h 5 (nI j) else f_Ln_meter h (nI j)
theorem zln_see (V : zln_V h g) {i : Nat} : (i < 256 → f_Mc_seen h 0 (nI i) = some ((g.2.1 118) i) ∧ f_Mc_seen h 1 (nI i) = some ((g.2.1 119) i) ∧ f_Mc_seen h 2 (nI i) = some ((g.2.1 114) (512 + i))) ∧ (i < 64 → f_Mc_seen h 3 (nI i) = some ((g.2.1 118) (256 + i)) ∧ f_Mc_seen h 4 (nI i) = some ((g.2.1 119) (256 + i)) ∧ f_Mc_seen h 5 (nI i) = some ((g.2.1 114) (896 + i))) := by
  obtain ⟨v1, v2, v3⟩ := V
  have S := fun (a : Nat) (ha : a < 6) (hi : i < (if a < 3 then 256 else 64)) => (yZ_see (h := h) (g := g) ha hi v2 (fun _ => v1)).1
  refine ⟨fun hi => ⟨?_, ?_, ?_⟩, fun hi => ⟨?_, ?_, ?_⟩⟩
  · refine (S 0 (by decide) hi).trans ?_
    rw [if_pos (by decide)]
    unfold f_Mo_get_19
    rw [(yZ_sp (a := 0) (by decide) hi).1, if_pos (show (0 : Nat) < 3 by decide), if_pos (zi_in (by omega) (show i < 320 by omega)), nI_clamp (by omega)]
  · refine (S 1 (by decide) hi).trans ?_
    rw [if_neg (by decide), if_pos (by decide)]
    unfold f_Mo_get_50
    rw [(yZ_sp (a := 1) (by decide) hi).1, if_pos (show (1 : Nat) < 3 by decide), if_pos (zi_in (by omega) (show i < 320 by omega)), nI_clamp (by omega)]
  · refine (S 2 (by decide) hi).trans ?_
    rw [if_neg (by decide), if_neg (by decide), if_pos (show (2 : Nat) = 2 from rfl)]
    unfold f_Mo_get_85
    rw [show 512 + nI i = nI (512 + i) from nI_add 512 i, if_pos (zi_in (by omega) (show 512 + i < 8192 by omega)), nI_clamp (by omega)]
  · refine (S 3 (by decide) hi).trans ?_
    rw [if_pos (by decide)]
    unfold f_Mo_get_19
    rw [(yZ_sp (a := 3) (by decide) hi).1, if_neg (show ¬ (3 : Nat) < 3 by decide), if_pos (zi_in (by omega) (show 256 + i < 320 by omega)), nI_clamp (by omega)]
  · refine (S 4 (by decide) hi).trans ?_
    rw [if_neg (by decide), if_pos (by decide)]
    unfold f_Mo_get_50
    rw [(yZ_sp (a := 4) (by decide) hi).1, if_neg (show ¬ (4 : Nat) < 3 by decide), if_pos (zi_in (by omega) (show 256 + i < 320 by omega)), nI_clamp (by omega)]
  · refine (S 5 (by decide) hi).trans ?_
    rw [if_neg (by decide), if_neg (by decide), if_neg (show ¬ (5 : Nat) = 2 by decide)]
    unfold f_Mo_get_85
    rw [show 896 + nI i = nI (896 + i) from nI_add 896 i, if_pos (zi_in (by omega) (show 896 + i < 8192 by omega)), nI_clamp (by omega)]
theorem zln_tld {fn j : Nat} (V : zln_V h g) (hf : fn = 1 ∨ fn = 2 ∨ fn = 3 ∨ fn = 4) (hj : j < zln_ts fn) : ∃ w, zln_C h fn j = some w ∧ f_Mo_told g (nI fn) (nI j) = some w ∧ (fn ≤ 2 → zln_01 w) := by
  have v3 := V.2.2
  rcases hf with z | z | z | z <;> subst z
  · have hj : j < 256 := hj
    refine ⟨(g.2.1 114) (512 + j), ((zln_see V).1 hj).2.2, ?_, fun _ => (v3 j hj).1⟩
    unfold f_Mo_told
    rw [if_pos (show (nI 1 : Int32) = 1 by decide), show 512 + nI j = nI (512 + j) from nI_add 512 j, if_pos (zi_in (by omega) (show 512 + j < 8192 by omega)), nI_clamp (by omega)]
  · have hj : j < 512 := hj
    unfold f_Mo_told
    rw [if_neg (show ¬ (nI 2 : Int32) = 1 by decide), if_pos (show (nI 2 : Int32) = 2 by decide)]
    show ∃ w, f_Ln_lamp h (nI j) = some w ∧ _
    unfold f_Ln_lamp
    by_cases c : 256 ≤ j
    · rw [if_pos ((zc_le (k := 256) (by decide) (by omega)).mpr c), if_pos ((zc_le (k := 256) (by decide) (by omega)).mpr c), show nI j - 256 = nI (j - 256) from zi_sub (b := 256) c, if_pos (zi_in (by omega) (show j - 256 < 320 by omega)), nI_clamp (by omega), ((zln_see V).1 (show j - 256 < 256 by omega)).2.1, Option.bind_some]
      exact ⟨_, rfl, rfl, fun _ => (v3 (j - 256) (by omega)).2.2⟩
    · rw [if_neg (mt (zc_le (k := 256) (by decide) (by omega)).mp c), if_neg (mt (zc_le (k := 256) (by decide) (by omega)).mp c), if_pos (zi_in (by omega) (show j < 320 by omega)), nI_clamp (by omega), ((zln_see V).1 (show j < 256 by omega)).1, Option.bind_some]
      exact ⟨_, rfl, rfl, fun _ => (v3 j (by omega)).2.1⟩
  · have hj : j < 64 := hj
    refine ⟨(g.2.1 114) (896 + j), ((zln_see V).2 hj).2.2, ?_, fun q => absurd q (by decide)⟩
    unfold f_Mo_told
    rw [if_neg (show ¬ (nI 3 : Int32) = 1 by decide), if_neg (show ¬ (nI 3 : Int32) = 2 by decide), if_pos (show (nI 3 : Int32) = 3 by decide), show 896 + nI j = nI (896 + j) from nI_add 896 j, if_pos (zi_in (by omega) (show 896 + j < 8192 by omega)), nI_clamp (by omega)]
  · have hj : j < 128 := hj
    unfold f_Mo_told
    rw [if_neg (show ¬ (nI 4 : Int32) = 1 by decide), if_neg (show ¬ (nI 4 : Int32) = 2 by decide), if_neg (show ¬ (nI 4 : Int32) = 3 by decide)]
    show ∃ w, f_Ln_meter h (nI j) = some w ∧ _
    unfold f_Ln_meter
    by_cases c : 64 ≤ j
    · rw [if_pos ((zc_le (k := 64) (by decide) (by omega)).mpr c), if_pos ((zc_le (k := 64) (by decide) (by omega)).mpr c), show 256 + nI j = nI (256 + j) from nI_add 256 j, show nI (256 + j) - 64 = nI (256 + j - 64) from zi_sub (b := 64) (by omega), show nI j - 64 = nI (j - 64) from zi_sub (b := 64) c, if_pos (zi_in (by omega) (show 256 + j - 64 < 320 by omega)), nI_clamp (by omega), ((zln_see V).2 (show j - 64 < 64 by omega)).2.1, Option.bind_some, show 256 + j - 64 = 256 + (j - 64) by omega]
      exact ⟨_, rfl, rfl, fun q => absurd q (by decide)⟩
    · rw [if_neg (mt (zc_le (k := 64) (by decide) (by omega)).mp c), if_neg (mt (zc_le (k := 64) (by decide) (by omega)).mp c), show 256 + nI j = nI (256 + j) from nI_add 256 j, if_pos (zi_in (by omega) (show 256 + j < 320 by omega)), nI_clamp (by omega), ((zln_see V).2 (show j < 64 by omega)).1, Option.bind_some]
      exact ⟨_, rfl, rfl, fun q => absurd q (by decide)⟩
/-- one bit more -/
theorem zln_bt {i n : Nat} {w : Int32} (hi : i < 8) (hn : n < 2 ^ i) (hw : zln_01 w) : ∃ n', n' < 2 ^ (i + 1) ∧ nI n ||| (w <<< (nI i &&& 31)) = nI n' ∧ nI n + (w <<< (nI i &&& 31)) = nI n' := by
  have key : ∀ i, i < 8 → ∀ n, n < 128 → n < 2 ^ i → (nI n ||| ((1 : Int32) <<< (nI i &&& 31)) = nI (n + 2 ^ i) ∧ nI n + ((1 : Int32) <<< (nI i &&& 31)) = nI (n + 2 ^ i)) ∧ (nI n ||| ((0 : Int32) <<< (nI i &&& 31)) = nI n ∧ nI n + ((0 : Int32) <<< (nI i &&& 31)) = nI n) := by decide +kernel
  have p7 : 2 ^ i ≤ 2 ^ 7 := Nat.pow_le_pow_right (by decide) (by omega)
  have := key i hi n (by omega) hn
  have e : 2 ^ (i + 1) = 2 ^ i * 2 := Nat.pow_succ 2 i
  rcases hw with z | z
  · subst z; exact ⟨n, by omega, this.2⟩
  · subst z; exact ⟨n + 2 ^ i, by omega, this.1⟩
end ZLT
