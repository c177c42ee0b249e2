/-! The judge: the type of a declaration, and how many cells it takes. -/
def zv_TY (nb f t it kt : Nat) (of : Int32) (h g : zs_H) : Prop :=
  (f = 8 ∧ (h.2.1 16) it = nI t ∧ (g.2.1 74) kt = nI t ∧ of = nI t) ∨
  (f = 9 ∧ of = nI t ∧ ∃ (i1 i2 i3 k1 k2 k3 : Nat) (lo hi : Int32), (i1 < 32784 ∧ i2 < 32784 ∧ i3 < 32784 ∧ k1 < 33500 ∧ k2 < 33500 ∧ k3 < 33500) ∧ ((h.2.1 17) it = nI i1 ∧ (h.2.1 18) i1 = nI i2 ∧ (h.2.1 18) i2 = nI i3 ∧ (h.2.1 16) i1 = lo ∧ (h.2.1 16) i2 = hi ∧ (h.2.1 16) i3 = nI t) ∧ ((g.2.1 76) kt = nI k1 ∧ (g.2.1 78) k1 = nI k2 ∧ (g.2.1 77) kt = nI k3 ∧ (g.2.1 74) k1 = lo ∧ (g.2.1 74) k2 = hi ∧ (g.2.1 74) k3 = nI t) ∧ ¬ hi.toInt64 - lo.toInt64 < 0 ∧ hi.toInt64 - lo.toInt64 ≤ 255) ∨
  (f = 10 ∧ t = 0 ∧ ∃ (c B : Nat) (w : Int32), c < 6000 ∧ B < 8 + nb ∧ (h.2.1 16) it = nI c ∧ (g.2.1 74) kt = w ∧ (h.2.1 36) c = nI B ∧ (9 ≤ B → (h.2.1 21) B = 2) ∧ f_Mo_blockOf g w = some of ∧ of = nI (if B < 9 then 100000 + B else B - 9))
theorem zv_d32 {lo hi : Int32} (h1 : ¬ hi.toInt64 - lo.toInt64 < 0) (h2 : hi.toInt64 - lo.toInt64 ≤ 255) : ∃ d, (d ≤ 255 ∧ lo.toInt + (d + 1 : Nat) ≤ 2147483648) ∧ hi - lo + 1 = nI (d + 1) := by
  obtain ⟨e1, _⟩ := zv_i64 lo hi
  rw [Int64.lt_iff_toInt_lt, e1, show (0 : Int64).toInt = 0 from rfl] at h1
  rw [Int64.le_iff_toInt_le, e1, show (255 : Int64).toInt = 255 from rfl] at h2
  have hh := hi.toInt_lt
  refine ⟨(hi.toInt - lo.toInt).toNat, ⟨by omega, by omega⟩, ?_⟩
  apply Int32.toInt_inj.mp
  rw [Int32.toInt_add, Int32.toInt_sub, show (1 : Int32).toInt = 1 from rfl, show (nI ((hi.toInt - lo.toInt).toNat + 1)).toInt = (((hi.toInt - lo.toInt).toNat + 1 : Nat) : Int) from Int32.toInt_ofNat_of_lt (by omega)]
  rw [Int.bmod_eq_of_le (n := hi.toInt - lo.toInt) (m := 2 ^ 32) (by omega) (by omega), Int.bmod_eq_of_le (by omega) (by omega)]
  omega
theorem zv_stc : ∀ B, B < 9 → zt_2.getD B 0 = (if B < 5 then 6 else 3) := by decide +kernel
theorem zv_sizes {LC LM : List (List Int32)} {nb nf ns f t it kt : Nat} {F : Nat → Nat} {q of pl co x1 x2 cm : Int32} {h g : zs_H} (I : zv_I LC LM nb nf ns F q h g) (hb : nf + 1 = nb) (hit : it < 32784) (hkt : kt < 33500) (c1 : (h.2.1 13) it = nI f) (TY : zv_TY nb f t it kt of h g) :
    ∃ (sz : Nat) (inst low : Int32), (sz ≤ 30000 ∧ low.toInt + sz ≤ 2147483648) ∧ (f = 8 → sz = 1) ∧ zv_in nb t sz inst (nI (f - 8)) of h ∧ zv_lo (nI kt) (nI (f - 8)) low g ∧ f_Jd_settle h (nI it) (nI t) pl co = f_Jd_settle_118 h (nI t) pl co inst low (nI sz) ∧ f_Mo_lookAtDeclaration_398 g x1 x2 pl (nI kt) cm (nI (f - 8)) of = f_Mo_lookAtDeclaration_462 g x1 x2 pl (nI kt) cm (nI (f - 8)) of (nI sz) := by
  obtain ⟨HS, ⟨⟨B1, B2, B3⟩, _, B4, _⟩, _, _, ⟨_, C1, _, _⟩, _, HJ, J1, J2⟩ := I
  have hi1 : zd_in (nI it) 32784 := zi_in (by omega) hit
  have cit : (nI it).toNatClampNeg = it := nI_clamp (by omega)
  have hk1 : zd_in (nI kt) 33500 := zi_in (by omega) hkt
  have ckt : (nI kt).toNatClampNeg = kt := nI_clamp (by omega)
  have j0 : (g.1 68 29) ≤ 0 := by rw [J2]; decide
  unfold f_Jd_settle f_Jd_settle_39 f_Jd_settle_63 f_Mo_lookAtDeclaration_398
  simp only [if_pos hi1, cit, c1, if_pos j0]
  rcases TY with ⟨r1, r2, r3, r4⟩ | ⟨r1, r2, i1, i2, i3, k1, k2, k3, lo, hi, ⟨b1, b2, b3, b4, b5, b6⟩, ⟨d1, d2, d3, d4, d5, d6⟩, ⟨e1, e2, e3, e4, e5, e6⟩, v1, v2⟩ | ⟨r1, r2, c, B, w, u1, u2, u3, u4, u5, u6, u7, u8⟩
  · subst r1
    refine ⟨1, -1, 0, ⟨by omega, by decide⟩, fun _ => rfl, .inl ⟨rfl, rfl, r4, rfl⟩, .inr ⟨by decide, rfl⟩, ?_, ?_⟩
    · rw [if_neg (by decide), if_pos (by decide), if_neg (by decide)]; rfl
    · rw [if_pos (by decide)]; rfl
  · subst r1
    obtain ⟨d, ⟨d7, d9⟩, d8⟩ := zv_d32 v1 v2
    refine ⟨d + 1, -2, lo, ⟨by omega, d9⟩, fun z => by omega, .inr (.inl ⟨rfl, rfl, r2, by omega, by omega⟩), .inl ⟨rfl, kt, k1, rfl, hkt, e1, b4, e4⟩, ?_, ?_⟩
    · unfold f_Tr_second
      rw [if_neg (by decide), if_pos (by decide), if_pos (by decide)]
      simp only [if_pos hi1, cit, d1, if_neg (zc_m1 (show i1 < 2147483648 by omega)), if_pos (zi_in (show i1 < 2147483648 by omega) b1), nI_clamp (show i1 < 2147483648 by omega), d2, Option.bind_some, if_pos (zi_in (show i2 < 2147483648 by omega) b2), nI_clamp (show i2 < 2147483648 by omega), d4, d5, d8]
    · rw [if_neg (by decide), if_pos (by decide)]
      simp only [if_pos hk1, ckt, e1, if_pos (zi_in (show k1 < 2147483648 by omega) b4), nI_clamp (show k1 < 2147483648 by omega), e2, if_pos (zi_in (show k2 < 2147483648 by omega) b5), nI_clamp (show k2 < 2147483648 by omega), e4, e5, d8]
  · subst r1
    -- how many cells the block has
    have key : ∃ sz, sz ≤ 30000 ∧ (h.2.1 26) B = nI sz ∧ f_Mo_instanceCells g of = some (nI sz) := by
      unfold f_Mo_instanceCells
      by_cases z : B < 9
      · rw [if_pos z] at u8
        have hs := zv_stc B z
        rw [u8, if_pos ((zc_le (k := 100000) (by decide) (by omega)).mpr (by omega)), (B4.1 B z).2.2.2, hs]
        by_cases z5 : B < 5
        · rw [if_pos z5, if_neg (mt (zc_le (k := 100005) (by decide) (by omega)).mp (by omega))]
          exact ⟨6, by omega, rfl, rfl⟩
        · rw [if_neg z5, if_pos ((zc_le (k := 100005) (by decide) (by omega)).mpr (by omega))]
          exact ⟨3, by omega, rfl, rfl⟩
      · rw [if_neg z] at u8
        obtain ⟨x, w1, w2, w3⟩ := C1 (B - 9) (by omega)
        rw [show 9 + (B - 9) = B by omega] at w2
        rw [u8, if_neg (mt (zc_le (k := 100000) (by decide) (by omega)).mp (by omega)), if_pos (zi_in (by omega) (by omega)), nI_clamp (by omega), w3]
        exact ⟨x, w1, w2, rfl⟩
    obtain ⟨sz, s1, s2, s3⟩ := key
    refine ⟨sz, nI B, 0, ⟨s1, by rw [show (0 : Int32).toInt = 0 from rfl]; omega⟩, fun z => by omega, .inr (.inr ⟨B, u2, rfl, rfl, u8, u6, s2⟩), .inr ⟨by decide, rfl⟩, ?_, ?_⟩
    · rw [if_pos (by decide), u3, if_pos (zi_in (by omega) u1), nI_clamp (by omega), u5, if_neg (mt (zc_tl (k := 0) (by decide) (by omega)).mp (by omega)), if_pos (zi_in (by omega) (by omega)), if_neg (by decide), nI_clamp (by omega), s2]
    · rw [if_neg (by decide), if_neg (by decide), s3, Option.bind_some]
