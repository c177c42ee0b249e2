/-! The judge: all parts of a declaration are found. -/
theorem zv_DPm {LC LM : List (List Int32)} {h g : zs_H} {P Q P' Q' : Nat → Prop} {pl cn cm v : Int32} {it kt f ic km kc : Nat} {kvt : Int32 × Int32} {lt : zt_T} (H : zv_DP LC LM h g P' Q' pl cn cm it kt f ic km kc v kvt lt) (hP : ∀ i, P' i → P i) (hQ : ∀ i, Q' i → Q i) : zv_DP LC LM h g P Q pl cn cm it kt f ic km kc v kvt lt := by
  obtain ⟨H1, H2, ⟨P1, Q1, z, H3, H4, H5, H6⟩, H7⟩ := H
  exact ⟨H1, H2, ⟨P1, Q1, z, H3, H4, fun i hi => hP i (H5 i hi), fun i hi => hQ i (H6 i hi)⟩, H7⟩
theorem zv_scanD {LC LM : List (List Int32)} {h g : zs_H} {sz i k : Nat} {l : zt_T} {P Q : Nat → Prop} {y y' : Int32} (hsz : (h.1 12 6) = nI sz) (hsz2 : sz < 100000) (hi : i < 32784) (hk : k < 33500) (hA : zg_A 5 (zg_run 5 0 l) = true) (hok : zg_ok l) (hC : zt_C h l P ((h.2.1 17) i) y) (hM : zt_M LC LM g l Q (nI k) ((g.2.1 76) k) y') (hP : ∀ i, P i → i < 32784) (hQ : ∀ i, Q i → i < 33500) (hln : zt_ln l ≤ sz) :
    ∃ (pl cn cm : Int32) (it kt f ic km kc : Nat) (v : Int32) (kvt : Int32 × Int32) (lt : zt_T), zv_DP LC LM h g P Q pl cn cm it kt f ic km kc v kvt lt ∧ f_Jd_judgeDeclaration h (nI i) = f_Jd_judgeDeclaration_89 h (nI i) (nI it) pl ∧ f_Mo_lookAtDeclaration g (nI k) = zv_tlM g k (nI (zv_nm l)) pl kt cm ∧ zv_ch Q g (zv_nm l) ((g.2.1 76) k) ∧ pl = zv_plc l ∧ (∀ Φ, zv_tyok Φ l → Φ f kvt lt) := by
  have hst : zg_run 5 0 l = 3 ∨ zg_run 5 0 l = 4 := by
    have key : ∀ st, (5, st) ∈ [(0, 0), (1, 2), (2, 2), (3, 2), (4, 0), (5, 3), (5, 4), (6, 0), (7, 0), (8, 0), (9, 3), (10, 0), (11, 0), (12, 2), (13, 0), (14, 1), (15, 2), (15, 3), (16, 1), (16, 2), (17, 2), (18, 1), (18, 2), (19, 4), (20, 0), (21, 0), (22, 0), (23, 1), (24, 1), (25, 1), (26, 0), (27, 0), (28, 1), (29, 0), (30, 0), (31, 0), (32, 1), (33, 1), (34, 0), (35, 2), (36, 1), (37, 0), (38, 0)] → st = 3 ∨ st = 4 := by
      intro st hs
      simp only [List.mem_cons, Prod.mk.injEq, List.not_mem_nil, or_false] at hs
      omega
    unfold zg_A at hA
    rw [List.elem_eq_mem, decide_eq_true_eq] at hA
    exact key _ hA
  have hz := zF_big
  obtain ⟨w, P', Q', a, b, z, z', k1, k2, k3, k4, k5, k6, k7, k8, k9, k10, ⟨kx1, kx2⟩, k11, k12, k13⟩ := zv_scanN hsz hsz2 l 0 P Q _ y (nI k) _ y' (by omega) (by omega) (by omega) hC hM hP hQ hok
  have hnl := zv_nmle l
  have eC : f_Jd_judgeDeclaration h (nI i) = f_Jd_judgeDeclaration_53 h (nI i) (nI a) := by
    unfold f_Jd_judgeDeclaration
    rw [if_pos (zi_in (by omega) hi), nI_clamp (by omega)]
    exact k12 zF 0 (nI i) (by omega) (by omega)
  have eM : f_Mo_lookAtDeclaration g (nI k) = f_Mo_lookAtDeclaration_L18 (zF - zv_nm l) g (nI k) (nI (zv_nm l)) (-1) (-1) (-1) (nI b) := by
    unfold f_Mo_lookAtDeclaration
    rw [if_pos (zi_in (by omega) hk), nI_clamp (by omega)]
    have := k13 zF 0 (nI k) (by omega)
    rw [Nat.zero_add] at this
    exact this
  have hP' : ∀ i, P' i → i < 32784 := fun i hi => hP i (k7 i hi)
  have hQ' : ∀ i, Q' i → i < 33500 := fun i hi => hQ i (k8 i hi)
  have hin : zd_in (nI a) 32784 := zi_in (by omega) k9
  have ca : (nI a).toNatClampNeg = a := nI_clamp (by omega)
  cases w with
  | leaf => exact absurd (show 3 ≤ 1 from k2) (by omega)
  | inner c kv o lc rc =>
    have h4 : ¬ zg_q 5 1 c = 99 := fun zz => k1 (by show zg_run 5 (zg_q 5 1 c) rc = 99; rw [zz]; exact zv_q99 5 rc)
    have k1' : ¬ zg_run 5 (zg_q 5 1 c) rc = 99 := k1
    have k2' : 3 ≤ zg_run 5 (zg_q 5 1 c) rc := k2
    obtain ⟨a', P1, P2, z1, z2, ea, a1, a2, a3, a4, a5, a6, a7, a8, a9, a10⟩ := zv_hC k5
    obtain ⟨b', Q1, Q2, z3, eb, b1, b2, b3, b4, b5, b6, b7, b8, b9, b10, b11⟩ := zv_hM k6
    have e1 : a = a' := (nI_eq (by omega) (by omega)).mp ea
    have e2 : b = b' := (nI_eq (by omega) (by omega)).mp eb
    rw [← e1] at a3 a5 a9
    rw [← e2] at b3 b5 b10
    rcases zv_q5 h4 with ⟨u1, u2, u3⟩ | ⟨u1, u2, u3⟩ | ⟨u1, u2, u3⟩ | ⟨u1, u2, u3⟩
    · subst u1
      exact absurd k3 (by show ¬ 1 + zv_nm rc = 0; omega)
    · subst u1
      rw [u3] at k1' k2'
      rw [if_neg (by decide)] at b5
      have hkm : zt_km 7 = 7 := by decide
      rw [hkm] at b3
      cases rc with
      | leaf => exact absurd (show 3 ≤ 2 from k2') (by omega)
      | inner f kvt ot lt rt =>
        have h5 : ¬ zg_q 5 2 f = 99 := fun zz => k1' (by show zg_run 5 (zg_q 5 2 f) rt = 99; rw [zz]; exact zv_q99 5 rt)
        have hf : (f = 8 ∨ f = 9 ∨ f = 10) ∧ zg_q 5 2 f = 3 := by
          rcases zv_q5 h5 with ⟨_, e, _⟩ | ⟨_, e, _⟩ | ⟨e1, _, e3⟩ | ⟨_, e, _⟩
          · omega
          · omega
          · exact ⟨e1, e3⟩
          · omega
        have hrt : ¬ zg_run 5 3 rt = 99 := fun zz => k1' (by show zg_run 5 (zg_q 5 2 f) rt = 99; rw [hf.2]; exact zz)
        obtain ⟨it, _, _, _, _, ei, _, i2, _⟩ := zv_hC a9
        obtain ⟨kt, _, _, _, ek, _, j2, _⟩ := zv_hM b10
        have hit := hP' it (a7 it i2).1
        have hkt := hQ' kt (b8 kt j2).1
        rw [ei] at a9
        rw [ek] at b10
        have hpl : zv_pv kv.2 := by
          rcases k4.1.2 with e | ⟨x, x1, x2, x3⟩
          · exact absurd e (by decide)
          · exact .inr ⟨x, x1, x3 rfl, x2⟩
        obtain ⟨cn, cm, ic, km, kc, v, D1, D2⟩ := zv_scanY (k := k) (n := zv_nm l) (N := zF - zv_nm l - 1) (pl := kv.2) hf.1 hrt a9 b10 (fun i hi => hP' i (a7 i hi).1) (fun i hi => hQ' i (b8 i hi).1) k4.2.2 hpl (by omega) hit hkt
        refine ⟨kv.2, cn, cm, it, kt, f, ic, km, kc, v, kvt, lt, zv_DPm D1 (fun i hi => k7 i (a7 i hi).1) (fun i hi => k8 i (b8 i hi).1), ?_, ?_, k11, kx1, fun Φ hΦ => (kx2 Φ hΦ).2.1 hf.1⟩
        · rw [eC]
          unfold f_Jd_judgeDeclaration_53
          rw [if_pos hin, ca, a3, if_pos (by decide), ei, a5]
        · rw [eM, ← D2, show zF - zv_nm l = zF - zv_nm l - 1 + 1 by omega, zv_L18, zv_m18 k10 (by decide) b3, if_neg (by decide), if_pos rfl, if_neg (by decide), if_neg (by decide), ek, b5, show zF - zv_nm l - 1 + 1 - 1 = zF - zv_nm l - 1 by omega]
    · rw [u3] at k1' k2'
      obtain ⟨cn, cm, ic, km, kc, v, D1, D2⟩ := zv_scanY (k := k) (n := zv_nm l) (N := zF - zv_nm l) (pl := -1) u1 k1' k5 k6 hP' hQ' k4 (.inl rfl) (by omega) k9 k10
      refine ⟨-1, cn, cm, a, b, c, ic, km, kc, v, kv, lc, zv_DPm D1 k7 k8, ?_, ?_, k11, ?_, fun Φ hΦ => (kx2 Φ hΦ).1 u1⟩
      · rw [eC]
        unfold f_Jd_judgeDeclaration_53
        rw [if_pos hin, ca, a3, if_neg (fun zz => by have := (zc_eq (k := 7) (by decide) (by omega)).mp zz; omega)]
      · rw [eM, D2]
      · rw [← kx1]
        show -1 = (if c = 7 then kv.2 else zv_plc rc)
        rw [if_neg (by omega), zv_plc0 rc 3 (by omega) (by omega) k1']
    · omega
