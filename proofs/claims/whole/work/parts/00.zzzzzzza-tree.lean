/-! The coder: all statements, on both sides. -/
section YJT
variable {LC LM : List (List Int32)} {nb b sz ow : Nat} {F Fb X Y : Nat → Nat} {h0 g0 : zs_H} {P Q Qm : Nat → Prop} {up x x' y : Int32} {kd : Nat} {kv : Int32 × Int32} {o : Unit} {l r : zt_T}
theorem zg_dn : zg_d (.inner kd kv o l .leaf) ≤ zg_d (.inner kd kv o l r) := by
  show max (zg_d l + (if kd = 19 then 2 else 1)) 0 ≤ max (zg_d l + (if kd = 19 then 2 else 1)) (zg_d r)
  omega
theorem yj_all (C : yj_cx LC LM nb b sz F Fb X Y h0 g0 P) : ∀ (m : Nat) (t : zt_T), zt_sz t ≤ m → yj_K LC LM b sz Fb X Y h0 g0 P Q t := by
  have lf : yj_K LC LM b sz Fb X Y h0 g0 P Q .leaf := fun ow Qm up x x' y A _ _ _ _ _ _ => ⟨.leaf, ⟨A.1.1, A.1.2, rfl⟩, fun n => Nat.le_refl _, trivial, Nat.le_refl _, fun LD _ => trivial⟩
  intro m
  induction m with
  | zero =>
    intro t hm
    cases t with
    | leaf => exact lf
    | inner kd kv o l r => exact absurd hm (by show ¬ 1 + zt_sz l + zt_sz r ≤ 0; omega)
  | succ m ih =>
    intro t hm
    cases t with
    | leaf => exact lf
    | inner kd kv o l r =>
      intro ow Qm up x x' y A ok hr hd hz hY hX
      have hd0 : max (zg_d l + 1) (zg_d r) ≤ zg_d (.inner kd kv o l r) := zg_d1
      have hz0 : zt_sz (.inner kd kv o l r) = 1 + zt_sz l + zt_sz r := rfl
      obtain ⟨⟨hA, hv⟩, okl, okr⟩ := ok
      obtain ⟨hkd, hr2⟩ := yj_q11 hr
      have K : ∀ u, zt_sz u < zt_sz l → yj_K LC LM b sz Fb X Y h0 g0 P Q u := fun u hu => ih u (by omega)
      obtain ⟨i, k, xl, Q1, Q2, z2, ⟨⟨_, hi, ei⟩, ⟨_, hk, ek⟩, mk⟩, N, nv, _, G, _, R, _⟩ := yj_c A
      rw [yg_c1] at hX
      obtain ⟨Tr, r1, r2, r3, r4⟩ := ih r (by omega) _ Q2 up _ _ z2 R okr hr2 (by omega) (by omega) (by omega) (by omega)
      have key : (h0.2.1 13) i = nI kd ∧ ∃ T, yj_1 X Y h0 g0 b kd kv l i k ow T := by
        rcases hkd with e | e | e | e | e | e | e <;> subst e
        · exact ⟨(yj_pl (by decide) N).1, yj_12 C hi hk mk N (G (by decide)).2.2 hA okl (by omega) (by omega)⟩
        · exact ⟨(yj_13 N).1, yj_inv C hi hk mk N nv (G (by decide)).2.2 hA okl (by omega) (by omega)⟩
        · have e : yg_c 0 (.inner 15 kv o l .leaf) = 0 + yg_c 0 l + 0 := rfl
          exact ⟨(yj_pl (by decide) N).1, yj_15 C K hi hk mk N (G (by decide)).2.2 hA okl (by omega) (by omega) hY (by omega)⟩
        · have e : yg_c 0 (.inner 16 kv o l .leaf) = 1 + yg_c 0 l + 0 := rfl
          obtain ⟨m2, _, A2⟩ := G (by decide)
          exact ⟨(yj_pl (by decide) N).1, yj_16 C K hi hk mk (m2 rfl) N A2 hA okl (by omega) (by omega) hY (by omega)⟩
        · have e : yg_c 0 (.inner 19 kv o l .leaf) = 1 + yg_c 0 l + 0 := rfl
          obtain ⟨_, m5, A2⟩ := G (by decide)
          exact ⟨(yj_19N N).1, yj_19 C K hi hk mk (m5 rfl) nv N A2 hA okl (by omega) (by omega) hY (by omega)⟩
        · exact ⟨(yj_pl (by decide) N).1, yj_20 hk mk (zv_nolf (kd := 20) (by decide +kernel) hA)⟩
        · exact ⟨(yj_pl (by decide) N).1, yj_21 hi hk mk (zv_nolf (kd := 21) (by decide +kernel) hA)⟩
      obtain ⟨ki, T1, t1, ⟨t2, t3⟩, ⟨t4, t5⟩, t6, t7⟩ := key
      refine ⟨yz_ap T1 Tr, ⟨i, k, T1, Tr, rfl, t1, ⟨hi, ei, ki⟩, ⟨hk, ek⟩, hkd, ⟨t2, t3⟩, ⟨fun n => Nat.le_trans (t4 n) (zg_x20 _), t5⟩, r1⟩, fun n => ?_, yz_Wap _ _ _ t6 (yz_Wm _ _ _ (by omega) r3), ?_, fun LD nl => yz_Bap _ _ (t7.2 LD nl) (r4.2 LD nl)⟩
      · rw [yz_apx _ _ _ t1, List.length_append]
        have a := r2 (n + yz_l T1)
        have c := t4 n
        have ex : zg_x (.inner kd kv o l r) = zg_x (.inner kd kv () l .leaf) + zg_x r := rfl
        omega
      · rw [yz_vap]
        have a := zg_dn (kd := kd) (kv := kv) (o := o) (l := l) (r := r)
        have c : 3 * yz_v T1 ≤ zg_d (.inner kd kv o l .leaf) := t7.1
        omega
/-- a block whose body is statements -/
theorem yj_body (C : yj_cx LC LM nb b sz F Fb X Y h0 g0 P) {a bn : Nat} (A : yj_f LC LM Fb b h0 g0 P Q ow (.inner 11 kv o l .leaf) Qm up (nI a) (nI bn) y) (ha : a < 32784) (hbn : bn < 33500) (hA : zg_A 11 (zg_run 11 0 l) = true) (ok : zg_ok l) (hd : zg_d l ≤ 184) (hz : zt_sz l + 1 ≤ sz) (hY : Y b ≤ ow) (hX : ow + yg_c 0 l ≤ X b) (hx : zg_x (.inner 11 kv o l .leaf) = 0) : ∃ T, (yk_BC h0 (zg_d l) a ow (yg_c 0 l) T ∧ yk_BM g0 b (zg_d l) bn T (zg_ct 20 l) (zg_ct 11 l)) ∧ yz_st T ∧ (∀ n, yz_x T n = []) ∧ yz_l T ≤ 6 * zt_sz l ∧ yz_W X Y (yq_k h0) b T ow ∧ yz_v T ≤ 61 ∧ yz_N h0 b T := by
  obtain ⟨i, k, T, _, _, ⟨hi, ei, _⟩, ⟨hk, ek, _⟩, ⟨B1, ⟨t1, t2, t3⟩, t4, t5⟩, _, _⟩ := yj_bd C (yj_all C (zt_sz l) l (Nat.le_refl _)) A ⟨⟨hA, .inl rfl⟩, ok, trivial⟩ (by omega) hz hY hX
  have e1 : i = a := ((nI_eq (by omega) (by omega)).mp ei).symm
  have e2 : k = bn := ((nI_eq (by omega) (by omega)).mp ek).symm
  subst e1; subst e2
  have hx' : zg_x l + 0 = 0 := hx
  exact ⟨T, B1, t1, fun n => List.eq_nil_of_length_eq_zero (by have := t2 n; omega), t3, t4, by omega, t5.2⟩
end YJT
