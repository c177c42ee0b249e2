/-! The judge: a block is visited. -/
/-- the last of a chain -/
def yg_cn (N : Nat → Int32) (a : Nat) : Nat → Int32 → Prop
  | 0, x => x = nI a ∧ N a = -1
  | m + 1, x => ∃ b, b < 32784 ∧ x = nI b ∧ ¬ N b = -1 ∧ yg_cn N a m (N b)
theorem yg_cnC {h : zs_H} : ∀ (l : zt_T) (P : Nat → Prop) (x y : Int32), ¬ l = .leaf → zt_C h l P x y → (∀ j, P j → j < 32784) → ∃ a m, m < zt_ln l ∧ y = nI a ∧ a < 32784 ∧ yg_cn ((h.2.1 18)) a m x := by
  intro l
  induction l with
  | leaf => intro _ _ _ h; exact absurd rfl h
  | inner c kv o lc r _ ihr =>
    intro P x y _ hC hP
    obtain ⟨a, P1, P2, z1, z2, ea, _, a2, _, _, _, _, a8, _, a9, a10⟩ := zv_hC hC
    have hl : zt_ln (.inner c kv o lc r) = 1 + zt_ln r := rfl
    by_cases hr : r = .leaf
    · subst hr
      obtain ⟨n1, n2⟩ := (show (h.2.1 18) a = -1 ∧ z2 = -1 from a9)
      rw [if_pos n2, ea] at a10
      exact ⟨a, 0, by omega, a10, hP a a2, ea, n1⟩
    · obtain ⟨b, m, m1, m2, m3, m4⟩ := ihr P2 _ z2 hr a9 (fun j hj => hP j (a8 j hj).1)
      rw [if_neg (yg_Gn hr a9)] at a10
      refine ⟨b, m + 1, by omega, a10.trans m2, m3, a, hP a a2, ea, fun z => ?_, m4⟩
      cases r with
      | leaf => exact hr rfl
      | inner c2 kv2 o2 l2 r2 =>
        obtain ⟨a', _, _, _, _, ea', h40, _⟩ := zv_hC a9
        rw [ea'] at z
        exact zc_m1 (show a' < 2147483648 by omega) z
/-- the cells of the last -/
theorem yg_Glast {LC LM : List (List Int32)} {p c : Nat} {g : zs_H} {kv : Int32 × Int32} {o : Unit} {lb : zt_T} {Q : Nat → Prop} : ∀ (w : zt_T) (Qu : Nat → Prop) (n : Nat) (up x y : Int32), zt_M LC LM g (zt_ap w (.inner c kv o lb .leaf)) Qu up x y → yg_G p g Q n (zt_ap w (.inner c kv o lb .leaf)) x → yg_G p g Q (n + yg_c p w) (.inner c kv o lb .leaf) y := by
  intro w
  induction w with
  | leaf =>
    intro Qu n up x y hM hG
    obtain ⟨b, _, _, z2, _, _, _, _, _, _, _, _, _, _, b10, b11⟩ := zv_hM hM
    rw [if_pos (show (g.2.1 78) b = -1 ∧ z2 = -1 from b10).2] at b11
    rw [b11]
    exact hG
  | inner c2 kv2 o2 l2 r2 _ ihr =>
    intro Qu n up x y hM hG
    obtain ⟨b, Q1, Q2, z2, eb, hb4, _, _, _, _, _, _, _, _, b10, b11⟩ := zv_hM hM
    obtain ⟨b', g1, g2, g3, g4, g5, g6⟩ := hG
    have e : b' = b := (nI_eq (by omega) (by omega)).mp (g3.symm.trans eb)
    subst e
    have hr : ¬ zt_ap r2 (.inner c kv o lb .leaf) = .leaf := by
      cases r2 with
      | leaf => exact fun z => by cases z
      | inner => exact fun z => by cases z
    rw [if_neg (yg_Gn hr b10)] at b11
    rw [b11]
    have := ihr Q2 _ up _ z2 b10 g6
    have e2 : n + yg_c p (.inner c2 kv2 o2 l2 r2) = n + (if 30 ≤ zt_km c2 then 0 else yg_w p c2 kv2.2 + yg_c p l2) + yg_c p r2 := by
      show n + ((if 30 ≤ zt_km c2 then 0 else yg_w p c2 kv2.2 + yg_c p l2) + yg_c p r2) = _
      omega
    rw [e2]
    exact this
theorem yg_Mlast {LC LM : List (List Int32)} {c : Nat} {g : zs_H} {kv : Int32 × Int32} {o : Unit} {lb : zt_T} : ∀ (w : zt_T) (Qu : Nat → Prop) (up x y : Int32), zt_M LC LM g (zt_ap w (.inner c kv o lb .leaf)) Qu up x y → ∃ Qm : Nat → Prop, (∀ j, Qm j → Qu j) ∧ zt_M LC LM g (.inner c kv o lb .leaf) Qm up y y := by
  intro w
  induction w with
  | leaf =>
    intro Qu up x y hM
    obtain ⟨b, _, _, z2, _, _, _, _, _, _, _, _, _, _, b10, b11⟩ := zv_hM hM
    rw [if_pos (show (g.2.1 78) b = -1 ∧ z2 = -1 from b10).2] at b11
    refine ⟨Qu, fun _ z => z, ?_⟩
    rw [b11]
    rw [b11] at hM
    exact hM
  | inner c2 kv2 o2 l2 r2 _ ihr =>
    intro Qu up x y hM
    obtain ⟨b, Q1, Q2, z2, eb, hb4, _, _, _, _, _, _, b8, _, b10, b11⟩ := zv_hM hM
    have hr : ¬ zt_ap r2 (.inner c kv o lb .leaf) = .leaf := by
      cases r2 with
      | leaf => exact fun z => by cases z
      | inner => exact fun z => by cases z
    rw [if_neg (yg_Gn hr b10)] at b11
    rw [b11]
    obtain ⟨Qm, q1, q2⟩ := ihr Q2 up _ z2 b10
    exact ⟨Qm, fun j z => (b8 j (q1 j z)).1, q2⟩
/-- what is known of a block that has been judged -/
def yg_K (LC LM : List (List Int32)) (F : Nat → Nat) (sz b : Nat) (P Q : Nat → Prop) (h g : zs_H) : Prop :=
  ∃ (Fb : Nat → Nat) (i k c : Nat) (kv : Int32 × Int32) (lb : zt_T) (a bn y m : Nat), (∀ j, j ≤ b + 1 → Fb j = F j) ∧ (i < 32784 ∧ k < 33500 ∧ (h.2.1 22) (9 + b) = nI i ∧ (g.2.1 84) b = nI k) ∧ ((g.2.1 77) k = nI bn ∧ bn < 33500 ∧ (g.2.1 72) bn = nI c ∧ ∃ Qm : Nat → Prop, (∀ j, Qm j → j < 33500) ∧ zt_M LC LM g (.inner c kv () lb .leaf) Qm (nI k) (nI bn) (nI bn)) ∧ ((c = 11 ∨ c = 22) ∧ zg_A c (zg_run c 0 lb) = true ∧ zg_ok lb ∧ zg_d lb ≤ 184 ∧ zg_cx lb ∧ zg_x (.inner c kv () lb .leaf) = 0 ∧ zg_ru (.inner c kv () lb .leaf)) ∧ (a < 32784 ∧ (m < sz ∧ zt_sz lb + 1 ≤ sz) ∧ yg_cn ((h.2.1 18)) a m ((h.2.1 17) i)) ∧ yb_F Fb b h g P Q (.inner c kv () lb .leaf) (nI a) (nI bn) (-1) (-1) ∧ ((y ≤ 4096 ∧ ((h.2.1 21) (9 + b) = 3 → 960 ≤ y)) ∧ (h.2.1 25) (9 + b) = nI y ∧ (h.2.1 26) (9 + b) = nI (y + yc_o (.inner c kv () lb .leaf))) ∧ yg_G 0 g Q y (.inner c kv () lb .leaf) (nI bn) ∧ yg_G 1 g Q (y + yg_c 0 (.inner c kv () lb .leaf)) (.inner c kv () lb .leaf) (nI bn) ∧ (∀ v, F b ≤ v → v < F (b + 1) → ((h.2.1 29) (32 + v) = 3 ↔ (h.2.1 21) (9 + b) = 1 ∧ v = F b) ∧ ((h.2.1 21) (9 + b) = 1 → (h.2.1 30) (32 + v) = -1 ∨ (h.2.1 30) (32 + v) = -2) ∧ zv_lv (F b) ((h.2.1 21) (9 + b)) v h) ∧ (h.2.1 15) i = (g.2.1 73) k
/-- what a block's visit leaves as it is -/
def yg_bf (nb n : Nat) (P Q : Nat → Prop) (h g h' g' : zs_H) : Prop := zfr zv_cf (13 :: 14 :: 16 :: 17 :: zv_cm) [] h h' ∧ zfr zv_mf zv_mm [] g g' ∧ (∀ j, ¬ P j → (h'.2.1 13) j = (h.2.1 13) j ∧ (h'.2.1 14) j = (h.2.1 14) j ∧ (h'.2.1 16) j = (h.2.1 16) j ∧ (h'.2.1 17) j = (h.2.1 17) j) ∧ (∀ j, ¬ Q j → (g'.2.1 100) j = (g.2.1 100) j ∧ (g'.2.1 101) j = (g.2.1 101) j ∧ (g'.2.1 102) j = (g.2.1 102) j) ∧ (∀ j, j < 32 + n → zv_v8 h h' j) ∧ (∀ b, b < nb → (h'.2.1 21) (9 + b) = (h.2.1 21) (9 + b) ∧ (h'.2.1 22) (9 + b) = (h.2.1 22) (9 + b) ∧ (h'.2.1 25) (9 + b) = (h.2.1 25) (9 + b) ∧ (h'.2.1 26) (9 + b) = (h.2.1 26) (9 + b) ∧ (g'.2.1 84) b = (g.2.1 84) b)
theorem yg_bnode {D D' d i k kd : Nat} {h h1 g g1 : zs_H} (hd : d ≤ 240) (hi : i < 32784) (hk : k < 33500) (hkd : kd = 1 ∨ kd = 2 ∨ kd = 3) (m1 : (g.2.1 72) k = nI kd) (hen : f_Jd_enter h (nI i) = some h1) (hbg : f_Mo_beginBlock g (nI k) = some g1) : f_Jd_visit (D + 1) h (nI i) (nI d) = f_Jd_visit_L26 (f_Jd_visit D) zF h1 (nI i) (nI d) ((h1.2.1 17) i) (nI 0) ∧ f_Mo_look (D' + 2) g (nI k) = f_Mo_lookAlone_L28 (f_Mo_look D') zF g1 (nI k) (nI kd) ((g1.2.1 76) k) := by
  refine ⟨zv_vC hd hi hen, ?_⟩
  rw [zv_lM hk (by omega) (by omega) m1]
  show g_Mo_lookAlone (f_Mo_look D') g (nI k) = _
  unfold g_Mo_lookAlone f_Mo_lookAlone_21
  simp only [if_pos (zi_in (show k < 2147483648 by omega) hk), nI_clamp (show k < 2147483648 by omega), m1]
  rw [if_neg (mt (zc_el (k := 0) (by decide) (by omega)).mp (by omega)), if_neg (mt (zc_le (k := 4) (by decide) (by omega)).mp (by omega)), hbg, Option.bind_some]
