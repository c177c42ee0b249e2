/-! Rows for Math, for wide String constants, for switches; what the partial functions of the methods are made of. -/
theorem kw_mmin : Cond.code Lib.Math.min.name Lib.Math.min.code 2 (some .int) ∈ zk_BW := zk_inT 817 (by decide +kernel) rfl
theorem kw_mmax : Cond.code Lib.Math.max.name Lib.Math.max.code 2 (some .int) ∈ zk_BW := zk_inT 798 (by decide +kernel) rfl
theorem kw_mabs : Cond.code Lib.Math.abs.name Lib.Math.abs.code 1 (some .int) ∈ zk_BW := zk_inT 1229 (by decide +kernel) rfl
theorem kw_mminl : Cond.code Lib.MathLoose.min_long.x Lib.MathLoose.min_long.code 4 (some .long) ∈ zk_BW := zk_inT 761 (by decide +kernel) rfl
theorem kw_mmaxl : Cond.code Lib.MathLoose.max_long.x Lib.MathLoose.max_long.code 4 (some .long) ∈ zk_BW := zk_inT 1429 (by decide +kernel) rfl
theorem kw_mabsl : Cond.code Lib.MathLoose.abs_long.x Lib.MathLoose.abs_long.code 2 (some .long) ∈ zk_BW := zk_inT 1173 (by decide +kernel) rfl
section ZR
variable {X : zkj_T} {M : zk_MT} {G : zk_GT} {rm : Room} {E : Nat → State → Prop} {ws : va_W} {cells slots pc n : Nat} {lv : List (Nat × Value)} {r : List Value}
theorem zk_ldcw {index : Nat} {v : Int32} (C : zk_C X M G rm E) (hc : Cond.constant M.1.cls index v ∈ zk_BW) (d : decode M.2.1 pc = .ok (.ldc_w index, 3)) (hpc : pc + 3 = n) (k : zk_Ab X ws cells slots n lv (.int v :: r)) : zk_Ab X ws cells slots pc lv r := by
  obtain ⟨p, l, e, R, s, m, args, below, meth, c, Q, D, cl, tys, sz0, nL⟩ := X
  obtain ⟨⟨hx, hb, hml, hown, hts⟩, hK, hsz, hE, hEm, hG9, hnL9, hrm9, hin0⟩ := C; subst hG9; subst hnL9; subst hrm9
  subst hpc
  exact fun H locs ls hP hD hS h => lv_ldcw hx hb hown (hts _ hc) d (k H locs ls hP hD hS h)
theorem zk_mmin {index : Nat} {x y : Int32} (C : zk_C X M G rm E) (hl : Cond.methodLink M.1.cls index Lib.Math.min.name ∈ zk_BW) (hst : Cond.static Lib.Math.min.name ∈ zk_BW) (hin : Cond.initialized "java/lang/Math" ∈ zk_BW) (h1 : 1 ≤ rm.frames) (h2 : (r.map fun v => v.category).sum + 13 ≤ rm.locals) (hc : cells ≤ rm.cells) (hs : slots ≤ rm.slots) (d : decode M.2.1 pc = .ok (.invokestatic index, 3)) (hpc : pc + 3 = n) (k : zk_Ab X ws cells slots n lv (.int (zd_min x y) :: r)) : zk_Ab X ws cells slots pc lv (.int y :: .int x :: r) := by
  obtain ⟨p, l, e, R, s, m, args, below, meth, c, Q, D, cl, tys, sz0, nL⟩ := X
  obtain ⟨⟨hx, hb, hml, hown, hts⟩, hK, hsz, hE, hEm, hG9, hnL9, hrm9, hin0⟩ := C; subst hG9; subst hnL9; subst hrm9
  subst hpc
  exact fun H locs ls hP hD hS h => va_mmin hx hb (hml.trans h.1.symm) hown (hts _ hl) (hts _ hst) (hts _ hin) (hts _ kw_mmin) h1 h2 hc hs d (k H locs ls hP hD hS h)
theorem zk_mmax {index : Nat} {x y : Int32} (C : zk_C X M G rm E) (hl : Cond.methodLink M.1.cls index Lib.Math.max.name ∈ zk_BW) (hst : Cond.static Lib.Math.max.name ∈ zk_BW) (hin : Cond.initialized "java/lang/Math" ∈ zk_BW) (h1 : 1 ≤ rm.frames) (h2 : (r.map fun v => v.category).sum + 13 ≤ rm.locals) (hc : cells ≤ rm.cells) (hs : slots ≤ rm.slots) (d : decode M.2.1 pc = .ok (.invokestatic index, 3)) (hpc : pc + 3 = n) (k : zk_Ab X ws cells slots n lv (.int (zd_max x y) :: r)) : zk_Ab X ws cells slots pc lv (.int y :: .int x :: r) := by
  obtain ⟨p, l, e, R, s, m, args, below, meth, c, Q, D, cl, tys, sz0, nL⟩ := X
  obtain ⟨⟨hx, hb, hml, hown, hts⟩, hK, hsz, hE, hEm, hG9, hnL9, hrm9, hin0⟩ := C; subst hG9; subst hnL9; subst hrm9
  subst hpc
  exact fun H locs ls hP hD hS h => va_mmax hx hb (hml.trans h.1.symm) hown (hts _ hl) (hts _ hst) (hts _ hin) (hts _ kw_mmax) h1 h2 hc hs d (k H locs ls hP hD hS h)
theorem zk_mabs {index : Nat} {x : Int32} (C : zk_C X M G rm E) (hl : Cond.methodLink M.1.cls index Lib.Math.abs.name ∈ zk_BW) (hst : Cond.static Lib.Math.abs.name ∈ zk_BW) (hin : Cond.initialized "java/lang/Math" ∈ zk_BW) (h1 : 1 ≤ rm.frames) (h2 : (r.map fun v => v.category).sum + 13 ≤ rm.locals) (hc : cells ≤ rm.cells) (hs : slots ≤ rm.slots) (d : decode M.2.1 pc = .ok (.invokestatic index, 3)) (hpc : pc + 3 = n) (k : zk_Ab X ws cells slots n lv (.int (zd_abs x) :: r)) : zk_Ab X ws cells slots pc lv (.int x :: r) := by
  obtain ⟨p, l, e, R, s, m, args, below, meth, c, Q, D, cl, tys, sz0, nL⟩ := X
  obtain ⟨⟨hx, hb, hml, hown, hts⟩, hK, hsz, hE, hEm, hG9, hnL9, hrm9, hin0⟩ := C; subst hG9; subst hnL9; subst hrm9
  subst hpc
  exact fun H locs ls hP hD hS h => va_mabs hx hb (hml.trans h.1.symm) hown (hts _ hl) (hts _ hst) (hts _ hin) (hts _ kw_mabs) h1 h2 hc hs d (k H locs ls hP hD hS h)
theorem zk_mminl {index : Nat} {x y : Int64} (C : zk_C X M G rm E) (hl : Cond.methodLink M.1.cls index Lib.MathLoose.min_long.x ∈ zk_BW) (hst : Cond.static Lib.MathLoose.min_long.x ∈ zk_BW) (hin : Cond.initialized "java/lang/Math" ∈ zk_BW) (h1 : 1 ≤ rm.frames) (h2 : (r.map fun v => v.category).sum + 15 ≤ rm.locals) (hc : cells ≤ rm.cells) (hs : slots ≤ rm.slots) (d : decode M.2.1 pc = .ok (.invokestatic index, 3)) (hpc : pc + 3 = n) (k : zk_Ab X ws cells slots n lv (.long (zd_minl x y) :: r)) : zk_Ab X ws cells slots pc lv (.long y :: .long x :: r) := by
  obtain ⟨p, l, e, R, s, m, args, below, meth, c, Q, D, cl, tys, sz0, nL⟩ := X
  obtain ⟨⟨hx, hb, hml, hown, hts⟩, hK, hsz, hE, hEm, hG9, hnL9, hrm9, hin0⟩ := C; subst hG9; subst hnL9; subst hrm9
  subst hpc
  exact fun H locs ls hP hD hS h => va_mmin_long hx hb (hml.trans h.1.symm) hown (hts _ hl) (hts _ hst) (hts _ hin) (hts _ kw_mminl) h1 h2 hc hs d (k H locs ls hP hD hS h)
theorem zk_mmaxl {index : Nat} {x y : Int64} (C : zk_C X M G rm E) (hl : Cond.methodLink M.1.cls index Lib.MathLoose.max_long.x ∈ zk_BW) (hst : Cond.static Lib.MathLoose.max_long.x ∈ zk_BW) (hin : Cond.initialized "java/lang/Math" ∈ zk_BW) (h1 : 1 ≤ rm.frames) (h2 : (r.map fun v => v.category).sum + 15 ≤ rm.locals) (hc : cells ≤ rm.cells) (hs : slots ≤ rm.slots) (d : decode M.2.1 pc = .ok (.invokestatic index, 3)) (hpc : pc + 3 = n) (k : zk_Ab X ws cells slots n lv (.long (zd_maxl x y) :: r)) : zk_Ab X ws cells slots pc lv (.long y :: .long x :: r) := by
  obtain ⟨p, l, e, R, s, m, args, below, meth, c, Q, D, cl, tys, sz0, nL⟩ := X
  obtain ⟨⟨hx, hb, hml, hown, hts⟩, hK, hsz, hE, hEm, hG9, hnL9, hrm9, hin0⟩ := C; subst hG9; subst hnL9; subst hrm9
  subst hpc
  exact fun H locs ls hP hD hS h => va_mmax_long hx hb (hml.trans h.1.symm) hown (hts _ hl) (hts _ hst) (hts _ hin) (hts _ kw_mmaxl) h1 h2 hc hs d (k H locs ls hP hD hS h)
theorem zk_mabsl {index : Nat} {x : Int64} (C : zk_C X M G rm E) (hl : Cond.methodLink M.1.cls index Lib.MathLoose.abs_long.x ∈ zk_BW) (hst : Cond.static Lib.MathLoose.abs_long.x ∈ zk_BW) (hin : Cond.initialized "java/lang/Math" ∈ zk_BW) (h1 : 1 ≤ rm.frames) (h2 : (r.map fun v => v.category).sum + 13 ≤ rm.locals) (hc : cells ≤ rm.cells) (hs : slots ≤ rm.slots) (d : decode M.2.1 pc = .ok (.invokestatic index, 3)) (hpc : pc + 3 = n) (k : zk_Ab X ws cells slots n lv (.long (zd_absl x) :: r)) : zk_Ab X ws cells slots pc lv (.long x :: r) := by
  obtain ⟨p, l, e, R, s, m, args, below, meth, c, Q, D, cl, tys, sz0, nL⟩ := X
  obtain ⟨⟨hx, hb, hml, hown, hts⟩, hK, hsz, hE, hEm, hG9, hnL9, hrm9, hin0⟩ := C; subst hG9; subst hnL9; subst hrm9
  subst hpc
  exact fun H locs ls hP hD hS h => va_mabs_long hx hb (hml.trans h.1.symm) hown (hts _ hl) (hts _ hst) (hts _ hin) (hts _ kw_mabsl) h1 h2 hc hs d (k H locs ls hP hD hS h)
theorem zd_tableD {dflt lo hi : Int} {offs : Array Int} {len : Nat} {x : Int32} {tgt : Nat} (C : zk_C X M G rm E) (d : decode M.2.1 pc = .ok (.tableswitch dflt lo hi offs, len)) (ht : (pc : Int) + dflt = (tgt : Int)) (zs : List Int) (ho : ∀ j, j < (hi + 1 - lo).toNat → (lo + j) ∈ zs ∨ offs[j]? = some dflt) (hz : x.toInt ∉ zs) (k : zk_Ab X ws cells slots tgt lv r) : zk_Ab X ws cells slots pc lv (.int x :: r) := by
  by_cases h1 : x.toInt < lo
  · exact zk_tableOut C d (Or.inl h1) ht k
  · by_cases h2 : hi < x.toInt
    · exact zk_tableOut C d (Or.inr h2) ht k
    · have hq := ho (x.toInt - lo).toNat (by omega)
      have e : lo + ((x.toInt - lo).toNat : Int) = x.toInt := by omega
      rw [e] at hq
      exact zk_tableIn C d h1 h2 (hq.resolve_left hz) ht k
theorem zd_lk {dflt : Int} {ps : List (Int × Int)} {x : Int} (hz : x ∉ ps.map Prod.fst) : Op.lookupswitch.offset ps dflt x = dflt := by
  induction ps with
  | nil => simp [Op.lookupswitch.offset]
  | cons a ps ih =>
    simp only [List.map_cons, List.mem_cons, not_or] at hz
    simp only [Op.lookupswitch.offset]
    first
      | (rw [if_neg (fun q => hz.1 q.symm)]; exact ih hz.2)
      | (rw [if_neg hz.1]; exact ih hz.2)
      | (split <;> first | exact ih hz.2 | (exfalso; simp_all) | simp_all)
end ZR
section ZRS
variable {X : zkj_T} {M : zk_MT} {G : zk_GT} {rm : Room} {P : ze_T} {ws : va_W} {cells slots pc n : Nat} {lv : List (Nat × Value)} {r : List Value}
theorem zd_ldcStringW {p : Program} {l : Launch} {e : Env} {R : Room} {s : State} {m : MethodId} {args : Array Value} {below : List Frame} {meth : Method} {c : Code} {T : State} {locs : List Loc} {cells slots : Nat}
    (X : Stand p l e R s m args below meth c T locs cells slots) (hexec : p.tables.exec = Jvm.exec) {own text : String} {index : Nat} {a : Addr} (hown : s.vm.findClass own = some m.cls)
    (hconst : (Cond.stringRef own index text).before args s = true) (hev : (Term.string own index).eval args s none [] s = some (.ref a)) {g : JFrame} (hg : g.method = m) (hdg : decode c.code g.pc = .ok (.ldc_w index, 3)) :
    ∀ target, Steps p.tables e below (T.setTop { g with pc := g.pc + 3, stack := .ref a :: g.stack }) target → Steps p.tables e below (T.setTop g) target := by
  obtain ⟨k, cf, i, a', hk, hcf, hcp, -, hr, hev'⟩ := Cond.stringRef_spec hown hconst
  cases hev.symm.trans hev'
  obtain ⟨k', hk', he⟩ := X.warmed.alike.2.2 _ _ hk
  have hr' : k'.resolved[index]? = some (some (.string a)) := by
    rcases X.warmed.entry hk hk' index with h | ⟨h, -⟩
    · rw [h]; exact hr
    · rw [hr] at h; cases h
  intro target hrest
  subst hg
  jvm_step X.here [hexec, hdg, ldc_w.wp_string (e := e) (s := T) (f := g) X.here.top hk' (by rw [he]; exact hcf) hcp hr']
  exact hrest
theorem ze_ldcSw {idx i : Nat} {tx : String} (C : zk_C X M G rm (ze_E P)) (hm : (M.1.cls, idx, tx, i) ∈ ze_str) (d : decode M.2.1 pc = .ok (.ldc_w idx, 3)) (hpc : pc + 3 = n) (k : zk_Ab X ws cells slots n lv (.ref (P.1 i) :: r)) : zk_Ab X ws cells slots pc lv r := by
  obtain ⟨p, l, e, R, s, m, args, below, meth, c, Q, D, cl, tys, sz0, nL⟩ := X
  obtain ⟨⟨hx, hb, hml, hown, hts⟩, hK, hsz, hE, hEm, hG9, hnL9, hrm9, hin0⟩ := C; subst hG9; subst hnL9; subst hrm9
  subst hpc
  intro H locs ls hP hD hS h T hT X
  obtain ⟨t, a1, b1⟩ := k H locs ls hP hD hS h T hT X
  have hZ := hE.2.1 _ hm
  exact ⟨t, zd_ldcStringW X hx hown (text := tx) (a := P.1 i) hZ.1 hZ.2 (g := F0 m pc ls r) rfl (by rw [hb]; exact d) t a1, b1⟩
theorem zd_str (i : Nat) {q : String × Nat × String × Nat} (h : ze_str[i]? = some q) : q ∈ ze_str := List.mem_of_getElem? h
end ZRS
theorem zd_vp {i : Int32} {n : Nat} (h : zd_in i n) : vp_in i n := fun q => q.elim h.1 (fun z => absurd h.2 (Nat.not_lt.mpr z))
theorem zd_ref {S : zs_T} {x : Int32} {c : Nat} (q : ¬ x = 0) : zs_v S x (2, c) = .ref (S.1 c) := if_neg q
theorem zd_nb {v : Int32} (q : v = 0 ∨ v = 1) : narrow .boolean (.int v) = .int v := by rcases q with rfl | rfl <;> rfl
theorem zd_fb {v : Int32} (q : v = 0 ∨ v = 1) : fits .boolean (.int v) = true := by rcases q with rfl | rfl <;> rfl
theorem zd_mm {h : zs_H} {k i : Nat} {v : Int32} : (zs_uM h k i v).2.1 k i = v := if_pos ⟨rfl, rfl⟩
theorem zd_ll {h : zs_H} {k i : Nat} {v : Int64} : (zs_uL h k i v).2.2 k i = v := if_pos ⟨rfl, rfl⟩
theorem zd_clt {a b : Int64} : (lg_cmp a b < 0) ↔ a < b := lg_cmp_lt a b
theorem zd_cle {a b : Int64} : (lg_cmp a b ≤ 0) ↔ a ≤ b := lg_cmp_le a b
theorem zd_cgt {a b : Int64} : (0 < lg_cmp a b) ↔ b < a := lg_cmp_gt a b
theorem zd_cge {a b : Int64} : (0 ≤ lg_cmp a b) ↔ b ≤ a := lg_cmp_ge a b
theorem zd_ceq {a b : Int64} : (lg_cmp a b = 0) ↔ a = b := lg_cmp_eq a b
theorem zd_rmI {A B L d ml : Nat} (h : 8 + (ml + 11) ≤ L) : (A + d) + 1 ≤ A + (d + 1) ∧ 8 + (ml + 11) + (B + L * d) ≤ B + L * (d + 1) := ⟨by omega, by rw [Nat.mul_succ]; omega⟩
theorem zd_rmO {A B L d ml fr lo : Nat} (h1 : fr ≤ A) (h2 : 8 + (ml + 11) + lo ≤ B) : fr + 1 ≤ A + (d + 1) ∧ 8 + (ml + 11) + lo ≤ B + L * (d + 1) := ⟨by omega, Nat.le_trans h2 (Nat.le_add_right _ _)⟩
def zd_PI (S : zs_T) (rv : Int32) (rh : zs_H) : Option Value → va_W → Prop := fun v w => v = some (.int rv) ∧ w = zs_W S rh
def zd_PZ (S : zs_T) (rv : Int32) (rh : zs_H) : Option Value → va_W → Prop := fun v w => v = some (.int rv) ∧ w = zs_W S rh ∧ (rv = 0 ∨ rv = 1)
def zd_PJ (S : zs_T) (rv : Int64) (rh : zs_H) : Option Value → va_W → Prop := fun v w => v = some (.long rv) ∧ w = zs_W S rh
def zd_PV (S : zs_T) (rh : zs_H) : Option Value → va_W → Prop := fun v w => v = none ∧ w = zs_W S rh
section ZRP
variable {S : zs_T} {a rv : Int32} {b rl : Int64} {h hh rh : zs_H}
theorem zd_rV (e : some hh = some rh) : zd_PV S rh none (zs_W S hh) := by cases e; exact ⟨rfl, rfl⟩
theorem zd_rIS (e : some (a, hh) = some (rv, rh)) : zd_PI S rv rh (some (.int a)) (zs_W S hh) := by cases e; exact ⟨rfl, rfl⟩
theorem zd_rIO (e : some a = some rv) : zd_PI S rv h (some (.int a)) (zs_W S h) := by cases e; exact ⟨rfl, rfl⟩
theorem zd_rIT (e : a = rv) : zd_PI S rv h (some (.int a)) (zs_W S h) := by cases e; exact ⟨rfl, rfl⟩
theorem zd_rJS (e : some (b, hh) = some (rl, rh)) : zd_PJ S rl rh (some (.long b)) (zs_W S hh) := by cases e; exact ⟨rfl, rfl⟩
theorem zd_rJO (e : some b = some rl) : zd_PJ S rl h (some (.long b)) (zs_W S h) := by cases e; exact ⟨rfl, rfl⟩
theorem zd_rJT (e : b = rl) : zd_PJ S rl h (some (.long b)) (zs_W S h) := by cases e; exact ⟨rfl, rfl⟩
theorem zd_rZS (q : a = 0 ∨ a = 1) (e : some (a, hh) = some (rv, rh)) : zd_PZ S rv rh (some (.int a)) (zs_W S hh) := by cases e; exact ⟨rfl, rfl, q⟩
theorem zd_rZO (q : a = 0 ∨ a = 1) (e : some a = some rv) : zd_PZ S rv h (some (.int a)) (zs_W S h) := by cases e; exact ⟨rfl, rfl, q⟩
theorem zd_rZT (q : a = 0 ∨ a = 1) (e : a = rv) : zd_PZ S rv h (some (.int a)) (zs_W S h) := by cases e; exact ⟨rfl, rfl, q⟩
end ZRP
theorem zp_dec {x : Int32} {n : Nat} (h : decide (¬ (x < 0 ∨ n ≤ x.toNatClampNeg)) = true) : vp_in x n := by unfold vp_in; exact of_decide_eq_true h
