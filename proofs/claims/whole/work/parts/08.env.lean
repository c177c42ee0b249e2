/-! The environment: tables and String constants that nobody writes; String.length, String.charAt. -/
def ze_str : List (String × Nat × String × Nat) := [("PlantKeeper$Names", 11, "FUNCTION END_FUNCTION FUNCTION_BLOCK END_FUNCTION_BLOCK PROGRAM END_PROGRAM VAR VAR_INPUT VAR_OUTPUT END_VAR AT BOOL INT DINT ARRAY OF IF THEN ELSIF ELSE END_IF CASE END_CASE FOR TO BY DO END_FOR EXIT RETURN OR XOR AND MOD NOT TRUE FALSE LADDER END_LADDER RUNG END_RUNG ", 0),
  ("PlantKeeper$Names", 19, "TON TOF TP CTU CTD R_TRIG F_TRIG SR RS ", 1),
  ("PlantKeeper$Names", 21, "ABS MIN MAX LIMIT SEL SHL SHR TO_INT TO_DINT TO_BOOL ", 2),
  ("PlantKeeper$Names", 23, "IN PT Q ET CU R PV CV CD LD CLK S1 Q1 S R1 ", 3),
  ("PlantKeeper$Tokens", 127, "IQM", 4),
  ("PlantKeeper$Tokens", 137, "XW", 5),
  ("PlantKeeper$Tokens", 139, "()[],;:.+-*/=<>&|", 6),
  ("PlantKeeperModel", 248, " FUNCTION END_FUNCTION FUNCTION_BLOCK END_FUNCTION_BLOCK PROGRAM END_PROGRAM VAR VAR_INPUT VAR_OUTPUT END_VAR AT BOOL INT DINT ARRAY OF IF THEN ELSIF ELSE END_IF CASE END_CASE FOR TO BY DO END_FOR EXIT RETURN OR XOR AND MOD NOT TRUE FALSE LADDER END_LADDER RUNG END_RUNG ", 7),
  ("PlantKeeperModel", 285, "IXQXMXIWQWMW", 8),
  ("PlantKeeperModel", 291, "()[],;:.+-*/=<>&|", 9),
  ("PlantKeeperModel", 454, " TON TOF TP CTU CTD R_TRIG F_TRIG SR RS ", 10),
  ("PlantKeeperModel", 460, " ABS MIN MAX LIMIT SEL SHL SHR TO_INT TO_DINT TO_BOOL ", 11),
  ("PlantKeeperModel", 469, "IN PT ", 12),
  ("PlantKeeperModel", 471, "CU R PV ", 13),
  ("PlantKeeperModel", 474, "CD LD PV ", 14),
  ("PlantKeeperModel", 477, "CLK ", 15),
  ("PlantKeeperModel", 479, "S1 R ", 16),
  ("PlantKeeperModel", 481, "S R1 ", 17),
  ("PlantKeeperModel", 483, "Q ET ", 18),
  ("PlantKeeperModel", 486, "Q CV ", 19),
  ("PlantKeeperModel", 488, "Q ", 20),
  ("PlantKeeperModel", 490, "Q1 ", 21)]
def ze_tab : List (String × String × List Int32) := [("PlantKeeper$Parser", "LEVEL", [0, 1, 2, 3, 3, 4, 4, 4, 4, 5, 5, 6, 6, 6]),
  ("PlantKeeper$Plan", "STANDARD_VARIABLES", [0, 0, 1, 0, 0, 0, 1, 1, 2, 1, 0, 2, 2, 0, 2, 0, 3, 2, 2, 3, 1, 0, 1, 0, 0, 1, 1, 1, 2, 1, 1, 2, 2, 0, 2, 1, 3, 2, 2, 3, 2, 0, 1, 0, 0, 2, 1, 1, 2, 1, 2, 2, 2, 0, 2, 2, 3, 2, 2, 3, 3, 4, 1, 0, 0, 3, 5, 1, 0, 1, 3, 6, 1, 1, 2, 3, 2, 2, 0, 3, 3, 7, 2, 1, 4, 4, 8, 1, 0, 0, 4, 9, 1, 0, 1, 4, 6, 1, 1, 2, 4, 2, 2, 0, 3, 4, 7, 2, 1, 4, 5, 10, 1, 0, 0, 5, 2, 2, 0, 1, 6, 10, 1, 0, 0, 6, 2, 2, 0, 1, 7, 11, 1, 0, 0, 7, 5, 1, 0, 1, 7, 12, 2, 0, 2, 8, 13, 1, 0, 0, 8, 14, 1, 0, 1, 8, 12, 2, 0, 2]),
  ("PlantKeeper$Plan", "STANDARD_CELLS", [6, 6, 6, 6, 6, 3, 3, 3, 3]),
  ("PlantKeeper", "AREA_START", [0, 256, 512, 768, 832, 896, 960]),
  ("PlantKeeper$Code", "ARGUMENTS", [1, 2, 2, 3, 3, 2, 2, 1, 1, 1]),
  ("PlantKeeper$Code", "RISE", [1, 1, (-1), 0, (-2), 1, (-1), (-1), 0, (-2), 0, (-1), 0, 0, 0, 0, 0, 0, 0]),
  ("PlantKeeperModel", "TAKEN", [0, 0, 1, 1, 2, 0, 1, 2, 1, 3, 0, 1, 0, 0, 0, 0, 0, 0, 0]),
  ("PlantKeeperModel", "LEFT", [1, 1, 0, 1, 0, 1, 0, 1, 1, 1, 0, 0, 0, 0, 0, 0, 0, 0, 0])]
def ze_nest : List (String × Nat × String × String × String × String) := [("PlantKeeper$Judge", 221, "PlantKeeper", "AREA_START", "[I", "PlantKeeper"), ("PlantKeeper$Machine", 126, "PlantKeeper", "AREA_START", "[I", "PlantKeeper")]
abbrev ze_T : Type := (Nat → Nat) × (Nat → Nat) × (Nat → Nat)
/-- one String constant -/
def ze_S (a v n : Nat) (f : Nat → Int32) (A : Nat → Prop) (U : State) (H : Heap) : Prop := va_O "java/lang/String" a A U H ∧ va_OF "java/lang/String" "coder" "B" (.int 0) a A U H ∧ va_OF "java/lang/String" "value" "[B" (.ref v) a A U H ∧ va_T .byte v n (fun j => .int (f j)) A U H
def ze_E (P : ze_T) (sz0 : Nat) (U : State) : Prop :=
  (∀ i : Nat, i < 22 → ze_S (P.1 i) (P.2.1 i) (ze_n i) (ze_f i) (zk_A sz0) U U.heap) ∧ (∀ q ∈ ze_str, vk_R q.1 q.2.1 q.2.2.1 (P.1 q.2.2.2) U) ∧ va_Z "java/lang/String" "COMPACT_STRINGS" "Z" (.int 1) (zk_A sz0) U U.heap ∧ va_Zq "jdk/internal/util/Preconditions" "SIOOBE_FORMATTER" "Ljava/util/function/BiFunction;" (zk_A sz0) U U.heap ∧
  (∀ (k : Nat) (q : String × String × List Int32), ze_tab[k]? = some q → va_Z q.1 q.2.1 "[I" (.ref (P.2.2 k)) (zk_A sz0) U U.heap ∧ va_T .int (P.2.2 k) q.2.2.length (fun j => .int (q.2.2.getD j 0)) (zk_A sz0) U U.heap) ∧ (∀ q ∈ ze_nest, va_Nw (.fieldLinkNest q.1 q.2.1 q.2.2.1 q.2.2.2.1 q.2.2.2.2.1 q.2.2.2.2.2) U)
theorem ze_Em (P : ze_T) : zk_Em (ze_E P) := by
  intro sz0 u U hW hq h
  have hk : ∀ a : Nat, a < u.heap.size → ¬ zk_A sz0 a → U.heap[a]? = u.heap[a]? := fun a _ h => hq a (Nat.not_le.mp h)
  obtain ⟨h1, h2, h3, h4, h5, h6⟩ := h
  exact ⟨fun i hi => ⟨(va_O.moved hW.alike (h1 i hi).1).kept hk, (va_OF.moved hW.alike (h1 i hi).2.1).kept hk, (va_OF.moved hW.alike (h1 i hi).2.2.1).kept hk, (va_T.moved hW.alike (h1 i hi).2.2.2).kept hk⟩, fun q hq => (h2 q hq).warm hW, (va_Z.moved hW.alike h3).kept hk, (va_Zq.moved hW.alike h4).kept hk, fun k q hq => ⟨(va_Z.moved hW.alike (h5 k q hq).1).kept hk, (va_T.moved hW.alike (h5 k q hq).2).kept hk⟩, fun q hq => va_Nw.warmF hW (h6 q hq)⟩
section ZE
variable {X : zkj_T} {M : zk_MT} {G : zk_GT} {rm : Room} {P : ze_T} {ws ws' : va_W} {cells slots pc n : Nat} {lv lv' : List (Nat × Value)} {r r' : List Value}
theorem ze_ldcS {idx i : Nat} {tx : String} (C : zk_C X M G rm (ze_E P)) (hm : (M.1.cls, idx, tx, i) ∈ ze_str) (d : decode M.2.1 pc = .ok (.ldc idx, 2)) (hpc : pc + 2 = n) (k : zk_Ab X ws cells slots n lv (.ref (P.1 i) :: r)) : zk_Ab X ws cells slots pc lv r := by
  obtain ⟨p, l, e, R, s, m, args, below, meth, c, Q, D, cl, tys, sz0, nL⟩ := X
  obtain ⟨⟨hx, hb, hml, hown, hts⟩, hK, hsz, hE, hEm, hG9, hnL9, hrm9, hin0⟩ := C; subst hG9; subst hnL9; subst hrm9
  subst hpc
  exact fun H locs ls hP hD hS h => va_ldcS hx hb hown (hE.2.1 _ hm) d (k H locs ls hP hD hS h)
theorem ze_gets {index j : Nat} {q : String × String × List Int32} (C : zk_C X M G rm (ze_E P)) (hq : ze_tab[j]? = some q) (hl : Cond.fieldLink M.1.cls index q.1 q.2.1 "[I" ∈ zk_BW) (d : decode M.2.1 pc = .ok (.getstatic index, 3)) (hpc : pc + 3 = n) (k : zk_Ab X ws cells slots n lv (.ref (P.2.2 j) :: r)) : zk_Ab X ws cells slots pc lv r := by
  obtain ⟨p, l, e, R, s, m, args, below, meth, c, Q, D, cl, tys, sz0, nL⟩ := X
  obtain ⟨⟨hx, hb, hml, hown, hts⟩, hK, hsz, hE, hEm, hG9, hnL9, hrm9, hin0⟩ := C; subst hG9; subst hnL9; subst hrm9
  subst hpc
  exact fun H locs ls hP hD hS h => va_gets hx hb (hE.2.2.2.2.1 j q hq).1 hS hown (hts _ hl) (fun _ h9 => h9) d (k H locs ls hP hD hS h)
theorem ze_getsN {index j : Nat} {q : String × String × List Int32} {host : String} (C : zk_C X M G rm (ze_E P)) (hq : ze_tab[j]? = some q) (hl : (M.1.cls, index, q.1, q.2.1, "[I", host) ∈ ze_nest) (d : decode M.2.1 pc = .ok (.getstatic index, 3)) (hpc : pc + 3 = n) (k : zk_Ab X ws cells slots n lv (.ref (P.2.2 j) :: r)) : zk_Ab X ws cells slots pc lv r := by
  obtain ⟨p, l, e, R, s, m, args, below, meth, c, Q, D, cl, tys, sz0, nL⟩ := X
  obtain ⟨⟨hx, hb, hml, hown, hts⟩, hK, hsz, hE, hEm, hG9, hnL9, hrm9, hin0⟩ := C; subst hG9; subst hnL9; subst hrm9
  subst hpc
  exact fun H locs ls hP hD hS h => va_getsN hx hb (hE.2.2.2.2.1 j q hq).1 hS hown (va_Nw.use rfl (hE.2.2.2.2.2 _ hl)) (fun _ h9 => h9) d (k H locs ls hP hD hS h)
theorem ze_ti {j : Nat} {q : String × String × List Int32} {i : Int32} (C : zk_C X M G rm (ze_E P)) (hq : ze_tab[j]? = some q) (hin : vp_in i q.2.2.length) (d : decode M.2.1 pc = .ok (.iaload, 1)) (hpc : pc + 1 = n) (k : zk_Ab X ws cells slots n lv (.int (q.2.2.getD i.toNatClampNeg 0) :: r)) : zk_Ab X ws cells slots pc lv (.int i :: .ref (P.2.2 j) :: r) := by
  obtain ⟨p, l, e, R, s, m, args, below, meth, c, Q, D, cl, tys, sz0, nL⟩ := X
  obtain ⟨⟨hx, hb, hml, hown, hts⟩, hK, hsz, hE, hEm, hG9, hnL9, hrm9, hin0⟩ := C; subst hG9; subst hnL9; subst hrm9
  subst hpc
  exact fun H locs ls hP hD hS h => va_ti hx hb (hE.2.2.2.2.1 j q hq).2 hS hin rfl d (k H locs ls hP hD hS h)
theorem ze_tlen {j : Nat} {q : String × String × List Int32} (C : zk_C X M G rm (ze_E P)) (hq : ze_tab[j]? = some q) (d : decode M.2.1 pc = .ok (.arraylength, 1)) (hpc : pc + 1 = n) (k : zk_Ab X ws cells slots n lv (.int (Int32.ofNat q.2.2.length) :: r)) : zk_Ab X ws cells slots pc lv (.ref (P.2.2 j) :: r) := by
  obtain ⟨p, l, e, R, s, m, args, below, meth, c, Q, D, cl, tys, sz0, nL⟩ := X
  obtain ⟨⟨hx, hb, hml, hown, hts⟩, hK, hsz, hE, hEm, hG9, hnL9, hrm9, hin0⟩ := C; subst hG9; subst hnL9; subst hrm9
  subst hpc
  exact fun H locs ls hP hD hS h => va_tlen hx hb (hE.2.2.2.2.1 j q hq).2 hS rfl d (k H locs ls hP hD hS h)
theorem ze_getsC {index : Nat} (C : zk_C X M G rm (ze_E P)) (hl : Cond.fieldLink M.1.cls index "java/lang/String" "COMPACT_STRINGS" "Z" ∈ zk_BW) (d : decode M.2.1 pc = .ok (.getstatic index, 3)) (hpc : pc + 3 = n) (k : zk_Ab X ws cells slots n lv (.int 1 :: r)) : zk_Ab X ws cells slots pc lv r := by
  obtain ⟨p, l, e, R, s, m, args, below, meth, c, Q, D, cl, tys, sz0, nL⟩ := X
  obtain ⟨⟨hx, hb, hml, hown, hts⟩, hK, hsz, hE, hEm, hG9, hnL9, hrm9, hin0⟩ := C; subst hG9; subst hnL9; subst hrm9
  subst hpc
  exact fun H locs ls hP hD hS h => va_gets hx hb hE.2.2.1 hS hown (hts _ hl) (fun _ h9 => h9) d (k H locs ls hP hD hS h)
theorem ze_getsQ {index : Nat} (C : zk_C X M G rm (ze_E P)) (hl : Cond.fieldLink M.1.cls index "jdk/internal/util/Preconditions" "SIOOBE_FORMATTER" "Ljava/util/function/BiFunction;" ∈ zk_BW) (d : decode M.2.1 pc = .ok (.getstatic index, 3)) (hpc : pc + 3 = n) (k1 : zk_Ab X ws cells slots n lv (.null :: r)) (k2 : ∀ t : Nat, zk_Ab X ws cells slots n lv (.ref t :: r)) : zk_Ab X ws cells slots pc lv r := by
  obtain ⟨p, l, e, R, s, m, args, below, meth, c, Q, D, cl, tys, sz0, nL⟩ := X
  obtain ⟨⟨hx, hb, hml, hown, hts⟩, hK, hsz, hE, hEm, hG9, hnL9, hrm9, hin0⟩ := C; subst hG9; subst hnL9; subst hrm9
  subst hpc
  intro H locs ls hP hD hS h
  rcases hE.2.2.2.1 with hz | ⟨t, hz⟩
  · exact va_gets hx hb hz hS hown (hts _ hl) (fun _ h9 => h9) d (k1 H locs ls hP hD hS h)
  · exact va_gets hx hb hz hS hown (hts _ hl) (fun _ h9 => h9) d (k2 t H locs ls hP hD hS h)
theorem ze_coder {index i : Nat} (C : zk_C X M G rm (ze_E P)) (hi : i < 22) (hl : Cond.fieldLink M.1.cls index "java/lang/String" "coder" "B" ∈ zk_BW) (d : decode M.2.1 pc = .ok (.getfield index, 3)) (hpc : pc + 3 = n) (k : zk_Ab X ws cells slots n lv (.int 0 :: r)) : zk_Ab X ws cells slots pc lv (.ref (P.1 i) :: r) := by
  obtain ⟨p, l, e, R, s, m, args, below, meth, c, Q, D, cl, tys, sz0, nL⟩ := X
  obtain ⟨⟨hx, hb, hml, hown, hts⟩, hK, hsz, hE, hEm, hG9, hnL9, hrm9, hin0⟩ := C; subst hG9; subst hnL9; subst hrm9
  subst hpc
  exact fun H locs ls hP hD hS h => vk_getf hx hb (hE.1 i hi).2.1 hS hown (hts _ hl) (fun _ h9 => h9) d (k H locs ls hP hD hS h)
theorem ze_value {index i : Nat} (C : zk_C X M G rm (ze_E P)) (hi : i < 22) (hl : Cond.fieldLink M.1.cls index "java/lang/String" "value" "[B" ∈ zk_BW) (d : decode M.2.1 pc = .ok (.getfield index, 3)) (hpc : pc + 3 = n) (k : zk_Ab X ws cells slots n lv (.ref (P.2.1 i) :: r)) : zk_Ab X ws cells slots pc lv (.ref (P.1 i) :: r) := by
  obtain ⟨p, l, e, R, s, m, args, below, meth, c, Q, D, cl, tys, sz0, nL⟩ := X
  obtain ⟨⟨hx, hb, hml, hown, hts⟩, hK, hsz, hE, hEm, hG9, hnL9, hrm9, hin0⟩ := C; subst hG9; subst hnL9; subst hrm9
  subst hpc
  exact fun H locs ls hP hD hS h => vk_getf hx hb (hE.1 i hi).2.2.1 hS hown (hts _ hl) (fun _ h9 => h9) d (k H locs ls hP hD hS h)
theorem ze_vlen {i : Nat} (C : zk_C X M G rm (ze_E P)) (hi : i < 22) (d : decode M.2.1 pc = .ok (.arraylength, 1)) (hpc : pc + 1 = n) (k : zk_Ab X ws cells slots n lv (.int (nI (ze_n i)) :: r)) : zk_Ab X ws cells slots pc lv (.ref (P.2.1 i) :: r) := by
  obtain ⟨p, l, e, R, s, m, args, below, meth, c, Q, D, cl, tys, sz0, nL⟩ := X
  obtain ⟨⟨hx, hb, hml, hown, hts⟩, hK, hsz, hE, hEm, hG9, hnL9, hrm9, hin0⟩ := C; subst hG9; subst hnL9; subst hrm9
  subst hpc
  exact fun H locs ls hP hD hS h => va_tlen hx hb (hE.1 i hi).2.2.2 hS rfl d (k H locs ls hP hD hS h)
theorem ze_vld {i : Nat} {j : Int32} (C : zk_C X M G rm (ze_E P)) (hi : i < 22) (hin : vp_in j (ze_n i)) (d : decode M.2.1 pc = .ok (.baload, 1)) (hpc : pc + 1 = n) (k : zk_Ab X ws cells slots n lv (.int (ze_f i j.toNatClampNeg) :: r)) : zk_Ab X ws cells slots pc lv (.int j :: .ref (P.2.1 i) :: r) := by
  obtain ⟨p, l, e, R, s, m, args, below, meth, c, Q, D, cl, tys, sz0, nL⟩ := X
  obtain ⟨⟨hx, hb, hml, hown, hts⟩, hK, hsz, hE, hEm, hG9, hnL9, hrm9, hin0⟩ := C; subst hG9; subst hnL9; subst hrm9
  subst hpc
  exact fun H locs ls hP hD hS h => va_tb hx hb (hE.1 i hi).2.2.2 hS hin rfl d (k H locs ls hP hD hS h)
theorem ze_callStr {i : Nat} {N : zk_MT} {rn : Room} {index : Nat} {As rest st : List Value} {Post : Option Value → va_W → Prop} {c1 s1 : Nat} (C : zk_C X M G rm (ze_E P)) (hSp : zk_Sp G (ze_E P) N rn (.ref (P.1 i) :: As) ws Post) (hM : zk_My N) (hl : Cond.methodLink M.1.cls index N.1 ∈ zk_BW) (hv : zk_Mv N) (hi : i < 22) (hy : N.1.cls = "java/lang/String") (hn : As.length = N.2.2.2.2) (hR : rn.frames + 1 ≤ rm.frames ∧ 8 + (N.2.2.1 + 11) + rn.locals ≤ rm.locals) (hf : cells + rn.cells ≤ rm.cells ∧ slots + rn.slots ≤ rm.slots) (hst : st = As.reverse ++ .ref (P.1 i) :: rest) (hrm : (rest.map fun v => v.category).sum ≤ 8) (d : decode M.2.1 pc = .ok (.invokevirtual index, 3)) (hpc : pc + 3 = n) (hc1 : cells + rn.cells = c1) (hs1 : slots + rn.slots = s1) (k : ∀ (v : Option Value) (w : va_W), Post v w → zk_Ab X w c1 s1 n lv (v.toList ++ rest)) : zk_Ab X ws cells slots pc lv st := by
  obtain ⟨p, l, e, R, s, m, args, below, meth, c, Q, D, cl, tys, sz0, nL⟩ := X
  obtain ⟨⟨hx, hb, hml, hown, hts⟩, hK, hsz, hE, hEm, hG9, hnL9, hrm9, hin0⟩ := C; subst hG9; subst hnL9; subst hrm9
  subst hpc; subst hst; subst hc1; subst hs1
  intro H locs ls hP hD hS h
  have hrec : ∃ cell : Cell, H[P.1 i]? = some cell ∧ cell.vm.isStatics = false ∧ s.vm.findClass N.1.cls = some cell.cls := by
    obtain ⟨cell, h1, h2, h3, -⟩ := (hE.1 i hi).1.kept hS.2.1
    exact ⟨cell, h1, h2, by rw [hy]; exact h3⟩
  exact zk_after (va_runV (As := As) (rest := rest) ⟨hx, hb, hml, hown, hts⟩ hSp (cwV N.2.2.2.2 hts (zk_goodV hM hv hl) rfl rfl rfl ⟨rfl, hM.2.2.2⟩ hR) (⟨(zk_pre hK hsz hE hEm hP hD hS).1, hrec, (zk_pre hK hsz hE hEm hP hD hS).2⟩) rfl hn h.1 rfl (lv_room hrm) d hf) hS (fun v w hp H1 locs1 hP1 hD1 hS1 => k v w hp H1 locs1 ls hP1 hD1 hS1 h)
end ZE
theorem kw3 : Jvm.Cond.initialized "java/lang/String" ∈ zk_BW := zk_inT 3 (by decide +kernel) rfl
theorem kw4 : Jvm.Cond.initialized "java/lang/StringLatin1" ∈ zk_BW := zk_inT 4 (by decide +kernel) rfl
theorem kw5 : Jvm.Cond.initialized "jdk/internal/util/Preconditions" ∈ zk_BW := zk_inT 5 (by decide +kernel) rfl
theorem kw18 : Jvm.Cond.initialized "java/util/Arrays" ∈ zk_BW := zk_inT 18 (by decide +kernel) rfl
theorem kw38 : Jvm.Cond.instanceMethod ({ cls := "java/lang/String", name := "length", desc := "()I" } : Jvm.MethodName) ∈ zk_BW := zk_inT 38 (by decide +kernel) rfl
theorem kw39 : Jvm.Cond.selects "java/lang/String" ({ cls := "java/lang/String", name := "length", desc := "()I" } : Jvm.MethodName) ({ cls := "java/lang/String", name := "length", desc := "()I" } : Jvm.MethodName) ∈ zk_BW := zk_inT 39 (by decide +kernel) rfl
theorem kw40 : Jvm.Cond.code ({ cls := "java/lang/String", name := "length", desc := "()I" } : Jvm.MethodName) prog_18_method_54_code (1 : Nat) (Option.some FieldType.int) ∈ zk_BW := zk_inT 40 (by decide +kernel) rfl
theorem kw41 : Jvm.Cond.methodLink "java/lang/String" (335 : Nat) ({ cls := "java/lang/String", name := "coder", desc := "()B" } : Jvm.MethodName) ∈ zk_BW := zk_inT 41 (by decide +kernel) rfl
theorem kw42 : Jvm.Cond.instanceMethod ({ cls := "java/lang/String", name := "coder", desc := "()B" } : Jvm.MethodName) ∈ zk_BW := zk_inT 42 (by decide +kernel) rfl
theorem kw43 : Jvm.Cond.selects "java/lang/String" ({ cls := "java/lang/String", name := "coder", desc := "()B" } : Jvm.MethodName) ({ cls := "java/lang/String", name := "coder", desc := "()B" } : Jvm.MethodName) ∈ zk_BW := zk_inT 43 (by decide +kernel) rfl
theorem kw44 : Jvm.Cond.code ({ cls := "java/lang/String", name := "coder", desc := "()B" } : Jvm.MethodName) prog_18_method_152_code (1 : Nat) (Option.some FieldType.byte) ∈ zk_BW := zk_inT 44 (by decide +kernel) rfl
theorem kw45 : Jvm.Cond.fieldLink "java/lang/String" (38 : Nat) "java/lang/String" "COMPACT_STRINGS" "Z" ∈ zk_BW := zk_inT 45 (by decide +kernel) rfl
theorem kw54 : Jvm.Cond.instanceMethod ({ cls := "java/lang/String", name := "charAt", desc := "(I)C" } : Jvm.MethodName) ∈ zk_BW := zk_inT 54 (by decide +kernel) rfl
theorem kw55 : Jvm.Cond.selects "java/lang/String" ({ cls := "java/lang/String", name := "charAt", desc := "(I)C" } : Jvm.MethodName) ({ cls := "java/lang/String", name := "charAt", desc := "(I)C" } : Jvm.MethodName) ∈ zk_BW := zk_inT 55 (by decide +kernel) rfl
theorem kw56 : Jvm.Cond.code ({ cls := "java/lang/String", name := "charAt", desc := "(I)C" } : Jvm.MethodName) prog_18_method_56_code (2 : Nat) (Option.some FieldType.char) ∈ zk_BW := zk_inT 56 (by decide +kernel) rfl
theorem kw57 : Jvm.Cond.methodLink "java/lang/String" (492 : Nat) ({ cls := "java/lang/String", name := "isLatin1", desc := "()Z" } : Jvm.MethodName) ∈ zk_BW := zk_inT 57 (by decide +kernel) rfl
theorem kw58 : Jvm.Cond.instanceMethod ({ cls := "java/lang/String", name := "isLatin1", desc := "()Z" } : Jvm.MethodName) ∈ zk_BW := zk_inT 58 (by decide +kernel) rfl
theorem kw59 : Jvm.Cond.selects "java/lang/String" ({ cls := "java/lang/String", name := "isLatin1", desc := "()Z" } : Jvm.MethodName) ({ cls := "java/lang/String", name := "isLatin1", desc := "()Z" } : Jvm.MethodName) ∈ zk_BW := zk_inT 59 (by decide +kernel) rfl
theorem kw60 : Jvm.Cond.code ({ cls := "java/lang/String", name := "isLatin1", desc := "()Z" } : Jvm.MethodName) prog_18_method_154_code (1 : Nat) (Option.some FieldType.boolean) ∈ zk_BW := zk_inT 60 (by decide +kernel) rfl
theorem kw61 : Jvm.Cond.methodLink "java/lang/String" (495 : Nat) ({ cls := "java/lang/StringLatin1", name := "charAt", desc := "([BI)C" } : Jvm.MethodName) ∈ zk_BW := zk_inT 61 (by decide +kernel) rfl
theorem kw62 : Jvm.Cond.static ({ cls := "java/lang/StringLatin1", name := "charAt", desc := "([BI)C" } : Jvm.MethodName) ∈ zk_BW := zk_inT 62 (by decide +kernel) rfl
theorem kw63 : Jvm.Cond.code ({ cls := "java/lang/StringLatin1", name := "charAt", desc := "([BI)C" } : Jvm.MethodName) prog_19_method_2_code (2 : Nat) (Option.some FieldType.char) ∈ zk_BW := zk_inT 63 (by decide +kernel) rfl
theorem kw64 : Jvm.Cond.methodLink "java/lang/StringLatin1" (9 : Nat) ({ cls := "java/lang/String", name := "checkIndex", desc := "(II)V" } : Jvm.MethodName) ∈ zk_BW := zk_inT 64 (by decide +kernel) rfl
theorem kw65 : Jvm.Cond.static ({ cls := "java/lang/String", name := "checkIndex", desc := "(II)V" } : Jvm.MethodName) ∈ zk_BW := zk_inT 65 (by decide +kernel) rfl
theorem kw66 : Jvm.Cond.code ({ cls := "java/lang/String", name := "checkIndex", desc := "(II)V" } : Jvm.MethodName) prog_18_method_155_code (2 : Nat) (Option.none : Option FieldType) ∈ zk_BW := zk_inT 66 (by decide +kernel) rfl
theorem kw67 : Jvm.Cond.fieldLink "java/lang/String" (1053 : Nat) "jdk/internal/util/Preconditions" "SIOOBE_FORMATTER" "Ljava/util/function/BiFunction;" ∈ zk_BW := zk_inT 67 (by decide +kernel) rfl
theorem kw69 : Jvm.Cond.methodLink "java/lang/String" (1059 : Nat) ({ cls := "jdk/internal/util/Preconditions", name := "checkIndex", desc := "(IILjava/util/function/BiFunction;)I" } : Jvm.MethodName) ∈ zk_BW := zk_inT 69 (by decide +kernel) rfl
theorem kw70 : Jvm.Cond.static ({ cls := "jdk/internal/util/Preconditions", name := "checkIndex", desc := "(IILjava/util/function/BiFunction;)I" } : Jvm.MethodName) ∈ zk_BW := zk_inT 70 (by decide +kernel) rfl
theorem kw71 : Jvm.Cond.code ({ cls := "jdk/internal/util/Preconditions", name := "checkIndex", desc := "(IILjava/util/function/BiFunction;)I" } : Jvm.MethodName) prog_23_method_11_code (3 : Nat) (Option.some FieldType.int) ∈ zk_BW := zk_inT 71 (by decide +kernel) rfl
theorem kw694 : Jvm.Cond.static ({ cls := "java/util/Arrays", name := "fill", desc := "([II)V" } : Jvm.MethodName) ∈ zk_BW := zk_inT 694 (by decide +kernel) rfl
theorem kw695 : Jvm.Cond.code ({ cls := "java/util/Arrays", name := "fill", desc := "([II)V" } : Jvm.MethodName) prog_22_method_103_code (4 : Nat) (Option.none : Option FieldType) ∈ zk_BW := zk_inT 695 (by decide +kernel) rfl
theorem kw2416 : Jvm.Cond.fieldLink "java/lang/String" (9 : Nat) "java/lang/String" "value" "[B" ∈ zk_BW := zk_inT 2416 (by decide +kernel) rfl
theorem kw2417 : Jvm.Cond.fieldLink "java/lang/String" (15 : Nat) "java/lang/String" "coder" "B" ∈ zk_BW := zk_inT 2417 (by decide +kernel) rfl
abbrev kc_St_coder : ByteArray := prog_18_method_152_code
def km_St_coder : zk_MT := (⟨"java/lang/String", "coder", "()B"⟩, kc_St_coder, 1, some .byte, 0)
theorem ku_St_coder : zk_My km_St_coder := ⟨kw44, kw3, by decide, by decide, by decide, by decide +kernel⟩
theorem kv_St_coder : zk_Mv km_St_coder := ⟨kw42, kw43⟩
abbrev kc_St_length : ByteArray := prog_18_method_54_code
def km_St_length : zk_MT := (⟨"java/lang/String", "length", "()I"⟩, kc_St_length, 1, some .int, 0)
theorem ku_St_length : zk_My km_St_length := ⟨kw40, kw3, by decide, by decide, by decide, by decide +kernel⟩
theorem kv_St_length : zk_Mv km_St_length := ⟨kw38, kw39⟩
abbrev kc_St_isLatin1 : ByteArray := prog_18_method_154_code
def km_St_isLatin1 : zk_MT := (⟨"java/lang/String", "isLatin1", "()Z"⟩, kc_St_isLatin1, 1, some .boolean, 0)
theorem ku_St_isLatin1 : zk_My km_St_isLatin1 := ⟨kw60, kw3, by decide, by decide, by decide, by decide +kernel⟩
theorem kv_St_isLatin1 : zk_Mv km_St_isLatin1 := ⟨kw58, kw59⟩
abbrev kc_Pr_checkIndex : ByteArray := prog_23_method_11_code
def km_Pr_checkIndex : zk_MT := (⟨"jdk/internal/util/Preconditions", "checkIndex", "(IILjava/util/function/BiFunction;)I"⟩, kc_Pr_checkIndex, 3, some .int, 3)
theorem ku_Pr_checkIndex : zk_My km_Pr_checkIndex := ⟨kw71, kw5, by decide, by decide, by decide, by decide +kernel⟩
theorem ks_Pr_checkIndex : Cond.static km_Pr_checkIndex.1 ∈ zk_BW := kw70
abbrev kc_St_checkIndex : ByteArray := prog_18_method_155_code
def km_St_checkIndex : zk_MT := (⟨"java/lang/String", "checkIndex", "(II)V"⟩, kc_St_checkIndex, 2, none, 2)
theorem ku_St_checkIndex : zk_My km_St_checkIndex := ⟨kw66, kw3, by decide, by decide, by decide, by decide +kernel⟩
theorem ks_St_checkIndex : Cond.static km_St_checkIndex.1 ∈ zk_BW := kw65
abbrev kc_Sl_charAt : ByteArray := prog_19_method_2_code
def km_Sl_charAt : zk_MT := (⟨"java/lang/StringLatin1", "charAt", "([BI)C"⟩, kc_Sl_charAt, 2, some .char, 2)
theorem ku_Sl_charAt : zk_My km_Sl_charAt := ⟨kw63, kw4, by decide, by decide, by decide, by decide +kernel⟩
theorem ks_Sl_charAt : Cond.static km_Sl_charAt.1 ∈ zk_BW := kw62
abbrev kc_St_charAt : ByteArray := prog_18_method_56_code
def km_St_charAt : zk_MT := (⟨"java/lang/String", "charAt", "(I)C"⟩, kc_St_charAt, 2, some .char, 1)
theorem ku_St_charAt : zk_My km_St_charAt := ⟨kw56, kw3, by decide, by decide, by decide, by decide +kernel⟩
theorem kv_St_charAt : zk_Mv km_St_charAt := ⟨kw54, kw55⟩
abbrev kc_Ar_fill : ByteArray := prog_22_method_103_code
def km_Ar_fill : zk_MT := (⟨"java/util/Arrays", "fill", "([II)V"⟩, kc_Ar_fill, 4, none, 2)
theorem ku_Ar_fill : zk_My km_Ar_fill := ⟨kw695, kw18, by decide, by decide, by decide, by decide +kernel⟩
theorem ks_Ar_fill : Cond.static km_Ar_fill.1 ∈ zk_BW := kw694
theorem kd_St_coder_0 : decode kc_St_coder 0 = .ok (.getstatic 38, 3) := by decide +kernel
theorem kd_St_coder_3 : decode kc_St_coder 3 = .ok (.ifCond .eq 10, 3) := by decide +kernel
theorem kd_St_coder_6 : decode kc_St_coder 6 = .ok (.aload_n 0, 1) := by decide +kernel
theorem kd_St_coder_7 : decode kc_St_coder 7 = .ok (.getfield 15, 3) := by decide +kernel
theorem kd_St_coder_10 : decode kc_St_coder 10 = .ok (.goto 4, 3) := by decide +kernel
theorem kd_St_coder_13 : decode kc_St_coder 13 = .ok (.iconst 1, 1) := by decide +kernel
theorem kd_St_coder_14 : decode kc_St_coder 14 = .ok (.ireturn, 1) := by decide +kernel
theorem kd_St_length_0 : decode kc_St_length 0 = .ok (.aload_n 0, 1) := by decide +kernel
theorem kd_St_length_1 : decode kc_St_length 1 = .ok (.getfield 9, 3) := by decide +kernel
theorem kd_St_length_4 : decode kc_St_length 4 = .ok (.arraylength, 1) := by decide +kernel
theorem kd_St_length_5 : decode kc_St_length 5 = .ok (.aload_n 0, 1) := by decide +kernel
theorem kd_St_length_6 : decode kc_St_length 6 = .ok (.invokevirtual 335, 3) := by decide +kernel
theorem kd_St_length_9 : decode kc_St_length 9 = .ok (.ishr, 1) := by decide +kernel
theorem kd_St_length_10 : decode kc_St_length 10 = .ok (.ireturn, 1) := by decide +kernel
theorem kd_St_isLatin1_0 : decode kc_St_isLatin1 0 = .ok (.getstatic 38, 3) := by decide +kernel
theorem kd_St_isLatin1_3 : decode kc_St_isLatin1 3 = .ok (.ifCond .eq 14, 3) := by decide +kernel
theorem kd_St_isLatin1_6 : decode kc_St_isLatin1 6 = .ok (.aload_n 0, 1) := by decide +kernel
theorem kd_St_isLatin1_7 : decode kc_St_isLatin1 7 = .ok (.getfield 15, 3) := by decide +kernel
theorem kd_St_isLatin1_10 : decode kc_St_isLatin1 10 = .ok (.ifCond .ne 7, 3) := by decide +kernel
theorem kd_St_isLatin1_13 : decode kc_St_isLatin1 13 = .ok (.iconst 1, 1) := by decide +kernel
theorem kd_St_isLatin1_14 : decode kc_St_isLatin1 14 = .ok (.goto 4, 3) := by decide +kernel
theorem kd_St_isLatin1_17 : decode kc_St_isLatin1 17 = .ok (.iconst 0, 1) := by decide +kernel
theorem kd_St_isLatin1_18 : decode kc_St_isLatin1 18 = .ok (.ireturn, 1) := by decide +kernel
theorem kd_Pr_checkIndex_0 : decode kc_Pr_checkIndex 0 = .ok (.iload_n 0, 1) := by decide +kernel
theorem kd_Pr_checkIndex_1 : decode kc_Pr_checkIndex 1 = .ok (.ifCond .lt 8, 3) := by decide +kernel
theorem kd_Pr_checkIndex_4 : decode kc_Pr_checkIndex 4 = .ok (.iload_n 0, 1) := by decide +kernel
theorem kd_Pr_checkIndex_5 : decode kc_Pr_checkIndex 5 = .ok (.iload_n 1, 1) := by decide +kernel
theorem kd_Pr_checkIndex_6 : decode kc_Pr_checkIndex 6 = .ok (.if_icmp .lt 10, 3) := by decide +kernel
theorem kd_Pr_checkIndex_9 : decode kc_Pr_checkIndex 9 = .ok (.aload_n 2, 1) := by decide +kernel
theorem kd_Pr_checkIndex_10 : decode kc_Pr_checkIndex 10 = .ok (.iload_n 0, 1) := by decide +kernel
theorem kd_Pr_checkIndex_11 : decode kc_Pr_checkIndex 11 = .ok (.iload_n 1, 1) := by decide +kernel
theorem kd_Pr_checkIndex_12 : decode kc_Pr_checkIndex 12 = .ok (.invokestatic 95, 3) := by decide +kernel
theorem kd_Pr_checkIndex_15 : decode kc_Pr_checkIndex 15 = .ok (.athrow, 1) := by decide +kernel
theorem kd_Pr_checkIndex_16 : decode kc_Pr_checkIndex 16 = .ok (.iload_n 0, 1) := by decide +kernel
theorem kd_Pr_checkIndex_17 : decode kc_Pr_checkIndex 17 = .ok (.ireturn, 1) := by decide +kernel
theorem kd_St_checkIndex_0 : decode kc_St_checkIndex 0 = .ok (.iload_n 0, 1) := by decide +kernel
theorem kd_St_checkIndex_1 : decode kc_St_checkIndex 1 = .ok (.iload_n 1, 1) := by decide +kernel
theorem kd_St_checkIndex_2 : decode kc_St_checkIndex 2 = .ok (.getstatic 1053, 3) := by decide +kernel
theorem kd_St_checkIndex_5 : decode kc_St_checkIndex 5 = .ok (.invokestatic 1059, 3) := by decide +kernel
theorem kd_St_checkIndex_8 : decode kc_St_checkIndex 8 = .ok (.pop, 1) := by decide +kernel
theorem kd_St_checkIndex_9 : decode kc_St_checkIndex 9 = .ok (.return_, 1) := by decide +kernel
theorem kd_Sl_charAt_0 : decode kc_Sl_charAt 0 = .ok (.iload_n 1, 1) := by decide +kernel
theorem kd_Sl_charAt_1 : decode kc_Sl_charAt 1 = .ok (.aload_n 0, 1) := by decide +kernel
theorem kd_Sl_charAt_2 : decode kc_Sl_charAt 2 = .ok (.arraylength, 1) := by decide +kernel
theorem kd_Sl_charAt_3 : decode kc_Sl_charAt 3 = .ok (.invokestatic 9, 3) := by decide +kernel
theorem kd_Sl_charAt_6 : decode kc_Sl_charAt 6 = .ok (.aload_n 0, 1) := by decide +kernel
theorem kd_Sl_charAt_7 : decode kc_Sl_charAt 7 = .ok (.iload_n 1, 1) := by decide +kernel
theorem kd_Sl_charAt_8 : decode kc_Sl_charAt 8 = .ok (.baload, 1) := by decide +kernel
theorem kd_Sl_charAt_9 : decode kc_Sl_charAt 9 = .ok (.sipush 255, 3) := by decide +kernel
theorem kd_Sl_charAt_12 : decode kc_Sl_charAt 12 = .ok (.iand, 1) := by decide +kernel
theorem kd_Sl_charAt_13 : decode kc_Sl_charAt 13 = .ok (.i2c, 1) := by decide +kernel
theorem kd_Sl_charAt_14 : decode kc_Sl_charAt 14 = .ok (.ireturn, 1) := by decide +kernel
theorem kd_St_charAt_0 : decode kc_St_charAt 0 = .ok (.aload_n 0, 1) := by decide +kernel
theorem kd_St_charAt_1 : decode kc_St_charAt 1 = .ok (.invokevirtual 492, 3) := by decide +kernel
theorem kd_St_charAt_4 : decode kc_St_charAt 4 = .ok (.ifCond .eq 12, 3) := by decide +kernel
theorem kd_St_charAt_7 : decode kc_St_charAt 7 = .ok (.aload_n 0, 1) := by decide +kernel
theorem kd_St_charAt_8 : decode kc_St_charAt 8 = .ok (.getfield 9, 3) := by decide +kernel
theorem kd_St_charAt_11 : decode kc_St_charAt 11 = .ok (.iload_n 1, 1) := by decide +kernel
theorem kd_St_charAt_12 : decode kc_St_charAt 12 = .ok (.invokestatic 495, 3) := by decide +kernel
theorem kd_St_charAt_15 : decode kc_St_charAt 15 = .ok (.ireturn, 1) := by decide +kernel
theorem kd_St_charAt_16 : decode kc_St_charAt 16 = .ok (.aload_n 0, 1) := by decide +kernel
theorem kd_St_charAt_17 : decode kc_St_charAt 17 = .ok (.getfield 9, 3) := by decide +kernel
theorem kd_St_charAt_20 : decode kc_St_charAt 20 = .ok (.iload_n 1, 1) := by decide +kernel
theorem kd_St_charAt_21 : decode kc_St_charAt 21 = .ok (.invokestatic 498, 3) := by decide +kernel
theorem kd_St_charAt_24 : decode kc_St_charAt 24 = .ok (.ireturn, 1) := by decide +kernel
theorem kd_Ar_fill_0 : decode kc_Ar_fill 0 = .ok (.iconst 0, 1) := by decide +kernel
theorem kd_Ar_fill_1 : decode kc_Ar_fill 1 = .ok (.istore_n 2, 1) := by decide +kernel
theorem kd_Ar_fill_2 : decode kc_Ar_fill 2 = .ok (.aload_n 0, 1) := by decide +kernel
theorem kd_Ar_fill_3 : decode kc_Ar_fill 3 = .ok (.arraylength, 1) := by decide +kernel
theorem kd_Ar_fill_4 : decode kc_Ar_fill 4 = .ok (.istore_n 3, 1) := by decide +kernel
theorem kd_Ar_fill_5 : decode kc_Ar_fill 5 = .ok (.iload_n 2, 1) := by decide +kernel
theorem kd_Ar_fill_6 : decode kc_Ar_fill 6 = .ok (.iload_n 3, 1) := by decide +kernel
theorem kd_Ar_fill_7 : decode kc_Ar_fill 7 = .ok (.if_icmp .ge 13, 3) := by decide +kernel
theorem kd_Ar_fill_10 : decode kc_Ar_fill 10 = .ok (.aload_n 0, 1) := by decide +kernel
theorem kd_Ar_fill_11 : decode kc_Ar_fill 11 = .ok (.iload_n 2, 1) := by decide +kernel
theorem kd_Ar_fill_12 : decode kc_Ar_fill 12 = .ok (.iload_n 1, 1) := by decide +kernel
theorem kd_Ar_fill_13 : decode kc_Ar_fill 13 = .ok (.iastore, 1) := by decide +kernel
theorem kd_Ar_fill_14 : decode kc_Ar_fill 14 = .ok (.iinc 2 1, 3) := by decide +kernel
theorem kd_Ar_fill_17 : decode kc_Ar_fill 17 = .ok (.goto (-12), 3) := by decide +kernel
theorem kd_Ar_fill_20 : decode kc_Ar_fill 20 = .ok (.return_, 1) := by decide +kernel
set_option maxHeartbeats 4000000 in
set_option maxRecDepth 100000 in
theorem cs_coder {G : zk_GT} {P : ze_T} (ws : va_W) (i : Nat) (hi : i < 22) : zk_Sp G (ze_E P) km_St_coder { frames := 0, cells := 0, slots := 0, locals := 0 } [.ref (P.1 i)] ws (fun v w => v = some (.int 0) ∧ w = ws) := by
  refine zk_met ku_St_coder (Nat.le_of_ble_eq_true rfl) (ze_Em P) ?_
  intro X C hR
  refine zk_lvs (lv' := [(0, .ref (P.1 i))]) [0] rfl ?_
  refine ze_getsC C kw45 kd_St_coder_0 rfl ?_
  refine zk_if_eq (tgt := 13) C kd_St_coder_3 (by decide) rfl (fun h => absurd h (by decide)) (fun h => ?_)
  refine zk_aload_n C kd_St_coder_6 rfl 0 rfl rfl ?_
  refine ze_coder C hi kw2417 kd_St_coder_7 rfl ?_
  refine zk_goto (tgt := 14) C kd_St_coder_10 (by decide) ?_
  exact zk_zret C hR rfl kd_St_coder_14 rfl rfl ⟨rfl, rfl⟩
set_option maxHeartbeats 4000000 in
set_option maxRecDepth 100000 in
theorem cs_length {G : zk_GT} {P : ze_T} (ws : va_W) (i : Nat) (hi : i < 22) : zk_Sp G (ze_E P) km_St_length { frames := 1, cells := 0, slots := 0, locals := 20 } [.ref (P.1 i)] ws (fun v w => v = some (.int (nI (ze_n i))) ∧ w = ws) := by
  refine zk_met ku_St_length (Nat.le_of_ble_eq_true rfl) (ze_Em P) ?_
  intro X C hR
  refine zk_lvs (lv' := [(0, .ref (P.1 i))]) [0] rfl ?_
  refine zk_aload_n C kd_St_length_0 rfl 0 rfl rfl ?_
  refine ze_value C hi kw2416 kd_St_length_1 rfl ?_
  refine ze_vlen C hi kd_St_length_4 rfl ?_
  refine zk_aload_n C kd_St_length_5 rfl 0 rfl rfl ?_
  refine ze_callStr (As := []) (rest := [.int (nI (ze_n i))]) C (cs_coder ws i hi) ku_St_coder kw41 kv_St_coder hi rfl rfl ⟨by decide, by decide⟩ ⟨by decide, by decide⟩ rfl (Nat.le_of_ble_eq_true rfl) kd_St_length_6 rfl (c1 := 0) (s1 := 0) rfl rfl (fun v w hp => ?_)
  obtain ⟨rfl, ew⟩ := hp
  rw [ew]
  refine zk_stk (r' := [.int 0, .int (nI (ze_n i))]) rfl ?_
  refine zk_ishr C kd_St_length_9 rfl ?_
  rw [sb_shr0]
  exact zk_iret C hR kd_St_length_10 rfl rfl ⟨rfl, rfl⟩
set_option maxHeartbeats 4000000 in
set_option maxRecDepth 100000 in
theorem cs_isLatin1 {G : zk_GT} {P : ze_T} (ws : va_W) (i : Nat) (hi : i < 22) : zk_Sp G (ze_E P) km_St_isLatin1 { frames := 0, cells := 0, slots := 0, locals := 0 } [.ref (P.1 i)] ws (fun v w => v = some (.int 1) ∧ w = ws) := by
  refine zk_met ku_St_isLatin1 (Nat.le_of_ble_eq_true rfl) (ze_Em P) ?_
  intro X C hR
  refine zk_lvs (lv' := [(0, .ref (P.1 i))]) [0] rfl ?_
  refine ze_getsC C kw45 kd_St_isLatin1_0 rfl ?_
  refine zk_if_eq (tgt := 17) C kd_St_isLatin1_3 (by decide) rfl (fun h => absurd h (by decide)) (fun h => ?_)
  refine zk_aload_n C kd_St_isLatin1_6 rfl 0 rfl rfl ?_
  refine ze_coder C hi kw2417 kd_St_isLatin1_7 rfl ?_
  refine zk_if_ne (tgt := 17) C kd_St_isLatin1_10 (by decide) rfl (fun h => absurd rfl h) (fun h => ?_)
  refine zk_iconst (v := 1) C kd_St_isLatin1_13 (by decide) rfl ?_
  refine zk_goto (tgt := 18) C kd_St_isLatin1_14 (by decide) ?_
  exact zk_zret C hR rfl kd_St_isLatin1_18 rfl rfl ⟨rfl, rfl⟩
set_option maxHeartbeats 4000000 in
set_option maxRecDepth 100000 in
theorem cs_checkR {G : zk_GT} {P : ze_T} (ws : va_W) (v0 : Value) (hv0 : v0 = .null ∨ ∃ t, v0 = .ref t) (j N : Nat) (hj : j < N) (hN : N < 2 ^ 31) : zk_Sp G (ze_E P) km_Pr_checkIndex { frames := 0, cells := 0, slots := 0, locals := 0 } [.int (nI j), .int (nI N), v0] ws (fun v w => v = some (.int (nI j)) ∧ w = ws) := by
  refine zk_met ku_Pr_checkIndex (by rcases hv0 with rfl | ⟨t, rfl⟩ <;> exact Nat.le_of_ble_eq_true rfl) (ze_Em P) ?_
  intro X C hR
  refine zk_lvs (lv' := [(0, .int (nI j)), (1, .int (nI N))]) [0, 1] (by rcases hv0 with rfl | ⟨t, rfl⟩ <;> rfl) ?_
  refine zk_iload_n C kd_Pr_checkIndex_0 rfl 0 rfl rfl ?_
  refine zk_if_lt (tgt := 9) C kd_Pr_checkIndex_1 (by decide) rfl (fun h => absurd h (nI_pos (by omega))) (fun h => ?_)
  refine zk_iload_n C kd_Pr_checkIndex_4 rfl 0 rfl rfl ?_
  refine zk_iload_n C kd_Pr_checkIndex_5 rfl 1 rfl rfl ?_
  refine zk_icmp_lt (tgt := 16) C kd_Pr_checkIndex_6 (by decide) rfl (fun h => ?_) (fun h => absurd (nI_lt hj hN) h)
  refine zk_iload_n C kd_Pr_checkIndex_16 rfl 0 rfl rfl ?_
  exact zk_iret C hR kd_Pr_checkIndex_17 rfl rfl ⟨rfl, rfl⟩
set_option maxHeartbeats 4000000 in
set_option maxRecDepth 100000 in
theorem cs_checkI {G : zk_GT} {P : ze_T} (ws : va_W) (j N : Nat) (hj : j < N) (hN : N < 2 ^ 31) : zk_Sp G (ze_E P) km_St_checkIndex { frames := 1, cells := 0, slots := 0, locals := 22 } [.int (nI j), .int (nI N)] ws (fun v w => v = none ∧ w = ws) := by
  refine zk_met ku_St_checkIndex (Nat.le_of_ble_eq_true rfl) (ze_Em P) ?_
  intro X C hR
  refine zk_lvs (lv' := [(0, .int (nI j)), (1, .int (nI N))]) [0, 1] rfl ?_
  refine zk_iload_n C kd_St_checkIndex_0 rfl 0 rfl rfl ?_
  refine zk_iload_n C kd_St_checkIndex_1 rfl 1 rfl rfl ?_
  have go : ∀ v0 : Value, (v0 = .null ∨ ∃ t, v0 = .ref t) → zk_Ab X ws 0 0 5 [(0, .int (nI j)), (1, .int (nI N))] [v0, .int (nI N), .int (nI j)] := by
    intro v0 hv0
    refine zk_callS (As := [.int (nI j), .int (nI N), v0]) (rest := []) C (cs_checkR ws v0 hv0 j N hj hN) ku_Pr_checkIndex kw69 ks_Pr_checkIndex rfl ⟨by decide, by decide⟩ ⟨by decide, by decide⟩ rfl (by decide) kd_St_checkIndex_5 rfl (c1 := 0) (s1 := 0) rfl rfl (fun v w hp => ?_)
    obtain ⟨rfl, ew⟩ := hp
    rw [ew]
    refine zk_stk (r' := [.int (nI j)]) rfl ?_
    refine zk_pop C kd_St_checkIndex_8 rfl rfl ?_
    exact zk_vret C hR kd_St_checkIndex_9 rfl rfl ⟨rfl, rfl⟩
  exact ze_getsQ C kw67 kd_St_checkIndex_2 rfl (go _ (Or.inl rfl)) (fun t => go _ (Or.inr ⟨t, rfl⟩))
set_option maxHeartbeats 4000000 in
set_option maxRecDepth 100000 in
theorem cs_charL {G : zk_GT} {P : ze_T} (ws : va_W) (i : Nat) (hi : i < 22) (j : Nat) (hj : j < ze_n i) (hN : ze_n i < 2 ^ 31) : zk_Sp G (ze_E P) km_Sl_charAt { frames := 2, cells := 0, slots := 0, locals := 43 } [.ref (P.2.1 i), .int (nI j)] ws (fun v w => v = some (.int (ze_f i j &&& 255)) ∧ w = ws) := by
  refine zk_met ku_Sl_charAt (Nat.le_of_ble_eq_true rfl) (ze_Em P) ?_
  intro X C hR
  refine zk_lvs (lv' := [(0, .ref (P.2.1 i)), (1, .int (nI j))]) [0, 1] rfl ?_
  refine zk_iload_n C kd_Sl_charAt_0 rfl 1 rfl rfl ?_
  refine zk_aload_n C kd_Sl_charAt_1 rfl 0 rfl rfl ?_
  refine ze_vlen C hi kd_Sl_charAt_2 rfl ?_
  refine zk_callS (As := [.int (nI j), .int (nI (ze_n i))]) (rest := []) C (cs_checkI ws j (ze_n i) hj hN) ku_St_checkIndex kw64 ks_St_checkIndex rfl ⟨by decide, by decide⟩ ⟨by decide, by decide⟩ rfl (by decide) kd_Sl_charAt_3 rfl (c1 := 0) (s1 := 0) rfl rfl (fun v w hp => ?_)
  obtain ⟨rfl, ew⟩ := hp
  rw [ew]
  refine zk_stk (r' := []) rfl ?_
  refine zk_aload_n C kd_Sl_charAt_6 rfl 0 rfl rfl ?_
  refine zk_iload_n C kd_Sl_charAt_7 rfl 1 rfl rfl ?_
  refine ze_vld C hi (vp_in_nI hj hN) kd_Sl_charAt_8 rfl ?_
  refine zk_sipush (v := 255) C kd_Sl_charAt_9 (by decide) rfl ?_
  refine zk_iand C kd_Sl_charAt_12 rfl ?_
  refine zk_i2c C kd_Sl_charAt_13 rfl ?_
  rw [nI_clamp (by omega), sc_c2]
  exact zk_zret C hR (sc_nar _) kd_Sl_charAt_14 rfl rfl ⟨rfl, rfl⟩
set_option maxHeartbeats 4000000 in
set_option maxRecDepth 100000 in
theorem cs_charAt {G : zk_GT} {P : ze_T} (ws : va_W) (i : Nat) (hi : i < 22) (j : Nat) (hj : j < ze_n i) (hN : ze_n i < 2 ^ 31) : zk_Sp G (ze_E P) km_St_charAt { frames := 3, cells := 0, slots := 0, locals := 64 } [.ref (P.1 i), .int (nI j)] ws (fun v w => v = some (.int (ze_f i j &&& 255)) ∧ w = ws) := by
  refine zk_met ku_St_charAt (Nat.le_of_ble_eq_true rfl) (ze_Em P) ?_
  intro X C hR
  refine zk_lvs (lv' := [(0, .ref (P.1 i)), (1, .int (nI j))]) [0, 1] rfl ?_
  refine zk_aload_n C kd_St_charAt_0 rfl 0 rfl rfl ?_
  refine ze_callStr (As := []) (rest := []) C (cs_isLatin1 ws i hi) ku_St_isLatin1 kw57 kv_St_isLatin1 hi rfl rfl ⟨by decide, by decide⟩ ⟨by decide, by decide⟩ rfl (by decide) kd_St_charAt_1 rfl (c1 := 0) (s1 := 0) rfl rfl (fun v w hp => ?_)
  obtain ⟨rfl, ew⟩ := hp
  rw [ew]
  refine zk_stk (r' := [.int 1]) rfl ?_
  refine zk_if_eq (tgt := 16) C kd_St_charAt_4 (by decide) rfl (fun h => absurd h (by decide)) (fun h => ?_)
  refine zk_aload_n C kd_St_charAt_7 rfl 0 rfl rfl ?_
  refine ze_value C hi kw2416 kd_St_charAt_8 rfl ?_
  refine zk_iload_n C kd_St_charAt_11 rfl 1 rfl rfl ?_
  refine zk_callS (As := [.ref (P.2.1 i), .int (nI j)]) (rest := []) C (cs_charL ws i hi j hj hN) ku_Sl_charAt kw61 ks_Sl_charAt rfl ⟨by decide, by decide⟩ ⟨by decide, by decide⟩ rfl (by decide) kd_St_charAt_12 rfl (c1 := 0) (s1 := 0) rfl rfl (fun v w hp => ?_)
  obtain ⟨rfl, ew⟩ := hp
  rw [ew]
  refine zk_stk (r' := [.int (ze_f i j &&& 255)]) rfl ?_
  exact zk_zret C hR (sc_nar _) kd_St_charAt_15 rfl rfl ⟨rfl, rfl⟩
