/-! ===== the calculus: a method's run over a memory of numbered cells ===== -/
abbrev XM := List (Nat × Nat) × (Nat → Nat → Value) × (Nat → Nat → Int32)
abbrev XE := Nat × (Nat → Int32)
def x_jk : Value := .float 0
def x_cv (ex : Nat → Value) (base : Nat) : Value → Value
  | .ref i => if i < 64 then ex i else .ref (base + (i - 64))
  | v => v
def x_tyt (c : Nat) : Nat → FieldType := match c with
  | 0 => tyX0
  | 1 => tyX1
  | 2 => tyX2
  | 3 => tyX3
  | 4 => tyX4
  | 5 => tyX5
  | 6 => tyX6
  | 7 => tyX7
  | _ => tyX8
def x_ty (c k : Nat) : FieldType := x_tyt c k
def x_isR (c k : Nat) : Bool := match x_ty c k with
  | .object _ => true
  | .array _ => true
  | _ => false
/-- what stands at place k of the cell with the number i, of kind q.1 and length q.2 -/
def x_v (ex : Nat → Value) (base : Nat) (M : XM) (q : Nat × Nat) (i k : Nat) : Value :=
  if q.1 = 103 ∨ (q.1 < 100 ∧ x_isR q.1 k = true) then x_cv ex base (M.2.1 i k) else .int (M.2.2 i k)
def x_at (D : va_G) (T : Nat → ClassId) (ex : Nat → Value) (base : Nat) (M : XM) (H : Heap) (j : Nat) (q : Nat × Nat) : Prop :=
  if q.1 < 100 then ∃ r : vw_C, vwCl[q.1]? = some r ∧ q.2 = r.2.2 ∧ t_OB (base + j) (D.1 q.1) q.2 (D.2 q.1) H (x_v ex base M q (64 + j))
  else H[base + j]? = some (arrV (T q.1) q.2 (x_v ex base M q (64 + j)))
def x_World (D : va_G) (T : Nat → ClassId) (ex : Nat → Value) (base : Nat) (M : XM) (H : Heap) : Prop :=
  H.size = base + M.1.length ∧ ∀ (j : Nat) (q : Nat × Nat), M.1[j]? = some q → x_at D T ex base M H j q
def x_tys (T : Nat → ClassId) : List (ClassId × FieldType) := [(T 100, .int), (T 101, .byte), (T 102, .boolean), (T 103, .object "StarchedCollars$Man")]
def x_tab (l : List Int32) : Nat × (Nat → Int32) := (l.length, fun j => l.getD j 0)
/-- the arrays outside: four tables, the script, the Strings' bytes -/
def x_Ar (E : XE) (e : Nat) : Option (FieldType × Nat × (Nat → Int32)) := match e with
  | 0 => some (.int, x_tab [0, 0, 0, 0, 1, 2, 3])
  | 1 => some (.int, x_tab [1, 11, 1, 1, 11, 51, 1])
  | 2 => some (.int, x_tab [2, 2, 21, 2, 2, 21, 61])
  | 3 => some (.int, x_tab [3, 3, 3, 31, 41, 3, 31])
  | 4 => some (.int, E)
  | 24 => some (.byte, x_tab [117, 114, 115, 116, 32])
  | 25 => some (.byte, x_tab [97, 114, 99, 104, 32])
  | 26 => some (.byte, x_tab [111, 102, 116, 101, 110, 32])
  | 27 => some (.byte, x_tab [112, 107, 118, 99, 104, 119])
  | 28 => some (.byte, x_tab [60, 61, 62])
  | 29 => some (.byte, x_tab [98, 117, 114, 115, 116, 32])
  | 30 => some (.byte, x_tab [115, 116, 97, 114, 99, 104, 32])
  | 31 => some (.byte, x_tab [115, 111, 102, 116, 101, 110, 32])
  | _ => none
def x_exr (ex : Nat → Value) : Prop := ∀ e, e < 64 → ex e = .null ∨ ∃ t : Nat, ex e = .ref t
def x_Ext (E : XE) (ex : Nat → Value) (A : Nat → Prop) (U : State) (H : Heap) : Prop :=
  x_exr ex ∧ (∀ e ty N f, x_Ar E e = some (ty, N, f) → ∃ t : Nat, ex e = .ref t ∧ va_T ty t N (fun j => .int (f j)) A U H) ∧
  (∀ e C n d, e < 6 → x_ext e = some (C, n, d) → va_Z C n d (ex e) A U H) ∧
  va_Z "java/lang/String" "COMPACT_STRINGS" "Z" (.int 1) A U H ∧
  (∀ j, j < 8 → ∃ t : Nat, ex (8 + j) = .ref t ∧ va_O "java/lang/String" t A U H ∧ va_OF "java/lang/String" "coder" "B" (.int 0) t A U H ∧ va_OF "java/lang/String" "value" "[B" (ex (24 + j)) t A U H) ∧
  (∀ own idx j tx, Jvm.Cond.stringRef own idx tx ∈ lw_tbl → x_strs[j]? = some tx → ∃ t : Nat, ex (8 + j) = .ref t ∧ vk_R own idx tx t U) ∧
  (∀ own idx y host, Jvm.Cond.methodLinkNest own idx y host ∈ lw_tbl → va_Nw (.methodLinkNest own idx y host) U) ∧ va_AO "StarchedCollars$Man" U
def x_A (base : Nat) : Nat → Prop := fun q => base ≤ q
def x_In (E : XE) (D : va_G) (T : Nat → ClassId) (ex : Nat → Value) (base : Nat) (M : XM) (U : State) : Prop :=
  base ≤ U.heap.size ∧ x_World D T ex base M U.heap ∧ va_K D vwCl (x_tys T) U ∧ x_Ext E ex (x_A base) U U.heap
def x_Qc (D : va_G) (T : Nat → ClassId) (ex : Nat → Value) (base : Nat) (Q : Option Value → XM → Prop) : Array Value → State → Outcome → State → Prop :=
  fun _ st oc t => (∃ (v : Option Value) (M' : XM), oc = .returned (v.map (x_cv ex base)) ∧ Q v M' ∧ x_World D T ex base M' t.heap) ∧ va_F (x_A base) st t
/-- the words that go along with every call -/
def x_gt : List Jvm.Cond := lw_tbl.filter goodWord
def x_ws (mi : Nat) : List Jvm.Cond := Jvm.Cond.code (x_m mi).1 (x_m mi).2.1 (x_m mi).2.2.1 (x_m mi).2.2.2.1 :: x_gt
def x_rm (d mc ms : Nat) : Room := { frames := d, cells := mc, slots := ms, locals := 64 * d }
/-- a method's contract: at memory M with these arguments it returns, with Q -/
def x_C (E : XE) (d mi : Nat) (args : List Value) (M : XM) (mc ms : Nat) (Q : Option Value → XM → Prop) : Prop :=
  ∀ (l : Launch) (D : va_G) (T : Nat → ClassId) (ex : Nat → Value) (base : Nat), Met l (x_m mi).1 (x_ws mi) (x_rm d mc ms) (va_Pc (args.map (x_cv ex base)) (x_In E D T ex base M)) (x_Qc D T ex base Q) mc ms (x_A base)
def x_L (ex : Nat → Value) (base : Nat) (ls : Array Slot) (nL : Nat) (L : List Value) : Prop :=
  ls.size = nL ∧ lv_wf ls ∧ L.length = nL ∧ ∀ (k : Nat) (v : Value), L[k]? = some v → v ≠ x_jk → ls[k]? = some (.val (x_cv ex base v))
/-- the machine stands in method mi, at memory M, with locals L -/
def x_Mh (E : XE) (d mi : Nat) (L : List Value) (M : XM) (mc ms : Nat) (p : Program) (R : Room) (s : State) (m : MethodId) (args : Array Value) (meth : Method) (c : Code) (H : Heap) (locs : List Loc) (ls : Array Slot) (D : va_G) (T : Nat → ClassId) (ex : Nat → Value) (base : Nat) : Prop :=
  (p.tables.exec = Jvm.exec ∧ c.code = (x_m mi).2.1 ∧ c.maxLocals = (x_m mi).2.2.1 ∧ s.vm.findClass (x_m mi).1.cls = some m.cls ∧ (∀ w ∈ x_gt, w.before args s = true)) ∧
  (meth.sig.returnType = (x_m mi).2.2.2.1 ∧ meth.locks = false ∧ meth.name = (x_m mi).1.name ∧ d ≤ R.frames ∧ 64 * d ≤ R.locals ∧ mc ≤ R.cells ∧ ms ≤ R.slots) ∧
  (base ≤ s.heap.size ∧ va_K D vwCl (x_tys T) s ∧ x_Ext E ex (x_A base) s s.heap) ∧ x_World D T ex base M H ∧ va_S (x_A base) s.heap H locs ∧ x_L ex base ls (x_m mi).2.2.1 L
def x_WP (E : XE) (d mi i : Nat) (L S : List Value) (M : XM) (k n mc ms : Nat) (Q : Option Value → XM → Prop) : Prop :=
  ∀ (p : Program) (l : Launch) (e : Env) (R : Room) (s : State) (m : MethodId) (args : Array Value) (below : List Frame) (meth : Method) (c : Code) (H : Heap) (locs : List Loc) (ls : Array Slot) (D : va_G) (T : Nat → ClassId) (ex : Nat → Value) (base : Nat),
    x_Mh E d mi L M mc ms p R s m args meth c H locs ls D T ex base →
    W p l e R s m args below meth c H locs k n (MQ below (x_Qc D T ex base Q) args s mc ms (x_A base)) (F0 m (x_pc mi i) ls (S.map (x_cv ex base)))
/-! ===== what the checks say ===== -/
set_option maxRecDepth 100000 in
theorem x_ms_all : ∀ X ∈ x_ms, x_ckM X = true := by
  unfold x_ms
  simp only [List.forall_mem_cons, List.not_mem_nil, false_imp_iff, implies_true, and_true]
  exact ⟨xk_0, xk_1, xk_2, xk_3, xk_4, xk_5, xk_6, xk_7, xk_8, xk_9, xk_10, xk_11, xk_12, xk_13, xk_14, xk_15, xk_16, xk_17, xk_18, xk_19, xk_20, xk_21, xk_22, xk_23, xk_24, xk_25, xk_26, xk_27, xk_28, xk_29, xk_30, xk_31, xk_32, xk_33, xk_34, xk_35, xk_36, xk_37, xk_38, xk_39, xk_40, xk_41, xk_42, xk_43, xk_44, xk_45, xk_46, xk_47, xk_48, xk_49, xk_50, xk_51, xk_52, xk_53, xk_54, xk_55, xk_56, xk_57, xk_58, xk_59, xk_60, xk_61, xk_62, xk_63, xk_64, xk_65, xk_66, xk_67, xk_68, xk_69, xk_70, xk_71, xk_72, xk_73, xk_74, xk_75, xk_76, xk_77, xk_78, xk_79, xk_80, xk_81, xk_82, xk_83, xk_84, xk_85, xk_86, xk_87, xk_88, xk_89, xk_90, xk_91, xk_92, xk_93, xk_94, xk_95, xk_96, xk_97, xk_98, xk_99, xk_100, xk_101, xk_102, xk_103, xk_104, xk_105, xk_106, xk_107, xk_108, xk_109, xk_110, xk_111, xk_112, xk_113, xk_114, xk_115, xk_116, xk_117, xk_118, xk_119, xk_120, xk_121, xk_122, xk_123, xk_124, xk_125, xk_126, xk_127, xk_128, xk_129, xk_130, xk_131, xk_132, xk_133, xk_134, xk_135, xk_136, xk_137, xk_138, xk_139, xk_140, xk_141, xk_142, xk_143, xk_144, xk_145, xk_146, xk_147, xk_148, xk_149, xk_150, xk_151, xk_152, xk_153, xk_154, xk_155, xk_156, xk_157, xk_158, xk_159, xk_160, xk_161, xk_162, xk_163, xk_164, xk_165, xk_166, xk_167, xk_168, xk_169, xk_170, xk_171, xk_172, xk_173, xk_174, xk_175, xk_176, xk_177, xk_178, xk_179, xk_180, xk_181, xk_182, xk_183, xk_184, xk_185, xk_186, xk_187, xk_188, xk_189, xk_190, xk_191⟩
theorem x_ck {mi i : Nat} {o : XO} (h : x_op mi i = some o) : x_ck1 (x_m mi) o = true := by
  have hm : x_ckM (x_m mi) = true := by
    by_cases hi : mi < x_ms.length
    · refine x_ms_all _ ?_
      unfold x_m
      rw [List.getD_eq_getElem?_getD, List.getElem?_eq_getElem hi]
      exact List.getElem_mem hi
    · unfold x_m
      rw [List.getD_eq_getElem?_getD, List.getElem?_eq_none (by omega)]
      exact xk_0
  exact List.all_eq_true.mp hm o (List.mem_of_getElem? h)
theorem x_dc {mi i pc ln nx a b : Nat} {ins : Jvm.ClassFile.Instr} {ps : List Nat} (h : x_op mi i = some (pc, ln, ins, nx, a, b, ps)) :
    decode (x_m mi).2.1 pc = .ok (ins, ln) ∧ x_pc mi i = pc ∧ (x_term ins = false → x_pc mi nx = pc + ln) ∧ x_ckI (x_m mi).1.cls (x_m mi).2.2.2.2 pc ins a b ps = true := by
  have h1 := x_ck h
  simp only [x_ck1, Bool.and_eq_true, decide_eq_true_eq, Bool.or_eq_true] at h1
  obtain ⟨⟨h2, h3⟩, h4⟩ := h1
  refine ⟨h2, ?_, fun ht => ?_, h4⟩
  · have h5 : (x_m mi).2.2.2.2[i]? = some (pc, ln, ins, nx, a, b, ps) := h
    simp [x_pc, x_pco, h5]
  · rcases h3 with h3 | h3
    · rw [ht] at h3; cases h3
    · unfold x_pc x_pco
      split at h3
      · rename_i o' ho'
        exact eq_of_beq h3
      · cases h3
theorem x_w_tbl {p : Nat} {w : Jvm.Cond} (h : x_w p w = true) : w ∈ lw_tbl := by
  unfold x_w at h
  have h1 := List.mem_of_getElem? (of_decide_eq_true h)
  unfold lw_tbl
  unfold x_tb at h1
  refine List.mem_append.mpr ?_
  split at h1
  · exact Or.inl h1
  all_goals (refine Or.inr ?_; unfold tables_1; simp only [List.mem_append]; simp only [h1, true_or, or_true])
theorem x_w_in {p : Nat} {w : Jvm.Cond} (h : x_w p w = true) (hg : goodWord w = true := by rfl) : w ∈ x_gt := List.mem_filter.mpr ⟨x_w_tbl h, hg⟩
/-! ===== small facts ===== -/
theorem x_cv_int {ex : Nat → Value} {base : Nat} {x : Int32} : x_cv ex base (.int x) = .int x := rfl
theorem x_cv_ref {ex : Nat → Value} {base : Nat} (h : x_exr ex) (r : Nat) : (∃ t : Nat, x_cv ex base (.ref r) = .ref t) ∨ x_cv ex base (.ref r) = .null := by
  by_cases hr : r < 64
  · rcases h r hr with e | ⟨t, e⟩
    · exact Or.inr (by simp [x_cv, hr, e])
    · exact Or.inl ⟨t, by simp [x_cv, hr, e]⟩
  · exact Or.inl ⟨base + (r - 64), by simp [x_cv, hr]⟩
theorem x_cv_cat {ex : Nat → Value} {base : Nat} (hx : x_exr ex) {v : Value} (h : v.category = 1) : (x_cv ex base v).category = 1 := by
  cases v with
  | ref r => rcases x_cv_ref (base := base) hx r with ⟨t, e⟩ | e <;> rw [e] <;> rfl
  | _ => exact h
theorem x_cv_cat2 {ex : Nat → Value} {base : Nat} (hx : x_exr ex) (v : Value) : (x_cv ex base v).category = v.category := by
  cases v with
  | ref r => rcases x_cv_ref (base := base) hx r with ⟨t, e⟩ | e <;> rw [e] <;> rfl
  | _ => rfl
theorem x_L_at' {ex : Nat → Value} {base nL : Nat} {ls : Array Slot} {L : List Value} (h : x_L ex base ls nL L) {j : Nat} {v : Value} (hl : L[j]? = some v) (hv : v ≠ x_jk) : ls[j]? = some (.val (x_cv ex base v)) := h.2.2.2 j v hl hv
def x_la (ex : Nat → Value) (base nL : Nat) (L : List Value) : List (Nat × Value) := (List.range nL).filterMap (fun k => match L[k]? with
  | some v => if v = x_jk then none else some (k, x_cv ex base v)
  | none => none)
theorem x_la_mem {ex : Nat → Value} {base nL : Nat} {L : List Value} (hn : L.length = nL) {q : Nat × Value} : q ∈ x_la ex base nL L ↔ ∃ v, L[q.1]? = some v ∧ v ≠ x_jk ∧ q.2 = x_cv ex base v := by
  unfold x_la
  rw [List.mem_filterMap]
  constructor
  · rintro ⟨k, -, h⟩
    split at h
    · rename_i v hv
      split at h
      · cases h
      · rename_i hne
        cases h
        exact ⟨v, hv, hne, rfl⟩
    · cases h
  · rintro ⟨v, h1, h2, h3⟩
    refine ⟨q.1, List.mem_range.mpr ?_, ?_⟩
    · have := (List.getElem?_eq_some_iff.mp h1).1
      omega
    · simp only [h1, if_neg h2, ← h3]
theorem x_L_has {ex : Nat → Value} {base nL : Nat} {ls : Array Slot} {L : List Value} (h : x_L ex base ls nL L) : lv_has ls nL (x_la ex base nL L) := by
  refine ⟨h.1, h.2.1, fun q hq => ?_⟩
  obtain ⟨v, h1, h2, h3⟩ := (x_la_mem h.2.2.1).mp hq
  rw [h3]
  exact h.2.2.2 _ _ h1 h2
def x_okst (L : List Value) (j : Nat) : Bool := j == 0 || (match L[j - 1]? with
  | some (.long _) => false
  | some (.double _) => false
  | _ => true)
theorem x_okst_c {ex : Nat → Value} {base : Nat} (hx : x_exr ex) {L : List Value} {j k : Nat} (h : x_okst L j = true) {v : Value} (hv : L[k]? = some v) (hk : k + 1 = j) : ¬ (x_cv ex base v).category = 2 := by
  rw [x_cv_cat2 hx]
  subst hk
  simp only [x_okst, Nat.add_sub_cancel, hv] at h
  cases v <;> simp_all [Value.category]
theorem x_L_st1 {ex : Nat → Value} {base nL j : Nat} {ls' : Array Slot} {L : List Value} (hx : x_exr ex) (hn : L.length = nL) (hj : j < nL) (ho : x_okst L j = true) {w : Value}
    (h : lv_has ls' nL ((j, x_cv ex base w) :: (x_la ex base nL L).filter (fun q => !(q.1 == j) && !(q.1 + 1 == j && q.2.category == 2)))) : x_L ex base ls' nL (L.set j w) := by
  refine ⟨h.1, h.2.1, by rw [List.length_set]; exact hn, fun k v hk hv => ?_⟩
  by_cases hkj : k = j
  · subst hkj
    rw [List.getElem?_set_self (by omega)] at hk
    cases hk
    exact h.2.2 _ List.mem_cons_self
  · rw [List.getElem?_set_ne (Ne.symm hkj)] at hk
    refine h.2.2 (k, x_cv ex base v) (List.mem_cons_of_mem _ (List.mem_filter.mpr ⟨(x_la_mem hn).mpr ⟨v, hk, hv, rfl⟩, ?_⟩))
    simp only [Bool.and_eq_true, Bool.not_eq_true', beq_eq_false_iff_ne, ne_eq, Bool.and_eq_false_iff]
    refine ⟨hkj, ?_⟩
    by_cases hk1 : k + 1 = j
    · exact Or.inr (by simpa using x_okst_c hx ho hk hk1)
    · exact Or.inl hk1
theorem x_L_st2 {ex : Nat → Value} {base nL j : Nat} {ls' : Array Slot} {L : List Value} (hx : x_exr ex) (hn : L.length = nL) (hj : j + 1 < nL) (ho : x_okst L j = true) {w : Value}
    (h : lv_has ls' nL ((j, x_cv ex base w) :: (x_la ex base nL L).filter (fun q => !(q.1 == j) && (!(q.1 == j + 1) && !(q.1 + 1 == j && q.2.category == 2))))) : x_L ex base ls' nL ((L.set j w).set (j + 1) x_jk) := by
  refine ⟨h.1, h.2.1, by rw [List.length_set, List.length_set]; exact hn, fun k v hk hv => ?_⟩
  by_cases hk1 : k = j + 1
  · subst hk1
    rw [List.getElem?_set_self (by rw [List.length_set]; omega)] at hk
    cases hk
    exact absurd rfl hv
  rw [List.getElem?_set_ne (Ne.symm hk1)] at hk
  by_cases hkj : k = j
  · subst hkj
    rw [List.getElem?_set_self (by omega)] at hk
    cases hk
    exact h.2.2 _ List.mem_cons_self
  · rw [List.getElem?_set_ne (Ne.symm hkj)] at hk
    refine h.2.2 (k, x_cv ex base v) (List.mem_cons_of_mem _ (List.mem_filter.mpr ⟨(x_la_mem hn).mpr ⟨v, hk, hv, rfl⟩, ?_⟩))
    simp only [Bool.and_eq_true, Bool.not_eq_true', beq_eq_false_iff_ne, ne_eq, Bool.and_eq_false_iff]
    refine ⟨hkj, hk1, ?_⟩
    by_cases hk2 : k + 1 = j
    · exact Or.inr (by simpa using x_okst_c hx ho hk hk2)
    · exact Or.inl hk2
/-! ===== one instruction ===== -/
section XW
variable {E : XE} {d mi i k n mc ms nx a b pc : Nat} {ps : List Nat} {L S : List Value} {M : XM} {Q : Option Value → XM → Prop}
theorem x_WP.mono {Q' : Option Value → XM → Prop} (h : x_WP E d mi i L S M k n mc ms Q') (hq : ∀ v M', Q' v M' → Q v M') : x_WP E d mi i L S M k n mc ms Q := by
  intro p l e R s m args below meth c H locs ls D T ex base hh
  intro T0 hT X
  obtain ⟨t, h1, o, h2, h3, ⟨⟨v, M', h4, h5, h6⟩, h7⟩, h8⟩ := h p l e R s m args below meth c H locs ls D T ex base hh T0 hT X
  exact ⟨t, h1, o, h2, h3, ⟨⟨v, M', h4, hq _ _ h5, h6⟩, h7⟩, h8⟩
/-- a step that touches the stack alone -/
theorem x_stk {ln : Nat} {ins : Jvm.ClassFile.Instr} {S' : List Value} (ho : x_op mi i = some (pc, ln, ins, nx, a, b, ps)) (ht : x_term ins = false)
    (hs : ∀ (p : Program) (l : Launch) (e : Env) (R : Room) (s : State) (m : MethodId) (args : Array Value) (below : List Frame) (meth : Method) (c : Code) (H : Heap) (locs : List Loc) (ls : Array Slot) (D : va_G) (T : Nat → ClassId) (ex : Nat → Value) (base : Nat) (Z : State → Prop),
      x_Mh E d mi L M mc ms p R s m args meth c H locs ls D T ex base → p.tables.exec = Jvm.exec → c.code = (x_m mi).2.1 → decode (x_m mi).2.1 pc = .ok (ins, ln) →
      W p l e R s m args below meth c H locs k n Z (F0 m (pc + ln) ls (S'.map (x_cv ex base))) → W p l e R s m args below meth c H locs k n Z (F0 m pc ls (S.map (x_cv ex base))))
    (kk : x_WP E d mi nx L S' M k n mc ms Q) : x_WP E d mi i L S M k n mc ms Q := by
  intro p l e R s m args below meth c H locs ls D T ex base h
  obtain ⟨hd, hp, hn, -⟩ := x_dc ho
  have k1 := kk p l e R s m args below meth c H locs ls D T ex base h
  rw [hn ht] at k1
  rw [hp]
  exact hs p l e R s m args below meth c H locs ls D T ex base _ h h.1.1 h.1.2.1 hd k1
theorem wp_iadd {x y : Int32} (ho : x_op mi i = some (pc, 1, .iadd, nx, a, b, ps))  (kk : x_WP E d mi nx L (.int (x + y) :: S) M k n mc ms Q) : x_WP E d mi i L (.int y :: .int x :: S) M k n mc ms Q :=
  x_stk (S' := .int (x + y) :: S) ho rfl (fun p l e R s m args below meth c H locs ls D T ex base Z h hx hb hd k1 => lv_iadd hx hb hd k1) kk
theorem wp_isub {x y : Int32} (ho : x_op mi i = some (pc, 1, .isub, nx, a, b, ps))  (kk : x_WP E d mi nx L (.int (x - y) :: S) M k n mc ms Q) : x_WP E d mi i L (.int y :: .int x :: S) M k n mc ms Q :=
  x_stk (S' := .int (x - y) :: S) ho rfl (fun p l e R s m args below meth c H locs ls D T ex base Z h hx hb hd k1 => lv_isub hx hb hd k1) kk
theorem wp_imul {x y : Int32} (ho : x_op mi i = some (pc, 1, .imul, nx, a, b, ps))  (kk : x_WP E d mi nx L (.int (x * y) :: S) M k n mc ms Q) : x_WP E d mi i L (.int y :: .int x :: S) M k n mc ms Q :=
  x_stk (S' := .int (x * y) :: S) ho rfl (fun p l e R s m args below meth c H locs ls D T ex base Z h hx hb hd k1 => lv_imul hx hb hd k1) kk
theorem wp_iand {x y : Int32} (ho : x_op mi i = some (pc, 1, .iand, nx, a, b, ps))  (kk : x_WP E d mi nx L (.int (x &&& y) :: S) M k n mc ms Q) : x_WP E d mi i L (.int y :: .int x :: S) M k n mc ms Q :=
  x_stk (S' := .int (x &&& y) :: S) ho rfl (fun p l e R s m args below meth c H locs ls D T ex base Z h hx hb hd k1 => lv_iand hx hb hd k1) kk
theorem wp_ior {x y : Int32} (ho : x_op mi i = some (pc, 1, .ior, nx, a, b, ps))  (kk : x_WP E d mi nx L (.int (x ||| y) :: S) M k n mc ms Q) : x_WP E d mi i L (.int y :: .int x :: S) M k n mc ms Q :=
  x_stk (S' := .int (x ||| y) :: S) ho rfl (fun p l e R s m args below meth c H locs ls D T ex base Z h hx hb hd k1 => lv_ior hx hb hd k1) kk
theorem wp_ixor {x y : Int32} (ho : x_op mi i = some (pc, 1, .ixor, nx, a, b, ps))  (kk : x_WP E d mi nx L (.int (x ^^^ y) :: S) M k n mc ms Q) : x_WP E d mi i L (.int y :: .int x :: S) M k n mc ms Q :=
  x_stk (S' := .int (x ^^^ y) :: S) ho rfl (fun p l e R s m args below meth c H locs ls D T ex base Z h hx hb hd k1 => lv_ixor hx hb hd k1) kk
theorem wp_ishl {x y : Int32} (ho : x_op mi i = some (pc, 1, .ishl, nx, a, b, ps))  (kk : x_WP E d mi nx L (.int (x <<< (y &&& 31)) :: S) M k n mc ms Q) : x_WP E d mi i L (.int y :: .int x :: S) M k n mc ms Q :=
  x_stk (S' := .int (x <<< (y &&& 31)) :: S) ho rfl (fun p l e R s m args below meth c H locs ls D T ex base Z h hx hb hd k1 => lv_ishl hx hb hd k1) kk
theorem wp_ishr {x y : Int32} (ho : x_op mi i = some (pc, 1, .ishr, nx, a, b, ps))  (kk : x_WP E d mi nx L (.int (x >>> (y &&& 31)) :: S) M k n mc ms Q) : x_WP E d mi i L (.int y :: .int x :: S) M k n mc ms Q :=
  x_stk (S' := .int (x >>> (y &&& 31)) :: S) ho rfl (fun p l e R s m args below meth c H locs ls D T ex base Z h hx hb hd k1 => lv_ishr hx hb hd k1) kk
theorem wp_idiv {x y : Int32} (ho : x_op mi i = some (pc, 1, .idiv, nx, a, b, ps)) (h0 : ¬ y = 0) (kk : x_WP E d mi nx L (.int (x / y) :: S) M k n mc ms Q) : x_WP E d mi i L (.int y :: .int x :: S) M k n mc ms Q :=
  x_stk (S' := .int (x / y) :: S) ho rfl (fun p l e R s m args below meth c H locs ls D T ex base Z h hx hb hd k1 => lv_idiv hx hb hd h0 k1) kk
theorem wp_irem {x y : Int32} (ho : x_op mi i = some (pc, 1, .irem, nx, a, b, ps)) (h0 : ¬ y = 0) (kk : x_WP E d mi nx L (.int (x - x / y * y) :: S) M k n mc ms Q) : x_WP E d mi i L (.int y :: .int x :: S) M k n mc ms Q :=
  x_stk (S' := .int (x - x / y * y) :: S) ho rfl (fun p l e R s m args below meth c H locs ls D T ex base Z h hx hb hd k1 => lv_irem hx hb hd h0 k1) kk
theorem wp_ineg {x : Int32} (ho : x_op mi i = some (pc, 1, .ineg, nx, a, b, ps))  (kk : x_WP E d mi nx L (.int (-x) :: S) M k n mc ms Q) : x_WP E d mi i L (.int x :: S) M k n mc ms Q :=
  x_stk (S' := .int (-x) :: S) ho rfl (fun p l e R s m args below meth c H locs ls D T ex base Z h hx hb hd k1 => lv_ineg hx hb hd k1) kk
theorem wp_iushr {x y : Int32} (ho : x_op mi i = some (pc, 1, .iushr, nx, a, b, ps))  (kk : x_WP E d mi nx L (.int ((x.toUInt32 >>> (y.toUInt32 &&& Int32.toUInt32 31)).toInt32) :: S) M k n mc ms Q) : x_WP E d mi i L (.int y :: .int x :: S) M k n mc ms Q :=
  x_stk (S' := .int ((x.toUInt32 >>> (y.toUInt32 &&& Int32.toUInt32 31)).toInt32) :: S) ho rfl (fun p l e R s m args below meth c H locs ls D T ex base Z h hx hb hd k1 => lv_iushr hx hb hd rfl k1) kk
theorem wp_ladd {x y : Int64} (ho : x_op mi i = some (pc, 1, .ladd, nx, a, b, ps))  (kk : x_WP E d mi nx L (.long (x + y) :: S) M k n mc ms Q) : x_WP E d mi i L (.long y :: .long x :: S) M k n mc ms Q :=
  x_stk (S' := .long (x + y) :: S) ho rfl (fun p l e R s m args below meth c H locs ls D T ex base Z h hx hb hd k1 => lv_ladd hx hb hd k1) kk
theorem wp_land {x y : Int64} (ho : x_op mi i = some (pc, 1, .land, nx, a, b, ps))  (kk : x_WP E d mi nx L (.long (x &&& y) :: S) M k n mc ms Q) : x_WP E d mi i L (.long y :: .long x :: S) M k n mc ms Q :=
  x_stk (S' := .long (x &&& y) :: S) ho rfl (fun p l e R s m args below meth c H locs ls D T ex base Z h hx hb hd k1 => lv_land hx hb hd k1) kk
theorem wp_lor {x y : Int64} (ho : x_op mi i = some (pc, 1, .lor, nx, a, b, ps))  (kk : x_WP E d mi nx L (.long (x ||| y) :: S) M k n mc ms Q) : x_WP E d mi i L (.long y :: .long x :: S) M k n mc ms Q :=
  x_stk (S' := .long (x ||| y) :: S) ho rfl (fun p l e R s m args below meth c H locs ls D T ex base Z h hx hb hd k1 => lv_lor hx hb hd k1) kk
theorem wp_lxor {x y : Int64} (ho : x_op mi i = some (pc, 1, .lxor, nx, a, b, ps))  (kk : x_WP E d mi nx L (.long (x ^^^ y) :: S) M k n mc ms Q) : x_WP E d mi i L (.long y :: .long x :: S) M k n mc ms Q :=
  x_stk (S' := .long (x ^^^ y) :: S) ho rfl (fun p l e R s m args below meth c H locs ls D T ex base Z h hx hb hd k1 => lv_lxor hx hb hd k1) kk
theorem wp_ldiv {x y : Int64} (ho : x_op mi i = some (pc, 1, .ldiv, nx, a, b, ps)) (h0 : ¬ y = 0) (kk : x_WP E d mi nx L (.long (x / y) :: S) M k n mc ms Q) : x_WP E d mi i L (.long y :: .long x :: S) M k n mc ms Q :=
  x_stk (S' := .long (x / y) :: S) ho rfl (fun p l e R s m args below meth c H locs ls D T ex base Z h hx hb hd k1 => lv_ldiv hx hb hd h0 k1) kk
theorem wp_lrem {x y : Int64} (ho : x_op mi i = some (pc, 1, .lrem, nx, a, b, ps)) (h0 : ¬ y = 0) (kk : x_WP E d mi nx L (.long (x - x / y * y) :: S) M k n mc ms Q) : x_WP E d mi i L (.long y :: .long x :: S) M k n mc ms Q :=
  x_stk (S' := .long (x - x / y * y) :: S) ho rfl (fun p l e R s m args below meth c H locs ls D T ex base Z h hx hb hd k1 => lv_lrem hx hb hd h0 k1) kk
theorem wp_lneg {x : Int64} (ho : x_op mi i = some (pc, 1, .lneg, nx, a, b, ps))  (kk : x_WP E d mi nx L (.long (-x) :: S) M k n mc ms Q) : x_WP E d mi i L (.long x :: S) M k n mc ms Q :=
  x_stk (S' := .long (-x) :: S) ho rfl (fun p l e R s m args below meth c H locs ls D T ex base Z h hx hb hd k1 => lv_lneg hx hb hd k1) kk
theorem wp_lshl {x : Int64} {y : Int32} (ho : x_op mi i = some (pc, 1, .lshl, nx, a, b, ps))  (kk : x_WP E d mi nx L (.long (x <<< (y.toInt64 &&& 63)) :: S) M k n mc ms Q) : x_WP E d mi i L (.int y :: .long x :: S) M k n mc ms Q :=
  x_stk (S' := .long (x <<< (y.toInt64 &&& 63)) :: S) ho rfl (fun p l e R s m args below meth c H locs ls D T ex base Z h hx hb hd k1 => lv_lshl hx hb hd rfl k1) kk
theorem wp_lshr {x : Int64} {y : Int32} (ho : x_op mi i = some (pc, 1, .lshr, nx, a, b, ps))  (kk : x_WP E d mi nx L (.long (x >>> (y.toInt64 &&& 63)) :: S) M k n mc ms Q) : x_WP E d mi i L (.int y :: .long x :: S) M k n mc ms Q :=
  x_stk (S' := .long (x >>> (y.toInt64 &&& 63)) :: S) ho rfl (fun p l e R s m args below meth c H locs ls D T ex base Z h hx hb hd k1 => lv_lshr hx hb hd rfl k1) kk
theorem wp_lcmp {x y : Int64} (ho : x_op mi i = some (pc, 1, .lcmp, nx, a, b, ps))  (kk : x_WP E d mi nx L (.int (lg_cmp x y) :: S) M k n mc ms Q) : x_WP E d mi i L (.long y :: .long x :: S) M k n mc ms Q :=
  x_stk (S' := .int (lg_cmp x y) :: S) ho rfl (fun p l e R s m args below meth c H locs ls D T ex base Z h hx hb hd k1 => W.lcmp hx hb hd k1) kk
theorem wp_i2l {x : Int32} (ho : x_op mi i = some (pc, 1, .i2l, nx, a, b, ps))  (kk : x_WP E d mi nx L (.long (x.toInt64) :: S) M k n mc ms Q) : x_WP E d mi i L (.int x :: S) M k n mc ms Q :=
  x_stk (S' := .long (x.toInt64) :: S) ho rfl (fun p l e R s m args below meth c H locs ls D T ex base Z h hx hb hd k1 => lv_i2l hx hb hd rfl k1) kk
theorem wp_i2b {x : Int32} (ho : x_op mi i = some (pc, 1, .i2b, nx, a, b, ps))  (kk : x_WP E d mi nx L (.int (x.toInt8.toInt32) :: S) M k n mc ms Q) : x_WP E d mi i L (.int x :: S) M k n mc ms Q :=
  x_stk (S' := .int (x.toInt8.toInt32) :: S) ho rfl (fun p l e R s m args below meth c H locs ls D T ex base Z h hx hb hd k1 => lv_i2b hx hb hd rfl k1) kk
theorem wp_i2c {x : Int32} (ho : x_op mi i = some (pc, 1, .i2c, nx, a, b, ps))  (kk : x_WP E d mi nx L (.int ((x.toUInt32 % 65536).toInt32) :: S) M k n mc ms Q) : x_WP E d mi i L (.int x :: S) M k n mc ms Q :=
  x_stk (S' := .int ((x.toUInt32 % 65536).toInt32) :: S) ho rfl (fun p l e R s m args below meth c H locs ls D T ex base Z h hx hb hd k1 => lv_i2c hx hb hd rfl k1) kk
theorem wp_iconst {z : Int} {v : Int32} (ho : x_op mi i = some (pc, 1, .iconst z, nx, a, b, ps)) (hv : Int32.ofInt z = v) (kk : x_WP E d mi nx L (.int v :: S) M k n mc ms Q) : x_WP E d mi i L (S) M k n mc ms Q :=
  x_stk (S' := .int v :: S) ho rfl (fun p l e R s m args below meth c H locs ls D T ex base Z h hx hb hd k1 => lv_iconst hx hb hd hv k1) kk
theorem wp_bipush {z : Int} {v : Int32} (ho : x_op mi i = some (pc, 2, .bipush z, nx, a, b, ps)) (hv : (Int8.ofInt z).toInt32 = v) (kk : x_WP E d mi nx L (.int v :: S) M k n mc ms Q) : x_WP E d mi i L (S) M k n mc ms Q :=
  x_stk (S' := .int v :: S) ho rfl (fun p l e R s m args below meth c H locs ls D T ex base Z h hx hb hd k1 => lv_bipush hx hb hd hv k1) kk
theorem wp_sipush {z : Int} {v : Int32} (ho : x_op mi i = some (pc, 3, .sipush z, nx, a, b, ps)) (hv : (Int16.ofInt z).toInt32 = v) (kk : x_WP E d mi nx L (.int v :: S) M k n mc ms Q) : x_WP E d mi i L (S) M k n mc ms Q :=
  x_stk (S' := .int v :: S) ho rfl (fun p l e R s m args below meth c H locs ls D T ex base Z h hx hb hd k1 => lv_sipush hx hb hd hv k1) kk
theorem wp_lconst {z : Fin 2} {v : Int64} (ho : x_op mi i = some (pc, 1, .lconst z, nx, a, b, ps)) (hv : Int64.ofNat (z : Nat) = v) (kk : x_WP E d mi nx L (.long v :: S) M k n mc ms Q) : x_WP E d mi i L (S) M k n mc ms Q :=
  x_stk (S' := .long v :: S) ho rfl (fun p l e R s m args below meth c H locs ls D T ex base Z h hx hb hd k1 => lv_lconst hx hb hd hv k1) kk
theorem wp_null  (ho : x_op mi i = some (pc, 1, .aconst_null, nx, a, b, ps))  (kk : x_WP E d mi nx L (.null :: S) M k n mc ms Q) : x_WP E d mi i L (S) M k n mc ms Q :=
  x_stk (S' := .null :: S) ho rfl (fun p l e R s m args below meth c H locs ls D T ex base Z h hx hb hd k1 => lv_null hx hb hd k1) kk
theorem wp_dup {v : Value} (ho : x_op mi i = some (pc, 1, .dup, nx, a, b, ps)) (hv : v.category = 1) (kk : x_WP E d mi nx L (v :: v :: S) M k n mc ms Q) : x_WP E d mi i L (v :: S) M k n mc ms Q :=
  x_stk (S' := v :: v :: S) ho rfl (fun p l e R s m args below meth c H locs ls D T ex base Z h hx hb hd k1 => lv_dup hx hb hd (x_cv_cat h.2.2.1.2.2.1 hv) k1) kk
theorem wp_pop {v : Value} (ho : x_op mi i = some (pc, 1, .pop, nx, a, b, ps)) (hv : v.category = 1) (kk : x_WP E d mi nx L (S) M k n mc ms Q) : x_WP E d mi i L (v :: S) M k n mc ms Q :=
  x_stk (S' := S) ho rfl (fun p l e R s m args below meth c H locs ls D T ex base Z h hx hb hd k1 => lv_pop hx hb hd (x_cv_cat h.2.2.1.2.2.1 hv) k1) kk
theorem wp_dup2 {v w : Value} (ho : x_op mi i = some (pc, 1, .dup2, nx, a, b, ps)) (hv : v.category = 1) (hw : w.category = 1) (kk : x_WP E d mi nx L (v :: w :: v :: w :: S) M k n mc ms Q) : x_WP E d mi i L (v :: w :: S) M k n mc ms Q :=
  x_stk (S' := v :: w :: v :: w :: S) ho rfl (fun p l e R s m args below meth c H locs ls D T ex base Z h hx hb hd k1 => lv_dup2_11 hx hb hd (x_cv_cat h.2.2.1.2.2.1 hv) (x_cv_cat h.2.2.1.2.2.1 hw) k1) kk
theorem wp_iload_n {j : Fin 4} {j0 : Nat} {x : Int32} (ho : x_op mi i = some (pc, 1, .iload_n j, nx, a, b, ps)) (hj : (j : Nat) = j0) (hl : L[j0]? = some (.int x)) (kk : x_WP E d mi nx L (.int x :: S) M k n mc ms Q) : x_WP E d mi i L (S) M k n mc ms Q :=
  x_stk (S' := .int x :: S) ho rfl (fun p l e R s m args below meth c H locs ls D T ex base Z h hx hb hd k1 => lv_iload_n hx hb hd hj (x_L_at' h.2.2.2.2.2 hl (fun e => by cases e)) k1) kk
theorem wp_lload_n {j : Fin 4} {j0 : Nat} {x : Int64} (ho : x_op mi i = some (pc, 1, .lload_n j, nx, a, b, ps)) (hj : (j : Nat) = j0) (hl : L[j0]? = some (.long x)) (kk : x_WP E d mi nx L (.long x :: S) M k n mc ms Q) : x_WP E d mi i L (S) M k n mc ms Q :=
  x_stk (S' := .long x :: S) ho rfl (fun p l e R s m args below meth c H locs ls D T ex base Z h hx hb hd k1 => lv_lload_n hx hb hd hj (x_L_at' h.2.2.2.2.2 hl (fun e => by cases e)) k1) kk
theorem wp_aload_nN {j : Fin 4} {j0 : Nat} (ho : x_op mi i = some (pc, 1, .aload_n j, nx, a, b, ps)) (hj : (j : Nat) = j0) (hl : L[j0]? = some .null) (kk : x_WP E d mi nx L (.null :: S) M k n mc ms Q) : x_WP E d mi i L (S) M k n mc ms Q :=
  x_stk (S' := .null :: S) ho rfl (fun p l e R s m args below meth c H locs ls D T ex base Z h hx hb hd k1 => lv_aload_nN hx hb hd hj (x_L_at' h.2.2.2.2.2 hl (fun e => by cases e)) k1) kk
theorem wp_aload_n {j : Fin 4} {j0 : Nat} {r : Nat} (ho : x_op mi i = some (pc, 1, .aload_n j, nx, a, b, ps)) (hj : (j : Nat) = j0) (hl : L[j0]? = some (.ref r)) (kk : x_WP E d mi nx L (.ref r :: S) M k n mc ms Q) : x_WP E d mi i L S M k n mc ms Q :=
  x_stk ho rfl (fun p l e R s m args below meth c H locs ls D T ex base Z h hx hb hd k1 => by
    have hl1 := x_L_at' h.2.2.2.2.2 hl (fun e => by cases e)
    rcases x_cv_ref h.2.2.1.2.2.1 r with ⟨t, e1⟩ | e1
    · rw [List.map_cons, e1] at k1
      rw [e1] at hl1
      exact lv_aload_n hx hb hd hj hl1 k1
    · rw [List.map_cons, e1] at k1
      rw [e1] at hl1
      exact lv_aload_nN hx hb hd hj hl1 k1) kk
theorem wp_iload {j0 : Nat} {x : Int32} (ho : x_op mi i = some (pc, 2, .iload j0, nx, a, b, ps))  (hl : L[j0]? = some (.int x)) (kk : x_WP E d mi nx L (.int x :: S) M k n mc ms Q) : x_WP E d mi i L (S) M k n mc ms Q :=
  x_stk (S' := .int x :: S) ho rfl (fun p l e R s m args below meth c H locs ls D T ex base Z h hx hb hd k1 => lv_iload hx hb hd (x_L_at' h.2.2.2.2.2 hl (fun e => by cases e)) k1) kk
theorem wp_lload {j0 : Nat} {x : Int64} (ho : x_op mi i = some (pc, 2, .lload j0, nx, a, b, ps))  (hl : L[j0]? = some (.long x)) (kk : x_WP E d mi nx L (.long x :: S) M k n mc ms Q) : x_WP E d mi i L (S) M k n mc ms Q :=
  x_stk (S' := .long x :: S) ho rfl (fun p l e R s m args below meth c H locs ls D T ex base Z h hx hb hd k1 => lv_lload hx hb hd (x_L_at' h.2.2.2.2.2 hl (fun e => by cases e)) k1) kk
theorem wp_aloadN {j0 : Nat} (ho : x_op mi i = some (pc, 2, .aload j0, nx, a, b, ps))  (hl : L[j0]? = some .null) (kk : x_WP E d mi nx L (.null :: S) M k n mc ms Q) : x_WP E d mi i L (S) M k n mc ms Q :=
  x_stk (S' := .null :: S) ho rfl (fun p l e R s m args below meth c H locs ls D T ex base Z h hx hb hd k1 => lv_aloadN hx hb hd (x_L_at' h.2.2.2.2.2 hl (fun e => by cases e)) k1) kk
theorem wp_aload {j0 : Nat} {r : Nat} (ho : x_op mi i = some (pc, 2, .aload j0, nx, a, b, ps))  (hl : L[j0]? = some (.ref r)) (kk : x_WP E d mi nx L (.ref r :: S) M k n mc ms Q) : x_WP E d mi i L S M k n mc ms Q :=
  x_stk ho rfl (fun p l e R s m args below meth c H locs ls D T ex base Z h hx hb hd k1 => by
    have hl1 := x_L_at' h.2.2.2.2.2 hl (fun e => by cases e)
    rcases x_cv_ref h.2.2.1.2.2.1 r with ⟨t, e1⟩ | e1
    · rw [List.map_cons, e1] at k1
      rw [e1] at hl1
      exact lv_aload hx hb hd hl1 k1
    · rw [List.map_cons, e1] at k1
      rw [e1] at hl1
      exact lv_aloadN hx hb hd hl1 k1) kk
end XW
