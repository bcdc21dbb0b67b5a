/-! ===== what stands at the law's entry ===== -/
section ENTRY
def y_fl : List Jvm.Cond := flatC (Jvm.Cond.and given_1 narrow_1)
variable {s : State} {args : Array Value}
theorem y_A {s : State} : ∀ a : Nat, a < s.heap.size → ¬ x_A s.heap.size a := fun _ h => Nat.not_le.mpr h
theorem y_tab {C n : String} {L : List Int32} (hs : ∀ c ∈ y_fl, c.before args s = true) (ht : ∀ w ∈ lw_tbl, w.before args s = true) (hN : L.length < 2 ^ 31) (h1 : Jvm.Cond.arrayOf (.static C n "[I") .int ∈ y_fl) (h2 : Jvm.Cond.eq (.length (.static C n "[I")) (.int (Int32.ofNat L.length)) ∈ y_fl)
    (h3 : ∀ j, j < L.length → Jvm.Cond.eq (.elem (.static C n "[I") (.int (Int32.ofNat j))) (.int (L.getD j 0)) ∈ y_fl) (h4 : Jvm.Cond.laysStatic C n "[I" ∈ lw_tbl) (h5 : Jvm.Cond.initialized C ∈ lw_tbl) :
    ∃ t : Nat, va_T .int t L.length (fun j => .int (L.getD j 0)) (x_A s.heap.size) s s.heap ∧ va_Z C n "[I" (.ref t) (x_A s.heap.size) s s.heap := by
  obtain ⟨t, e, hT⟩ := va_Tof (f := fun j => .int (L.getD j 0)) (A := x_A s.heap.size) hN (hs _ h1) (va_eqt (hs _ h2)) (fun j hj => va_eqt (hs _ (h3 j hj))) y_A
  exact ⟨t, hT, va_Zof (ht _ h4) (ht _ h5) e y_A⟩
set_option maxRecDepth 100000 in
theorem y_tabs (hs : ∀ c ∈ y_fl, c.before args s = true) (ht : ∀ w ∈ lw_tbl, w.before args s = true) : ∃ a0 a1 a2 a3 : Nat,
    (va_T .int a0 7 (fun j => .int (([0, 0, 0, 0, 1, 2, 3] : List Int32).getD j 0)) (x_A s.heap.size) s s.heap ∧ va_Z "StarchedCollars" "ABOVE" "[I" (.ref a0) (x_A s.heap.size) s s.heap) ∧
    (va_T .int a1 7 (fun j => .int (([1, 11, 1, 1, 11, 51, 1] : List Int32).getD j 0)) (x_A s.heap.size) s s.heap ∧ va_Z "StarchedCollars$Actor" "NODS" "[I" (.ref a1) (x_A s.heap.size) s s.heap) ∧
    (va_T .int a2 7 (fun j => .int (([2, 2, 21, 2, 2, 21, 61] : List Int32).getD j 0)) (x_A s.heap.size) s s.heap ∧ va_Z "StarchedCollars$Actor" "PREACHES" "[I" (.ref a2) (x_A s.heap.size) s s.heap) ∧
    (va_T .int a3 7 (fun j => .int (([3, 3, 3, 31, 41, 3, 31] : List Int32).getD j 0)) (x_A s.heap.size) s s.heap ∧ va_Z "StarchedCollars$Actor" "TURNS" "[I" (.ref a3) (x_A s.heap.size) s s.heap) := by
  obtain ⟨a0, h0⟩ := y_tab (C := "StarchedCollars") (n := "ABOVE") (L := [0, 0, 0, 0, 1, 2, 3]) hs ht (by decide) (by decide +kernel) (by decide +kernel) (by decide +kernel) (by decide +kernel) (by decide +kernel)
  obtain ⟨a1, h1⟩ := y_tab (C := "StarchedCollars$Actor") (n := "NODS") (L := [1, 11, 1, 1, 11, 51, 1]) hs ht (by decide) (by decide +kernel) (by decide +kernel) (by decide +kernel) (by decide +kernel) (by decide +kernel)
  obtain ⟨a2, h2⟩ := y_tab (C := "StarchedCollars$Actor") (n := "PREACHES") (L := [2, 2, 21, 2, 2, 21, 61]) hs ht (by decide) (by decide +kernel) (by decide +kernel) (by decide +kernel) (by decide +kernel) (by decide +kernel)
  obtain ⟨a3, h3⟩ := y_tab (C := "StarchedCollars$Actor") (n := "TURNS") (L := [3, 3, 3, 31, 41, 3, 31]) hs ht (by decide) (by decide +kernel) (by decide +kernel) (by decide +kernel) (by decide +kernel) (by decide +kernel)
  exact ⟨a0, a1, a2, a3, h0, h1, h2, h3⟩
def y_tm (i : Nat) : Term := match i with
  | 0 => .string "StarchedCollars$Reader" 52
  | 1 => .string "StarchedCollars$Reader" 67
  | 2 => .string "StarchedCollars$Reader" 69
  | 3 => .string "StarchedCollars$Reader" 91
  | 4 => .string "StarchedCollars$Reader" 99
  | 5 => .string "StarchedCollarsModel" 105
  | 6 => .string "StarchedCollarsModel" 114
  | _ => .string "StarchedCollarsModel" 119
def y_byt : List (List Int32) := [[117, 114, 115, 116, 32], [97, 114, 99, 104, 32], [111, 102, 116, 101, 110, 32], [112, 107, 118, 99, 104, 119], [60, 61, 62], [98, 117, 114, 115, 116, 32], [115, 116, 97, 114, 99, 104, 32], [115, 111, 102, 116, 101, 110, 32]]
def y_len : List Nat := [5, 5, 6, 6, 3, 6, 7, 7]
set_option maxRecDepth 100000 in
theorem y_s1 : ∀ i, i < 8 → Jvm.Cond.exactly (y_tm i) "java/lang/String" ∈ y_fl := by decide +kernel
set_option maxRecDepth 100000 in
theorem y_s2 : ∀ i, i < 8 → Jvm.Cond.eq (.field (y_tm i) "java/lang/String" "coder" "B") (.int 0) ∈ y_fl := by decide +kernel
set_option maxRecDepth 100000 in
theorem y_s3 : ∀ i, i < 8 → Jvm.Cond.arrayOf (.field (y_tm i) "java/lang/String" "value" "[B") .byte ∈ y_fl := by decide +kernel
set_option maxRecDepth 100000 in
theorem y_s4 : ∀ i, i < 8 → Jvm.Cond.eq (.length (.field (y_tm i) "java/lang/String" "value" "[B")) (.int (Int32.ofNat (y_len.getD i 0))) ∈ y_fl := by decide +kernel
set_option maxRecDepth 100000 in
theorem y_s5 : ∀ i, i < 8 → ∀ j, j < y_len.getD i 0 → Jvm.Cond.eq (.elem (.field (y_tm i) "java/lang/String" "value" "[B") (.int (Int32.ofNat j))) (.int ((y_byt.getD i []).getD j 0)) ∈ y_fl := by decide +kernel
set_option maxRecDepth 100000 in
theorem y_s6 : ∀ i, i < 8 → ∀ j, j < 8 → i ≠ j → Jvm.Cond.not (.eq (y_tm i) (y_tm j)) ∈ y_fl ∨ Jvm.Cond.not (.eq (y_tm j) (y_tm i)) ∈ y_fl := by decide +kernel
theorem y_strs (hs : ∀ c ∈ y_fl, c.before args s = true) : ∃ adK adV : Nat → Nat, vk_S 8 y_len y_byt adK adV (x_A s.heap.size) s s.heap ∧ ∀ i : Nat, i < 8 → (y_tm i).eval args s none [] s = some (.ref (adK i)) := by
  refine vk_Sof (fun i hi => ?_) (fun i hi => hs _ (y_s1 i hi)) (fun i hi => hs _ (y_s2 i hi)) (fun i hi => hs _ (y_s3 i hi)) (fun i hi => hs _ (y_s4 i hi)) (fun i hi j hj => hs _ (y_s5 i hi j hj)) (fun i j hi hj hne => ?_) y_A
  · have : ∀ i, i < 8 → y_len.getD i 0 < 2 ^ 31 := by decide
    exact this i hi
  · rcases y_s6 i hi j hj hne with h | h
    · exact Or.inl (hs _ h)
    · exact Or.inr (hs _ h)
/-- the String entries, and which text each has -/
def y_sr : List (String × Nat × String × Nat) := [("StarchedCollars$Reader", 52, "urst ", 0), ("StarchedCollars$Reader", 67, "arch ", 1), ("StarchedCollars$Reader", 69, "often ", 2), ("StarchedCollars$Reader", 91, "pkvchw", 3), ("StarchedCollars$Reader", 99, "<=>", 4), ("StarchedCollarsModel", 105, "burst ", 5), ("StarchedCollarsModel", 114, "starch ", 6), ("StarchedCollarsModel", 119, "soften ", 7), ("StarchedCollarsModel", 87, "pkvchw", 3), ("StarchedCollarsModel", 93, "<=>", 4)]
def y_chk (w : Jvm.Cond) : Bool := match w with
  | .stringRef own idx tx => y_sr.any (fun q => decide (q.1 = own ∧ q.2.1 = idx ∧ q.2.2.1 = tx))
  | _ => true
set_option maxRecDepth 100000 in
theorem y_chk_all : lw_tbl.all y_chk = true := by decide +kernel
theorem y_sr_j : ∀ q ∈ y_sr, ∀ j, j < 8 → x_strs[j]? = some q.2.2.1 → j = q.2.2.2 := by decide +kernel
set_option maxRecDepth 100000 in
theorem y_sr_t : ∀ q ∈ y_sr, q.2.2.2 < 8 ∧ (y_tm q.2.2.2 = .string q.1 q.2.1 ∨ Jvm.Cond.eq (y_tm q.2.2.2) (.string q.1 q.2.1) ∈ y_fl ∨ Jvm.Cond.eq (.string q.1 q.2.1) (y_tm q.2.2.2) ∈ y_fl) := by decide +kernel
theorem y_ref {adK : Nat → Nat} (hs : ∀ c ∈ y_fl, c.before args s = true) (ht : ∀ w ∈ lw_tbl, w.before args s = true) (hK : ∀ i : Nat, i < 8 → (y_tm i).eval args s none [] s = some (.ref (adK i))) {own : String} {idx j : Nat} {tx : String} (h : Jvm.Cond.stringRef own idx tx ∈ lw_tbl) (hj : x_strs[j]? = some tx) : j < 8 ∧ vk_R own idx tx (adK j) s := by
  have hj8 : j < 8 := (List.getElem?_eq_some_iff.mp hj).1
  have h1 := List.all_eq_true.mp y_chk_all _ h
  obtain ⟨q, hq, h2⟩ := List.any_eq_true.mp h1
  obtain ⟨e1, e2, e3⟩ := of_decide_eq_true h2
  have e4 := y_sr_j q hq j hj8 (by rw [hj, e3])
  obtain ⟨-, h3⟩ := y_sr_t q hq
  rw [← e4, e1, e2] at h3
  refine ⟨hj8, vk_R.of (ht _ h) ?_⟩
  rcases h3 with h3 | h3 | h3
  · rw [← h3]; exact hK j hj8
  · exact va_eqR (hs _ h3) (hK j hj8)
  · exact va_eqv (hs _ h3) (hK j hj8)
theorem y_arr {ty : FieldType} (h : (Jvm.Cond.arrayClass ty).before args s = true) : ∃ c : ClassId, ArrOfT s c ty ∧ s.vm.findClass ("[" ++ ty.toString) = some c := by
  obtain ⟨c, k, comp, h1, h2, h3⟩ := Cond.arrayClass_spec (args := args) (first := s) (o := none) (s := s) (idx := []) h
  exact ⟨c, fun n z => ⟨(fun k h => by cases h), k, h2, comp, h3⟩, h1⟩
theorem y_arrM (h : (Jvm.Cond.arrayOver (.object "StarchedCollars$Man")).before args s = true) : ∃ c : ClassId, ArrOfT s c (.object "StarchedCollars$Man") ∧ va_RA s c (.object "StarchedCollars$Man") := by
  obtain ⟨comp, c, k, h1, -, h3, h4, h5⟩ := Cond.arrayOver_spec (args := args) (first := s) (o := none) (s := s) (idx := []) h
  exact ⟨c, fun n z => ⟨(fun k h => by cases h), k, h3, comp, h4⟩, k, comp, h3, h4, h1, h5⟩
theorem y_cl1 (ht : ∀ w ∈ lw_tbl, w.before args s = true) {c : Nat} {C : String} {T : u_T} {N : Nat} (h1 : ∀ w ∈ u_ws C T N, w ∈ lw_tbl) (h2 : Jvm.Cond.instantiable C N ∈ lw_tbl) (h3 : vwCl[c]? = some (C, T, N)) : ∃ g : ClassId × (Nat → Nat), ∀ q : vw_C, vwCl[c]? = some q → u_Kn s q.1 q.2.1 q.2.2 g.1 g.2 := by
  obtain ⟨cC, iS, h⟩ := u_known (C := C) (T := T) (N := N) ht h1 (ht _ h2)
  refine ⟨(cC, iS), fun q hq => ?_⟩
  rw [h3] at hq
  cases hq
  exact h
theorem y_cls (ht : ∀ w ∈ lw_tbl, w.before args s = true) : ∀ c : Nat, ∃ g : ClassId × (Nat → Nat), ∀ q : vw_C, vwCl[c]? = some q → u_Kn s q.1 q.2.1 q.2.2 g.1 g.2
  | 0 => y_cl1 (C := RX0) (T := TX0) (N := 2) ht x_in0 (by decide +kernel) rfl
  | 1 => y_cl1 (C := RX1) (T := TX1) (N := 9) ht x_in1 (by decide +kernel) rfl
  | 2 => y_cl1 (C := RX2) (T := TX2) (N := 1) ht x_in2 (by decide +kernel) rfl
  | 3 => y_cl1 (C := RX3) (T := TX3) (N := 5) ht x_in3 (by decide +kernel) rfl
  | 4 => y_cl1 (C := RX4) (T := TX4) (N := 4) ht x_in4 (by decide +kernel) rfl
  | 5 => y_cl1 (C := RX5) (T := TX5) (N := 7) ht x_in5 (by decide +kernel) rfl
  | 6 => y_cl1 (C := RX6) (T := TX6) (N := 10) ht x_in6 (by decide +kernel) rfl
  | 7 => y_cl1 (C := RX7) (T := TX7) (N := 7) ht x_in7 (by decide +kernel) rfl
  | 8 => y_cl1 (C := RX8) (T := TX8) (N := 20) ht x_in8 (by decide +kernel) rfl
  | c + 9 => ⟨(0, fun _ => 0), fun q h => absurd h (by simp)⟩
set_option maxRecDepth 100000 in
theorem y_K (ht : ∀ w ∈ lw_tbl, w.before args s = true) : ∃ (D : va_G) (T : Nat → ClassId), va_K D vwCl (x_tys T) s := by
  obtain ⟨g, hg⟩ := Classical.axiomOfChoice (y_cls ht)
  obtain ⟨cI, i1, i2⟩ := y_arr (ty := .int) (ht _ (by decide +kernel))
  obtain ⟨cB, b1, b2⟩ := y_arr (ty := .byte) (ht _ (by decide +kernel))
  obtain ⟨cZ, z1, z2⟩ := y_arr (ty := .boolean) (ht _ (by decide +kernel))
  obtain ⟨cM, m1, m2⟩ := y_arrM (ht _ (by decide +kernel))
  refine ⟨(fun c => (g c).1, fun c => (g c).2), fun n => match n with
    | 100 => cI
    | 101 => cB
    | 102 => cZ
    | _ => cM, fun c q hq => hg c q hq, fun k q hq => ?_⟩
  match k, hq with
  | 0, hq => cases hq; exact ⟨i1, i2⟩
  | 1, hq => cases hq; exact ⟨b1, b2⟩
  | 2, hq => cases hq; exact ⟨z1, z2⟩
  | 3, hq => cases hq; exact ⟨m1, m2⟩
  | k + 4, hq => exact absurd hq (by simp [x_tys])
def y_ex (a0 a1 a2 a3 b : Nat) (v : Value) (adK adV : Nat → Nat) (e : Nat) : Value := match e with
  | 0 => .ref a0
  | 1 => .ref a1
  | 2 => .ref a2
  | 3 => .ref a3
  | 4 => .ref b
  | 5 => v
  | 8 => .ref (adK 0)
  | 9 => .ref (adK 1)
  | 10 => .ref (adK 2)
  | 11 => .ref (adK 3)
  | 12 => .ref (adK 4)
  | 13 => .ref (adK 5)
  | 14 => .ref (adK 6)
  | 15 => .ref (adK 7)
  | 24 => .ref (adV 0)
  | 25 => .ref (adV 1)
  | 26 => .ref (adV 2)
  | 27 => .ref (adV 3)
  | 28 => .ref (adV 4)
  | 29 => .ref (adV 5)
  | 30 => .ref (adV 6)
  | 31 => .ref (adV 7)
  | _ => .null
theorem y_exK {a0 a1 a2 a3 b : Nat} {v : Value} {adK adV : Nat → Nat} {j : Nat} (hj : j < 8) : y_ex a0 a1 a2 a3 b v adK adV (8 + j) = .ref (adK j) ∧ y_ex a0 a1 a2 a3 b v adK adV (24 + j) = .ref (adV j) := by
  match j, hj with
  | 0, _ => exact ⟨rfl, rfl⟩
  | 1, _ => exact ⟨rfl, rfl⟩
  | 2, _ => exact ⟨rfl, rfl⟩
  | 3, _ => exact ⟨rfl, rfl⟩
  | 4, _ => exact ⟨rfl, rfl⟩
  | 5, _ => exact ⟨rfl, rfl⟩
  | 6, _ => exact ⟨rfl, rfl⟩
  | 7, _ => exact ⟨rfl, rfl⟩
  | j + 8, h => exact absurd h (by omega)
theorem y_ar {ty ty' : FieldType} {N : Nat} {f : Nat → Int32} {q : Nat × (Nat → Int32)} (h : some (ty', q) = some (ty, N, f)) : ty = ty' ∧ N = q.1 ∧ f = q.2 := by
  have e := Option.some.inj h
  exact ⟨(congrArg Prod.fst e).symm, (congrArg (fun q => q.2.1) e).symm, (congrArg (fun q => q.2.2) e).symm⟩
theorem y_isR {v : Value} (h : v.isRef = true) : v = .null ∨ ∃ t : Nat, v = .ref t := by
  cases v with
  | null => exact Or.inl rfl
  | ref n => exact Or.inr ⟨n, rfl⟩
  | _ => exact absurd h (by simp [Value.isRef])
set_option maxRecDepth 100000 in
theorem y_Ext {b L : Nat} {xs : Nat → Int32} (hs : ∀ c ∈ y_fl, c.before args s = true) (ht : ∀ w ∈ lw_tbl, w.before args s = true) (hX : va_X b L xs s s.heap) : ∃ ex : Nat → Value, ex 4 = .ref b ∧ x_Ext (L, xs) ex (x_A s.heap.size) s s.heap := by
  obtain ⟨a0, a1, a2, a3, ⟨t0, z0⟩, ⟨t1, z1⟩, ⟨t2, z2⟩, ⟨t3, z3⟩⟩ := y_tabs hs ht
  obtain ⟨adK, adV, ⟨hS, -⟩, hK⟩ := y_strs hs
  obtain ⟨v, hv, hvr⟩ := Cond.isRef_spec (args := args) (first := s) (o := none) (s := s) (idx := []) (t := .static "jdk/internal/util/Preconditions" "SIOOBE_FORMATTER" "Ljava/util/function/BiFunction;") (hs _ (by decide +kernel))
  have z5 : va_Z "jdk/internal/util/Preconditions" "SIOOBE_FORMATTER" "Ljava/util/function/BiFunction;" v (x_A s.heap.size) s s.heap := va_Zof (ht _ (by decide +kernel)) (ht _ (by decide +kernel)) hv y_A
  have zC : va_Z "java/lang/String" "COMPACT_STRINGS" "Z" (.int 1) (x_A s.heap.size) s s.heap := va_Zof (ht _ (by decide +kernel)) (ht _ (by decide +kernel)) (va_eqi (hs _ (by decide +kernel))) y_A
  have hT : va_T .int b L (fun j => .int (xs j)) (x_A s.heap.size) s s.heap := by
    obtain ⟨scr, h1, h2, h3, h4, h5⟩ := hX
    exact ⟨scr, h1, h2, h3, Nat.le_of_eq h4.symm, by rw [h4], h5, y_A b (Array.getElem?_eq_some_iff.mp h1).1⟩
  refine ⟨y_ex a0 a1 a2 a3 b v adK adV, rfl, ?_, ?_, ?_, zC, ?_, ?_, fun _ _ _ _ h => va_Nw.of rfl (ht _ h), va_AO.of (ht _ (by decide +kernel))⟩
  · intro e he
    unfold y_ex
    split
    all_goals first | exact Or.inl rfl | exact Or.inr ⟨_, rfl⟩ | exact y_isR hvr
  · intro e ty N f h
    unfold x_Ar at h
    split at h
    · obtain ⟨rfl, rfl, rfl⟩ := y_ar h; exact ⟨a0, rfl, t0⟩
    · obtain ⟨rfl, rfl, rfl⟩ := y_ar h; exact ⟨a1, rfl, t1⟩
    · obtain ⟨rfl, rfl, rfl⟩ := y_ar h; exact ⟨a2, rfl, t2⟩
    · obtain ⟨rfl, rfl, rfl⟩ := y_ar h; exact ⟨a3, rfl, t3⟩
    · obtain ⟨rfl, rfl, rfl⟩ := y_ar h; exact ⟨b, rfl, hT⟩
    · obtain ⟨rfl, rfl, rfl⟩ := y_ar h; exact ⟨adV 0, rfl, (hS 0 (by decide)).2.2.2⟩
    · obtain ⟨rfl, rfl, rfl⟩ := y_ar h; exact ⟨adV 1, rfl, (hS 1 (by decide)).2.2.2⟩
    · obtain ⟨rfl, rfl, rfl⟩ := y_ar h; exact ⟨adV 2, rfl, (hS 2 (by decide)).2.2.2⟩
    · obtain ⟨rfl, rfl, rfl⟩ := y_ar h; exact ⟨adV 3, rfl, (hS 3 (by decide)).2.2.2⟩
    · obtain ⟨rfl, rfl, rfl⟩ := y_ar h; exact ⟨adV 4, rfl, (hS 4 (by decide)).2.2.2⟩
    · obtain ⟨rfl, rfl, rfl⟩ := y_ar h; exact ⟨adV 5, rfl, (hS 5 (by decide)).2.2.2⟩
    · obtain ⟨rfl, rfl, rfl⟩ := y_ar h; exact ⟨adV 6, rfl, (hS 6 (by decide)).2.2.2⟩
    · obtain ⟨rfl, rfl, rfl⟩ := y_ar h; exact ⟨adV 7, rfl, (hS 7 (by decide)).2.2.2⟩
    · cases h
  · intro e C n d he h
    unfold x_ext at h
    split at h
    · cases h; exact z0
    · cases h; exact z1
    · cases h; exact z2
    · cases h; exact z3
    · cases h; exact z5
    · exact absurd he (by decide)
    · cases h
  · intro j hj
    obtain ⟨e1, e2⟩ := y_exK (a0 := a0) (a1 := a1) (a2 := a2) (a3 := a3) (b := b) (v := v) (adK := adK) (adV := adV) hj
    obtain ⟨h1, h2, h3, -⟩ := hS j hj
    exact ⟨adK j, e1, h1, h2, by rw [e2]; exact h3⟩
  · intro own idx j tx h hj
    obtain ⟨h8, h1⟩ := y_ref hs ht hK h hj
    exact ⟨adK j, (y_exK h8).1, h1⟩
end ENTRY
