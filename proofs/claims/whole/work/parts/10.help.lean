/-! ===== helps of the printed stretches ===== -/
def x_sub : List Value → List Value → Prop
  | [], [] => True
  | a :: l, b :: l' => (a = x_jk ∨ a = b) ∧ x_sub l l'
  | _, _ => False
theorem x_sub_at : ∀ (L L' : List Value), x_sub L L' → L.length = L'.length ∧ ∀ (k : Nat) (v : Value), L[k]? = some v → v ≠ x_jk → L'[k]? = some v
  | [], [], _ => ⟨rfl, fun k v h => by simp at h⟩
  | a :: l, b :: l', h => by
    obtain ⟨h1, h2⟩ := h
    obtain ⟨e, g⟩ := x_sub_at l l' h2
    refine ⟨by simp [e], fun k v hk hv => ?_⟩
    match k, hk with
    | 0, hk =>
      cases hk
      rcases h1 with h1 | h1
      · exact absurd h1 hv
      · rw [h1]; rfl
    | k + 1, hk => exact g k v hk hv
  | [], _ :: _, h => h.elim
  | _ :: _, [], h => h.elim
/-- fewer locals known is more -/
theorem x_P.weak {E : XE} {d mi i : Nat} {L L' S : List Value} {I : Nat → Nat → Int32} {Q : Option Value → (Nat → Nat → Int32) → Prop} (hL : x_sub L L') (h : x_P E d mi i L S I Q) : x_P E d mi i L' S I Q := by
  obtain ⟨e, g⟩ := x_sub_at L L' hL
  intro p l e0 R s m args below meth c H locs ls D T ex base hh
  exact h p l e0 R s m args below meth c H locs ls D T ex base ⟨hh.1, hh.2.1, hh.2.2.1, hh.2.2.2.1, hh.2.2.2.2.1, hh.2.2.2.2.2.1, hh.2.2.2.2.2.2.1, e.trans hh.2.2.2.2.2.2.2.1, fun k v hk hv => hh.2.2.2.2.2.2.2.2 k v (g k v hk hv) hv⟩
theorem x_tne {x y : Int32} {z : Int} (h : ¬ x = y) (hz : y.toInt = z) : ¬ x.toInt = z := by
  intro e
  exact h (Int32.toInt_inj.mp (e.trans hz.symm))
theorem x_fit_bi {c : Prop} [Decidable c] : x_fit .boolean (x_bi c) := by
  by_cases h : c
  · rw [x_bi_t h]; exact x_fit_b1
  · rw [x_bi_f h]; exact x_fit_b0
/-- r is the number of a Rows cell -/
def x_rows (r : Nat) : Prop := (∀ I, x_kd (x_mk I) r = some (4, 4)) ∧ (∀ b, b < 3 → xR r b = .ref (r + (b + 1)) ∧ ∀ I, x_kd (x_mk I) (r + (b + 1)) = some (100, 8)) ∧ ¬ r < 64
theorem x_rowsR {r : Nat} (h : x_rows r) (b : Nat) {I : Nat → Nat → Int32} (hb : b < 3 := by decide) : (x_mk I).2.1 r b = .ref (r + (b + 1)) := (h.2.1 b hb).1
theorem x_rowsA {r : Nat} (h : x_rows r) (b : Nat) (I : Nat → Nat → Int32) (hb : b < 3 := by decide) : x_kd (x_mk I) (r + (b + 1)) = some (100, 8) := (h.2.1 b hb).2 I
theorem x_rows_of {r : Nat} (h0 : ∀ I, x_kd (x_mk I) r = some (4, 4)) (h1 : xR r 0 = .ref (r + 1) ∧ ∀ I, x_kd (x_mk I) (r + 1) = some (100, 8)) (h2 : xR r 1 = .ref (r + 2) ∧ ∀ I, x_kd (x_mk I) (r + 2) = some (100, 8)) (h3 : xR r 2 = .ref (r + 3) ∧ ∀ I, x_kd (x_mk I) (r + 3) = some (100, 8)) (h4 : ¬ r < 64) : x_rows r := by
  refine ⟨h0, fun b hb => ?_, h4⟩
  match b, hb with
  | 0, _ => exact h1
  | 1, _ => exact h2
  | 2, _ => exact h3
theorem x_rows_73 : x_rows 73 := x_rows_of (fun _ => rfl) ⟨rfl, fun _ => rfl⟩ ⟨rfl, fun _ => rfl⟩ ⟨rfl, fun _ => rfl⟩ (by decide)
theorem x_rows_77 : x_rows 77 := x_rows_of (fun _ => rfl) ⟨rfl, fun _ => rfl⟩ ⟨rfl, fun _ => rfl⟩ ⟨rfl, fun _ => rfl⟩ (by decide)
theorem x_rows_81 : x_rows 81 := x_rows_of (fun _ => rfl) ⟨rfl, fun _ => rfl⟩ ⟨rfl, fun _ => rfl⟩ ⟨rfl, fun _ => rfl⟩ (by decide)
theorem x_rows_105 : x_rows 105 := x_rows_of (fun _ => rfl) ⟨rfl, fun _ => rfl⟩ ⟨rfl, fun _ => rfl⟩ ⟨rfl, fun _ => rfl⟩ (by decide)
theorem x_rows_109 : x_rows 109 := x_rows_of (fun _ => rfl) ⟨rfl, fun _ => rfl⟩ ⟨rfl, fun _ => rfl⟩ ⟨rfl, fun _ => rfl⟩ (by decide)
theorem x_rows_113 : x_rows 113 := x_rows_of (fun _ => rfl) ⟨rfl, fun _ => rfl⟩ ⟨rfl, fun _ => rfl⟩ ⟨rfl, fun _ => rfl⟩ (by decide)
/-- the Strings' signs -/
def x_sl (e : Nat) : List Int32 := match e with
  | 0 => [117, 114, 115, 116, 32]
  | 1 => [97, 114, 99, 104, 32]
  | 2 => [111, 102, 116, 101, 110, 32]
  | 3 => [112, 107, 118, 99, 104, 119]
  | 4 => [60, 61, 62]
  | 5 => [98, 117, 114, 115, 116, 32]
  | 6 => [115, 116, 97, 114, 99, 104, 32]
  | _ => [115, 111, 102, 116, 101, 110, 32]
theorem x_sl_ar {E : XE} {e : Nat} (h : e < 8) : x_Ar E (24 + e) = some (.byte, (x_sl e).length, fun j => (x_sl e).getD j 0) := by
  match e, h with
  | 0, _ => rfl
  | 1, _ => rfl
  | 2, _ => rfl
  | 3, _ => rfl
  | 4, _ => rfl
  | 5, _ => rfl
  | 6, _ => rfl
  | 7, _ => rfl
section XPU
variable {E : XE} {d mi i nx a b pc : Nat} {ps : List Nat} {L S : List Value} {I : Nat → Nat → Int32} {Q : Option Value → (Nat → Nat → Int32) → Prop}
/-- a callee that only answers -/
abbrev x_pu (w : Value) (I : Nat → Nat → Int32) : Option Value → (Nat → Nat → Int32) → Prop := fun v I' => v = some w ∧ I' = I
theorem s_invVP {idx q c1 N : Nat} {r1 : vw_C} {As S0 : List Value} {d1 : Nat} {w : Value} (ho : x_op mi i = some (pc, 3, .invokevirtual idx, nx, a, b, ps)) (ha : 0 < a ∧ a < 192) (hp1 : ps = [ps.getD 0 0, ps.getD 1 0, ps.getD 2 0, ps.getD 3 0, ps.getD 4 0]) (hb1 : As.length = b) (hst : S0 = As.reverse ++ .ref q :: S) (hcat : (S.map fun v => v.category).sum ≤ 8) (hd1 : d1 + 1 ≤ d)
    (hq : x_kd (x_mk I) q = some (c1, N)) (hc9 : c1 < 9) (hr1 : vwCl[c1]? = some r1) (hcls : r1.1 = (x_m a).1.cls)
    (hC : x_K E d1 a (.ref q :: As) I (x_pu w I)) (kk : x_P E d mi nx L (w :: S) I Q) : x_P E d mi i L S0 I Q :=
  s_invV ho ha hp1 hb1 hst hcat hd1 hq hc9 hr1 hcls hC (fun v I' ⟨h1, h2⟩ => by rw [h1, h2]; exact kk)
theorem s_invSP {idx e0 : Nat} {As S0 : List Value} {d1 : Nat} {w : Value} (ho : x_op mi i = some (pc, 3, .invokevirtual idx, nx, a, b, ps)) (ha : 0 < a ∧ a < 192) (hp1 : ps = [ps.getD 0 0, ps.getD 1 0, ps.getD 2 0, ps.getD 3 0, ps.getD 4 0]) (hb1 : As.length = b) (hst : S0 = As.reverse ++ .ref (8 + e0) :: S) (hcat : (S.map fun v => v.category).sum ≤ 8) (hd1 : d1 + 1 ≤ d)
    (he : e0 < 8) (hcls : (x_m a).1.cls = "java/lang/String")
    (hC : x_K E d1 a (.ref (8 + e0) :: As) I (x_pu w I)) (kk : x_P E d mi nx L (w :: S) I Q) : x_P E d mi i L S0 I Q :=
  s_invS ho ha hp1 hb1 hst hcat hd1 he hcls hC (fun v I' ⟨h1, h2⟩ => by rw [h1, h2]; exact kk)
theorem s_invStP {idx : Nat} {As S0 : List Value} {d1 : Nat} {w : Value} (ho : x_op mi i = some (pc, 3, .invokestatic idx, nx, a, b, ps)) (ha : 0 < a ∧ a < 192) (hp1 : ps = [ps.getD 0 0, ps.getD 1 0, ps.getD 2 0, ps.getD 3 0]) (hb1 : As.length = b) (hst : S0 = As.reverse ++ S) (hcat : (S.map fun v => v.category).sum ≤ 8) (hd1 : d1 + 1 ≤ d)
    (hC : x_K E d1 a As I (x_pu w I)) (kk : x_P E d mi nx L (w :: S) I Q) : x_P E d mi i L S0 I Q :=
  s_invSt ho ha hp1 hb1 hst hcat hd1 hC (fun v I' ⟨h1, h2⟩ => by rw [h1, h2]; exact kk)
end XPU
theorem x_vic {j : Int32} {N : Nat} (h : (decide (¬ j < 0) && decide (j.toNatClampNeg < N)) = true) : vp_in j N := by
  rw [Bool.and_eq_true, decide_eq_true_eq, decide_eq_true_eq] at h
  rintro (h1 | h1)
  · exact h.1 h1
  · omega
section XRD
variable {E : XE} {d mi i nx a b pc : Nat} {ps : List Nat} {L S : List Value} {I : Nat → Nat → Int32} {Q : Option Value → (Nat → Nat → Int32) → Prop}
theorem s_getI {idx q N : Nat} (ho : x_op mi i = some (pc, 3, .getfield idx, nx, a, b, ps)) (ha : a < 9) (hq : x_kd (x_mk I) q = some (a, N)) (hR : x_isR a b = false) (kk : x_P E d mi nx L (.int (I q b) :: S) I Q) : x_P E d mi i L (.ref q :: S) I Q := wp_getI ho ha hq hR kk
theorem s_iald {q N : Nat} {j : Int32} (ho : x_op mi i = some (pc, 1, .iaload, nx, a, b, ps)) (hq : x_kd (x_mk I) q = some (100, N)) (hin : vp_in j N) (kk : x_P E d mi nx L (.int (I q j.toNatClampNeg) :: S) I Q) : x_P E d mi i L (.int j :: .ref q :: S) I Q := wp_iald ho hq hin kk
theorem s_ialdc {q N k0 : Nat} {j : Int32} (ho : x_op mi i = some (pc, 1, .iaload, nx, a, b, ps)) (hq : x_kd (x_mk I) q = some (100, N)) (hk : (decide (¬ j < 0) && decide (k0 < N) && decide (j.toNatClampNeg = k0)) = true) (kk : x_P E d mi nx L (.int (I q k0) :: S) I Q) : x_P E d mi i L (.int j :: .ref q :: S) I Q := by
  rw [Bool.and_eq_true, Bool.and_eq_true, decide_eq_true_eq, decide_eq_true_eq, decide_eq_true_eq] at hk
  obtain ⟨⟨h1, h2⟩, h3⟩ := hk
  subst h3
  exact wp_iald ho hq (by rintro (h | h); (· exact h1 h); (· omega)) kk
theorem s_bald {q N : Nat} {j : Int32} (ho : x_op mi i = some (pc, 1, .baload, nx, a, b, ps)) (hq : x_kd (x_mk I) q = some (101, N)) (hin : vp_in j N) (kk : x_P E d mi nx L (.int (I q j.toNatClampNeg) :: S) I Q) : x_P E d mi i L (.int j :: .ref q :: S) I Q := wp_bald ho hq hin kk
theorem s_zald {q N : Nat} {j : Int32} (ho : x_op mi i = some (pc, 1, .baload, nx, a, b, ps)) (hq : x_kd (x_mk I) q = some (102, N)) (hin : vp_in j N) (kk : x_P E d mi nx L (.int (I q j.toNatClampNeg) :: S) I Q) : x_P E d mi i L (.int j :: .ref q :: S) I Q := wp_zald ho hq hin kk
theorem s_iastc {q N k0 : Nat} {j x : Int32} (ho : x_op mi i = some (pc, 1, .iastore, nx, a, b, ps)) (hq : x_kd (x_mk I) q = some (100, N)) (hk : (decide (¬ j < 0) && decide (k0 < N) && decide (j.toNatClampNeg = k0)) = true) (kk : x_P E d mi nx L S (x_up I q k0 x) Q) : x_P E d mi i L (.int x :: .int j :: .ref q :: S) I Q := by
  rw [Bool.and_eq_true, Bool.and_eq_true, decide_eq_true_eq, decide_eq_true_eq, decide_eq_true_eq] at hk
  obtain ⟨⟨h1, h2⟩, h3⟩ := hk
  subst h3
  exact wp_iast ho hq (by rintro (h | h); (· exact h1 h); (· omega)) kk
end XRD
theorem x_P.cong {E : XE} {d mi i : Nat} {L L' S S' : List Value} {I : Nat → Nat → Int32} {Q : Option Value → (Nat → Nat → Int32) → Prop} (hL : L = L') (hS : S = S') (h : x_P E d mi i L S I Q) : x_P E d mi i L' S' I Q := by
  subst hL
  subst hS
  exact h
