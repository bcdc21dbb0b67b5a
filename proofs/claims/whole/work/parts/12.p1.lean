section P1
variable {E : XE} {d : Nat} {I : Nat → Nat → Int32}
theorem p_isUpTo {x y : Int32} (hd : 1 ≤ d) : x_K E d 94 [.int x, .int y] I (x_pu (.int (x_bi (0 ≤ x ∧ x ≤ y))) I) :=
  x_K.of (by decide) (by decide) rfl rfl rfl (r_C_isUpTo_0 hd x y ⟨by rw [x_bi_c (by rw [Int32.not_lt, Int32.not_lt] : ¬ x < 0 ∧ ¬ y < x ↔ 0 ≤ x ∧ x ≤ y)], rfl⟩)
theorem p_in {x lo hi : Int32} (hd : 1 ≤ d) : x_K E d 109 [.int x, .int lo, .int hi] I (x_pu (.int (x_bi (lo ≤ x ∧ x ≤ hi))) I) :=
  x_K.of (by decide) (by decide) rfl rfl rfl (r_M_in_0 hd x lo hi ⟨by rw [x_bi_c (by rw [Int32.not_lt, Int32.not_lt] : ¬ x < lo ∧ ¬ hi < x ↔ lo ≤ x ∧ x ≤ hi)], rfl⟩)
theorem p_isLatin1 {e : Nat} (he : e < 8) (hd : 1 ≤ d) : x_K E d 11 [.ref (8 + e)] I (x_pu (.int 1) I) :=
  x_K.of (by decide) (by decide) rfl rfl rfl (r_JS_isLatin1_0 hd e he ⟨rfl, rfl⟩)
theorem p_coder {e : Nat} (he : e < 8) (hd : 1 ≤ d) : x_K E d 10 [.ref (8 + e)] I (x_pu (.int 0) I) :=
  x_K.of (by decide) (by decide) rfl rfl rfl (r_JS_coder_0 hd e he ⟨rfl, rfl⟩)
end P1
