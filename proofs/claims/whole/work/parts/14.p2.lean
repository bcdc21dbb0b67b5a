theorem p_isMan {E : XE} {d : Nat} {I : Nat → Nat → Int32} {x : Int32} (hd : 2 ≤ d) : x_K E d 110 [.ref 142, .int x] I (x_pu (.int (x_bi (0 ≤ x ∧ x ≤ I 143 31 - 1))) I) :=
  x_K.of (by decide) (by decide) rfl rfl rfl (r_M_isMan_0 hd x ⟨rfl, rfl⟩)
