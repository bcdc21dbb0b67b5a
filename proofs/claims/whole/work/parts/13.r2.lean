set_option maxRecDepth 20000 in
theorem r_M_isMan_0 {E : XE} {d : Nat} {I : Nat → Nat → Int32} {Q : Option Value → (Nat → Nat → Int32) → Prop} (hd : 2 ≤ d) (a1 : Int32)
    (H : Q (some (.int (x_bi ((0 : Int32) ≤ a1 ∧ a1 ≤ ((I 143 31) - (1 : Int32)))))) I) :
    x_P E d 110 0 [.ref 142, .int a1] [] I Q := by
  refine wp_iload_n rfl rfl rfl ?_
  refine wp_iconst (v := (0 : Int32)) rfl (by decide) ?_
  refine wp_aload_n rfl rfl rfl ?_
  refine wp_getR (v := .ref 143) rfl (by decide) (kd_142 _) rfl (kr_142_1 _) ?_
  refine wp_bipush (v := (31 : Int32)) rfl (by decide) ?_
  refine s_ialdc (k0 := 31) rfl (kd_143 _) rfl ?_
  refine wp_iconst (v := (1 : Int32)) rfl (by decide) ?_
  refine wp_isub rfl ?_
  refine s_invStP (As := [.int a1, .int (0 : Int32), .int ((I 143 31) - (1 : Int32))]) (d1 := d - 1) rfl ⟨by decide, by decide⟩ rfl rfl rfl (Nat.le_of_ble_eq_true rfl) (by omega) (p_in (by omega)) ?_
  exact s_iret rfl rfl x_bi_nar H
