set_option maxRecDepth 20000 in
theorem r_JS_coder_0 {E : XE} {d : Nat} {I : Nat → Nat → Int32} {Q : Option Value → (Nat → Nat → Int32) → Prop} (hd : 1 ≤ d) (e0 : Nat) (he : e0 < 8)
    (H : Q (some (.int (0 : Int32))) I) :
    x_P E d 10 0 [.ref (8 + e0)] [] I Q := by
  refine wp_getsC rfl rfl ?_
  refine wp_if_eq rfl (fun h => absurd h (by decide)) (fun _ => ?_)
  refine wp_aload_n rfl rfl rfl ?_
  refine wp_getSc (e0 := e0) rfl rfl he ?_
  refine wp_goto rfl ?_
  exact s_iret rfl rfl rfl H
set_option maxRecDepth 20000 in
theorem r_JS_isLatin1_0 {E : XE} {d : Nat} {I : Nat → Nat → Int32} {Q : Option Value → (Nat → Nat → Int32) → Prop} (hd : 1 ≤ d) (e0 : Nat) (he : e0 < 8)
    (H : Q (some (.int (1 : Int32))) I) :
    x_P E d 11 0 [.ref (8 + e0)] [] I Q := by
  refine wp_getsC rfl rfl ?_
  refine wp_if_eq rfl (fun h => absurd h (by decide)) (fun _ => ?_)
  refine wp_aload_n rfl rfl rfl ?_
  refine wp_getSc (e0 := e0) rfl rfl he ?_
  refine wp_if_ne rfl (fun h => absurd h (by decide)) (fun _ => ?_)
  refine wp_iconst (v := (1 : Int32)) rfl (by decide) ?_
  refine wp_goto rfl ?_
  exact s_iret rfl rfl rfl H
set_option maxRecDepth 20000 in
theorem r_C_isUpTo_0 {E : XE} {d : Nat} {I : Nat → Nat → Int32} {Q : Option Value → (Nat → Nat → Int32) → Prop} (hd : 1 ≤ d) (a0 : Int32) (a1 : Int32)
    (H : Q (some (.int (x_bi (¬ (a0 < 0) ∧ (¬ (a1 < a0)))))) I) :
    x_P E d 94 0 [.int a0, .int a1] [] I Q := by
  refine wp_iload_n rfl rfl rfl ?_
  have J : x_P E d 94 8 [.int a0, .int a1] [.int (x_bi (¬ (a0 < 0) ∧ (¬ (a1 < a0))))] I Q := by
    exact s_iret rfl rfl x_bi_nar H
  refine wp_if_lt rfl (fun c_1 => ?_) (fun c_1 => ?_)
  · refine wp_iconst (v := (0 : Int32)) rfl (by decide) ?_
    exact x_P.cong rfl (by rw [show x_bi (¬ (a0 < 0) ∧ (¬ (a1 < a0))) = (0 : Int32) from x_bi_f (fun h => h.1 c_1)]) J
  · refine wp_iload_n rfl rfl rfl ?_
    refine wp_iload_n rfl rfl rfl ?_
    refine wp_icmp_gt rfl (fun c_2 => ?_) (fun c_2 => ?_)
    · refine wp_iconst (v := (0 : Int32)) rfl (by decide) ?_
      exact x_P.cong rfl (by rw [show x_bi (¬ (a0 < 0) ∧ (¬ (a1 < a0))) = (0 : Int32) from x_bi_f (fun h => (fun h => h c_2) h.2)]) J
    · refine wp_iconst (v := (1 : Int32)) rfl (by decide) ?_
      refine wp_goto rfl ?_
      exact x_P.cong rfl (by rw [show x_bi (¬ (a0 < 0) ∧ (¬ (a1 < a0))) = (1 : Int32) from x_bi_t ⟨c_1, c_2⟩]) J
set_option maxRecDepth 20000 in
theorem r_M_in_0 {E : XE} {d : Nat} {I : Nat → Nat → Int32} {Q : Option Value → (Nat → Nat → Int32) → Prop} (hd : 1 ≤ d) (a0 : Int32) (a1 : Int32) (a2 : Int32)
    (H : Q (some (.int (x_bi (¬ (a0 < a1) ∧ (¬ (a2 < a0)))))) I) :
    x_P E d 109 0 [.int a0, .int a1, .int a2] [] I Q := by
  refine wp_iload_n rfl rfl rfl ?_
  refine wp_iload_n rfl rfl rfl ?_
  have J : x_P E d 109 9 [.int a0, .int a1, .int a2] [.int (x_bi (¬ (a0 < a1) ∧ (¬ (a2 < a0))))] I Q := by
    exact s_iret rfl rfl x_bi_nar H
  refine wp_icmp_lt rfl (fun c_1 => ?_) (fun c_1 => ?_)
  · refine wp_iconst (v := (0 : Int32)) rfl (by decide) ?_
    exact x_P.cong rfl (by rw [show x_bi (¬ (a0 < a1) ∧ (¬ (a2 < a0))) = (0 : Int32) from x_bi_f (fun h => h.1 c_1)]) J
  · refine wp_iload_n rfl rfl rfl ?_
    refine wp_iload_n rfl rfl rfl ?_
    refine wp_icmp_gt rfl (fun c_2 => ?_) (fun c_2 => ?_)
    · refine wp_iconst (v := (0 : Int32)) rfl (by decide) ?_
      exact x_P.cong rfl (by rw [show x_bi (¬ (a0 < a1) ∧ (¬ (a2 < a0))) = (0 : Int32) from x_bi_f (fun h => (fun h => h c_2) h.2)]) J
    · refine wp_iconst (v := (1 : Int32)) rfl (by decide) ?_
      refine wp_goto rfl ?_
      exact x_P.cong rfl (by rw [show x_bi (¬ (a0 < a1) ∧ (¬ (a2 < a0))) = (1 : Int32) from x_bi_t ⟨c_1, c_2⟩]) J
