set_option maxRecDepth 20000 in
theorem r_M_see_0 {E : XE} {d : Nat} {I : Nat → Nat → Int32} {Q : Option Value → (Nat → Nat → Int32) → Prop} (hd : 3 ≤ d) (a1 : Int32) (a2 : Int32) (a3 : Int32)
    (H : ((a1 = (-1 : Int32) → (∀ I_13, I_13 = x_up I 143 33 (0 : Int32) → Q (some (.int (0 : Int32))) I_13)) ∧ (¬ (a1 = (-1 : Int32)) → ((0 ≤ a1 ∧ a1 ≤ (I 143 31) - 1 → (((0 : Int32) ≤ a2 ∧ a2 ≤ (20 : Int32) → (((0 : Int32) ≤ a3 ∧ a3 ≤ (99 : Int32) → (((I 143 33) = (5 : Int32) → Q (some (.int (-4 : Int32))) I) ∧ (¬ ((I 143 33) = (5 : Int32)) → (vp_in ((74 : Int32) + (I 143 33)) 931) ∧ (∀ I_7, I_7 = x_up I 143 ((74 : Int32) + (I 143 33)).toNatClampNeg a1 → (vp_in ((79 : Int32) + (I_7 143 33)) 931) ∧ (∀ I_9, I_9 = x_up I_7 143 ((79 : Int32) + (I_7 143 33)).toNatClampNeg a2 → (vp_in ((84 : Int32) + (I_9 143 33)) 931) ∧ (∀ I_11, I_11 = x_up I_9 143 ((84 : Int32) + (I_9 143 33)).toNatClampNeg a3 → (∀ I_12, I_12 = x_up I_11 143 33 ((I_11 143 33) + (1 : Int32)) → Q (some (.int (I_12 143 33))) I_12))))))) ∧ (¬ ((0 : Int32) ≤ a3 ∧ a3 ≤ (99 : Int32)) → Q (some (.int (-2 : Int32))) I))) ∧ (¬ ((0 : Int32) ≤ a2 ∧ a2 ≤ (20 : Int32)) → Q (some (.int (-2 : Int32))) I))) ∧ (¬ (0 ≤ a1 ∧ a1 ≤ (I 143 31) - 1) → Q (some (.int (-1 : Int32))) I))))) :
    x_P E d 163 0 [.ref 142, .int a1, .int a2, .int a3] [] I Q := by
  refine wp_iload_n rfl rfl rfl ?_
  refine wp_iconst (v := (-1 : Int32)) rfl (by decide) ?_
  refine wp_icmp_ne rfl (fun c_1 => ?_) (fun c_1 => ?_)
  · replace H := H.2 c_1
    refine wp_aload_n rfl rfl rfl ?_
    refine wp_iload_n rfl rfl rfl ?_
    refine s_invVP (As := [.int a1]) (d1 := d - 1) rfl ⟨by decide, by decide⟩ rfl rfl rfl (Nat.le_of_ble_eq_true rfl) (by omega) (kd_142 _) (by decide) rfl rfl (p_isMan (by omega)) ?_
    refine s_bi_ne rfl (fun c_2 => ?_) (fun c_2 => ?_)
    · replace H := H.1 c_2
      refine wp_iload_n rfl rfl rfl ?_
      refine wp_iconst (v := (0 : Int32)) rfl (by decide) ?_
      refine wp_bipush (v := (20 : Int32)) rfl (by decide) ?_
      refine s_invStP (As := [.int a2, .int (0 : Int32), .int (20 : Int32)]) (d1 := d - 1) rfl ⟨by decide, by decide⟩ rfl rfl rfl (Nat.le_of_ble_eq_true rfl) (by omega) (p_in (by omega)) ?_
      refine s_bi_eq rfl (fun c_3 => ?_) (fun c_3 => ?_)
      · replace H := H.2 c_3
        refine wp_bipush (v := (-2 : Int32)) rfl (by decide) ?_
        exact s_iret rfl rfl rfl H
      · replace H := H.1 c_3
        refine wp_iload_n rfl rfl rfl ?_
        refine wp_iconst (v := (0 : Int32)) rfl (by decide) ?_
        refine wp_bipush (v := (99 : Int32)) rfl (by decide) ?_
        refine s_invStP (As := [.int a3, .int (0 : Int32), .int (99 : Int32)]) (d1 := d - 1) rfl ⟨by decide, by decide⟩ rfl rfl rfl (Nat.le_of_ble_eq_true rfl) (by omega) (p_in (by omega)) ?_
        refine s_bi_ne rfl (fun c_4 => ?_) (fun c_4 => ?_)
        · replace H := H.1 c_4
          refine wp_aload_n rfl rfl rfl ?_
          refine wp_getR (v := .ref 143) rfl (by decide) (kd_142 _) rfl (kr_142_1 _) ?_
          refine wp_bipush (v := (33 : Int32)) rfl (by decide) ?_
          refine s_ialdc (k0 := 33) rfl (kd_143 _) rfl ?_
          refine wp_iconst (v := (5 : Int32)) rfl (by decide) ?_
          refine wp_icmp_ne rfl (fun c_5 => ?_) (fun c_5 => ?_)
          · replace H := H.2 c_5
            refine wp_aload_n rfl rfl rfl ?_
            refine wp_getR (v := .ref 143) rfl (by decide) (kd_142 _) rfl (kr_142_1 _) ?_
            refine wp_bipush (v := (74 : Int32)) rfl (by decide) ?_
            refine wp_aload_n rfl rfl rfl ?_
            refine wp_getR (v := .ref 143) rfl (by decide) (kd_142 _) rfl (kr_142_1 _) ?_
            refine wp_bipush (v := (33 : Int32)) rfl (by decide) ?_
            refine s_ialdc (k0 := 33) rfl (kd_143 _) rfl ?_
            refine wp_iadd rfl ?_
            refine wp_iload_n rfl rfl rfl ?_
            obtain ⟨o_6, H⟩ := H
            refine s_iast rfl (kd_143 _) o_6 ?_
            generalize hI_7 : x_up I 143 ((74 : Int32) + (I 143 33)).toNatClampNeg a1 = I_7
            replace H := H _ hI_7.symm
            refine wp_aload_n rfl rfl rfl ?_
            refine wp_getR (v := .ref 143) rfl (by decide) (kd_142 _) rfl (kr_142_1 _) ?_
            refine wp_bipush (v := (79 : Int32)) rfl (by decide) ?_
            refine wp_aload_n rfl rfl rfl ?_
            refine wp_getR (v := .ref 143) rfl (by decide) (kd_142 _) rfl (kr_142_1 _) ?_
            refine wp_bipush (v := (33 : Int32)) rfl (by decide) ?_
            refine s_ialdc (k0 := 33) rfl (kd_143 _) rfl ?_
            refine wp_iadd rfl ?_
            refine wp_iload_n rfl rfl rfl ?_
            obtain ⟨o_8, H⟩ := H
            refine s_iast rfl (kd_143 _) o_8 ?_
            generalize hI_9 : x_up I_7 143 ((79 : Int32) + (I_7 143 33)).toNatClampNeg a2 = I_9
            replace H := H _ hI_9.symm
            refine wp_aload_n rfl rfl rfl ?_
            refine wp_getR (v := .ref 143) rfl (by decide) (kd_142 _) rfl (kr_142_1 _) ?_
            refine wp_bipush (v := (84 : Int32)) rfl (by decide) ?_
            refine wp_aload_n rfl rfl rfl ?_
            refine wp_getR (v := .ref 143) rfl (by decide) (kd_142 _) rfl (kr_142_1 _) ?_
            refine wp_bipush (v := (33 : Int32)) rfl (by decide) ?_
            refine s_ialdc (k0 := 33) rfl (kd_143 _) rfl ?_
            refine wp_iadd rfl ?_
            refine wp_iload_n rfl rfl rfl ?_
            obtain ⟨o_10, H⟩ := H
            refine s_iast rfl (kd_143 _) o_10 ?_
            generalize hI_11 : x_up I_9 143 ((84 : Int32) + (I_9 143 33)).toNatClampNeg a3 = I_11
            replace H := H _ hI_11.symm
            refine wp_aload_n rfl rfl rfl ?_
            refine wp_getR (v := .ref 143) rfl (by decide) (kd_142 _) rfl (kr_142_1 _) ?_
            refine wp_bipush (v := (33 : Int32)) rfl (by decide) ?_
            refine wp_dup2 rfl rfl rfl ?_
            refine s_ialdc (k0 := 33) rfl (kd_143 _) rfl ?_
            refine wp_iconst (v := (1 : Int32)) rfl (by decide) ?_
            refine wp_iadd rfl ?_
            refine s_iastc (k0 := 33) rfl (kd_143 _) rfl ?_
            generalize hI_12 : x_up I_11 143 33 ((I_11 143 33) + (1 : Int32)) = I_12
            replace H := H _ hI_12.symm
            refine wp_aload_n rfl rfl rfl ?_
            refine wp_getR (v := .ref 143) rfl (by decide) (kd_142 _) rfl (kr_142_1 _) ?_
            refine wp_bipush (v := (33 : Int32)) rfl (by decide) ?_
            refine s_ialdc (k0 := 33) rfl (kd_143 _) rfl ?_
            exact s_iret rfl rfl rfl H
          · replace H := H.1 c_5
            refine wp_bipush (v := (-4 : Int32)) rfl (by decide) ?_
            exact s_iret rfl rfl rfl H
        · replace H := H.2 c_4
          refine wp_bipush (v := (-2 : Int32)) rfl (by decide) ?_
          exact s_iret rfl rfl rfl H
    · replace H := H.2 c_2
      refine wp_iconst (v := (-1 : Int32)) rfl (by decide) ?_
      exact s_iret rfl rfl rfl H
  · replace H := H.1 c_1
    refine wp_aload_n rfl rfl rfl ?_
    refine wp_getR (v := .ref 143) rfl (by decide) (kd_142 _) rfl (kr_142_1 _) ?_
    refine wp_bipush (v := (33 : Int32)) rfl (by decide) ?_
    refine wp_iconst (v := (0 : Int32)) rfl (by decide) ?_
    refine s_iastc (k0 := 33) rfl (kd_143 _) rfl ?_
    generalize hI_13 : x_up I 143 33 (0 : Int32) = I_13
    replace H := H _ hI_13.symm
    refine wp_iconst (v := (0 : Int32)) rfl (by decide) ?_
    exact s_iret rfl rfl rfl H
set_option maxRecDepth 20000 in
theorem r_M_isAsSeen_0 {E : XE} {d : Nat} {I : Nat → Nat → Int32} {Q : Option Value → (Nat → Nat → Int32) → Prop} (hd : 1 ≤ d) (a1 : Int32) (a2 : Int32)
    (H : x_P E d 164 4 [.ref 142, .int a1, .int a2, .int (1 : Int32), .int (0 : Int32)] [] I Q) :
    x_P E d 164 0 [.ref 142, .int a1, .int a2, x_jk, x_jk] [] I Q := by
  refine wp_iconst (v := (1 : Int32)) rfl (by decide) ?_
  refine wp_istore_n (L' := [.ref 142, .int a1, .int a2, .int (1 : Int32), x_jk]) rfl rfl (by decide) rfl rfl ?_
  refine wp_iconst (v := (0 : Int32)) rfl (by decide) ?_
  refine wp_istore (L' := [.ref 142, .int a1, .int a2, .int (1 : Int32), .int (0 : Int32)]) rfl (by decide) rfl rfl ?_
  exact H
set_option maxRecDepth 20000 in
theorem r_M_isAsSeen_4 {E : XE} {d : Nat} {I : Nat → Nat → Int32} {Q : Option Value → (Nat → Nat → Int32) → Prop} (hd : 1 ≤ d) (v1 : Int32) (v2 : Int32) (v3 : Int32) (v4 : Int32)
    (H : (((I 143 33) ≤ v4 → (narrow .boolean (.int v3) = .int v3) ∧ Q (some (.int v3)) I) ∧ (¬ ((I 143 33) ≤ v4) → ((¬ (v3 = 0) → vp_in ((74 : Int32) + v4) 931)) ∧ ((¬ (v3 = 0) → ((I 143 ((74 : Int32) + v4).toNatClampNeg) = v1 → vp_in ((79 : Int32) + v4) 931))) ∧ ((¬ (v3 = 0) → ((I 143 ((74 : Int32) + v4).toNatClampNeg) = v1 → ((I 143 ((79 : Int32) + v4).toNatClampNeg) = v2 → vp_in ((7 : Int32) + v1) 931)))) ∧ ((¬ (v3 = 0) → ((I 143 ((74 : Int32) + v4).toNatClampNeg) = v1 → ((I 143 ((79 : Int32) + v4).toNatClampNeg) = v2 → vp_in ((84 : Int32) + v4) 931)))) ∧ x_P E d 164 4 [.ref 142, .int v1, .int v2, .int (x_bi (¬ (v3 = 0) ∧ (¬ ((I 143 ((74 : Int32) + v4).toNatClampNeg) = v1) ∨ (¬ ((I 143 ((79 : Int32) + v4).toNatClampNeg) = v2) ∨ ((I 143 ((7 : Int32) + v1).toNatClampNeg) = (I 143 ((84 : Int32) + v4).toNatClampNeg)))))), .int (v4 + 1)] [] I Q))) :
    x_P E d 164 4 [.ref 142, .int v1, .int v2, .int v3, .int v4] [] I Q := by
  refine wp_iload rfl rfl ?_
  refine wp_aload_n rfl rfl rfl ?_
  refine wp_getR (v := .ref 143) rfl (by decide) (kd_142 _) rfl (kr_142_1 _) ?_
  refine wp_bipush (v := (33 : Int32)) rfl (by decide) ?_
  refine s_ialdc (k0 := 33) rfl (kd_143 _) rfl ?_
  refine wp_icmp_ge rfl (fun c_1 => ?_) (fun c_1 => ?_)
  · replace H := H.1 c_1
    refine wp_iload_n rfl rfl rfl ?_
    obtain ⟨o_2, H⟩ := H
    exact s_iret rfl rfl o_2 H
  · replace H := H.2 c_1
    refine wp_iload_n rfl rfl rfl ?_
    obtain ⟨o_4, H⟩ := H
    obtain ⟨o_6, H⟩ := H
    obtain ⟨o_8, H⟩ := H
    obtain ⟨o_9, H⟩ := H
    have J : x_P E d 164 44 [.ref 142, .int v1, .int v2, .int v3, .int v4] [.int (x_bi (¬ (v3 = 0) ∧ (¬ ((I 143 ((74 : Int32) + v4).toNatClampNeg) = v1) ∨ (¬ ((I 143 ((79 : Int32) + v4).toNatClampNeg) = v2) ∨ ((I 143 ((7 : Int32) + v1).toNatClampNeg) = (I 143 ((84 : Int32) + v4).toNatClampNeg))))))] I Q := by
      refine wp_istore_n (L' := [.ref 142, .int v1, .int v2, .int (x_bi (¬ (v3 = 0) ∧ (¬ ((I 143 ((74 : Int32) + v4).toNatClampNeg) = v1) ∨ (¬ ((I 143 ((79 : Int32) + v4).toNatClampNeg) = v2) ∨ ((I 143 ((7 : Int32) + v1).toNatClampNeg) = (I 143 ((84 : Int32) + v4).toNatClampNeg)))))), .int v4]) rfl rfl (by decide) rfl rfl ?_
      refine wp_iinc (v := v4 + 1) (L' := [.ref 142, .int v1, .int v2, .int (x_bi (¬ (v3 = 0) ∧ (¬ ((I 143 ((74 : Int32) + v4).toNatClampNeg) = v1) ∨ (¬ ((I 143 ((79 : Int32) + v4).toNatClampNeg) = v2) ∨ ((I 143 ((7 : Int32) + v1).toNatClampNeg) = (I 143 ((84 : Int32) + v4).toNatClampNeg)))))), .int (v4 + 1)]) rfl rfl rfl rfl rfl ?_
      refine wp_goto rfl ?_
      exact H
    refine wp_if_eq rfl (fun c_3 => ?_) (fun c_3 => ?_)
    · refine wp_iconst (v := (0 : Int32)) rfl (by decide) ?_
      exact x_P.cong rfl (by rw [show x_bi (¬ (v3 = 0) ∧ (¬ ((I 143 ((74 : Int32) + v4).toNatClampNeg) = v1) ∨ (¬ ((I 143 ((79 : Int32) + v4).toNatClampNeg) = v2) ∨ ((I 143 ((7 : Int32) + v1).toNatClampNeg) = (I 143 ((84 : Int32) + v4).toNatClampNeg))))) = (0 : Int32) from x_bi_f (fun h => h.1 c_3)]) J
    · refine wp_aload_n rfl rfl rfl ?_
      refine wp_getR (v := .ref 143) rfl (by decide) (kd_142 _) rfl (kr_142_1 _) ?_
      refine wp_bipush (v := (74 : Int32)) rfl (by decide) ?_
      refine wp_iload rfl rfl ?_
      refine wp_iadd rfl ?_
      refine s_iald rfl (kd_143 _) (o_4 c_3) ?_
      refine wp_iload_n rfl rfl rfl ?_
      refine wp_icmp_ne rfl (fun c_5 => ?_) (fun c_5 => ?_)
      · refine wp_iconst (v := (1 : Int32)) rfl (by decide) ?_
        refine wp_goto rfl ?_
        exact x_P.cong rfl (by rw [show x_bi (¬ (v3 = 0) ∧ (¬ ((I 143 ((74 : Int32) + v4).toNatClampNeg) = v1) ∨ (¬ ((I 143 ((79 : Int32) + v4).toNatClampNeg) = v2) ∨ ((I 143 ((7 : Int32) + v1).toNatClampNeg) = (I 143 ((84 : Int32) + v4).toNatClampNeg))))) = (1 : Int32) from x_bi_t ⟨c_3, (Or.inl c_5)⟩]) J
      · refine wp_aload_n rfl rfl rfl ?_
        refine wp_getR (v := .ref 143) rfl (by decide) (kd_142 _) rfl (kr_142_1 _) ?_
        refine wp_bipush (v := (79 : Int32)) rfl (by decide) ?_
        refine wp_iload rfl rfl ?_
        refine wp_iadd rfl ?_
        refine s_iald rfl (kd_143 _) (o_6 c_3 c_5) ?_
        refine wp_iload_n rfl rfl rfl ?_
        refine wp_icmp_ne rfl (fun c_7 => ?_) (fun c_7 => ?_)
        · refine wp_iconst (v := (1 : Int32)) rfl (by decide) ?_
          refine wp_goto rfl ?_
          exact x_P.cong rfl (by rw [show x_bi (¬ (v3 = 0) ∧ (¬ ((I 143 ((74 : Int32) + v4).toNatClampNeg) = v1) ∨ (¬ ((I 143 ((79 : Int32) + v4).toNatClampNeg) = v2) ∨ ((I 143 ((7 : Int32) + v1).toNatClampNeg) = (I 143 ((84 : Int32) + v4).toNatClampNeg))))) = (1 : Int32) from x_bi_t ⟨c_3, (Or.inr (Or.inl c_7))⟩]) J
        · refine wp_aload_n rfl rfl rfl ?_
          refine wp_getR (v := .ref 143) rfl (by decide) (kd_142 _) rfl (kr_142_1 _) ?_
          refine wp_bipush (v := (7 : Int32)) rfl (by decide) ?_
          refine wp_iload_n rfl rfl rfl ?_
          refine wp_iadd rfl ?_
          refine s_iald rfl (kd_143 _) (o_8 c_3 c_5 c_7) ?_
          refine wp_aload_n rfl rfl rfl ?_
          refine wp_getR (v := .ref 143) rfl (by decide) (kd_142 _) rfl (kr_142_1 _) ?_
          refine wp_bipush (v := (84 : Int32)) rfl (by decide) ?_
          refine wp_iload rfl rfl ?_
          refine wp_iadd rfl ?_
          refine s_iald rfl (kd_143 _) (o_9 c_3 c_5 c_7) ?_
          refine wp_icmp_ne rfl (fun c_10 => ?_) (fun c_10 => ?_)
          · refine wp_iconst (v := (0 : Int32)) rfl (by decide) ?_
            exact x_P.cong rfl (by rw [show x_bi (¬ (v3 = 0) ∧ (¬ ((I 143 ((74 : Int32) + v4).toNatClampNeg) = v1) ∨ (¬ ((I 143 ((79 : Int32) + v4).toNatClampNeg) = v2) ∨ ((I 143 ((7 : Int32) + v1).toNatClampNeg) = (I 143 ((84 : Int32) + v4).toNatClampNeg))))) = (0 : Int32) from x_bi_f (fun h => (fun h => h.elim (fun g => g c_5) (fun h => h.elim (fun g => g c_7) c_10)) h.2)]) J
          · refine wp_iconst (v := (1 : Int32)) rfl (by decide) ?_
            refine wp_goto rfl ?_
            exact x_P.cong rfl (by rw [show x_bi (¬ (v3 = 0) ∧ (¬ ((I 143 ((74 : Int32) + v4).toNatClampNeg) = v1) ∨ (¬ ((I 143 ((79 : Int32) + v4).toNatClampNeg) = v2) ∨ ((I 143 ((7 : Int32) + v1).toNatClampNeg) = (I 143 ((84 : Int32) + v4).toNatClampNeg))))) = (1 : Int32) from x_bi_t ⟨c_3, (Or.inr (Or.inr c_10))⟩]) J
set_option maxRecDepth 20000 in
theorem r_M_areAsSeen_0 {E : XE} {d : Nat} {I : Nat → Nat → Int32} {Q : Option Value → (Nat → Nat → Int32) → Prop} (hd : 1 ≤ d) (a1 : Int32)
    (H : x_P E d 165 4 [.ref 142, .int a1, .int (1 : Int32), .int (0 : Int32)] [] I Q) :
    x_P E d 165 0 [.ref 142, .int a1, x_jk, x_jk] [] I Q := by
  refine wp_iconst (v := (1 : Int32)) rfl (by decide) ?_
  refine wp_istore_n (L' := [.ref 142, .int a1, .int (1 : Int32), x_jk]) rfl rfl (by decide) rfl rfl ?_
  refine wp_iconst (v := (0 : Int32)) rfl (by decide) ?_
  refine wp_istore_n (L' := [.ref 142, .int a1, .int (1 : Int32), .int (0 : Int32)]) rfl rfl (by decide) rfl rfl ?_
  exact H
set_option maxRecDepth 20000 in
theorem r_M_areAsSeen_4 {E : XE} {d : Nat} {I : Nat → Nat → Int32} {Q : Option Value → (Nat → Nat → Int32) → Prop} (hd : 1 ≤ d) (v1 : Int32) (v2 : Int32) (v3 : Int32)
    (H : (((20 : Int32) < v3 → x_K E (d - 1) 113 [.ref 142] I (fun v I2 => x_P E d 165 21 [x_jk, x_jk, .int v2, x_jk] (v.toList ++ []) I2 Q)) ∧ (¬ ((20 : Int32) < v3) → ((v2 = 0 → x_K E (d - 1) 113 [.ref 142] I (fun v I2 => x_P E d 165 21 [x_jk, x_jk, .int v2, x_jk] (v.toList ++ []) I2 Q)) ∧ (¬ (v2 = 0) → x_K E (d - 1) 164 [.ref 142, .int v1, .int v3] I (fun v I2 => x_P E d 165 13 [.ref 142, .int v1, x_jk, .int v3] (v.toList ++ []) I2 Q)))))) :
    x_P E d 165 4 [.ref 142, .int v1, .int v2, .int v3] [] I Q := by
  refine wp_iload_n rfl rfl rfl ?_
  refine wp_bipush (v := (20 : Int32)) rfl (by decide) ?_
  refine wp_icmp_gt rfl (fun c_1 => ?_) (fun c_1 => ?_)
  · replace H := H.1 c_1
    refine wp_aload_n rfl rfl rfl ?_
    refine s_invV (As := []) (d1 := d - 1) rfl ⟨by decide, by decide⟩ rfl rfl rfl (Nat.le_of_ble_eq_true rfl) (by omega) (kd_142 _) (by decide) rfl rfl H ?_
    intro v I2 h2
    exact x_P.weak (L := [x_jk, x_jk, .int v2, x_jk]) (by exact ⟨Or.inl rfl, ⟨Or.inl rfl, ⟨Or.inr rfl, ⟨Or.inl rfl, trivial⟩⟩⟩⟩) h2
  · replace H := H.2 c_1
    refine wp_iload_n rfl rfl rfl ?_
    refine wp_if_eq rfl (fun c_2 => ?_) (fun c_2 => ?_)
    · replace H := H.1 c_2
      refine wp_aload_n rfl rfl rfl ?_
      refine s_invV (As := []) (d1 := d - 1) rfl ⟨by decide, by decide⟩ rfl rfl rfl (Nat.le_of_ble_eq_true rfl) (by omega) (kd_142 _) (by decide) rfl rfl H ?_
      intro v I2 h2
      exact x_P.weak (L := [x_jk, x_jk, .int v2, x_jk]) (by exact ⟨Or.inl rfl, ⟨Or.inl rfl, ⟨Or.inr rfl, ⟨Or.inl rfl, trivial⟩⟩⟩⟩) h2
    · replace H := H.2 c_2
      refine wp_aload_n rfl rfl rfl ?_
      refine wp_iload_n rfl rfl rfl ?_
      refine wp_iload_n rfl rfl rfl ?_
      refine s_invV (As := [.int v1, .int v3]) (d1 := d - 1) rfl ⟨by decide, by decide⟩ rfl rfl rfl (Nat.le_of_ble_eq_true rfl) (by omega) (kd_142 _) (by decide) rfl rfl H ?_
      intro v I2 h2
      exact x_P.weak (L := [.ref 142, .int v1, x_jk, .int v3]) (by exact ⟨Or.inr rfl, ⟨Or.inr rfl, ⟨Or.inl rfl, ⟨Or.inr rfl, trivial⟩⟩⟩⟩) h2
set_option maxRecDepth 20000 in
theorem r_M_areAsSeen_13 {E : XE} {d : Nat} {I : Nat → Nat → Int32} {Q : Option Value → (Nat → Nat → Int32) → Prop} (hd : 1 ≤ d) (v1 : Int32) (v3 : Int32) (w : Int32)
    (H : x_K E (d - 1) 151 [.ref 142, .int v1] I (fun v I2 => x_P E d 165 17 [.ref 142, .int v1, .int w, .int v3] (v.toList ++ []) I2 Q)) :
    x_P E d 165 13 [.ref 142, .int v1, x_jk, .int v3] [.int w] I Q := by
  refine wp_istore_n (L' := [.ref 142, .int v1, .int w, .int v3]) rfl rfl (by decide) rfl rfl ?_
  refine wp_aload_n rfl rfl rfl ?_
  refine wp_iload_n rfl rfl rfl ?_
  refine s_invV (As := [.int v1]) (d1 := d - 1) rfl ⟨by decide, by decide⟩ rfl rfl rfl (Nat.le_of_ble_eq_true rfl) (by omega) (kd_142 _) (by decide) rfl rfl H ?_
  intro v I2 h2
  exact h2
set_option maxRecDepth 20000 in
theorem r_M_areAsSeen_21 {E : XE} {d : Nat} {I : Nat → Nat → Int32} {Q : Option Value → (Nat → Nat → Int32) → Prop} (hd : 1 ≤ d) (v2 : Int32)
    (H : (narrow .boolean (.int v2) = .int v2) ∧ Q (some (.int v2)) I) :
    x_P E d 165 21 [x_jk, x_jk, .int v2, x_jk] [] I Q := by
  refine wp_iload_n rfl rfl rfl ?_
  obtain ⟨o_1, H⟩ := H
  exact s_iret rfl rfl o_1 H
set_option maxRecDepth 20000 in
theorem r_M_areAsSeen_17 {E : XE} {d : Nat} {I : Nat → Nat → Int32} {Q : Option Value → (Nat → Nat → Int32) → Prop} (hd : 1 ≤ d) (v1 : Int32) (v2 : Int32) (v3 : Int32)
    (H : x_P E d 165 4 [.ref 142, .int v1, .int v2, .int (v3 + 1)] [] I Q) :
    x_P E d 165 17 [.ref 142, .int v1, .int v2, .int v3] [] I Q := by
  refine wp_iinc (v := v3 + 1) (L' := [.ref 142, .int v1, .int v2, .int (v3 + 1)]) rfl rfl rfl rfl rfl ?_
  refine wp_goto rfl ?_
  exact H
set_option maxRecDepth 20000 in
theorem r_M_fitting_0 {E : XE} {d : Nat} {I : Nat → Nat → Int32} {Q : Option Value → (Nat → Nat → Int32) → Prop} (hd : 1 ≤ d) (a1 : Int32) (a2 : Int32) (a3 : Int32) (a4 : Int32)
    (H : (vp_in a2 931) ∧ x_P E d 166 11 [.ref 142, .int a1, .int a2, x_jk, .int a4, .int (I 143 a2.toNatClampNeg), .int (0 : Int32), .int (-5 : Int32), .int a3, x_jk] [] I Q) :
    x_P E d 166 0 [.ref 142, .int a1, .int a2, .int a3, .int a4, x_jk, x_jk, x_jk, x_jk, x_jk] [] I Q := by
  refine wp_aload_n rfl rfl rfl ?_
  refine wp_getR (v := .ref 143) rfl (by decide) (kd_142 _) rfl (kr_142_1 _) ?_
  refine wp_iload_n rfl rfl rfl ?_
  obtain ⟨o_1, H⟩ := H
  refine s_iald rfl (kd_143 _) o_1 ?_
  refine wp_istore (L' := [.ref 142, .int a1, .int a2, .int a3, .int a4, .int (I 143 a2.toNatClampNeg), x_jk, x_jk, x_jk, x_jk]) rfl (by decide) rfl rfl ?_
  refine wp_iconst (v := (0 : Int32)) rfl (by decide) ?_
  refine wp_istore (L' := [.ref 142, .int a1, .int a2, .int a3, .int a4, .int (I 143 a2.toNatClampNeg), .int (0 : Int32), x_jk, x_jk, x_jk]) rfl (by decide) rfl rfl ?_
  refine wp_bipush (v := (-5 : Int32)) rfl (by decide) ?_
  refine wp_istore (L' := [.ref 142, .int a1, .int a2, .int a3, .int a4, .int (I 143 a2.toNatClampNeg), .int (0 : Int32), .int (-5 : Int32), x_jk, x_jk]) rfl (by decide) rfl rfl ?_
  refine wp_iload_n rfl rfl rfl ?_
  refine wp_istore (L' := [.ref 142, .int a1, .int a2, .int a3, .int a4, .int (I 143 a2.toNatClampNeg), .int (0 : Int32), .int (-5 : Int32), .int a3, x_jk]) rfl (by decide) rfl rfl ?_
  exact x_P.weak (L := [.ref 142, .int a1, .int a2, x_jk, .int a4, .int (I 143 a2.toNatClampNeg), .int (0 : Int32), .int (-5 : Int32), .int a3, x_jk]) (by exact ⟨Or.inr rfl, ⟨Or.inr rfl, ⟨Or.inr rfl, ⟨Or.inl rfl, ⟨Or.inr rfl, ⟨Or.inr rfl, ⟨Or.inr rfl, ⟨Or.inr rfl, ⟨Or.inr rfl, ⟨Or.inr rfl, trivial⟩⟩⟩⟩⟩⟩⟩⟩⟩⟩) H
set_option maxRecDepth 20000 in
theorem r_M_fitting_11 {E : XE} {d : Nat} {I : Nat → Nat → Int32} {Q : Option Value → (Nat → Nat → Int32) → Prop} (hd : 1 ≤ d) (v1 : Int32) (v2 : Int32) (v4 : Int32) (v5 : Int32) (v6 : Int32) (v7 : Int32) (v8 : Int32)
    (H : ((v8 < 0 → (vp_in v2 931) ∧ (∀ I_3, I_3 = x_up I 143 v2.toNatClampNeg v5 → Q (some (.int (if v4 = 0 then v6 else v7))) I_3)) ∧ (¬ (v8 < 0) → x_K E (d - 1) 112 [.ref 142] I (fun v I2 => x_P E d 166 15 [.ref 142, .int v1, .int v2, x_jk, .int v4, .int v5, .int v6, .int v7, .int v8, x_jk] (v.toList ++ []) I2 Q)))) :
    x_P E d 166 11 [.ref 142, .int v1, .int v2, x_jk, .int v4, .int v5, .int v6, .int v7, .int v8, x_jk] [] I Q := by
  refine wp_iload rfl rfl ?_
  refine wp_if_lt rfl (fun c_1 => ?_) (fun c_1 => ?_)
  · replace H := H.1 c_1
    refine wp_aload_n rfl rfl rfl ?_
    refine wp_getR (v := .ref 143) rfl (by decide) (kd_142 _) rfl (kr_142_1 _) ?_
    refine wp_iload_n rfl rfl rfl ?_
    refine wp_iload rfl rfl ?_
    obtain ⟨o_2, H⟩ := H
    refine s_iast rfl (kd_143 _) o_2 ?_
    generalize hI_3 : x_up I 143 v2.toNatClampNeg v5 = I_3
    replace H := H _ hI_3.symm
    refine wp_iload rfl rfl ?_
    have J : x_P E d 166 50 [.ref 142, .int v1, .int v2, x_jk, .int v4, .int v5, .int v6, .int v7, .int v8, x_jk] [.int (if v4 = 0 then v6 else v7)] I_3 Q := by
      exact s_iret rfl rfl rfl H
    refine wp_if_ne rfl (fun c_4 => ?_) (fun c_4 => ?_)
    · refine wp_iload rfl rfl ?_
      exact x_P.cong rfl (by rw [show (if v4 = 0 then v6 else v7) = v7 from by simp only [if_neg c_4]]) J
    · refine wp_iload rfl rfl ?_
      refine wp_goto rfl ?_
      exact x_P.cong rfl (by rw [show (if v4 = 0 then v6 else v7) = v6 from by simp only [if_pos c_4]]) J
  · replace H := H.2 c_1
    refine wp_aload_n rfl rfl rfl ?_
    refine s_invV (As := []) (d1 := d - 1) rfl ⟨by decide, by decide⟩ rfl rfl rfl (Nat.le_of_ble_eq_true rfl) (by omega) (kd_142 _) (by decide) rfl rfl H ?_
    intro v I2 h2
    exact h2
set_option maxRecDepth 20000 in
theorem r_M_fitting_15 {E : XE} {d : Nat} {I : Nat → Nat → Int32} {Q : Option Value → (Nat → Nat → Int32) → Prop} (hd : 1 ≤ d) (v1 : Int32) (v2 : Int32) (v4 : Int32) (v5 : Int32) (v6 : Int32) (v7 : Int32) (v8 : Int32)
    (H : (vp_in v2 931) ∧ (∀ I_2, I_2 = x_up I 143 v2.toNatClampNeg v8 → x_K E (d - 1) 165 [.ref 142, .int v1] I_2 (fun v I2 => x_P E d 166 23 [.ref 142, .int v1, .int v2, x_jk, .int v4, .int v5, .int v6, .int v7, .int v8, x_jk] (v.toList ++ []) I2 Q))) :
    x_P E d 166 15 [.ref 142, .int v1, .int v2, x_jk, .int v4, .int v5, .int v6, .int v7, .int v8, x_jk] [] I Q := by
  refine wp_aload_n rfl rfl rfl ?_
  refine wp_getR (v := .ref 143) rfl (by decide) (kd_142 _) rfl (kr_142_1 _) ?_
  refine wp_iload_n rfl rfl rfl ?_
  refine wp_iload rfl rfl ?_
  obtain ⟨o_1, H⟩ := H
  refine s_iast rfl (kd_143 _) o_1 ?_
  generalize hI_2 : x_up I 143 v2.toNatClampNeg v8 = I_2
  replace H := H _ hI_2.symm
  refine wp_aload_n rfl rfl rfl ?_
  refine wp_iload_n rfl rfl rfl ?_
  refine s_invV (As := [.int v1]) (d1 := d - 1) rfl ⟨by decide, by decide⟩ rfl rfl rfl (Nat.le_of_ble_eq_true rfl) (by omega) (kd_142 _) (by decide) rfl rfl H ?_
  intro v I2 h2
  exact h2
set_option maxRecDepth 20000 in
theorem r_M_fitting_23 {E : XE} {d : Nat} {I : Nat → Nat → Int32} {Q : Option Value → (Nat → Nat → Int32) → Prop} (hd : 1 ≤ d) (v1 : Int32) (v2 : Int32) (v4 : Int32) (v5 : Int32) (v6 : Int32) (v7 : Int32) (v8 : Int32) (w : Int32)
    (H : x_P E d 166 11 [.ref 142, .int v1, .int v2, x_jk, .int v4, .int v5, .int (v6 + (x_bi (¬ (w = 0)))), .int (if w = 0 then v7 else v8), .int (v8 + (-1)), x_jk] [] I Q) :
    x_P E d 166 23 [.ref 142, .int v1, .int v2, x_jk, .int v4, .int v5, .int v6, .int v7, .int v8, x_jk] [.int w] I Q := by
  refine wp_istore (L' := [.ref 142, .int v1, .int v2, x_jk, .int v4, .int v5, .int v6, .int v7, .int v8, .int w]) rfl (by decide) rfl rfl ?_
  refine wp_iload rfl rfl ?_
  refine wp_iload rfl rfl ?_
  have J : x_P E d 166 30 [.ref 142, .int v1, .int v2, x_jk, .int v4, .int v5, .int v6, .int v7, .int v8, .int w] [.int (x_bi (¬ (w = 0))), .int v6] I Q := by
    refine wp_iadd rfl ?_
    refine wp_istore (L' := [.ref 142, .int v1, .int v2, x_jk, .int v4, .int v5, .int (v6 + (x_bi (¬ (w = 0)))), .int v7, .int v8, .int w]) rfl (by decide) rfl rfl ?_
    refine wp_iload rfl rfl ?_
    have J : x_P E d 166 37 [.ref 142, .int v1, .int v2, x_jk, .int v4, .int v5, .int (v6 + (x_bi (¬ (w = 0)))), .int v7, .int v8, .int w] [.int (if w = 0 then v7 else v8)] I Q := by
      refine wp_istore (L' := [.ref 142, .int v1, .int v2, x_jk, .int v4, .int v5, .int (v6 + (x_bi (¬ (w = 0)))), .int (if w = 0 then v7 else v8), .int v8, .int w]) rfl (by decide) rfl rfl ?_
      refine wp_iinc (v := v8 + (-1)) (L' := [.ref 142, .int v1, .int v2, x_jk, .int v4, .int v5, .int (v6 + (x_bi (¬ (w = 0)))), .int (if w = 0 then v7 else v8), .int (v8 + (-1)), .int w]) rfl rfl rfl rfl rfl ?_
      refine wp_goto rfl ?_
      exact x_P.weak (L := [.ref 142, .int v1, .int v2, x_jk, .int v4, .int v5, .int (v6 + (x_bi (¬ (w = 0)))), .int (if w = 0 then v7 else v8), .int (v8 + (-1)), x_jk]) (by exact ⟨Or.inr rfl, ⟨Or.inr rfl, ⟨Or.inr rfl, ⟨Or.inr rfl, ⟨Or.inr rfl, ⟨Or.inr rfl, ⟨Or.inr rfl, ⟨Or.inr rfl, ⟨Or.inr rfl, ⟨Or.inl rfl, trivial⟩⟩⟩⟩⟩⟩⟩⟩⟩⟩) H
    refine wp_if_eq rfl (fun c_2 => ?_) (fun c_2 => ?_)
    · refine wp_iload rfl rfl ?_
      exact x_P.cong rfl (by rw [show (if w = 0 then v7 else v8) = v7 from by simp only [if_pos c_2]]) J
    · refine wp_iload rfl rfl ?_
      refine wp_goto rfl ?_
      exact x_P.cong rfl (by rw [show (if w = 0 then v7 else v8) = v8 from by simp only [if_neg c_2]]) J
  refine wp_if_eq rfl (fun c_1 => ?_) (fun c_1 => ?_)
  · refine wp_iconst (v := (0 : Int32)) rfl (by decide) ?_
    exact x_P.cong rfl (by rw [show x_bi (¬ (w = 0)) = (0 : Int32) from x_bi_f (fun h => h c_1)]) J
  · refine wp_iconst (v := (1 : Int32)) rfl (by decide) ?_
    refine wp_goto rfl ?_
    exact x_P.cong rfl (by rw [show x_bi (¬ (w = 0)) = (1 : Int32) from x_bi_t c_1]) J
set_option maxRecDepth 20000 in
theorem r_M_highs_0 {E : XE} {d : Nat} {I : Nat → Nat → Int32} {Q : Option Value → (Nat → Nat → Int32) → Prop} (hd : 3 ≤ d) (a1 : Int32) (a2 : Int32)
    (H : ((0 ≤ a1 ∧ a1 ≤ (I 143 31) - 1 → (((0 : Int32) ≤ a2 ∧ a2 ≤ (1 : Int32) → x_K E (d - 1) 166 [.ref 142, .int a1, .int ((7 : Int32) + a1), .int (99 : Int32), .int a2] I (fun v I2 => x_P E d 167 17 [x_jk, x_jk, x_jk] (v.toList ++ []) I2 Q)) ∧ (¬ ((0 : Int32) ≤ a2 ∧ a2 ≤ (1 : Int32)) → Q (some (.int (-1 : Int32))) I))) ∧ (¬ (0 ≤ a1 ∧ a1 ≤ (I 143 31) - 1) → Q (some (.int (-1 : Int32))) I))) :
    x_P E d 167 0 [.ref 142, .int a1, .int a2] [] I Q := by
  refine wp_aload_n rfl rfl rfl ?_
  refine wp_iload_n rfl rfl rfl ?_
  refine s_invVP (As := [.int a1]) (d1 := d - 1) rfl ⟨by decide, by decide⟩ rfl rfl rfl (Nat.le_of_ble_eq_true rfl) (by omega) (kd_142 _) (by decide) rfl rfl (p_isMan (by omega)) ?_
  refine s_bi_eq rfl (fun c_1 => ?_) (fun c_1 => ?_)
  · replace H := H.2 c_1
    refine wp_iconst (v := (-1 : Int32)) rfl (by decide) ?_
    exact s_iret rfl rfl rfl H
  · replace H := H.1 c_1
    refine wp_iload_n rfl rfl rfl ?_
    refine wp_iconst (v := (0 : Int32)) rfl (by decide) ?_
    refine wp_iconst (v := (1 : Int32)) rfl (by decide) ?_
    refine s_invStP (As := [.int a2, .int (0 : Int32), .int (1 : Int32)]) (d1 := d - 1) rfl ⟨by decide, by decide⟩ rfl rfl rfl (Nat.le_of_ble_eq_true rfl) (by omega) (p_in (by omega)) ?_
    refine s_bi_eq rfl (fun c_2 => ?_) (fun c_2 => ?_)
    · replace H := H.2 c_2
      refine wp_iconst (v := (-1 : Int32)) rfl (by decide) ?_
      exact s_iret rfl rfl rfl H
    · replace H := H.1 c_2
      refine wp_aload_n rfl rfl rfl ?_
      refine wp_iload_n rfl rfl rfl ?_
      refine wp_bipush (v := (7 : Int32)) rfl (by decide) ?_
      refine wp_iload_n rfl rfl rfl ?_
      refine wp_iadd rfl ?_
      refine wp_bipush (v := (99 : Int32)) rfl (by decide) ?_
      refine wp_iload_n rfl rfl rfl ?_
      refine s_invV (As := [.int a1, .int ((7 : Int32) + a1), .int (99 : Int32), .int a2]) (d1 := d - 1) rfl ⟨by decide, by decide⟩ rfl rfl rfl (Nat.le_of_ble_eq_true rfl) (by omega) (kd_142 _) (by decide) rfl rfl H ?_
      intro v I2 h2
      exact x_P.weak (L := [x_jk, x_jk, x_jk]) (by exact ⟨Or.inl rfl, ⟨Or.inl rfl, ⟨Or.inl rfl, trivial⟩⟩⟩) h2
set_option maxRecDepth 20000 in
theorem r_M_highs_17 {E : XE} {d : Nat} {I : Nat → Nat → Int32} {Q : Option Value → (Nat → Nat → Int32) → Prop} (hd : 1 ≤ d) (w : Int32)
    (H : Q (some (.int w)) I) :
    x_P E d 167 17 [x_jk, x_jk, x_jk] [.int w] I Q := by
  refine wp_goto rfl ?_
  exact s_iret rfl rfl rfl H
set_option maxRecDepth 20000 in
theorem r_M_firm_0 {E : XE} {d : Nat} {I : Nat → Nat → Int32} {Q : Option Value → (Nat → Nat → Int32) → Prop} (hd : 3 ≤ d) (a1 : Int32) (a2 : Int32)
    (H : ((0 ≤ a1 ∧ a1 ≤ (I 143 31) - 1 → (((0 : Int32) ≤ a2 ∧ a2 ≤ (1 : Int32) → x_K E (d - 1) 166 [.ref 142, .int a1, .int ((44 : Int32) + a1), .int (9 : Int32), .int a2] I (fun v I2 => x_P E d 168 17 [x_jk, x_jk, x_jk] (v.toList ++ []) I2 Q)) ∧ (¬ ((0 : Int32) ≤ a2 ∧ a2 ≤ (1 : Int32)) → Q (some (.int (-1 : Int32))) I))) ∧ (¬ (0 ≤ a1 ∧ a1 ≤ (I 143 31) - 1) → Q (some (.int (-1 : Int32))) I))) :
    x_P E d 168 0 [.ref 142, .int a1, .int a2] [] I Q := by
  refine wp_aload_n rfl rfl rfl ?_
  refine wp_iload_n rfl rfl rfl ?_
  refine s_invVP (As := [.int a1]) (d1 := d - 1) rfl ⟨by decide, by decide⟩ rfl rfl rfl (Nat.le_of_ble_eq_true rfl) (by omega) (kd_142 _) (by decide) rfl rfl (p_isMan (by omega)) ?_
  refine s_bi_eq rfl (fun c_1 => ?_) (fun c_1 => ?_)
  · replace H := H.2 c_1
    refine wp_iconst (v := (-1 : Int32)) rfl (by decide) ?_
    exact s_iret rfl rfl rfl H
  · replace H := H.1 c_1
    refine wp_iload_n rfl rfl rfl ?_
    refine wp_iconst (v := (0 : Int32)) rfl (by decide) ?_
    refine wp_iconst (v := (1 : Int32)) rfl (by decide) ?_
    refine s_invStP (As := [.int a2, .int (0 : Int32), .int (1 : Int32)]) (d1 := d - 1) rfl ⟨by decide, by decide⟩ rfl rfl rfl (Nat.le_of_ble_eq_true rfl) (by omega) (p_in (by omega)) ?_
    refine s_bi_eq rfl (fun c_2 => ?_) (fun c_2 => ?_)
    · replace H := H.2 c_2
      refine wp_iconst (v := (-1 : Int32)) rfl (by decide) ?_
      exact s_iret rfl rfl rfl H
    · replace H := H.1 c_2
      refine wp_aload_n rfl rfl rfl ?_
      refine wp_iload_n rfl rfl rfl ?_
      refine wp_bipush (v := (44 : Int32)) rfl (by decide) ?_
      refine wp_iload_n rfl rfl rfl ?_
      refine wp_iadd rfl ?_
      refine wp_bipush (v := (9 : Int32)) rfl (by decide) ?_
      refine wp_iload_n rfl rfl rfl ?_
      refine s_invV (As := [.int a1, .int ((44 : Int32) + a1), .int (9 : Int32), .int a2]) (d1 := d - 1) rfl ⟨by decide, by decide⟩ rfl rfl rfl (Nat.le_of_ble_eq_true rfl) (by omega) (kd_142 _) (by decide) rfl rfl H ?_
      intro v I2 h2
      exact x_P.weak (L := [x_jk, x_jk, x_jk]) (by exact ⟨Or.inl rfl, ⟨Or.inl rfl, ⟨Or.inl rfl, trivial⟩⟩⟩) h2
set_option maxRecDepth 20000 in
theorem r_M_firm_17 {E : XE} {d : Nat} {I : Nat → Nat → Int32} {Q : Option Value → (Nat → Nat → Int32) → Prop} (hd : 1 ≤ d) (w : Int32)
    (H : Q (some (.int w)) I) :
    x_P E d 168 17 [x_jk, x_jk, x_jk] [.int w] I Q := by
  refine wp_goto rfl ?_
  exact s_iret rfl rfl rfl H
set_option maxRecDepth 20000 in
theorem r_M_lowest_0 {E : XE} {d : Nat} {I : Nat → Nat → Int32} {Q : Option Value → (Nat → Nat → Int32) → Prop} (hd : 1 ≤ d) (a0 : Int64) (a2 : Int64) (a4 : Int32)
    (H : ((0 ≤ (lg_cmp a0 (0 : Int64)) → x_P E d 169 11 [.long a0, x_jk, .long a2, x_jk, .int a4, .long a0, x_jk, .long a2, x_jk, x_jk, x_jk] [] I Q) ∧ (¬ (0 ≤ (lg_cmp a0 (0 : Int64))) → x_P E d 169 11 [.long a0, x_jk, .long a2, x_jk, .int a4, .long (-a0), x_jk, .long a2, x_jk, x_jk, x_jk] [] I Q))) :
    x_P E d 169 0 [.long a0, x_jk, .long a2, x_jk, .int a4, x_jk, x_jk, x_jk, x_jk, x_jk, x_jk] [] I Q := by
  refine wp_lload_n rfl rfl rfl ?_
  refine wp_lconst (v := (0 : Int64)) rfl (by decide) ?_
  refine wp_lcmp rfl ?_
  refine wp_if_ge rfl (fun c_1 => ?_) (fun c_1 => ?_)
  · replace H := H.1 c_1
    refine wp_lload_n rfl rfl rfl ?_
    refine wp_lstore (L' := [.long a0, x_jk, .long a2, x_jk, .int a4, .long a0, x_jk, x_jk, x_jk, x_jk, x_jk]) rfl (by decide) rfl rfl ?_
    refine wp_lload_n rfl rfl rfl ?_
    refine wp_lstore (L' := [.long a0, x_jk, .long a2, x_jk, .int a4, .long a0, x_jk, .long a2, x_jk, x_jk, x_jk]) rfl (by decide) rfl rfl ?_
    exact H
  · replace H := H.2 c_1
    refine wp_lload_n rfl rfl rfl ?_
    refine wp_lneg rfl ?_
    refine wp_goto rfl ?_
    refine wp_lstore (L' := [.long a0, x_jk, .long a2, x_jk, .int a4, .long (-a0), x_jk, x_jk, x_jk, x_jk, x_jk]) rfl (by decide) rfl rfl ?_
    refine wp_lload_n rfl rfl rfl ?_
    refine wp_lstore (L' := [.long a0, x_jk, .long a2, x_jk, .int a4, .long (-a0), x_jk, .long a2, x_jk, x_jk, x_jk]) rfl (by decide) rfl rfl ?_
    exact H
set_option maxRecDepth 20000 in
theorem r_M_lowest_11 {E : XE} {d : Nat} {I : Nat → Nat → Int32} {Q : Option Value → (Nat → Nat → Int32) → Prop} (hd : 1 ≤ d) (v0 : Int64) (v2 : Int64) (v4 : Int32) (v5 : Int64) (v7 : Int64)
    (H : (((lg_cmp v7 (0 : Int64)) = 0 → ((v4 = 0 → (¬ v5 = 0) ∧ Q (some (.long (v0 / v5))) I) ∧ (¬ (v4 = 0) → (¬ v5 = 0) ∧ Q (some (.long (v2 / v5))) I))) ∧ (¬ ((lg_cmp v7 (0 : Int64)) = 0) → (¬ v7 = 0) ∧ x_P E d 169 11 [.long v0, x_jk, .long v2, x_jk, .int v4, .long v7, x_jk, .long (v5 - v5 / v7 * v7), x_jk, x_jk, x_jk] [] I Q))) :
    x_P E d 169 11 [.long v0, x_jk, .long v2, x_jk, .int v4, .long v5, x_jk, .long v7, x_jk, x_jk, x_jk] [] I Q := by
  refine wp_lload rfl rfl ?_
  refine wp_lconst (v := (0 : Int64)) rfl (by decide) ?_
  refine wp_lcmp rfl ?_
  refine wp_if_eq rfl (fun c_1 => ?_) (fun c_1 => ?_)
  · replace H := H.1 c_1
    refine wp_iload rfl rfl ?_
    refine wp_if_ne rfl (fun c_2 => ?_) (fun c_2 => ?_)
    · replace H := H.2 c_2
      refine wp_lload_n rfl rfl rfl ?_
      refine wp_lload rfl rfl ?_
      obtain ⟨o_3, H⟩ := H
      refine wp_ldiv rfl o_3 ?_
      exact s_lret rfl rfl H
    · replace H := H.1 c_2
      refine wp_lload_n rfl rfl rfl ?_
      refine wp_goto rfl ?_
      refine wp_lload rfl rfl ?_
      obtain ⟨o_4, H⟩ := H
      refine wp_ldiv rfl o_4 ?_
      exact s_lret rfl rfl H
  · replace H := H.2 c_1
    refine wp_lload rfl rfl ?_
    refine wp_lload rfl rfl ?_
    obtain ⟨o_5, H⟩ := H
    refine wp_lrem rfl o_5 ?_
    refine wp_lstore (L' := [.long v0, x_jk, .long v2, x_jk, .int v4, .long v5, x_jk, .long v7, x_jk, .long (v5 - v5 / v7 * v7), x_jk]) rfl (by decide) rfl rfl ?_
    refine wp_lload rfl rfl ?_
    refine wp_lstore (L' := [.long v0, x_jk, .long v2, x_jk, .int v4, .long v7, x_jk, .long v7, x_jk, .long (v5 - v5 / v7 * v7), x_jk]) rfl (by decide) rfl rfl ?_
    refine wp_lload rfl rfl ?_
    refine wp_lstore (L' := [.long v0, x_jk, .long v2, x_jk, .int v4, .long v7, x_jk, .long (v5 - v5 / v7 * v7), x_jk, .long (v5 - v5 / v7 * v7), x_jk]) rfl (by decide) rfl rfl ?_
    refine wp_goto rfl ?_
    exact x_P.weak (L := [.long v0, x_jk, .long v2, x_jk, .int v4, .long v7, x_jk, .long (v5 - v5 / v7 * v7), x_jk, x_jk, x_jk]) (by exact ⟨Or.inr rfl, ⟨Or.inr rfl, ⟨Or.inr rfl, ⟨Or.inr rfl, ⟨Or.inr rfl, ⟨Or.inr rfl, ⟨Or.inr rfl, ⟨Or.inr rfl, ⟨Or.inr rfl, ⟨Or.inl rfl, ⟨Or.inr rfl, trivial⟩⟩⟩⟩⟩⟩⟩⟩⟩⟩⟩) H
set_option maxRecDepth 20000 in
theorem r_M_odds_0 {E : XE} {d : Nat} {I : Nat → Nat → Int32} {Q : Option Value → (Nat → Nat → Int32) → Prop} (hd : 3 ≤ d) (a1 : Int32) (a2 : Int32) (a3 : Int32)
    (H : ((0 ≤ a1 ∧ a1 ≤ (I 143 31) - 1 → (((0 : Int32) ≤ a2 ∧ a2 ≤ (60 : Int32) → (((0 : Int32) ≤ a3 ∧ a3 ≤ (1 : Int32) → x_P E d 170 20 [.ref 142, .int a1, .int a2, .int a3, .long (0 : Int64), x_jk, .int (0 : Int32), x_jk] [] I Q) ∧ (¬ ((0 : Int32) ≤ a3 ∧ a3 ≤ (1 : Int32)) → Q (some (.long (-9223372036854775808 : Int64))) I))) ∧ (¬ ((0 : Int32) ≤ a2 ∧ a2 ≤ (60 : Int32)) → Q (some (.long (-9223372036854775808 : Int64))) I))) ∧ (¬ (0 ≤ a1 ∧ a1 ≤ (I 143 31) - 1) → Q (some (.long (-9223372036854775808 : Int64))) I))) :
    x_P E d 170 0 [.ref 142, .int a1, .int a2, .int a3, x_jk, x_jk, x_jk, x_jk] [] I Q := by
  refine wp_aload_n rfl rfl rfl ?_
  refine wp_iload_n rfl rfl rfl ?_
  refine s_invVP (As := [.int a1]) (d1 := d - 1) rfl ⟨by decide, by decide⟩ rfl rfl rfl (Nat.le_of_ble_eq_true rfl) (by omega) (kd_142 _) (by decide) rfl rfl (p_isMan (by omega)) ?_
  refine s_bi_eq rfl (fun c_1 => ?_) (fun c_1 => ?_)
  · replace H := H.2 c_1
    refine wp_ldc2 (v := (0, -9223372036854775808)) rfl rfl rfl ?_
    exact s_lret rfl rfl H
  · replace H := H.1 c_1
    refine wp_iload_n rfl rfl rfl ?_
    refine wp_iconst (v := (0 : Int32)) rfl (by decide) ?_
    refine wp_bipush (v := (60 : Int32)) rfl (by decide) ?_
    refine s_invStP (As := [.int a2, .int (0 : Int32), .int (60 : Int32)]) (d1 := d - 1) rfl ⟨by decide, by decide⟩ rfl rfl rfl (Nat.le_of_ble_eq_true rfl) (by omega) (p_in (by omega)) ?_
    refine s_bi_eq rfl (fun c_2 => ?_) (fun c_2 => ?_)
    · replace H := H.2 c_2
      refine wp_ldc2 (v := (0, -9223372036854775808)) rfl rfl rfl ?_
      exact s_lret rfl rfl H
    · replace H := H.1 c_2
      refine wp_iload_n rfl rfl rfl ?_
      refine wp_iconst (v := (0 : Int32)) rfl (by decide) ?_
      refine wp_iconst (v := (1 : Int32)) rfl (by decide) ?_
      refine s_invStP (As := [.int a3, .int (0 : Int32), .int (1 : Int32)]) (d1 := d - 1) rfl ⟨by decide, by decide⟩ rfl rfl rfl (Nat.le_of_ble_eq_true rfl) (by omega) (p_in (by omega)) ?_
      refine s_bi_ne rfl (fun c_3 => ?_) (fun c_3 => ?_)
      · replace H := H.1 c_3
        refine wp_lconst (v := (0 : Int64)) rfl (by decide) ?_
        refine wp_lstore (L' := [.ref 142, .int a1, .int a2, .int a3, .long (0 : Int64), x_jk, x_jk, x_jk]) rfl (by decide) rfl rfl ?_
        refine wp_iconst (v := (0 : Int32)) rfl (by decide) ?_
        refine wp_istore (L' := [.ref 142, .int a1, .int a2, .int a3, .long (0 : Int64), x_jk, .int (0 : Int32), x_jk]) rfl (by decide) rfl rfl ?_
        exact H
      · replace H := H.2 c_3
        refine wp_ldc2 (v := (0, -9223372036854775808)) rfl rfl rfl ?_
        exact s_lret rfl rfl H
set_option maxRecDepth 20000 in
theorem r_M_odds_20 {E : XE} {d : Nat} {I : Nat → Nat → Int32} {Q : Option Value → (Nat → Nat → Int32) → Prop} (hd : 1 ≤ d) (v1 : Int32) (v2 : Int32) (v3 : Int32) (v4 : Int64) (v6 : Int32)
    (H : (((8 : Int32) ≤ v6 → x_K E (d - 1) 169 [.long v4, .long (8 : Int64), .int v3] I (fun v I2 => x_P E d 170 65 [x_jk, x_jk, x_jk, x_jk, x_jk, x_jk, x_jk, x_jk] (v.toList ++ []) I2 Q)) ∧ (¬ ((8 : Int32) ≤ v6) → x_K E (d - 1) 112 [.ref 142] I (fun v I2 => x_P E d 170 25 [.ref 142, .int v1, .int v2, .int v3, .long v4, x_jk, .int v6, x_jk] (v.toList ++ []) I2 Q)))) :
    x_P E d 170 20 [.ref 142, .int v1, .int v2, .int v3, .long v4, x_jk, .int v6, x_jk] [] I Q := by
  refine wp_iload rfl rfl ?_
  refine wp_bipush (v := (8 : Int32)) rfl (by decide) ?_
  refine wp_icmp_ge rfl (fun c_1 => ?_) (fun c_1 => ?_)
  · replace H := H.1 c_1
    refine wp_lload rfl rfl ?_
    refine wp_ldc2 (v := (0, 8)) rfl rfl rfl ?_
    refine wp_iload_n rfl rfl rfl ?_
    refine s_invSt (As := [.long v4, .long (8 : Int64), .int v3]) (d1 := d - 1) rfl ⟨by decide, by decide⟩ rfl rfl rfl (Nat.le_of_ble_eq_true rfl) (by omega) H ?_
    intro v I2 h2
    exact x_P.weak (L := [x_jk, x_jk, x_jk, x_jk, x_jk, x_jk, x_jk, x_jk]) (by exact ⟨Or.inl rfl, ⟨Or.inl rfl, ⟨Or.inl rfl, ⟨Or.inl rfl, ⟨Or.inl rfl, ⟨Or.inr rfl, ⟨Or.inl rfl, ⟨Or.inr rfl, trivial⟩⟩⟩⟩⟩⟩⟩⟩) h2
  · replace H := H.2 c_1
    refine wp_aload_n rfl rfl rfl ?_
    refine s_invV (As := []) (d1 := d - 1) rfl ⟨by decide, by decide⟩ rfl rfl rfl (Nat.le_of_ble_eq_true rfl) (by omega) (kd_142 _) (by decide) rfl rfl H ?_
    intro v I2 h2
    exact h2
set_option maxRecDepth 20000 in
theorem r_M_odds_25 {E : XE} {d : Nat} {I : Nat → Nat → Int32} {Q : Option Value → (Nat → Nat → Int32) → Prop} (hd : 1 ≤ d) (v1 : Int32) (v2 : Int32) (v3 : Int32) (v4 : Int64) (v6 : Int32)
    (H : (vp_in ((1 : Int32) + v1) 931) ∧ (vp_in ((1 : Int32) + v1) 931) ∧ (∀ I_3, I_3 = x_up I 143 ((1 : Int32) + v1).toNatClampNeg ((I 143 ((1 : Int32) + v1).toNatClampNeg) ^^^ ((1 : Int32) <<< (v6 &&& 31))) → x_P E d 170 39 [.ref 142, .int v1, .int v2, .int v3, .long v4, x_jk, .int v6, .int (0 : Int32)] [] I_3 Q)) :
    x_P E d 170 25 [.ref 142, .int v1, .int v2, .int v3, .long v4, x_jk, .int v6, x_jk] [] I Q := by
  refine wp_aload_n rfl rfl rfl ?_
  refine wp_getR (v := .ref 143) rfl (by decide) (kd_142 _) rfl (kr_142_1 _) ?_
  refine wp_iconst (v := (1 : Int32)) rfl (by decide) ?_
  refine wp_iload_n rfl rfl rfl ?_
  refine wp_iadd rfl ?_
  refine wp_dup2 rfl rfl rfl ?_
  obtain ⟨o_1, H⟩ := H
  refine s_iald rfl (kd_143 _) o_1 ?_
  refine wp_iconst (v := (1 : Int32)) rfl (by decide) ?_
  refine wp_iload rfl rfl ?_
  refine wp_ishl rfl ?_
  refine wp_ixor rfl ?_
  obtain ⟨o_2, H⟩ := H
  refine s_iast rfl (kd_143 _) o_2 ?_
  generalize hI_3 : x_up I 143 ((1 : Int32) + v1).toNatClampNeg ((I 143 ((1 : Int32) + v1).toNatClampNeg) ^^^ ((1 : Int32) <<< (v6 &&& 31))) = I_3
  replace H := H _ hI_3.symm
  refine wp_iconst (v := (0 : Int32)) rfl (by decide) ?_
  refine wp_istore (L' := [.ref 142, .int v1, .int v2, .int v3, .long v4, x_jk, .int v6, .int (0 : Int32)]) rfl (by decide) rfl rfl ?_
  exact H
set_option maxRecDepth 20000 in
theorem r_M_odds_65 {E : XE} {d : Nat} {I : Nat → Nat → Int32} {Q : Option Value → (Nat → Nat → Int32) → Prop} (hd : 1 ≤ d) (w : Int64)
    (H : Q (some (.long w)) I) :
    x_P E d 170 65 [x_jk, x_jk, x_jk, x_jk, x_jk, x_jk, x_jk, x_jk] [.long w] I Q := by
  exact s_lret rfl rfl H
set_option maxRecDepth 20000 in
theorem r_M_odds_39 {E : XE} {d : Nat} {I : Nat → Nat → Int32} {Q : Option Value → (Nat → Nat → Int32) → Prop} (hd : 1 ≤ d) (v1 : Int32) (v2 : Int32) (v3 : Int32) (v4 : Int64) (v6 : Int32) (v7 : Int32)
    (H : ((v2 ≤ v7 → (vp_in ((13 : Int32) + v1) 931) ∧ x_K E (d - 1) 113 [.ref 142] I (fun v I2 => x_P E d 170 59 [.ref 142, .int v1, .int v2, .int v3, .long (v4 + ((I 143 ((13 : Int32) + v1).toNatClampNeg).toInt64)), x_jk, .int v6, x_jk] (v.toList ++ []) I2 Q)) ∧ (¬ (v2 ≤ v7) → x_K E (d - 1) 151 [.ref 142, .int v1] I (fun v I2 => x_P E d 170 45 [.ref 142, .int v1, .int v2, .int v3, .long v4, x_jk, .int v6, .int v7] (v.toList ++ []) I2 Q)))) :
    x_P E d 170 39 [.ref 142, .int v1, .int v2, .int v3, .long v4, x_jk, .int v6, .int v7] [] I Q := by
  refine wp_iload rfl rfl ?_
  refine wp_iload_n rfl rfl rfl ?_
  refine wp_icmp_ge rfl (fun c_1 => ?_) (fun c_1 => ?_)
  · replace H := H.1 c_1
    refine wp_lload rfl rfl ?_
    refine wp_aload_n rfl rfl rfl ?_
    refine wp_getR (v := .ref 143) rfl (by decide) (kd_142 _) rfl (kr_142_1 _) ?_
    refine wp_bipush (v := (13 : Int32)) rfl (by decide) ?_
    refine wp_iload_n rfl rfl rfl ?_
    refine wp_iadd rfl ?_
    obtain ⟨o_2, H⟩ := H
    refine s_iald rfl (kd_143 _) o_2 ?_
    refine wp_i2l rfl ?_
    refine wp_ladd rfl ?_
    refine wp_lstore (L' := [.ref 142, .int v1, .int v2, .int v3, .long (v4 + ((I 143 ((13 : Int32) + v1).toNatClampNeg).toInt64)), x_jk, .int v6, .int v7]) rfl (by decide) rfl rfl ?_
    refine wp_aload_n rfl rfl rfl ?_
    refine s_invV (As := []) (d1 := d - 1) rfl ⟨by decide, by decide⟩ rfl rfl rfl (Nat.le_of_ble_eq_true rfl) (by omega) (kd_142 _) (by decide) rfl rfl H ?_
    intro v I2 h2
    exact x_P.weak (L := [.ref 142, .int v1, .int v2, .int v3, .long (v4 + ((I 143 ((13 : Int32) + v1).toNatClampNeg).toInt64)), x_jk, .int v6, x_jk]) (by exact ⟨Or.inr rfl, ⟨Or.inr rfl, ⟨Or.inr rfl, ⟨Or.inr rfl, ⟨Or.inr rfl, ⟨Or.inr rfl, ⟨Or.inr rfl, ⟨Or.inl rfl, trivial⟩⟩⟩⟩⟩⟩⟩⟩) h2
  · replace H := H.2 c_1
    refine wp_aload_n rfl rfl rfl ?_
    refine wp_iload_n rfl rfl rfl ?_
    refine s_invV (As := [.int v1]) (d1 := d - 1) rfl ⟨by decide, by decide⟩ rfl rfl rfl (Nat.le_of_ble_eq_true rfl) (by omega) (kd_142 _) (by decide) rfl rfl H ?_
    intro v I2 h2
    exact h2
set_option maxRecDepth 20000 in
theorem r_M_odds_45 {E : XE} {d : Nat} {I : Nat → Nat → Int32} {Q : Option Value → (Nat → Nat → Int32) → Prop} (hd : 1 ≤ d) (v1 : Int32) (v2 : Int32) (v3 : Int32) (v4 : Int64) (v6 : Int32) (v7 : Int32)
    (H : x_P E d 170 39 [.ref 142, .int v1, .int v2, .int v3, .long v4, x_jk, .int v6, .int (v7 + 1)] [] I Q) :
    x_P E d 170 45 [.ref 142, .int v1, .int v2, .int v3, .long v4, x_jk, .int v6, .int v7] [] I Q := by
  refine wp_iinc (v := v7 + 1) (L' := [.ref 142, .int v1, .int v2, .int v3, .long v4, x_jk, .int v6, .int (v7 + 1)]) rfl rfl rfl rfl rfl ?_
  refine wp_goto rfl ?_
  exact H
set_option maxRecDepth 20000 in
theorem r_M_odds_59 {E : XE} {d : Nat} {I : Nat → Nat → Int32} {Q : Option Value → (Nat → Nat → Int32) → Prop} (hd : 1 ≤ d) (v1 : Int32) (v2 : Int32) (v3 : Int32) (v4 : Int64) (v6 : Int32)
    (H : x_P E d 170 20 [.ref 142, .int v1, .int v2, .int v3, .long v4, x_jk, .int (v6 + 1), x_jk] [] I Q) :
    x_P E d 170 59 [.ref 142, .int v1, .int v2, .int v3, .long v4, x_jk, .int v6, x_jk] [] I Q := by
  refine wp_iinc (v := v6 + 1) (L' := [.ref 142, .int v1, .int v2, .int v3, .long v4, x_jk, .int (v6 + 1), x_jk]) rfl rfl rfl rfl rfl ?_
  refine wp_goto rfl ?_
  exact H
set_option maxRecDepth 20000 in
theorem r_M_mean_0 {E : XE} {d : Nat} {I : Nat → Nat → Int32} {Q : Option Value → (Nat → Nat → Int32) → Prop} (hd : 1 ≤ d) (a1 : Int32)
    (H : x_P E d 171 6 [.ref 142, .int a1, .long (0 : Int64), x_jk, .long (0 : Int64), x_jk, .int (0 : Int32)] [] I Q) :
    x_P E d 171 0 [.ref 142, .int a1, x_jk, x_jk, x_jk, x_jk, x_jk] [] I Q := by
  refine wp_lconst (v := (0 : Int64)) rfl (by decide) ?_
  refine wp_lstore_n (L' := [.ref 142, .int a1, .long (0 : Int64), x_jk, x_jk, x_jk, x_jk]) rfl rfl (by decide) rfl rfl ?_
  refine wp_lconst (v := (0 : Int64)) rfl (by decide) ?_
  refine wp_lstore (L' := [.ref 142, .int a1, .long (0 : Int64), x_jk, .long (0 : Int64), x_jk, x_jk]) rfl (by decide) rfl rfl ?_
  refine wp_iconst (v := (0 : Int32)) rfl (by decide) ?_
  refine wp_istore (L' := [.ref 142, .int a1, .long (0 : Int64), x_jk, .long (0 : Int64), x_jk, .int (0 : Int32)]) rfl (by decide) rfl rfl ?_
  exact H
set_option maxRecDepth 20000 in
theorem r_M_mean_6 {E : XE} {d : Nat} {I : Nat → Nat → Int32} {Q : Option Value → (Nat → Nat → Int32) → Prop} (hd : 2 ≤ d) (v1 : Int32) (v2 : Int64) (v4 : Int64) (v6 : Int32)
    (H : (((I 143 31) ≤ v6 → (((0 : Int32) ≤ v1 ∧ v1 ≤ (1 : Int32) → (((lg_cmp v4 (0 : Int64)) = 0 → Q (some (.long (-9223372036854775808 : Int64))) I) ∧ (¬ ((lg_cmp v4 (0 : Int64)) = 0) → x_K E (d - 1) 169 [.long v2, .long v4, .int v1] I (fun v I2 => x_P E d 171 61 [x_jk, x_jk, x_jk, x_jk, x_jk, x_jk, x_jk] (v.toList ++ []) I2 Q)))) ∧ (¬ ((0 : Int32) ≤ v1 ∧ v1 ≤ (1 : Int32)) → Q (some (.long (-9223372036854775808 : Int64))) I))) ∧ (¬ ((I 143 31) ≤ v6) → (vp_in ((19 : Int32) + v6) 931) ∧ (((I 143 ((19 : Int32) + v6).toNatClampNeg) = 0 → (vp_in ((7 : Int32) + v6) 931) ∧ (vp_in ((19 : Int32) + v6) 931) ∧ (((I 143 ((19 : Int32) + v6).toNatClampNeg) = 0 → x_P E d 171 6 [.ref 142, .int v1, .long (v2 + ((I 143 ((7 : Int32) + v6).toNatClampNeg).toInt64)), x_jk, .long (v4 + (1 : Int64)), x_jk, .int (v6 + 1)] [] I Q) ∧ (¬ ((I 143 ((19 : Int32) + v6).toNatClampNeg) = 0) → x_P E d 171 6 [.ref 142, .int v1, .long (v2 + ((I 143 ((7 : Int32) + v6).toNatClampNeg).toInt64)), x_jk, .long (v4 + (0 : Int64)), x_jk, .int (v6 + 1)] [] I Q))) ∧ (¬ ((I 143 ((19 : Int32) + v6).toNatClampNeg) = 0) → (vp_in ((19 : Int32) + v6) 931) ∧ (((I 143 ((19 : Int32) + v6).toNatClampNeg) = 0 → x_P E d 171 6 [.ref 142, .int v1, .long (v2 + (0 : Int64)), x_jk, .long (v4 + (1 : Int64)), x_jk, .int (v6 + 1)] [] I Q) ∧ (¬ ((I 143 ((19 : Int32) + v6).toNatClampNeg) = 0) → x_P E d 171 6 [.ref 142, .int v1, .long (v2 + (0 : Int64)), x_jk, .long (v4 + (0 : Int64)), x_jk, .int (v6 + 1)] [] I Q))))))) :
    x_P E d 171 6 [.ref 142, .int v1, .long v2, x_jk, .long v4, x_jk, .int v6] [] I Q := by
  refine wp_iload rfl rfl ?_
  refine wp_aload_n rfl rfl rfl ?_
  refine wp_getR (v := .ref 143) rfl (by decide) (kd_142 _) rfl (kr_142_1 _) ?_
  refine wp_bipush (v := (31 : Int32)) rfl (by decide) ?_
  refine s_ialdc (k0 := 31) rfl (kd_143 _) rfl ?_
  refine wp_icmp_ge rfl (fun c_1 => ?_) (fun c_1 => ?_)
  · replace H := H.1 c_1
    refine wp_iload_n rfl rfl rfl ?_
    refine wp_iconst (v := (0 : Int32)) rfl (by decide) ?_
    refine wp_iconst (v := (1 : Int32)) rfl (by decide) ?_
    refine s_invStP (As := [.int v1, .int (0 : Int32), .int (1 : Int32)]) (d1 := d - 1) rfl ⟨by decide, by decide⟩ rfl rfl rfl (Nat.le_of_ble_eq_true rfl) (by omega) (p_in (by omega)) ?_
    refine s_bi_eq rfl (fun c_2 => ?_) (fun c_2 => ?_)
    · replace H := H.2 c_2
      refine wp_ldc2 (v := (0, -9223372036854775808)) rfl rfl rfl ?_
      refine wp_goto rfl ?_
      exact s_lret rfl rfl H
    · replace H := H.1 c_2
      refine wp_lload rfl rfl ?_
      refine wp_lconst (v := (0 : Int64)) rfl (by decide) ?_
      refine wp_lcmp rfl ?_
      refine wp_if_ne rfl (fun c_3 => ?_) (fun c_3 => ?_)
      · replace H := H.2 c_3
        refine wp_lload_n rfl rfl rfl ?_
        refine wp_lload rfl rfl ?_
        refine wp_iload_n rfl rfl rfl ?_
        refine s_invSt (As := [.long v2, .long v4, .int v1]) (d1 := d - 1) rfl ⟨by decide, by decide⟩ rfl rfl rfl (Nat.le_of_ble_eq_true rfl) (by omega) H ?_
        intro v I2 h2
        exact x_P.weak (L := [x_jk, x_jk, x_jk, x_jk, x_jk, x_jk, x_jk]) (by exact ⟨Or.inl rfl, ⟨Or.inl rfl, ⟨Or.inl rfl, ⟨Or.inr rfl, ⟨Or.inl rfl, ⟨Or.inr rfl, ⟨Or.inl rfl, trivial⟩⟩⟩⟩⟩⟩⟩) h2
      · replace H := H.1 c_3
        refine wp_ldc2 (v := (0, -9223372036854775808)) rfl rfl rfl ?_
        refine wp_goto rfl ?_
        exact s_lret rfl rfl H
  · replace H := H.2 c_1
    refine wp_lload_n rfl rfl rfl ?_
    refine wp_aload_n rfl rfl rfl ?_
    refine wp_getR (v := .ref 143) rfl (by decide) (kd_142 _) rfl (kr_142_1 _) ?_
    refine wp_bipush (v := (19 : Int32)) rfl (by decide) ?_
    refine wp_iload rfl rfl ?_
    refine wp_iadd rfl ?_
    obtain ⟨o_4, H⟩ := H
    refine s_iald rfl (kd_143 _) o_4 ?_
    refine wp_if_ne rfl (fun c_5 => ?_) (fun c_5 => ?_)
    · replace H := H.2 c_5
      refine wp_lconst (v := (0 : Int64)) rfl (by decide) ?_
      refine wp_ladd rfl ?_
      refine wp_lstore_n (L' := [.ref 142, .int v1, .long (v2 + (0 : Int64)), x_jk, .long v4, x_jk, .int v6]) rfl rfl (by decide) rfl rfl ?_
      refine wp_lload rfl rfl ?_
      refine wp_aload_n rfl rfl rfl ?_
      refine wp_getR (v := .ref 143) rfl (by decide) (kd_142 _) rfl (kr_142_1 _) ?_
      refine wp_bipush (v := (19 : Int32)) rfl (by decide) ?_
      refine wp_iload rfl rfl ?_
      refine wp_iadd rfl ?_
      obtain ⟨o_6, H⟩ := H
      refine s_iald rfl (kd_143 _) o_6 ?_
      refine wp_if_ne rfl (fun c_7 => ?_) (fun c_7 => ?_)
      · replace H := H.2 c_7
        refine wp_lconst (v := (0 : Int64)) rfl (by decide) ?_
        refine wp_ladd rfl ?_
        refine wp_lstore (L' := [.ref 142, .int v1, .long (v2 + (0 : Int64)), x_jk, .long (v4 + (0 : Int64)), x_jk, .int v6]) rfl (by decide) rfl rfl ?_
        refine wp_iinc (v := v6 + 1) (L' := [.ref 142, .int v1, .long (v2 + (0 : Int64)), x_jk, .long (v4 + (0 : Int64)), x_jk, .int (v6 + 1)]) rfl rfl rfl rfl rfl ?_
        refine wp_goto rfl ?_
        exact H
      · replace H := H.1 c_7
        refine wp_lconst (v := (1 : Int64)) rfl (by decide) ?_
        refine wp_goto rfl ?_
        refine wp_ladd rfl ?_
        refine wp_lstore (L' := [.ref 142, .int v1, .long (v2 + (0 : Int64)), x_jk, .long (v4 + (1 : Int64)), x_jk, .int v6]) rfl (by decide) rfl rfl ?_
        refine wp_iinc (v := v6 + 1) (L' := [.ref 142, .int v1, .long (v2 + (0 : Int64)), x_jk, .long (v4 + (1 : Int64)), x_jk, .int (v6 + 1)]) rfl rfl rfl rfl rfl ?_
        refine wp_goto rfl ?_
        exact H
    · replace H := H.1 c_5
      refine wp_aload_n rfl rfl rfl ?_
      refine wp_getR (v := .ref 143) rfl (by decide) (kd_142 _) rfl (kr_142_1 _) ?_
      refine wp_bipush (v := (7 : Int32)) rfl (by decide) ?_
      refine wp_iload rfl rfl ?_
      refine wp_iadd rfl ?_
      obtain ⟨o_8, H⟩ := H
      refine s_iald rfl (kd_143 _) o_8 ?_
      refine wp_i2l rfl ?_
      refine wp_goto rfl ?_
      refine wp_ladd rfl ?_
      refine wp_lstore_n (L' := [.ref 142, .int v1, .long (v2 + ((I 143 ((7 : Int32) + v6).toNatClampNeg).toInt64)), x_jk, .long v4, x_jk, .int v6]) rfl rfl (by decide) rfl rfl ?_
      refine wp_lload rfl rfl ?_
      refine wp_aload_n rfl rfl rfl ?_
      refine wp_getR (v := .ref 143) rfl (by decide) (kd_142 _) rfl (kr_142_1 _) ?_
      refine wp_bipush (v := (19 : Int32)) rfl (by decide) ?_
      refine wp_iload rfl rfl ?_
      refine wp_iadd rfl ?_
      obtain ⟨o_9, H⟩ := H
      refine s_iald rfl (kd_143 _) o_9 ?_
      refine wp_if_ne rfl (fun c_10 => ?_) (fun c_10 => ?_)
      · replace H := H.2 c_10
        refine wp_lconst (v := (0 : Int64)) rfl (by decide) ?_
        refine wp_ladd rfl ?_
        refine wp_lstore (L' := [.ref 142, .int v1, .long (v2 + ((I 143 ((7 : Int32) + v6).toNatClampNeg).toInt64)), x_jk, .long (v4 + (0 : Int64)), x_jk, .int v6]) rfl (by decide) rfl rfl ?_
        refine wp_iinc (v := v6 + 1) (L' := [.ref 142, .int v1, .long (v2 + ((I 143 ((7 : Int32) + v6).toNatClampNeg).toInt64)), x_jk, .long (v4 + (0 : Int64)), x_jk, .int (v6 + 1)]) rfl rfl rfl rfl rfl ?_
        refine wp_goto rfl ?_
        exact H
      · replace H := H.1 c_10
        refine wp_lconst (v := (1 : Int64)) rfl (by decide) ?_
        refine wp_goto rfl ?_
        refine wp_ladd rfl ?_
        refine wp_lstore (L' := [.ref 142, .int v1, .long (v2 + ((I 143 ((7 : Int32) + v6).toNatClampNeg).toInt64)), x_jk, .long (v4 + (1 : Int64)), x_jk, .int v6]) rfl (by decide) rfl rfl ?_
        refine wp_iinc (v := v6 + 1) (L' := [.ref 142, .int v1, .long (v2 + ((I 143 ((7 : Int32) + v6).toNatClampNeg).toInt64)), x_jk, .long (v4 + (1 : Int64)), x_jk, .int (v6 + 1)]) rfl rfl rfl rfl rfl ?_
        refine wp_goto rfl ?_
        exact H
set_option maxRecDepth 20000 in
theorem r_M_mean_61 {E : XE} {d : Nat} {I : Nat → Nat → Int32} {Q : Option Value → (Nat → Nat → Int32) → Prop} (hd : 1 ≤ d) (w : Int64)
    (H : Q (some (.long w)) I) :
    x_P E d 171 61 [x_jk, x_jk, x_jk, x_jk, x_jk, x_jk, x_jk] [.long w] I Q := by
  exact s_lret rfl rfl H
set_option maxRecDepth 20000 in
theorem r_M_plan_0 {E : XE} {d : Nat} {I : Nat → Nat → Int32} {Q : Option Value → (Nat → Nat → Int32) → Prop} (hd : 3 ≤ d) (a1 : Int32) (a2 : Int32)
    (H : ((a1 = (-1 : Int32) → (∀ I_17, I_17 = x_up I 143 34 (0 : Int32) → Q (some (.int (0 : Int32))) I_17)) ∧ (¬ (a1 = (-1 : Int32)) → (((0 : Int32) ≤ a1 ∧ a1 ≤ (3 : Int32) → ((a1 ≤ 0 → (((I 143 34) = (8 : Int32) → Q (some (.int (-4 : Int32))) I) ∧ (¬ ((I 143 34) = (8 : Int32)) → (vp_in ((89 : Int32) + (I 143 34)) 931) ∧ (∀ I_6, I_6 = x_up I 143 ((89 : Int32) + (I 143 34)).toNatClampNeg a1 → (vp_in ((97 : Int32) + (I_6 143 34)) 931) ∧ (∀ I_8, I_8 = x_up I_6 143 ((97 : Int32) + (I_6 143 34)).toNatClampNeg a2 → (∀ I_9, I_9 = x_up I_8 143 34 ((I_8 143 34) + (1 : Int32)) → Q (some (.int (I_9 143 34))) I_9)))))) ∧ (¬ (a1 ≤ 0) → ((0 ≤ a2 ∧ a2 ≤ (I 143 31) - 1 → (((I 143 34) = (8 : Int32) → Q (some (.int (-4 : Int32))) I) ∧ (¬ ((I 143 34) = (8 : Int32)) → (vp_in ((89 : Int32) + (I 143 34)) 931) ∧ (∀ I_13, I_13 = x_up I 143 ((89 : Int32) + (I 143 34)).toNatClampNeg a1 → (vp_in ((97 : Int32) + (I_13 143 34)) 931) ∧ (∀ I_15, I_15 = x_up I_13 143 ((97 : Int32) + (I_13 143 34)).toNatClampNeg a2 → (∀ I_16, I_16 = x_up I_15 143 34 ((I_15 143 34) + (1 : Int32)) → Q (some (.int (I_16 143 34))) I_16)))))) ∧ (¬ (0 ≤ a2 ∧ a2 ≤ (I 143 31) - 1) → Q (some (.int (-1 : Int32))) I))))) ∧ (¬ ((0 : Int32) ≤ a1 ∧ a1 ≤ (3 : Int32)) → Q (some (.int (-1 : Int32))) I))))) :
    x_P E d 172 0 [.ref 142, .int a1, .int a2] [] I Q := by
  refine wp_iload_n rfl rfl rfl ?_
  refine wp_iconst (v := (-1 : Int32)) rfl (by decide) ?_
  refine wp_icmp_ne rfl (fun c_1 => ?_) (fun c_1 => ?_)
  · replace H := H.2 c_1
    refine wp_iload_n rfl rfl rfl ?_
    refine wp_iconst (v := (0 : Int32)) rfl (by decide) ?_
    refine wp_iconst (v := (3 : Int32)) rfl (by decide) ?_
    refine s_invStP (As := [.int a1, .int (0 : Int32), .int (3 : Int32)]) (d1 := d - 1) rfl ⟨by decide, by decide⟩ rfl rfl rfl (Nat.le_of_ble_eq_true rfl) (by omega) (p_in (by omega)) ?_
    refine s_bi_eq rfl (fun c_2 => ?_) (fun c_2 => ?_)
    · replace H := H.2 c_2
      refine wp_iconst (v := (-1 : Int32)) rfl (by decide) ?_
      exact s_iret rfl rfl rfl H
    · replace H := H.1 c_2
      refine wp_iload_n rfl rfl rfl ?_
      refine wp_if_le rfl (fun c_3 => ?_) (fun c_3 => ?_)
      · replace H := H.1 c_3
        refine wp_aload_n rfl rfl rfl ?_
        refine wp_getR (v := .ref 143) rfl (by decide) (kd_142 _) rfl (kr_142_1 _) ?_
        refine wp_bipush (v := (34 : Int32)) rfl (by decide) ?_
        refine s_ialdc (k0 := 34) rfl (kd_143 _) rfl ?_
        refine wp_bipush (v := (8 : Int32)) rfl (by decide) ?_
        refine wp_icmp_ne rfl (fun c_4 => ?_) (fun c_4 => ?_)
        · replace H := H.2 c_4
          refine wp_aload_n rfl rfl rfl ?_
          refine wp_getR (v := .ref 143) rfl (by decide) (kd_142 _) rfl (kr_142_1 _) ?_
          refine wp_bipush (v := (89 : Int32)) rfl (by decide) ?_
          refine wp_aload_n rfl rfl rfl ?_
          refine wp_getR (v := .ref 143) rfl (by decide) (kd_142 _) rfl (kr_142_1 _) ?_
          refine wp_bipush (v := (34 : Int32)) rfl (by decide) ?_
          refine s_ialdc (k0 := 34) rfl (kd_143 _) rfl ?_
          refine wp_iadd rfl ?_
          refine wp_iload_n rfl rfl rfl ?_
          obtain ⟨o_5, H⟩ := H
          refine s_iast rfl (kd_143 _) o_5 ?_
          generalize hI_6 : x_up I 143 ((89 : Int32) + (I 143 34)).toNatClampNeg a1 = I_6
          replace H := H _ hI_6.symm
          refine wp_aload_n rfl rfl rfl ?_
          refine wp_getR (v := .ref 143) rfl (by decide) (kd_142 _) rfl (kr_142_1 _) ?_
          refine wp_bipush (v := (97 : Int32)) rfl (by decide) ?_
          refine wp_aload_n rfl rfl rfl ?_
          refine wp_getR (v := .ref 143) rfl (by decide) (kd_142 _) rfl (kr_142_1 _) ?_
          refine wp_bipush (v := (34 : Int32)) rfl (by decide) ?_
          refine s_ialdc (k0 := 34) rfl (kd_143 _) rfl ?_
          refine wp_iadd rfl ?_
          refine wp_iload_n rfl rfl rfl ?_
          obtain ⟨o_7, H⟩ := H
          refine s_iast rfl (kd_143 _) o_7 ?_
          generalize hI_8 : x_up I_6 143 ((97 : Int32) + (I_6 143 34)).toNatClampNeg a2 = I_8
          replace H := H _ hI_8.symm
          refine wp_aload_n rfl rfl rfl ?_
          refine wp_getR (v := .ref 143) rfl (by decide) (kd_142 _) rfl (kr_142_1 _) ?_
          refine wp_bipush (v := (34 : Int32)) rfl (by decide) ?_
          refine wp_dup2 rfl rfl rfl ?_
          refine s_ialdc (k0 := 34) rfl (kd_143 _) rfl ?_
          refine wp_iconst (v := (1 : Int32)) rfl (by decide) ?_
          refine wp_iadd rfl ?_
          refine s_iastc (k0 := 34) rfl (kd_143 _) rfl ?_
          generalize hI_9 : x_up I_8 143 34 ((I_8 143 34) + (1 : Int32)) = I_9
          replace H := H _ hI_9.symm
          refine wp_aload_n rfl rfl rfl ?_
          refine wp_getR (v := .ref 143) rfl (by decide) (kd_142 _) rfl (kr_142_1 _) ?_
          refine wp_bipush (v := (34 : Int32)) rfl (by decide) ?_
          refine s_ialdc (k0 := 34) rfl (kd_143 _) rfl ?_
          exact s_iret rfl rfl rfl H
        · replace H := H.1 c_4
          refine wp_bipush (v := (-4 : Int32)) rfl (by decide) ?_
          exact s_iret rfl rfl rfl H
      · replace H := H.2 c_3
        refine wp_aload_n rfl rfl rfl ?_
        refine wp_iload_n rfl rfl rfl ?_
        refine s_invVP (As := [.int a2]) (d1 := d - 1) rfl ⟨by decide, by decide⟩ rfl rfl rfl (Nat.le_of_ble_eq_true rfl) (by omega) (kd_142 _) (by decide) rfl rfl (p_isMan (by omega)) ?_
        refine s_bi_ne rfl (fun c_10 => ?_) (fun c_10 => ?_)
        · replace H := H.1 c_10
          refine wp_aload_n rfl rfl rfl ?_
          refine wp_getR (v := .ref 143) rfl (by decide) (kd_142 _) rfl (kr_142_1 _) ?_
          refine wp_bipush (v := (34 : Int32)) rfl (by decide) ?_
          refine s_ialdc (k0 := 34) rfl (kd_143 _) rfl ?_
          refine wp_bipush (v := (8 : Int32)) rfl (by decide) ?_
          refine wp_icmp_ne rfl (fun c_11 => ?_) (fun c_11 => ?_)
          · replace H := H.2 c_11
            refine wp_aload_n rfl rfl rfl ?_
            refine wp_getR (v := .ref 143) rfl (by decide) (kd_142 _) rfl (kr_142_1 _) ?_
            refine wp_bipush (v := (89 : Int32)) rfl (by decide) ?_
            refine wp_aload_n rfl rfl rfl ?_
            refine wp_getR (v := .ref 143) rfl (by decide) (kd_142 _) rfl (kr_142_1 _) ?_
            refine wp_bipush (v := (34 : Int32)) rfl (by decide) ?_
            refine s_ialdc (k0 := 34) rfl (kd_143 _) rfl ?_
            refine wp_iadd rfl ?_
            refine wp_iload_n rfl rfl rfl ?_
            obtain ⟨o_12, H⟩ := H
            refine s_iast rfl (kd_143 _) o_12 ?_
            generalize hI_13 : x_up I 143 ((89 : Int32) + (I 143 34)).toNatClampNeg a1 = I_13
            replace H := H _ hI_13.symm
            refine wp_aload_n rfl rfl rfl ?_
            refine wp_getR (v := .ref 143) rfl (by decide) (kd_142 _) rfl (kr_142_1 _) ?_
            refine wp_bipush (v := (97 : Int32)) rfl (by decide) ?_
            refine wp_aload_n rfl rfl rfl ?_
            refine wp_getR (v := .ref 143) rfl (by decide) (kd_142 _) rfl (kr_142_1 _) ?_
            refine wp_bipush (v := (34 : Int32)) rfl (by decide) ?_
            refine s_ialdc (k0 := 34) rfl (kd_143 _) rfl ?_
            refine wp_iadd rfl ?_
            refine wp_iload_n rfl rfl rfl ?_
            obtain ⟨o_14, H⟩ := H
            refine s_iast rfl (kd_143 _) o_14 ?_
            generalize hI_15 : x_up I_13 143 ((97 : Int32) + (I_13 143 34)).toNatClampNeg a2 = I_15
            replace H := H _ hI_15.symm
            refine wp_aload_n rfl rfl rfl ?_
            refine wp_getR (v := .ref 143) rfl (by decide) (kd_142 _) rfl (kr_142_1 _) ?_
            refine wp_bipush (v := (34 : Int32)) rfl (by decide) ?_
            refine wp_dup2 rfl rfl rfl ?_
            refine s_ialdc (k0 := 34) rfl (kd_143 _) rfl ?_
            refine wp_iconst (v := (1 : Int32)) rfl (by decide) ?_
            refine wp_iadd rfl ?_
            refine s_iastc (k0 := 34) rfl (kd_143 _) rfl ?_
            generalize hI_16 : x_up I_15 143 34 ((I_15 143 34) + (1 : Int32)) = I_16
            replace H := H _ hI_16.symm
            refine wp_aload_n rfl rfl rfl ?_
            refine wp_getR (v := .ref 143) rfl (by decide) (kd_142 _) rfl (kr_142_1 _) ?_
            refine wp_bipush (v := (34 : Int32)) rfl (by decide) ?_
            refine s_ialdc (k0 := 34) rfl (kd_143 _) rfl ?_
            exact s_iret rfl rfl rfl H
          · replace H := H.1 c_11
            refine wp_bipush (v := (-4 : Int32)) rfl (by decide) ?_
            exact s_iret rfl rfl rfl H
        · replace H := H.2 c_10
          refine wp_iconst (v := (-1 : Int32)) rfl (by decide) ?_
          exact s_iret rfl rfl rfl H
  · replace H := H.1 c_1
    refine wp_aload_n rfl rfl rfl ?_
    refine wp_getR (v := .ref 143) rfl (by decide) (kd_142 _) rfl (kr_142_1 _) ?_
    refine wp_bipush (v := (34 : Int32)) rfl (by decide) ?_
    refine wp_iconst (v := (0 : Int32)) rfl (by decide) ?_
    refine s_iastc (k0 := 34) rfl (kd_143 _) rfl ?_
    generalize hI_17 : x_up I 143 34 (0 : Int32) = I_17
    replace H := H _ hI_17.symm
    refine wp_iconst (v := (0 : Int32)) rfl (by decide) ?_
    exact s_iret rfl rfl rfl H
set_option maxRecDepth 20000 in
theorem r_M_goesBy_0 {E : XE} {d : Nat} {I : Nat → Nat → Int32} {Q : Option Value → (Nat → Nat → Int32) → Prop} (hd : 1 ≤ d) (a1 : Int32) (a2 : Int32)
    (H : ((a1 = (0 : Int32) → x_K E (d - 1) 149 [.ref 142] I (fun v I2 => x_P E d 173 4 [x_jk, x_jk, x_jk] (v.toList ++ []) I2 Q)) ∧ (a1 = (1 : Int32) → (vp_in ((7 : Int32) + a2) 931) ∧ (∀ I_4, I_4 = x_up I 143 ((7 : Int32) + a2).toNatClampNeg (0 : Int32) → Q none I_4)) ∧ (a1 = (2 : Int32) → (vp_in ((13 : Int32) + a2) 931) ∧ (∀ I_7, I_7 = x_up I 143 ((13 : Int32) + a2).toNatClampNeg (0 : Int32) → Q none I_7)) ∧ (¬ a1 = (0 : Int32) → ¬ a1 = (1 : Int32) → ¬ a1 = (2 : Int32) → (vp_in ((19 : Int32) + a2) 931) ∧ (∀ I_9, I_9 = x_up I 143 ((19 : Int32) + a2).toNatClampNeg (1 : Int32) → Q none I_9)))) :
    x_P E d 173 0 [.ref 142, .int a1, .int a2] [] I Q := by
  refine wp_iload_n rfl rfl rfl ?_
  by_cases c_1 : a1 = (0 : Int32)
  · replace H := H.1 c_1
    refine wp_tswIn (j := 0) rfl rfl (Eq.trans (congrArg Int32.toInt c_1) rfl) ?_
    refine wp_aload_n rfl rfl rfl ?_
    refine s_invV (As := []) (d1 := d - 1) rfl ⟨by decide, by decide⟩ rfl rfl rfl (Nat.le_of_ble_eq_true rfl) (by omega) (kd_142 _) (by decide) rfl rfl H ?_
    intro v I2 h2
    exact x_P.weak (L := [x_jk, x_jk, x_jk]) (by exact ⟨Or.inl rfl, ⟨Or.inl rfl, ⟨Or.inl rfl, trivial⟩⟩⟩) h2
  · by_cases c_2 : a1 = (1 : Int32)
    · replace H := H.2.1 c_2
      refine wp_tswIn (j := 1) rfl rfl (Eq.trans (congrArg Int32.toInt c_2) rfl) ?_
      refine wp_aload_n rfl rfl rfl ?_
      refine wp_getR (v := .ref 143) rfl (by decide) (kd_142 _) rfl (kr_142_1 _) ?_
      refine wp_bipush (v := (7 : Int32)) rfl (by decide) ?_
      refine wp_iload_n rfl rfl rfl ?_
      refine wp_iadd rfl ?_
      refine wp_iconst (v := (0 : Int32)) rfl (by decide) ?_
      obtain ⟨o_3, H⟩ := H
      refine s_iast rfl (kd_143 _) o_3 ?_
      generalize hI_4 : x_up I 143 ((7 : Int32) + a2).toNatClampNeg (0 : Int32) = I_4
      replace H := H _ hI_4.symm
      refine wp_goto rfl ?_
      exact s_vret rfl rfl H
    · by_cases c_5 : a1 = (2 : Int32)
      · replace H := H.2.2.1 c_5
        refine wp_tswIn (j := 2) rfl rfl (Eq.trans (congrArg Int32.toInt c_5) rfl) ?_
        refine wp_aload_n rfl rfl rfl ?_
        refine wp_getR (v := .ref 143) rfl (by decide) (kd_142 _) rfl (kr_142_1 _) ?_
        refine wp_bipush (v := (13 : Int32)) rfl (by decide) ?_
        refine wp_iload_n rfl rfl rfl ?_
        refine wp_iadd rfl ?_
        refine wp_iconst (v := (0 : Int32)) rfl (by decide) ?_
        obtain ⟨o_6, H⟩ := H
        refine s_iast rfl (kd_143 _) o_6 ?_
        generalize hI_7 : x_up I 143 ((13 : Int32) + a2).toNatClampNeg (0 : Int32) = I_7
        replace H := H _ hI_7.symm
        refine wp_goto rfl ?_
        exact s_vret rfl rfl H
      · replace H := H.2.2.2 c_1 c_2 c_5
        have nc_1 := x_tne (z := 0) c_1 rfl
        have nc_2 := x_tne (z := 1) c_2 rfl
        have nc_5 := x_tne (z := 2) c_5 rfl
        have hout : (a1).toInt < 0 ∨ 2 < (a1).toInt := by omega
        refine wp_tswOut rfl hout ?_
        refine wp_aload_n rfl rfl rfl ?_
        refine wp_getR (v := .ref 143) rfl (by decide) (kd_142 _) rfl (kr_142_1 _) ?_
        refine wp_bipush (v := (19 : Int32)) rfl (by decide) ?_
        refine wp_iload_n rfl rfl rfl ?_
        refine wp_iadd rfl ?_
        refine wp_iconst (v := (1 : Int32)) rfl (by decide) ?_
        obtain ⟨o_8, H⟩ := H
        refine s_iast rfl (kd_143 _) o_8 ?_
        generalize hI_9 : x_up I 143 ((19 : Int32) + a2).toNatClampNeg (1 : Int32) = I_9
        replace H := H _ hI_9.symm
        exact s_vret rfl rfl H
set_option maxRecDepth 20000 in
theorem r_M_goesBy_4 {E : XE} {d : Nat} {I : Nat → Nat → Int32} {Q : Option Value → (Nat → Nat → Int32) → Prop} (hd : 1 ≤ d) 
    (H : Q none I) :
    x_P E d 173 4 [x_jk, x_jk, x_jk] [] I Q := by
  refine wp_goto rfl ?_
  exact s_vret rfl rfl H
set_option maxRecDepth 20000 in
theorem r_M_heights_0 {E : XE} {d : Nat} {I : Nat → Nat → Int32} {Q : Option Value → (Nat → Nat → Int32) → Prop} (hd : 1 ≤ d) 
    (H : x_P E d 174 4 [.ref 142, .int (0 : Int32), .int (0 : Int32)] [] I Q) :
    x_P E d 174 0 [.ref 142, x_jk, x_jk] [] I Q := by
  refine wp_iconst (v := (0 : Int32)) rfl (by decide) ?_
  refine wp_istore_n (L' := [.ref 142, .int (0 : Int32), x_jk]) rfl rfl (by decide) rfl rfl ?_
  refine wp_iconst (v := (0 : Int32)) rfl (by decide) ?_
  refine wp_istore_n (L' := [.ref 142, .int (0 : Int32), .int (0 : Int32)]) rfl rfl (by decide) rfl rfl ?_
  exact H
set_option maxRecDepth 20000 in
theorem r_M_heights_4 {E : XE} {d : Nat} {I : Nat → Nat → Int32} {Q : Option Value → (Nat → Nat → Int32) → Prop} (hd : 1 ≤ d) (v1 : Int32) (v2 : Int32)
    (H : (((I 143 31) ≤ v2 → Q (some (.int v1)) I) ∧ (¬ ((I 143 31) ≤ v2) → (vp_in ((7 : Int32) + v2) 931) ∧ x_P E d 174 4 [.ref 142, .int (v1 + (I 143 ((7 : Int32) + v2).toNatClampNeg)), .int (v2 + 1)] [] I Q))) :
    x_P E d 174 4 [.ref 142, .int v1, .int v2] [] I Q := by
  refine wp_iload_n rfl rfl rfl ?_
  refine wp_aload_n rfl rfl rfl ?_
  refine wp_getR (v := .ref 143) rfl (by decide) (kd_142 _) rfl (kr_142_1 _) ?_
  refine wp_bipush (v := (31 : Int32)) rfl (by decide) ?_
  refine s_ialdc (k0 := 31) rfl (kd_143 _) rfl ?_
  refine wp_icmp_ge rfl (fun c_1 => ?_) (fun c_1 => ?_)
  · replace H := H.1 c_1
    refine wp_iload_n rfl rfl rfl ?_
    exact s_iret rfl rfl rfl H
  · replace H := H.2 c_1
    refine wp_iload_n rfl rfl rfl ?_
    refine wp_aload_n rfl rfl rfl ?_
    refine wp_getR (v := .ref 143) rfl (by decide) (kd_142 _) rfl (kr_142_1 _) ?_
    refine wp_bipush (v := (7 : Int32)) rfl (by decide) ?_
    refine wp_iload_n rfl rfl rfl ?_
    refine wp_iadd rfl ?_
    obtain ⟨o_2, H⟩ := H
    refine s_iald rfl (kd_143 _) o_2 ?_
    refine wp_iadd rfl ?_
    refine wp_istore_n (L' := [.ref 142, .int (v1 + (I 143 ((7 : Int32) + v2).toNatClampNeg)), .int v2]) rfl rfl (by decide) rfl rfl ?_
    refine wp_iinc (v := v2 + 1) (L' := [.ref 142, .int (v1 + (I 143 ((7 : Int32) + v2).toNatClampNeg)), .int (v2 + 1)]) rfl rfl rfl rfl rfl ?_
    refine wp_goto rfl ?_
    exact H
set_option maxRecDepth 20000 in
theorem r_M_done_0 {E : XE} {d : Nat} {I : Nat → Nat → Int32} {Q : Option Value → (Nat → Nat → Int32) → Prop} (hd : 2 ≤ d) (a1 : Int32)
    (H : (((0 : Int32) ≤ a1 ∧ a1 ≤ (1 : Int32) → x_K E (d - 1) 112 [.ref 142] I (fun v I2 => x_P E d 175 9 [.ref 142, .int a1, x_jk] (v.toList ++ []) I2 Q)) ∧ (¬ ((0 : Int32) ≤ a1 ∧ a1 ≤ (1 : Int32)) → Q (some (.int (-1 : Int32))) I))) :
    x_P E d 175 0 [.ref 142, .int a1, x_jk] [] I Q := by
  refine wp_iload_n rfl rfl rfl ?_
  refine wp_iconst (v := (0 : Int32)) rfl (by decide) ?_
  refine wp_iconst (v := (1 : Int32)) rfl (by decide) ?_
  refine s_invStP (As := [.int a1, .int (0 : Int32), .int (1 : Int32)]) (d1 := d - 1) rfl ⟨by decide, by decide⟩ rfl rfl rfl (Nat.le_of_ble_eq_true rfl) (by omega) (p_in (by omega)) ?_
  refine s_bi_ne rfl (fun c_1 => ?_) (fun c_1 => ?_)
  · replace H := H.1 c_1
    refine wp_aload_n rfl rfl rfl ?_
    refine s_invV (As := []) (d1 := d - 1) rfl ⟨by decide, by decide⟩ rfl rfl rfl (Nat.le_of_ble_eq_true rfl) (by omega) (kd_142 _) (by decide) rfl rfl H ?_
    intro v I2 h2
    exact h2
  · replace H := H.2 c_1
    refine wp_iconst (v := (-1 : Int32)) rfl (by decide) ?_
    exact s_iret rfl rfl rfl H
set_option maxRecDepth 20000 in
theorem r_M_done_9 {E : XE} {d : Nat} {I : Nat → Nat → Int32} {Q : Option Value → (Nat → Nat → Int32) → Prop} (hd : 1 ≤ d) (v1 : Int32)
    (H : x_P E d 175 11 [.ref 142, .int v1, .int (0 : Int32)] [] I Q) :
    x_P E d 175 9 [.ref 142, .int v1, x_jk] [] I Q := by
  refine wp_iconst (v := (0 : Int32)) rfl (by decide) ?_
  refine wp_istore_n (L' := [.ref 142, .int v1, .int (0 : Int32)]) rfl rfl (by decide) rfl rfl ?_
  exact H
set_option maxRecDepth 20000 in
theorem r_M_done_11 {E : XE} {d : Nat} {I : Nat → Nat → Int32} {Q : Option Value → (Nat → Nat → Int32) → Prop} (hd : 1 ≤ d) (v1 : Int32) (v2 : Int32)
    (H : (((I 143 34) ≤ v2 → ((v1 = 0 → x_K E (d - 1) 145 [.ref 142, .int (13 : Int32)] I (fun v I2 => x_P E d 175 38 [.ref 142, x_jk, x_jk] (v.toList ++ []) I2 Q)) ∧ (¬ (v1 = 0) → x_K E (d - 1) 174 [.ref 142] I (fun v I2 => x_P E d 175 41 [.ref 142, x_jk, x_jk] (v.toList ++ []) I2 Q)))) ∧ (¬ ((I 143 34) ≤ v2) → (vp_in ((89 : Int32) + v2) 931) ∧ (vp_in ((97 : Int32) + v2) 931) ∧ x_K E (d - 1) 173 [.ref 142, .int (I 143 ((89 : Int32) + v2).toNatClampNeg), .int (I 143 ((97 : Int32) + v2).toNatClampNeg)] I (fun v I2 => x_P E d 175 31 [.ref 142, .int v1, .int v2] (v.toList ++ []) I2 Q)))) :
    x_P E d 175 11 [.ref 142, .int v1, .int v2] [] I Q := by
  refine wp_iload_n rfl rfl rfl ?_
  refine wp_aload_n rfl rfl rfl ?_
  refine wp_getR (v := .ref 143) rfl (by decide) (kd_142 _) rfl (kr_142_1 _) ?_
  refine wp_bipush (v := (34 : Int32)) rfl (by decide) ?_
  refine s_ialdc (k0 := 34) rfl (kd_143 _) rfl ?_
  refine wp_icmp_ge rfl (fun c_1 => ?_) (fun c_1 => ?_)
  · replace H := H.1 c_1
    refine wp_iload_n rfl rfl rfl ?_
    refine wp_if_ne rfl (fun c_2 => ?_) (fun c_2 => ?_)
    · replace H := H.2 c_2
      refine wp_aload_n rfl rfl rfl ?_
      refine s_invV (As := []) (d1 := d - 1) rfl ⟨by decide, by decide⟩ rfl rfl rfl (Nat.le_of_ble_eq_true rfl) (by omega) (kd_142 _) (by decide) rfl rfl H ?_
      intro v I2 h2
      exact x_P.weak (L := [.ref 142, x_jk, x_jk]) (by exact ⟨Or.inr rfl, ⟨Or.inl rfl, ⟨Or.inl rfl, trivial⟩⟩⟩) h2
    · replace H := H.1 c_2
      refine wp_aload_n rfl rfl rfl ?_
      refine wp_bipush (v := (13 : Int32)) rfl (by decide) ?_
      refine s_invV (As := [.int (13 : Int32)]) (d1 := d - 1) rfl ⟨by decide, by decide⟩ rfl rfl rfl (Nat.le_of_ble_eq_true rfl) (by omega) (kd_142 _) (by decide) rfl rfl H ?_
      intro v I2 h2
      exact x_P.weak (L := [.ref 142, x_jk, x_jk]) (by exact ⟨Or.inr rfl, ⟨Or.inl rfl, ⟨Or.inl rfl, trivial⟩⟩⟩) h2
  · replace H := H.2 c_1
    refine wp_aload_n rfl rfl rfl ?_
    refine wp_aload_n rfl rfl rfl ?_
    refine wp_getR (v := .ref 143) rfl (by decide) (kd_142 _) rfl (kr_142_1 _) ?_
    refine wp_bipush (v := (89 : Int32)) rfl (by decide) ?_
    refine wp_iload_n rfl rfl rfl ?_
    refine wp_iadd rfl ?_
    obtain ⟨o_3, H⟩ := H
    refine s_iald rfl (kd_143 _) o_3 ?_
    refine wp_aload_n rfl rfl rfl ?_
    refine wp_getR (v := .ref 143) rfl (by decide) (kd_142 _) rfl (kr_142_1 _) ?_
    refine wp_bipush (v := (97 : Int32)) rfl (by decide) ?_
    refine wp_iload_n rfl rfl rfl ?_
    refine wp_iadd rfl ?_
    obtain ⟨o_4, H⟩ := H
    refine s_iald rfl (kd_143 _) o_4 ?_
    refine s_invV (As := [.int (I 143 ((89 : Int32) + v2).toNatClampNeg), .int (I 143 ((97 : Int32) + v2).toNatClampNeg)]) (d1 := d - 1) rfl ⟨by decide, by decide⟩ rfl rfl rfl (Nat.le_of_ble_eq_true rfl) (by omega) (kd_142 _) (by decide) rfl rfl H ?_
    intro v I2 h2
    exact h2
set_option maxRecDepth 20000 in
theorem r_M_done_31 {E : XE} {d : Nat} {I : Nat → Nat → Int32} {Q : Option Value → (Nat → Nat → Int32) → Prop} (hd : 1 ≤ d) (v1 : Int32) (v2 : Int32)
    (H : x_P E d 175 11 [.ref 142, .int v1, .int (v2 + 1)] [] I Q) :
    x_P E d 175 31 [.ref 142, .int v1, .int v2] [] I Q := by
  refine wp_iinc (v := v2 + 1) (L' := [.ref 142, .int v1, .int (v2 + 1)]) rfl rfl rfl rfl rfl ?_
  refine wp_goto rfl ?_
  exact H
set_option maxRecDepth 20000 in
theorem r_M_done_38 {E : XE} {d : Nat} {I : Nat → Nat → Int32} {Q : Option Value → (Nat → Nat → Int32) → Prop} (hd : 1 ≤ d) (w : Int32)
    (H : x_K E (d - 1) 113 [.ref 142] I (fun v I2 => x_P E d 175 44 [x_jk, x_jk, .int w] (v.toList ++ []) I2 Q)) :
    x_P E d 175 38 [.ref 142, x_jk, x_jk] [.int w] I Q := by
  refine wp_goto rfl ?_
  refine wp_istore_n (L' := [.ref 142, x_jk, .int w]) rfl rfl (by decide) rfl rfl ?_
  refine wp_aload_n rfl rfl rfl ?_
  refine s_invV (As := []) (d1 := d - 1) rfl ⟨by decide, by decide⟩ rfl rfl rfl (Nat.le_of_ble_eq_true rfl) (by omega) (kd_142 _) (by decide) rfl rfl H ?_
  intro v I2 h2
  exact x_P.weak (L := [x_jk, x_jk, .int w]) (by exact ⟨Or.inl rfl, ⟨Or.inr rfl, ⟨Or.inr rfl, trivial⟩⟩⟩) h2
set_option maxRecDepth 20000 in
theorem r_M_done_41 {E : XE} {d : Nat} {I : Nat → Nat → Int32} {Q : Option Value → (Nat → Nat → Int32) → Prop} (hd : 1 ≤ d) (w : Int32)
    (H : x_K E (d - 1) 113 [.ref 142] I (fun v I2 => x_P E d 175 44 [x_jk, x_jk, .int w] (v.toList ++ []) I2 Q)) :
    x_P E d 175 41 [.ref 142, x_jk, x_jk] [.int w] I Q := by
  refine wp_istore_n (L' := [.ref 142, x_jk, .int w]) rfl rfl (by decide) rfl rfl ?_
  refine wp_aload_n rfl rfl rfl ?_
  refine s_invV (As := []) (d1 := d - 1) rfl ⟨by decide, by decide⟩ rfl rfl rfl (Nat.le_of_ble_eq_true rfl) (by omega) (kd_142 _) (by decide) rfl rfl H ?_
  intro v I2 h2
  exact x_P.weak (L := [x_jk, x_jk, .int w]) (by exact ⟨Or.inl rfl, ⟨Or.inr rfl, ⟨Or.inr rfl, trivial⟩⟩⟩) h2
set_option maxRecDepth 20000 in
theorem r_M_done_44 {E : XE} {d : Nat} {I : Nat → Nat → Int32} {Q : Option Value → (Nat → Nat → Int32) → Prop} (hd : 1 ≤ d) (v2 : Int32)
    (H : Q (some (.int v2)) I) :
    x_P E d 175 44 [x_jk, x_jk, .int v2] [] I Q := by
  refine wp_iload_n rfl rfl rfl ?_
  exact s_iret rfl rfl rfl H
set_option maxRecDepth 20000 in
theorem r_M_book_0 {E : XE} {d : Nat} {I : Nat → Nat → Int32} {Q : Option Value → (Nat → Nat → Int32) → Prop} (hd : 3 ≤ d) (a1 : Int32) (a2 : Int32)
    (H : ((a1 = (-1 : Int32) → (∀ I_10, I_10 = x_up I 143 35 (0 : Int32) → Q (some (.int (0 : Int32))) I_10)) ∧ (¬ (a1 = (-1 : Int32)) → ((0 ≤ a1 ∧ a1 ≤ (I 143 31) - 1 → (((0 : Int32) ≤ a2 ∧ a2 ≤ (255 : Int32) → (((I 143 35) = (8 : Int32) → Q (some (.int (-4 : Int32))) I) ∧ (¬ ((I 143 35) = (8 : Int32)) → (vp_in ((105 : Int32) + (I 143 35)) 931) ∧ (∀ I_6, I_6 = x_up I 143 ((105 : Int32) + (I 143 35)).toNatClampNeg a1 → (vp_in ((113 : Int32) + (I_6 143 35)) 931) ∧ (∀ I_8, I_8 = x_up I_6 143 ((113 : Int32) + (I_6 143 35)).toNatClampNeg a2 → (∀ I_9, I_9 = x_up I_8 143 35 ((I_8 143 35) + (1 : Int32)) → Q (some (.int (I_9 143 35))) I_9)))))) ∧ (¬ ((0 : Int32) ≤ a2 ∧ a2 ≤ (255 : Int32)) → Q (some (.int (-2 : Int32))) I))) ∧ (¬ (0 ≤ a1 ∧ a1 ≤ (I 143 31) - 1) → Q (some (.int (-1 : Int32))) I))))) :
    x_P E d 176 0 [.ref 142, .int a1, .int a2] [] I Q := by
  refine wp_iload_n rfl rfl rfl ?_
  refine wp_iconst (v := (-1 : Int32)) rfl (by decide) ?_
  refine wp_icmp_ne rfl (fun c_1 => ?_) (fun c_1 => ?_)
  · replace H := H.2 c_1
    refine wp_aload_n rfl rfl rfl ?_
    refine wp_iload_n rfl rfl rfl ?_
    refine s_invVP (As := [.int a1]) (d1 := d - 1) rfl ⟨by decide, by decide⟩ rfl rfl rfl (Nat.le_of_ble_eq_true rfl) (by omega) (kd_142 _) (by decide) rfl rfl (p_isMan (by omega)) ?_
    refine s_bi_ne rfl (fun c_2 => ?_) (fun c_2 => ?_)
    · replace H := H.1 c_2
      refine wp_iload_n rfl rfl rfl ?_
      refine wp_iconst (v := (0 : Int32)) rfl (by decide) ?_
      refine wp_sipush (v := (255 : Int32)) rfl (by decide) ?_
      refine s_invStP (As := [.int a2, .int (0 : Int32), .int (255 : Int32)]) (d1 := d - 1) rfl ⟨by decide, by decide⟩ rfl rfl rfl (Nat.le_of_ble_eq_true rfl) (by omega) (p_in (by omega)) ?_
      refine s_bi_ne rfl (fun c_3 => ?_) (fun c_3 => ?_)
      · replace H := H.1 c_3
        refine wp_aload_n rfl rfl rfl ?_
        refine wp_getR (v := .ref 143) rfl (by decide) (kd_142 _) rfl (kr_142_1 _) ?_
        refine wp_bipush (v := (35 : Int32)) rfl (by decide) ?_
        refine s_ialdc (k0 := 35) rfl (kd_143 _) rfl ?_
        refine wp_bipush (v := (8 : Int32)) rfl (by decide) ?_
        refine wp_icmp_ne rfl (fun c_4 => ?_) (fun c_4 => ?_)
        · replace H := H.2 c_4
          refine wp_aload_n rfl rfl rfl ?_
          refine wp_getR (v := .ref 143) rfl (by decide) (kd_142 _) rfl (kr_142_1 _) ?_
          refine wp_bipush (v := (105 : Int32)) rfl (by decide) ?_
          refine wp_aload_n rfl rfl rfl ?_
          refine wp_getR (v := .ref 143) rfl (by decide) (kd_142 _) rfl (kr_142_1 _) ?_
          refine wp_bipush (v := (35 : Int32)) rfl (by decide) ?_
          refine s_ialdc (k0 := 35) rfl (kd_143 _) rfl ?_
          refine wp_iadd rfl ?_
          refine wp_iload_n rfl rfl rfl ?_
          obtain ⟨o_5, H⟩ := H
          refine s_iast rfl (kd_143 _) o_5 ?_
          generalize hI_6 : x_up I 143 ((105 : Int32) + (I 143 35)).toNatClampNeg a1 = I_6
          replace H := H _ hI_6.symm
          refine wp_aload_n rfl rfl rfl ?_
          refine wp_getR (v := .ref 143) rfl (by decide) (kd_142 _) rfl (kr_142_1 _) ?_
          refine wp_bipush (v := (113 : Int32)) rfl (by decide) ?_
          refine wp_aload_n rfl rfl rfl ?_
          refine wp_getR (v := .ref 143) rfl (by decide) (kd_142 _) rfl (kr_142_1 _) ?_
          refine wp_bipush (v := (35 : Int32)) rfl (by decide) ?_
          refine s_ialdc (k0 := 35) rfl (kd_143 _) rfl ?_
          refine wp_iadd rfl ?_
          refine wp_iload_n rfl rfl rfl ?_
          obtain ⟨o_7, H⟩ := H
          refine s_iast rfl (kd_143 _) o_7 ?_
          generalize hI_8 : x_up I_6 143 ((113 : Int32) + (I_6 143 35)).toNatClampNeg a2 = I_8
          replace H := H _ hI_8.symm
          refine wp_aload_n rfl rfl rfl ?_
          refine wp_getR (v := .ref 143) rfl (by decide) (kd_142 _) rfl (kr_142_1 _) ?_
          refine wp_bipush (v := (35 : Int32)) rfl (by decide) ?_
          refine wp_dup2 rfl rfl rfl ?_
          refine s_ialdc (k0 := 35) rfl (kd_143 _) rfl ?_
          refine wp_iconst (v := (1 : Int32)) rfl (by decide) ?_
          refine wp_iadd rfl ?_
          refine s_iastc (k0 := 35) rfl (kd_143 _) rfl ?_
          generalize hI_9 : x_up I_8 143 35 ((I_8 143 35) + (1 : Int32)) = I_9
          replace H := H _ hI_9.symm
          refine wp_aload_n rfl rfl rfl ?_
          refine wp_getR (v := .ref 143) rfl (by decide) (kd_142 _) rfl (kr_142_1 _) ?_
          refine wp_bipush (v := (35 : Int32)) rfl (by decide) ?_
          refine s_ialdc (k0 := 35) rfl (kd_143 _) rfl ?_
          exact s_iret rfl rfl rfl H
        · replace H := H.1 c_4
          refine wp_bipush (v := (-4 : Int32)) rfl (by decide) ?_
          exact s_iret rfl rfl rfl H
      · replace H := H.2 c_3
        refine wp_bipush (v := (-2 : Int32)) rfl (by decide) ?_
        exact s_iret rfl rfl rfl H
    · replace H := H.2 c_2
      refine wp_iconst (v := (-1 : Int32)) rfl (by decide) ?_
      exact s_iret rfl rfl rfl H
  · replace H := H.1 c_1
    refine wp_aload_n rfl rfl rfl ?_
    refine wp_getR (v := .ref 143) rfl (by decide) (kd_142 _) rfl (kr_142_1 _) ?_
    refine wp_bipush (v := (35 : Int32)) rfl (by decide) ?_
    refine wp_iconst (v := (0 : Int32)) rfl (by decide) ?_
    refine s_iastc (k0 := 35) rfl (kd_143 _) rfl ?_
    generalize hI_10 : x_up I 143 35 (0 : Int32) = I_10
    replace H := H _ hI_10.symm
    refine wp_iconst (v := (0 : Int32)) rfl (by decide) ?_
    exact s_iret rfl rfl rfl H
set_option maxRecDepth 20000 in
theorem r_M_looked_0 {E : XE} {d : Nat} {I : Nat → Nat → Int32} {Q : Option Value → (Nat → Nat → Int32) → Prop} (hd : 1 ≤ d) 
    (H : x_P E d 177 2 [.ref 142, .int (0 : Int32)] [] I Q) :
    x_P E d 177 0 [.ref 142, x_jk] [] I Q := by
  refine wp_iconst (v := (0 : Int32)) rfl (by decide) ?_
  refine wp_istore_n (L' := [.ref 142, .int (0 : Int32)]) rfl rfl (by decide) rfl rfl ?_
  exact H
set_option maxRecDepth 20000 in
theorem r_M_looked_2 {E : XE} {d : Nat} {I : Nat → Nat → Int32} {Q : Option Value → (Nat → Nat → Int32) → Prop} (hd : 1 ≤ d) (v1 : Int32)
    (H : (((I 143 35) ≤ v1 → Q (some (.int (-5 : Int32))) I) ∧ (¬ ((I 143 35) ≤ v1) → (vp_in ((105 : Int32) + v1) 931) ∧ (vp_in ((1 : Int32) + (I 143 ((105 : Int32) + v1).toNatClampNeg)) 931) ∧ (vp_in ((113 : Int32) + v1) 931) ∧ (((I 143 ((1 : Int32) + (I 143 ((105 : Int32) + v1).toNatClampNeg)).toNatClampNeg) = (I 143 ((113 : Int32) + v1).toNatClampNeg) → x_P E d 177 2 [.ref 142, .int (v1 + 1)] [] I Q) ∧ (¬ ((I 143 ((1 : Int32) + (I 143 ((105 : Int32) + v1).toNatClampNeg)).toNatClampNeg) = (I 143 ((113 : Int32) + v1).toNatClampNeg)) → Q (some (.int v1)) I))))) :
    x_P E d 177 2 [.ref 142, .int v1] [] I Q := by
  refine wp_iload_n rfl rfl rfl ?_
  refine wp_aload_n rfl rfl rfl ?_
  refine wp_getR (v := .ref 143) rfl (by decide) (kd_142 _) rfl (kr_142_1 _) ?_
  refine wp_bipush (v := (35 : Int32)) rfl (by decide) ?_
  refine s_ialdc (k0 := 35) rfl (kd_143 _) rfl ?_
  refine wp_icmp_ge rfl (fun c_1 => ?_) (fun c_1 => ?_)
  · replace H := H.1 c_1
    refine wp_bipush (v := (-5 : Int32)) rfl (by decide) ?_
    exact s_iret rfl rfl rfl H
  · replace H := H.2 c_1
    refine wp_aload_n rfl rfl rfl ?_
    refine wp_getR (v := .ref 143) rfl (by decide) (kd_142 _) rfl (kr_142_1 _) ?_
    refine wp_iconst (v := (1 : Int32)) rfl (by decide) ?_
    refine wp_aload_n rfl rfl rfl ?_
    refine wp_getR (v := .ref 143) rfl (by decide) (kd_142 _) rfl (kr_142_1 _) ?_
    refine wp_bipush (v := (105 : Int32)) rfl (by decide) ?_
    refine wp_iload_n rfl rfl rfl ?_
    refine wp_iadd rfl ?_
    obtain ⟨o_2, H⟩ := H
    refine s_iald rfl (kd_143 _) o_2 ?_
    refine wp_iadd rfl ?_
    obtain ⟨o_3, H⟩ := H
    refine s_iald rfl (kd_143 _) o_3 ?_
    refine wp_aload_n rfl rfl rfl ?_
    refine wp_getR (v := .ref 143) rfl (by decide) (kd_142 _) rfl (kr_142_1 _) ?_
    refine wp_bipush (v := (113 : Int32)) rfl (by decide) ?_
    refine wp_iload_n rfl rfl rfl ?_
    refine wp_iadd rfl ?_
    obtain ⟨o_4, H⟩ := H
    refine s_iald rfl (kd_143 _) o_4 ?_
    refine wp_icmp_eq rfl (fun c_5 => ?_) (fun c_5 => ?_)
    · replace H := H.1 c_5
      refine wp_iinc (v := v1 + 1) (L' := [.ref 142, .int (v1 + 1)]) rfl rfl rfl rfl rfl ?_
      refine wp_goto rfl ?_
      exact H
    · replace H := H.2 c_5
      refine wp_iload_n rfl rfl rfl ?_
      exact s_iret rfl rfl rfl H
set_option maxRecDepth 20000 in
theorem r_M_ranBody_0 {E : XE} {d : Nat} {I : Nat → Nat → Int32} {Q : Option Value → (Nat → Nat → Int32) → Prop} (hd : 1 ≤ d) (a1 : Int32)
    (H : (((20 : Int32) ≤ (I 142 16) → (∀ I_2, I_2 = x_up I 142 16 ((I 142 16) + (1 : Int32)) → Q none I_2)) ∧ (¬ ((20 : Int32) ≤ (I 142 16)) → (vp_in (I 142 16) 20) ∧ (∀ I_4, I_4 = x_up I 150 (I 142 16).toNatClampNeg a1 → (∀ I_5, I_5 = x_up I_4 142 16 ((I_4 142 16) + (1 : Int32)) → Q none I_5))))) :
    x_P E d 178 0 [.ref 142, .int a1] [] I Q := by
  refine wp_aload_n rfl rfl rfl ?_
  refine s_getI rfl (by decide) (kd_142 _) rfl ?_
  refine wp_bipush (v := (20 : Int32)) rfl (by decide) ?_
  refine wp_icmp_ge rfl (fun c_1 => ?_) (fun c_1 => ?_)
  · replace H := H.1 c_1
    refine wp_aload_n rfl rfl rfl ?_
    refine wp_dup rfl rfl ?_
    refine s_getI rfl (by decide) (kd_142 _) rfl ?_
    refine wp_iconst (v := (1 : Int32)) rfl (by decide) ?_
    refine wp_iadd rfl ?_
    refine s_putI rfl (by decide) (kd_142 _) rfl rfl (x_fit_int _) ?_
    generalize hI_2 : x_up I 142 16 ((I 142 16) + (1 : Int32)) = I_2
    replace H := H _ hI_2.symm
    exact s_vret rfl rfl H
  · replace H := H.2 c_1
    refine wp_aload_n rfl rfl rfl ?_
    refine wp_getR (v := .ref 150) rfl (by decide) (kd_142 _) rfl (kr_142_15 _) ?_
    refine wp_aload_n rfl rfl rfl ?_
    refine s_getI rfl (by decide) (kd_142 _) rfl ?_
    refine wp_iload_n rfl rfl rfl ?_
    obtain ⟨o_3, H⟩ := H
    refine s_iast rfl (kd_150 _) o_3 ?_
    generalize hI_4 : x_up I 150 (I 142 16).toNatClampNeg a1 = I_4
    replace H := H _ hI_4.symm
    refine wp_aload_n rfl rfl rfl ?_
    refine wp_dup rfl rfl ?_
    refine s_getI rfl (by decide) (kd_142 _) rfl ?_
    refine wp_iconst (v := (1 : Int32)) rfl (by decide) ?_
    refine wp_iadd rfl ?_
    refine s_putI rfl (by decide) (kd_142 _) rfl rfl (x_fit_int _) ?_
    generalize hI_5 : x_up I_4 142 16 ((I_4 142 16) + (1 : Int32)) = I_5
    replace H := H _ hI_5.symm
    exact s_vret rfl rfl H
set_option maxRecDepth 20000 in
theorem r_M_isUnder_0 {E : XE} {d : Nat} {I : Nat → Nat → Int32} {Q : Option Value → (Nat → Nat → Int32) → Prop} (hd : 1 ≤ d) (a0 : Int32) (a1 : Int32)
    (H : Q (some (.int (x_bi ((a1 = 0) ∨ ((a1 = a0) ∨ (¬ (a1 ≤ 0) ∧ (¬ ((4 : Int32) ≤ a1) ∧ (a0 = (a1 + (3 : Int32)))))))))) I) :
    x_P E d 179 0 [.int a0, .int a1] [] I Q := by
  refine wp_iload_n rfl rfl rfl ?_
  have J : x_P E d 179 18 [.int a0, .int a1] [.int (x_bi ((a1 = 0) ∨ ((a1 = a0) ∨ (¬ (a1 ≤ 0) ∧ (¬ ((4 : Int32) ≤ a1) ∧ (a0 = (a1 + (3 : Int32))))))))] I Q := by
    exact s_iret rfl rfl x_bi_nar H
  refine wp_if_eq rfl (fun c_1 => ?_) (fun c_1 => ?_)
  · refine wp_iconst (v := (1 : Int32)) rfl (by decide) ?_
    refine wp_goto rfl ?_
    exact x_P.cong rfl (by rw [show x_bi ((a1 = 0) ∨ ((a1 = a0) ∨ (¬ (a1 ≤ 0) ∧ (¬ ((4 : Int32) ≤ a1) ∧ (a0 = (a1 + (3 : Int32))))))) = (1 : Int32) from x_bi_t (Or.inl c_1)]) J
  · refine wp_iload_n rfl rfl rfl ?_
    refine wp_iload_n rfl rfl rfl ?_
    refine wp_icmp_eq rfl (fun c_2 => ?_) (fun c_2 => ?_)
    · refine wp_iconst (v := (1 : Int32)) rfl (by decide) ?_
      refine wp_goto rfl ?_
      exact x_P.cong rfl (by rw [show x_bi ((a1 = 0) ∨ ((a1 = a0) ∨ (¬ (a1 ≤ 0) ∧ (¬ ((4 : Int32) ≤ a1) ∧ (a0 = (a1 + (3 : Int32))))))) = (1 : Int32) from x_bi_t (Or.inr (Or.inl c_2))]) J
    · refine wp_iload_n rfl rfl rfl ?_
      refine wp_if_le rfl (fun c_3 => ?_) (fun c_3 => ?_)
      · refine wp_iconst (v := (0 : Int32)) rfl (by decide) ?_
        exact x_P.cong rfl (by rw [show x_bi ((a1 = 0) ∨ ((a1 = a0) ∨ (¬ (a1 ≤ 0) ∧ (¬ ((4 : Int32) ≤ a1) ∧ (a0 = (a1 + (3 : Int32))))))) = (0 : Int32) from x_bi_f (fun h => h.elim c_1 (fun h => h.elim c_2 (fun h => h.1 c_3)))]) J
      · refine wp_iload_n rfl rfl rfl ?_
        refine wp_iconst (v := (4 : Int32)) rfl (by decide) ?_
        refine wp_icmp_ge rfl (fun c_4 => ?_) (fun c_4 => ?_)
        · refine wp_iconst (v := (0 : Int32)) rfl (by decide) ?_
          exact x_P.cong rfl (by rw [show x_bi ((a1 = 0) ∨ ((a1 = a0) ∨ (¬ (a1 ≤ 0) ∧ (¬ ((4 : Int32) ≤ a1) ∧ (a0 = (a1 + (3 : Int32))))))) = (0 : Int32) from x_bi_f (fun h => h.elim c_1 (fun h => h.elim c_2 (fun h => (fun h => h.1 c_4) h.2)))]) J
        · refine wp_iload_n rfl rfl rfl ?_
          refine wp_iload_n rfl rfl rfl ?_
          refine wp_iconst (v := (3 : Int32)) rfl (by decide) ?_
          refine wp_iadd rfl ?_
          refine wp_icmp_ne rfl (fun c_5 => ?_) (fun c_5 => ?_)
          · refine wp_iconst (v := (0 : Int32)) rfl (by decide) ?_
            exact x_P.cong rfl (by rw [show x_bi ((a1 = 0) ∨ ((a1 = a0) ∨ (¬ (a1 ≤ 0) ∧ (¬ ((4 : Int32) ≤ a1) ∧ (a0 = (a1 + (3 : Int32))))))) = (0 : Int32) from x_bi_f (fun h => h.elim c_1 (fun h => h.elim c_2 (fun h => (fun h => c_5 h.2) h.2)))]) J
          · refine wp_iconst (v := (1 : Int32)) rfl (by decide) ?_
            refine wp_goto rfl ?_
            exact x_P.cong rfl (by rw [show x_bi ((a1 = 0) ∨ ((a1 = a0) ∨ (¬ (a1 ≤ 0) ∧ (¬ ((4 : Int32) ≤ a1) ∧ (a0 = (a1 + (3 : Int32))))))) = (1 : Int32) from x_bi_t (Or.inr (Or.inr ⟨c_3, ⟨c_4, c_5⟩⟩))]) J
set_option maxRecDepth 20000 in
theorem r_M_plainNods_0 {E : XE} {d : Nat} {I : Nat → Nat → Int32} {Q : Option Value → (Nat → Nat → Int32) → Prop} (hd : 1 ≤ d) (a1 : Int32)
    (H : x_K E (d - 1) 178 [.ref 142, .int (1 : Int32)] I (fun v I2 => x_P E d 180 3 [.ref 142, .int a1] (v.toList ++ []) I2 Q)) :
    x_P E d 180 0 [.ref 142, .int a1] [] I Q := by
  refine wp_aload_n rfl rfl rfl ?_
  refine wp_iconst (v := (1 : Int32)) rfl (by decide) ?_
  refine s_invV (As := [.int (1 : Int32)]) (d1 := d - 1) rfl ⟨by decide, by decide⟩ rfl rfl rfl (Nat.le_of_ble_eq_true rfl) (by omega) (kd_142 _) (by decide) rfl rfl H ?_
  intro v I2 h2
  exact h2
set_option maxRecDepth 20000 in
theorem r_M_plainNods_3 {E : XE} {d : Nat} {I : Nat → Nat → Int32} {Q : Option Value → (Nat → Nat → Int32) → Prop} (hd : 1 ≤ d) (v1 : Int32)
    (H : Q (some (.int (v1 + (I 142 18)))) I) :
    x_P E d 180 3 [.ref 142, .int v1] [] I Q := by
  refine wp_iload_n rfl rfl rfl ?_
  refine wp_aload_n rfl rfl rfl ?_
  refine s_getI rfl (by decide) (kd_142 _) rfl ?_
  refine wp_iadd rfl ?_
  exact s_iret rfl rfl rfl H
set_option maxRecDepth 20000 in
theorem r_M_nodsActs_0 {E : XE} {d : Nat} {I : Nat → Nat → Int32} {Q : Option Value → (Nat → Nat → Int32) → Prop} (hd : 1 ≤ d) (a1 : Int32)
    (H : x_K E (d - 1) 179 [.int (I 142 17), .int (1 : Int32)] I (fun v I2 => x_P E d 181 4 [.ref 142, .int a1] (v.toList ++ []) I2 Q)) :
    x_P E d 181 0 [.ref 142, .int a1] [] I Q := by
  refine wp_aload_n rfl rfl rfl ?_
  refine s_getI rfl (by decide) (kd_142 _) rfl ?_
  refine wp_iconst (v := (1 : Int32)) rfl (by decide) ?_
  refine s_invSt (As := [.int (I 142 17), .int (1 : Int32)]) (d1 := d - 1) rfl ⟨by decide, by decide⟩ rfl rfl rfl (Nat.le_of_ble_eq_true rfl) (by omega) H ?_
  intro v I2 h2
  exact h2
set_option maxRecDepth 20000 in
theorem r_M_nodsActs_4 {E : XE} {d : Nat} {I : Nat → Nat → Int32} {Q : Option Value → (Nat → Nat → Int32) → Prop} (hd : 1 ≤ d) (v1 : Int32) (w : Int32)
    (H : ((w = 0 → (((I 142 17) = (5 : Int32) → x_K E (d - 1) 178 [.ref 142, .int (51 : Int32)] I (fun v I2 => x_P E d 181 21 [.ref 142, .int v1] (v.toList ++ []) I2 Q)) ∧ (¬ ((I 142 17) = (5 : Int32)) → x_K E (d - 1) 180 [.ref 142, .int v1] I (fun v I2 => x_P E d 181 31 [x_jk, x_jk] (v.toList ++ []) I2 Q)))) ∧ (¬ (w = 0) → x_K E (d - 1) 178 [.ref 142, .int (11 : Int32)] I (fun v I2 => x_P E d 181 8 [.ref 142, .int v1] (v.toList ++ []) I2 Q)))) :
    x_P E d 181 4 [.ref 142, .int v1] [.int w] I Q := by
  refine wp_if_eq rfl (fun c_1 => ?_) (fun c_1 => ?_)
  · replace H := H.1 c_1
    refine wp_aload_n rfl rfl rfl ?_
    refine s_getI rfl (by decide) (kd_142 _) rfl ?_
    refine wp_iconst (v := (5 : Int32)) rfl (by decide) ?_
    refine wp_icmp_ne rfl (fun c_2 => ?_) (fun c_2 => ?_)
    · replace H := H.2 c_2
      refine wp_aload_n rfl rfl rfl ?_
      refine wp_iload_n rfl rfl rfl ?_
      refine s_invV (As := [.int v1]) (d1 := d - 1) rfl ⟨by decide, by decide⟩ rfl rfl rfl (Nat.le_of_ble_eq_true rfl) (by omega) (kd_142 _) (by decide) rfl rfl H ?_
      intro v I2 h2
      exact x_P.weak (L := [x_jk, x_jk]) (by exact ⟨Or.inl rfl, ⟨Or.inl rfl, trivial⟩⟩) h2
    · replace H := H.1 c_2
      refine wp_aload_n rfl rfl rfl ?_
      refine wp_bipush (v := (51 : Int32)) rfl (by decide) ?_
      refine s_invV (As := [.int (51 : Int32)]) (d1 := d - 1) rfl ⟨by decide, by decide⟩ rfl rfl rfl (Nat.le_of_ble_eq_true rfl) (by omega) (kd_142 _) (by decide) rfl rfl H ?_
      intro v I2 h2
      exact h2
  · replace H := H.2 c_1
    refine wp_aload_n rfl rfl rfl ?_
    refine wp_bipush (v := (11 : Int32)) rfl (by decide) ?_
    refine s_invV (As := [.int (11 : Int32)]) (d1 := d - 1) rfl ⟨by decide, by decide⟩ rfl rfl rfl (Nat.le_of_ble_eq_true rfl) (by omega) (kd_142 _) (by decide) rfl rfl H ?_
    intro v I2 h2
    exact h2
set_option maxRecDepth 20000 in
theorem r_M_nodsActs_8 {E : XE} {d : Nat} {I : Nat → Nat → Int32} {Q : Option Value → (Nat → Nat → Int32) → Prop} (hd : 1 ≤ d) (v1 : Int32)
    (H : x_K E (d - 1) 180 [.ref 142, .int (v1 * (3 : Int32))] I (fun v I2 => x_P E d 181 13 [x_jk, x_jk] (v.toList ++ []) I2 Q)) :
    x_P E d 181 8 [.ref 142, .int v1] [] I Q := by
  refine wp_aload_n rfl rfl rfl ?_
  refine wp_iload_n rfl rfl rfl ?_
  refine wp_iconst (v := (3 : Int32)) rfl (by decide) ?_
  refine wp_imul rfl ?_
  refine s_invV (As := [.int (v1 * (3 : Int32))]) (d1 := d - 1) rfl ⟨by decide, by decide⟩ rfl rfl rfl (Nat.le_of_ble_eq_true rfl) (by omega) (kd_142 _) (by decide) rfl rfl H ?_
  intro v I2 h2
  exact x_P.weak (L := [x_jk, x_jk]) (by exact ⟨Or.inl rfl, ⟨Or.inl rfl, trivial⟩⟩) h2
set_option maxRecDepth 20000 in
theorem r_M_nodsActs_21 {E : XE} {d : Nat} {I : Nat → Nat → Int32} {Q : Option Value → (Nat → Nat → Int32) → Prop} (hd : 1 ≤ d) (v1 : Int32)
    (H : x_K E (d - 1) 180 [.ref 142, .int v1] I (fun v I2 => x_P E d 181 24 [.ref 142, x_jk] (v.toList ++ []) I2 Q)) :
    x_P E d 181 21 [.ref 142, .int v1] [] I Q := by
  refine wp_aload_n rfl rfl rfl ?_
  refine wp_iload_n rfl rfl rfl ?_
  refine s_invV (As := [.int v1]) (d1 := d - 1) rfl ⟨by decide, by decide⟩ rfl rfl rfl (Nat.le_of_ble_eq_true rfl) (by omega) (kd_142 _) (by decide) rfl rfl H ?_
  intro v I2 h2
  exact x_P.weak (L := [.ref 142, x_jk]) (by exact ⟨Or.inr rfl, ⟨Or.inl rfl, trivial⟩⟩) h2
set_option maxRecDepth 20000 in
theorem r_M_nodsActs_31 {E : XE} {d : Nat} {I : Nat → Nat → Int32} {Q : Option Value → (Nat → Nat → Int32) → Prop} (hd : 1 ≤ d) (w : Int32)
    (H : Q (some (.int w)) I) :
    x_P E d 181 31 [x_jk, x_jk] [.int w] I Q := by
  exact s_iret rfl rfl rfl H
set_option maxRecDepth 20000 in
theorem r_M_nodsActs_13 {E : XE} {d : Nat} {I : Nat → Nat → Int32} {Q : Option Value → (Nat → Nat → Int32) → Prop} (hd : 1 ≤ d) (w : Int32)
    (H : Q (some (.int w)) I) :
    x_P E d 181 13 [x_jk, x_jk] [.int w] I Q := by
  exact s_iret rfl rfl rfl H
set_option maxRecDepth 20000 in
theorem r_M_nodsActs_24 {E : XE} {d : Nat} {I : Nat → Nat → Int32} {Q : Option Value → (Nat → Nat → Int32) → Prop} (hd : 1 ≤ d) (w : Int32)
    (H : Q (some (.int (w ^^^ (I 142 18)))) I) :
    x_P E d 181 24 [.ref 142, x_jk] [.int w] I Q := by
  refine wp_aload_n rfl rfl rfl ?_
  refine s_getI rfl (by decide) (kd_142 _) rfl ?_
  refine wp_ixor rfl ?_
  exact s_iret rfl rfl rfl H
set_option maxRecDepth 20000 in
theorem r_M_plainPreaches_0 {E : XE} {d : Nat} {I : Nat → Nat → Int32} {Q : Option Value → (Nat → Nat → Int32) → Prop} (hd : 1 ≤ d) (a1 : Int32)
    (H : x_K E (d - 1) 178 [.ref 142, .int (2 : Int32)] I (fun v I2 => x_P E d 182 3 [.ref 142, .int a1] (v.toList ++ []) I2 Q)) :
    x_P E d 182 0 [.ref 142, .int a1] [] I Q := by
  refine wp_aload_n rfl rfl rfl ?_
  refine wp_iconst (v := (2 : Int32)) rfl (by decide) ?_
  refine s_invV (As := [.int (2 : Int32)]) (d1 := d - 1) rfl ⟨by decide, by decide⟩ rfl rfl rfl (Nat.le_of_ble_eq_true rfl) (by omega) (kd_142 _) (by decide) rfl rfl H ?_
  intro v I2 h2
  exact h2
set_option maxRecDepth 20000 in
theorem r_M_plainPreaches_3 {E : XE} {d : Nat} {I : Nat → Nat → Int32} {Q : Option Value → (Nat → Nat → Int32) → Prop} (hd : 1 ≤ d) (v1 : Int32)
    (H : x_K E (d - 1) 181 [.ref 142, .int v1] I (fun v I2 => x_P E d 182 6 [.ref 142, x_jk] (v.toList ++ []) I2 Q)) :
    x_P E d 182 3 [.ref 142, .int v1] [] I Q := by
  refine wp_aload_n rfl rfl rfl ?_
  refine wp_iload_n rfl rfl rfl ?_
  refine s_invV (As := [.int v1]) (d1 := d - 1) rfl ⟨by decide, by decide⟩ rfl rfl rfl (Nat.le_of_ble_eq_true rfl) (by omega) (kd_142 _) (by decide) rfl rfl H ?_
  intro v I2 h2
  exact x_P.weak (L := [.ref 142, x_jk]) (by exact ⟨Or.inr rfl, ⟨Or.inl rfl, trivial⟩⟩) h2
set_option maxRecDepth 20000 in
theorem r_M_plainPreaches_6 {E : XE} {d : Nat} {I : Nat → Nat → Int32} {Q : Option Value → (Nat → Nat → Int32) → Prop} (hd : 1 ≤ d) (w : Int32)
    (H : Q (some (.int (w - (I 142 19)))) I) :
    x_P E d 182 6 [.ref 142, x_jk] [.int w] I Q := by
  refine wp_aload_n rfl rfl rfl ?_
  refine s_getI rfl (by decide) (kd_142 _) rfl ?_
  refine wp_isub rfl ?_
  exact s_iret rfl rfl rfl H
set_option maxRecDepth 20000 in
theorem r_M_preachesActs_0 {E : XE} {d : Nat} {I : Nat → Nat → Int32} {Q : Option Value → (Nat → Nat → Int32) → Prop} (hd : 1 ≤ d) (a1 : Int32)
    (H : x_K E (d - 1) 179 [.int (I 142 17), .int (2 : Int32)] I (fun v I2 => x_P E d 183 4 [.ref 142, .int a1] (v.toList ++ []) I2 Q)) :
    x_P E d 183 0 [.ref 142, .int a1] [] I Q := by
  refine wp_aload_n rfl rfl rfl ?_
  refine s_getI rfl (by decide) (kd_142 _) rfl ?_
  refine wp_iconst (v := (2 : Int32)) rfl (by decide) ?_
  refine s_invSt (As := [.int (I 142 17), .int (2 : Int32)]) (d1 := d - 1) rfl ⟨by decide, by decide⟩ rfl rfl rfl (Nat.le_of_ble_eq_true rfl) (by omega) H ?_
  intro v I2 h2
  exact h2
set_option maxRecDepth 20000 in
theorem r_M_preachesActs_4 {E : XE} {d : Nat} {I : Nat → Nat → Int32} {Q : Option Value → (Nat → Nat → Int32) → Prop} (hd : 1 ≤ d) (v1 : Int32) (w : Int32)
    (H : ((w = 0 → (((I 142 17) = (6 : Int32) → x_K E (d - 1) 178 [.ref 142, .int (61 : Int32)] I (fun v I2 => x_P E d 183 20 [.ref 142, .int v1] (v.toList ++ []) I2 Q)) ∧ (¬ ((I 142 17) = (6 : Int32)) → x_K E (d - 1) 182 [.ref 142, .int v1] I (fun v I2 => x_P E d 183 30 [x_jk, x_jk] (v.toList ++ []) I2 Q)))) ∧ (¬ (w = 0) → x_K E (d - 1) 178 [.ref 142, .int (21 : Int32)] I (fun v I2 => x_P E d 183 8 [.ref 142, .int v1] (v.toList ++ []) I2 Q)))) :
    x_P E d 183 4 [.ref 142, .int v1] [.int w] I Q := by
  refine wp_if_eq rfl (fun c_1 => ?_) (fun c_1 => ?_)
  · replace H := H.1 c_1
    refine wp_aload_n rfl rfl rfl ?_
    refine s_getI rfl (by decide) (kd_142 _) rfl ?_
    refine wp_bipush (v := (6 : Int32)) rfl (by decide) ?_
    refine wp_icmp_ne rfl (fun c_2 => ?_) (fun c_2 => ?_)
    · replace H := H.2 c_2
      refine wp_aload_n rfl rfl rfl ?_
      refine wp_iload_n rfl rfl rfl ?_
      refine s_invV (As := [.int v1]) (d1 := d - 1) rfl ⟨by decide, by decide⟩ rfl rfl rfl (Nat.le_of_ble_eq_true rfl) (by omega) (kd_142 _) (by decide) rfl rfl H ?_
      intro v I2 h2
      exact x_P.weak (L := [x_jk, x_jk]) (by exact ⟨Or.inl rfl, ⟨Or.inl rfl, trivial⟩⟩) h2
    · replace H := H.1 c_2
      refine wp_aload_n rfl rfl rfl ?_
      refine wp_bipush (v := (61 : Int32)) rfl (by decide) ?_
      refine s_invV (As := [.int (61 : Int32)]) (d1 := d - 1) rfl ⟨by decide, by decide⟩ rfl rfl rfl (Nat.le_of_ble_eq_true rfl) (by omega) (kd_142 _) (by decide) rfl rfl H ?_
      intro v I2 h2
      exact h2
  · replace H := H.2 c_1
    refine wp_aload_n rfl rfl rfl ?_
    refine wp_bipush (v := (21 : Int32)) rfl (by decide) ?_
    refine s_invV (As := [.int (21 : Int32)]) (d1 := d - 1) rfl ⟨by decide, by decide⟩ rfl rfl rfl (Nat.le_of_ble_eq_true rfl) (by omega) (kd_142 _) (by decide) rfl rfl H ?_
    intro v I2 h2
    exact h2
set_option maxRecDepth 20000 in
theorem r_M_preachesActs_8 {E : XE} {d : Nat} {I : Nat → Nat → Int32} {Q : Option Value → (Nat → Nat → Int32) → Prop} (hd : 1 ≤ d) (v1 : Int32)
    (H : x_K E (d - 1) 182 [.ref 142, .int v1] I (fun v I2 => x_P E d 183 11 [x_jk, x_jk] (v.toList ++ []) I2 Q)) :
    x_P E d 183 8 [.ref 142, .int v1] [] I Q := by
  refine wp_aload_n rfl rfl rfl ?_
  refine wp_iload_n rfl rfl rfl ?_
  refine s_invV (As := [.int v1]) (d1 := d - 1) rfl ⟨by decide, by decide⟩ rfl rfl rfl (Nat.le_of_ble_eq_true rfl) (by omega) (kd_142 _) (by decide) rfl rfl H ?_
  intro v I2 h2
  exact x_P.weak (L := [x_jk, x_jk]) (by exact ⟨Or.inl rfl, ⟨Or.inl rfl, trivial⟩⟩) h2
set_option maxRecDepth 20000 in
theorem r_M_preachesActs_20 {E : XE} {d : Nat} {I : Nat → Nat → Int32} {Q : Option Value → (Nat → Nat → Int32) → Prop} (hd : 1 ≤ d) (v1 : Int32)
    (H : x_K E (d - 1) 182 [.ref 142, .int v1] I (fun v I2 => x_P E d 183 23 [.ref 142, x_jk] (v.toList ++ []) I2 Q)) :
    x_P E d 183 20 [.ref 142, .int v1] [] I Q := by
  refine wp_aload_n rfl rfl rfl ?_
  refine wp_iload_n rfl rfl rfl ?_
  refine s_invV (As := [.int v1]) (d1 := d - 1) rfl ⟨by decide, by decide⟩ rfl rfl rfl (Nat.le_of_ble_eq_true rfl) (by omega) (kd_142 _) (by decide) rfl rfl H ?_
  intro v I2 h2
  exact x_P.weak (L := [.ref 142, x_jk]) (by exact ⟨Or.inr rfl, ⟨Or.inl rfl, trivial⟩⟩) h2
set_option maxRecDepth 20000 in
theorem r_M_preachesActs_30 {E : XE} {d : Nat} {I : Nat → Nat → Int32} {Q : Option Value → (Nat → Nat → Int32) → Prop} (hd : 1 ≤ d) (w : Int32)
    (H : Q (some (.int w)) I) :
    x_P E d 183 30 [x_jk, x_jk] [.int w] I Q := by
  exact s_iret rfl rfl rfl H
set_option maxRecDepth 20000 in
theorem r_M_preachesActs_11 {E : XE} {d : Nat} {I : Nat → Nat → Int32} {Q : Option Value → (Nat → Nat → Int32) → Prop} (hd : 1 ≤ d) (w : Int32)
    (H : Q (some (.int (-w))) I) :
    x_P E d 183 11 [x_jk, x_jk] [.int w] I Q := by
  refine wp_ineg rfl ?_
  exact s_iret rfl rfl rfl H
set_option maxRecDepth 20000 in
theorem r_M_preachesActs_23 {E : XE} {d : Nat} {I : Nat → Nat → Int32} {Q : Option Value → (Nat → Nat → Int32) → Prop} (hd : 1 ≤ d) (w : Int32)
    (H : Q (some (.int (w + (I 142 19)))) I) :
    x_P E d 183 23 [.ref 142, x_jk] [.int w] I Q := by
  refine wp_aload_n rfl rfl rfl ?_
  refine s_getI rfl (by decide) (kd_142 _) rfl ?_
  refine wp_iadd rfl ?_
  exact s_iret rfl rfl rfl H
set_option maxRecDepth 20000 in
theorem r_M_plainTelling_0 {E : XE} {d : Nat} {I : Nat → Nat → Int32} {Q : Option Value → (Nat → Nat → Int32) → Prop} (hd : 1 ≤ d) (a1 : Int32)
    (H : x_K E (d - 1) 178 [.ref 142, .int (3 : Int32)] I (fun v I2 => x_P E d 184 3 [.ref 142, .int a1] (v.toList ++ []) I2 Q)) :
    x_P E d 184 0 [.ref 142, .int a1] [] I Q := by
  refine wp_aload_n rfl rfl rfl ?_
  refine wp_iconst (v := (3 : Int32)) rfl (by decide) ?_
  refine s_invV (As := [.int (3 : Int32)]) (d1 := d - 1) rfl ⟨by decide, by decide⟩ rfl rfl rfl (Nat.le_of_ble_eq_true rfl) (by omega) (kd_142 _) (by decide) rfl rfl H ?_
  intro v I2 h2
  exact h2
set_option maxRecDepth 20000 in
theorem r_M_plainTelling_3 {E : XE} {d : Nat} {I : Nat → Nat → Int32} {Q : Option Value → (Nat → Nat → Int32) → Prop} (hd : 1 ≤ d) (v1 : Int32)
    (H : x_K E (d - 1) 183 [.ref 142, .int v1] I (fun v I2 => x_P E d 184 6 [x_jk, x_jk] (v.toList ++ []) I2 Q)) :
    x_P E d 184 3 [.ref 142, .int v1] [] I Q := by
  refine wp_aload_n rfl rfl rfl ?_
  refine wp_iload_n rfl rfl rfl ?_
  refine s_invV (As := [.int v1]) (d1 := d - 1) rfl ⟨by decide, by decide⟩ rfl rfl rfl (Nat.le_of_ble_eq_true rfl) (by omega) (kd_142 _) (by decide) rfl rfl H ?_
  intro v I2 h2
  exact x_P.weak (L := [x_jk, x_jk]) (by exact ⟨Or.inl rfl, ⟨Or.inl rfl, trivial⟩⟩) h2
set_option maxRecDepth 20000 in
theorem r_M_plainTelling_6 {E : XE} {d : Nat} {I : Nat → Nat → Int32} {Q : Option Value → (Nat → Nat → Int32) → Prop} (hd : 1 ≤ d) (w : Int32)
    (H : Q (some (.int (w * (2 : Int32)))) I) :
    x_P E d 184 6 [x_jk, x_jk] [.int w] I Q := by
  refine wp_iconst (v := (2 : Int32)) rfl (by decide) ?_
  refine wp_imul rfl ?_
  exact s_iret rfl rfl rfl H
set_option maxRecDepth 20000 in
theorem r_M_turningActs_0 {E : XE} {d : Nat} {I : Nat → Nat → Int32} {Q : Option Value → (Nat → Nat → Int32) → Prop} (hd : 1 ≤ d) (a1 : Int32)
    (H : x_K E (d - 1) 179 [.int (I 142 17), .int (3 : Int32)] I (fun v I2 => x_P E d 185 4 [.ref 142, .int a1, x_jk] (v.toList ++ []) I2 Q)) :
    x_P E d 185 0 [.ref 142, .int a1, x_jk] [] I Q := by
  refine wp_aload_n rfl rfl rfl ?_
  refine s_getI rfl (by decide) (kd_142 _) rfl ?_
  refine wp_iconst (v := (3 : Int32)) rfl (by decide) ?_
  refine s_invSt (As := [.int (I 142 17), .int (3 : Int32)]) (d1 := d - 1) rfl ⟨by decide, by decide⟩ rfl rfl rfl (Nat.le_of_ble_eq_true rfl) (by omega) H ?_
  intro v I2 h2
  exact h2
set_option maxRecDepth 20000 in
theorem r_M_turningActs_4 {E : XE} {d : Nat} {I : Nat → Nat → Int32} {Q : Option Value → (Nat → Nat → Int32) → Prop} (hd : 1 ≤ d) (v1 : Int32) (w : Int32)
    (H : ((w = 0 → (((I 142 17) = (4 : Int32) → x_K E (d - 1) 178 [.ref 142, .int (41 : Int32)] I (fun v I2 => x_P E d 185 21 [.ref 142, .int v1, x_jk] (v.toList ++ []) I2 Q)) ∧ (¬ ((I 142 17) = (4 : Int32)) → x_K E (d - 1) 184 [.ref 142, .int v1] I (fun v I2 => x_P E d 185 36 [x_jk, x_jk, x_jk] (v.toList ++ []) I2 Q)))) ∧ (¬ (w = 0) → x_K E (d - 1) 178 [.ref 142, .int (31 : Int32)] I (fun v I2 => x_P E d 185 8 [.ref 142, .int v1, x_jk] (v.toList ++ []) I2 Q)))) :
    x_P E d 185 4 [.ref 142, .int v1, x_jk] [.int w] I Q := by
  refine wp_if_eq rfl (fun c_1 => ?_) (fun c_1 => ?_)
  · replace H := H.1 c_1
    refine wp_aload_n rfl rfl rfl ?_
    refine s_getI rfl (by decide) (kd_142 _) rfl ?_
    refine wp_iconst (v := (4 : Int32)) rfl (by decide) ?_
    refine wp_icmp_ne rfl (fun c_2 => ?_) (fun c_2 => ?_)
    · replace H := H.2 c_2
      refine wp_aload_n rfl rfl rfl ?_
      refine wp_iload_n rfl rfl rfl ?_
      refine s_invV (As := [.int v1]) (d1 := d - 1) rfl ⟨by decide, by decide⟩ rfl rfl rfl (Nat.le_of_ble_eq_true rfl) (by omega) (kd_142 _) (by decide) rfl rfl H ?_
      intro v I2 h2
      exact x_P.weak (L := [x_jk, x_jk, x_jk]) (by exact ⟨Or.inl rfl, ⟨Or.inl rfl, ⟨Or.inr rfl, trivial⟩⟩⟩) h2
    · replace H := H.1 c_2
      refine wp_aload_n rfl rfl rfl ?_
      refine wp_bipush (v := (41 : Int32)) rfl (by decide) ?_
      refine s_invV (As := [.int (41 : Int32)]) (d1 := d - 1) rfl ⟨by decide, by decide⟩ rfl rfl rfl (Nat.le_of_ble_eq_true rfl) (by omega) (kd_142 _) (by decide) rfl rfl H ?_
      intro v I2 h2
      exact h2
  · replace H := H.2 c_1
    refine wp_aload_n rfl rfl rfl ?_
    refine wp_bipush (v := (31 : Int32)) rfl (by decide) ?_
    refine s_invV (As := [.int (31 : Int32)]) (d1 := d - 1) rfl ⟨by decide, by decide⟩ rfl rfl rfl (Nat.le_of_ble_eq_true rfl) (by omega) (kd_142 _) (by decide) rfl rfl H ?_
    intro v I2 h2
    exact h2
set_option maxRecDepth 20000 in
theorem r_M_turningActs_8 {E : XE} {d : Nat} {I : Nat → Nat → Int32} {Q : Option Value → (Nat → Nat → Int32) → Prop} (hd : 1 ≤ d) (v1 : Int32)
    (H : x_K E (d - 1) 184 [.ref 142, .int v1] I (fun v I2 => x_P E d 185 11 [x_jk, x_jk, x_jk] (v.toList ++ []) I2 Q)) :
    x_P E d 185 8 [.ref 142, .int v1, x_jk] [] I Q := by
  refine wp_aload_n rfl rfl rfl ?_
  refine wp_iload_n rfl rfl rfl ?_
  refine s_invV (As := [.int v1]) (d1 := d - 1) rfl ⟨by decide, by decide⟩ rfl rfl rfl (Nat.le_of_ble_eq_true rfl) (by omega) (kd_142 _) (by decide) rfl rfl H ?_
  intro v I2 h2
  exact x_P.weak (L := [x_jk, x_jk, x_jk]) (by exact ⟨Or.inl rfl, ⟨Or.inl rfl, ⟨Or.inr rfl, trivial⟩⟩⟩) h2
set_option maxRecDepth 20000 in
theorem r_M_turningActs_21 {E : XE} {d : Nat} {I : Nat → Nat → Int32} {Q : Option Value → (Nat → Nat → Int32) → Prop} (hd : 1 ≤ d) (v1 : Int32)
    (H : x_K E (d - 1) 184 [.ref 142, .int (v1 - (1 : Int32))] I (fun v I2 => x_P E d 185 26 [.ref 142, x_jk, x_jk] (v.toList ++ []) I2 Q)) :
    x_P E d 185 21 [.ref 142, .int v1, x_jk] [] I Q := by
  refine wp_aload_n rfl rfl rfl ?_
  refine wp_iload_n rfl rfl rfl ?_
  refine wp_iconst (v := (1 : Int32)) rfl (by decide) ?_
  refine wp_isub rfl ?_
  refine s_invV (As := [.int (v1 - (1 : Int32))]) (d1 := d - 1) rfl ⟨by decide, by decide⟩ rfl rfl rfl (Nat.le_of_ble_eq_true rfl) (by omega) (kd_142 _) (by decide) rfl rfl H ?_
  intro v I2 h2
  exact x_P.weak (L := [.ref 142, x_jk, x_jk]) (by exact ⟨Or.inr rfl, ⟨Or.inl rfl, ⟨Or.inr rfl, trivial⟩⟩⟩) h2
set_option maxRecDepth 20000 in
theorem r_M_turningActs_36 {E : XE} {d : Nat} {I : Nat → Nat → Int32} {Q : Option Value → (Nat → Nat → Int32) → Prop} (hd : 1 ≤ d) (w : Int32)
    (H : Q (some (.int w)) I) :
    x_P E d 185 36 [x_jk, x_jk, x_jk] [.int w] I Q := by
  exact s_iret rfl rfl rfl H
set_option maxRecDepth 20000 in
theorem r_M_turningActs_11 {E : XE} {d : Nat} {I : Nat → Nat → Int32} {Q : Option Value → (Nat → Nat → Int32) → Prop} (hd : 1 ≤ d) (w : Int32)
    (H : Q (some (.int (w ^^^ (7 : Int32)))) I) :
    x_P E d 185 11 [x_jk, x_jk, x_jk] [.int w] I Q := by
  refine wp_bipush (v := (7 : Int32)) rfl (by decide) ?_
  refine wp_ixor rfl ?_
  exact s_iret rfl rfl rfl H
set_option maxRecDepth 20000 in
theorem r_M_turningActs_26 {E : XE} {d : Nat} {I : Nat → Nat → Int32} {Q : Option Value → (Nat → Nat → Int32) → Prop} (hd : 1 ≤ d) (w : Int32)
    (H : x_K E (d - 1) 181 [.ref 142, .int (2 : Int32)] I (fun v I2 => x_P E d 185 31 [x_jk, x_jk, x_jk] (v.toList ++ [.int w]) I2 Q)) :
    x_P E d 185 26 [.ref 142, x_jk, x_jk] [.int w] I Q := by
  refine wp_istore_n (L' := [.ref 142, x_jk, .int w]) rfl rfl (by decide) rfl rfl ?_
  refine wp_iload_n rfl rfl rfl ?_
  refine wp_aload_n rfl rfl rfl ?_
  refine wp_iconst (v := (2 : Int32)) rfl (by decide) ?_
  refine s_invV (As := [.int (2 : Int32)]) (d1 := d - 1) rfl ⟨by decide, by decide⟩ rfl rfl rfl (Nat.le_of_ble_eq_true rfl) (by omega) (kd_142 _) (by decide) rfl rfl H ?_
  intro v I2 h2
  exact x_P.weak (L := [x_jk, x_jk, x_jk]) (by exact ⟨Or.inl rfl, ⟨Or.inr rfl, ⟨Or.inl rfl, trivial⟩⟩⟩) h2
set_option maxRecDepth 20000 in
theorem r_M_turningActs_31 {E : XE} {d : Nat} {I : Nat → Nat → Int32} {Q : Option Value → (Nat → Nat → Int32) → Prop} (hd : 1 ≤ d) (s0 : Int32) (w : Int32)
    (H : Q (some (.int (s0 + w))) I) :
    x_P E d 185 31 [x_jk, x_jk, x_jk] [.int w, .int s0] I Q := by
  refine wp_iadd rfl ?_
  exact s_iret rfl rfl rfl H
set_option maxRecDepth 20000 in
theorem r_M_act_0 {E : XE} {d : Nat} {I : Nat → Nat → Int32} {Q : Option Value → (Nat → Nat → Int32) → Prop} (hd : 3 ≤ d) (a1 : Int32) (a2 : Int32) (a3 : Int32)
    (H : (∀ I_1, I_1 = x_up I 142 16 (0 : Int32) → ((0 ≤ a1 ∧ a1 ≤ (I_1 143 31) - 1 → (((0 : Int32) ≤ a2 ∧ a2 ≤ (2 : Int32) → (vp_in ((38 : Int32) + a1) 931) ∧ (∀ I_5, I_5 = x_up I_1 142 17 (I_1 143 ((38 : Int32) + a1).toNatClampNeg) → (∀ I_6, I_6 = x_up I_5 142 18 a1 → (vp_in ((44 : Int32) + a1) 931) ∧ (∀ I_8, I_8 = x_up I_6 142 19 (I_6 143 ((44 : Int32) + a1).toNatClampNeg) → ((a2 = 0 → x_K E (d - 1) 181 [.ref 142, .int a3] I_8 (fun v I2 => x_P E d 186 38 [x_jk, x_jk, x_jk, x_jk] (v.toList ++ []) I2 Q)) ∧ (¬ (a2 = 0) → ((a2 = (1 : Int32) → x_K E (d - 1) 183 [.ref 142, .int a3] I_8 (fun v I2 => x_P E d 186 45 [x_jk, x_jk, x_jk, x_jk] (v.toList ++ []) I2 Q)) ∧ (¬ (a2 = (1 : Int32)) → x_K E (d - 1) 185 [.ref 142, .int a3] I_8 (fun v I2 => x_P E d 186 49 [x_jk, x_jk, x_jk, x_jk] (v.toList ++ []) I2 Q))))))))) ∧ (¬ ((0 : Int32) ≤ a2 ∧ a2 ≤ (2 : Int32)) → Q (some (.int (0 : Int32))) I_1))) ∧ (¬ (0 ≤ a1 ∧ a1 ≤ (I_1 143 31) - 1) → Q (some (.int (0 : Int32))) I_1)))) :
    x_P E d 186 0 [.ref 142, .int a1, .int a2, .int a3] [] I Q := by
  refine wp_aload_n rfl rfl rfl ?_
  refine wp_iconst (v := (0 : Int32)) rfl (by decide) ?_
  refine s_putI rfl (by decide) (kd_142 _) rfl rfl (x_fit_int _) ?_
  generalize hI_1 : x_up I 142 16 (0 : Int32) = I_1
  replace H := H _ hI_1.symm
  refine wp_aload_n rfl rfl rfl ?_
  refine wp_iload_n rfl rfl rfl ?_
  refine s_invVP (As := [.int a1]) (d1 := d - 1) rfl ⟨by decide, by decide⟩ rfl rfl rfl (Nat.le_of_ble_eq_true rfl) (by omega) (kd_142 _) (by decide) rfl rfl (p_isMan (by omega)) ?_
  refine s_bi_eq rfl (fun c_2 => ?_) (fun c_2 => ?_)
  · replace H := H.2 c_2
    refine wp_iconst (v := (0 : Int32)) rfl (by decide) ?_
    exact s_iret rfl rfl rfl H
  · replace H := H.1 c_2
    refine wp_iload_n rfl rfl rfl ?_
    refine wp_iconst (v := (0 : Int32)) rfl (by decide) ?_
    refine wp_iconst (v := (2 : Int32)) rfl (by decide) ?_
    refine s_invStP (As := [.int a2, .int (0 : Int32), .int (2 : Int32)]) (d1 := d - 1) rfl ⟨by decide, by decide⟩ rfl rfl rfl (Nat.le_of_ble_eq_true rfl) (by omega) (p_in (by omega)) ?_
    refine s_bi_ne rfl (fun c_3 => ?_) (fun c_3 => ?_)
    · replace H := H.1 c_3
      refine wp_aload_n rfl rfl rfl ?_
      refine wp_aload_n rfl rfl rfl ?_
      refine wp_getR (v := .ref 143) rfl (by decide) (kd_142 _) rfl (kr_142_1 _) ?_
      refine wp_bipush (v := (38 : Int32)) rfl (by decide) ?_
      refine wp_iload_n rfl rfl rfl ?_
      refine wp_iadd rfl ?_
      obtain ⟨o_4, H⟩ := H
      refine s_iald rfl (kd_143 _) o_4 ?_
      refine s_putI rfl (by decide) (kd_142 _) rfl rfl (x_fit_int _) ?_
      generalize hI_5 : x_up I_1 142 17 (I_1 143 ((38 : Int32) + a1).toNatClampNeg) = I_5
      replace H := H _ hI_5.symm
      refine wp_aload_n rfl rfl rfl ?_
      refine wp_iload_n rfl rfl rfl ?_
      refine s_putI rfl (by decide) (kd_142 _) rfl rfl (x_fit_int _) ?_
      generalize hI_6 : x_up I_5 142 18 a1 = I_6
      replace H := H _ hI_6.symm
      refine wp_aload_n rfl rfl rfl ?_
      refine wp_aload_n rfl rfl rfl ?_
      refine wp_getR (v := .ref 143) rfl (by decide) (kd_142 _) rfl (kr_142_1 _) ?_
      refine wp_bipush (v := (44 : Int32)) rfl (by decide) ?_
      refine wp_iload_n rfl rfl rfl ?_
      refine wp_iadd rfl ?_
      obtain ⟨o_7, H⟩ := H
      refine s_iald rfl (kd_143 _) o_7 ?_
      refine s_putI rfl (by decide) (kd_142 _) rfl rfl (x_fit_int _) ?_
      generalize hI_8 : x_up I_6 142 19 (I_6 143 ((44 : Int32) + a1).toNatClampNeg) = I_8
      replace H := H _ hI_8.symm
      refine wp_iload_n rfl rfl rfl ?_
      refine wp_if_ne rfl (fun c_9 => ?_) (fun c_9 => ?_)
      · replace H := H.2 c_9
        refine wp_iload_n rfl rfl rfl ?_
        refine wp_iconst (v := (1 : Int32)) rfl (by decide) ?_
        refine wp_icmp_ne rfl (fun c_10 => ?_) (fun c_10 => ?_)
        · replace H := H.2 c_10
          refine wp_aload_n rfl rfl rfl ?_
          refine wp_iload_n rfl rfl rfl ?_
          refine s_invV (As := [.int a3]) (d1 := d - 1) rfl ⟨by decide, by decide⟩ rfl rfl rfl (Nat.le_of_ble_eq_true rfl) (by omega) (kd_142 _) (by decide) rfl rfl H ?_
          intro v I2 h2
          exact x_P.weak (L := [x_jk, x_jk, x_jk, x_jk]) (by exact ⟨Or.inl rfl, ⟨Or.inl rfl, ⟨Or.inl rfl, ⟨Or.inl rfl, trivial⟩⟩⟩⟩) h2
        · replace H := H.1 c_10
          refine wp_aload_n rfl rfl rfl ?_
          refine wp_iload_n rfl rfl rfl ?_
          refine s_invV (As := [.int a3]) (d1 := d - 1) rfl ⟨by decide, by decide⟩ rfl rfl rfl (Nat.le_of_ble_eq_true rfl) (by omega) (kd_142 _) (by decide) rfl rfl H ?_
          intro v I2 h2
          exact x_P.weak (L := [x_jk, x_jk, x_jk, x_jk]) (by exact ⟨Or.inl rfl, ⟨Or.inl rfl, ⟨Or.inl rfl, ⟨Or.inl rfl, trivial⟩⟩⟩⟩) h2
      · replace H := H.1 c_9
        refine wp_aload_n rfl rfl rfl ?_
        refine wp_iload_n rfl rfl rfl ?_
        refine s_invV (As := [.int a3]) (d1 := d - 1) rfl ⟨by decide, by decide⟩ rfl rfl rfl (Nat.le_of_ble_eq_true rfl) (by omega) (kd_142 _) (by decide) rfl rfl H ?_
        intro v I2 h2
        exact x_P.weak (L := [x_jk, x_jk, x_jk, x_jk]) (by exact ⟨Or.inl rfl, ⟨Or.inl rfl, ⟨Or.inl rfl, ⟨Or.inl rfl, trivial⟩⟩⟩⟩) h2
    · replace H := H.2 c_3
      refine wp_iconst (v := (0 : Int32)) rfl (by decide) ?_
      exact s_iret rfl rfl rfl H
set_option maxRecDepth 20000 in
theorem r_M_act_38 {E : XE} {d : Nat} {I : Nat → Nat → Int32} {Q : Option Value → (Nat → Nat → Int32) → Prop} (hd : 1 ≤ d) (w : Int32)
    (H : Q (some (.int w)) I) :
    x_P E d 186 38 [x_jk, x_jk, x_jk, x_jk] [.int w] I Q := by
  refine wp_goto rfl ?_
  exact s_iret rfl rfl rfl H
set_option maxRecDepth 20000 in
theorem r_M_act_45 {E : XE} {d : Nat} {I : Nat → Nat → Int32} {Q : Option Value → (Nat → Nat → Int32) → Prop} (hd : 1 ≤ d) (w : Int32)
    (H : Q (some (.int w)) I) :
    x_P E d 186 45 [x_jk, x_jk, x_jk, x_jk] [.int w] I Q := by
  refine wp_goto rfl ?_
  exact s_iret rfl rfl rfl H
set_option maxRecDepth 20000 in
theorem r_M_act_49 {E : XE} {d : Nat} {I : Nat → Nat → Int32} {Q : Option Value → (Nat → Nat → Int32) → Prop} (hd : 1 ≤ d) (w : Int32)
    (H : Q (some (.int w)) I) :
    x_P E d 186 49 [x_jk, x_jk, x_jk, x_jk] [.int w] I Q := by
  exact s_iret rfl rfl rfl H
set_option maxRecDepth 20000 in
theorem r_M_trace_0 {E : XE} {d : Nat} {I : Nat → Nat → Int32} {Q : Option Value → (Nat → Nat → Int32) → Prop} (hd : 2 ≤ d) (a1 : Int32)
    (H : (∀ z_2, z_2 = (if (20 : Int32) ≤ (I 142 16) then (20 : Int32) else (I 142 16)) → (((0 : Int32) ≤ a1 ∧ a1 ≤ (z_2 - (1 : Int32)) → vp_in a1 20)) ∧ (∀ z_5, z_5 = (if (0 : Int32) ≤ a1 ∧ a1 ≤ (z_2 - (1 : Int32)) then (I 150 a1.toNatClampNeg) else (-1 : Int32)) → Q (some (.int z_5)) I))) :
    x_P E d 187 0 [.ref 142, .int a1] [] I Q := by
  refine wp_iload_n rfl rfl rfl ?_
  refine wp_iconst (v := (0 : Int32)) rfl (by decide) ?_
  refine wp_aload_n rfl rfl rfl ?_
  refine s_getI rfl (by decide) (kd_142 _) rfl ?_
  refine wp_bipush (v := (20 : Int32)) rfl (by decide) ?_
  obtain ⟨z_2, hz_2⟩ : ∃ z : Int32, z = (if (20 : Int32) ≤ (I 142 16) then (20 : Int32) else (I 142 16)) := ⟨_, rfl⟩
  replace H := H _ hz_2
  have J : x_P E d 187 10 [.ref 142, .int a1] [.int z_2, .int (0 : Int32), .int a1] I Q := by
    refine wp_iconst (v := (1 : Int32)) rfl (by decide) ?_
    refine wp_isub rfl ?_
    refine s_invStP (As := [.int a1, .int (0 : Int32), .int (z_2 - (1 : Int32))]) (d1 := d - 1) rfl ⟨by decide, by decide⟩ rfl rfl rfl (Nat.le_of_ble_eq_true rfl) (by omega) (p_in (by omega)) ?_
    obtain ⟨o_4, H⟩ := H
    obtain ⟨z_5, hz_5⟩ : ∃ z : Int32, z = (if (0 : Int32) ≤ a1 ∧ a1 ≤ (z_2 - (1 : Int32)) then (I 150 a1.toNatClampNeg) else (-1 : Int32)) := ⟨_, rfl⟩
    replace H := H _ hz_5
    have J : x_P E d 187 20 [.ref 142, .int a1] [.int z_5] I Q := by
      exact s_iret rfl rfl rfl H
    refine s_bi_eq rfl (fun c_3 => ?_) (fun c_3 => ?_)
    · refine wp_iconst (v := (-1 : Int32)) rfl (by decide) ?_
      exact x_P.cong rfl (by rw [show z_5 = (-1 : Int32) from by rw [hz_5]; simp only [if_neg c_3]]) J
    · refine wp_aload_n rfl rfl rfl ?_
      refine wp_getR (v := .ref 150) rfl (by decide) (kd_142 _) rfl (kr_142_15 _) ?_
      refine wp_iload_n rfl rfl rfl ?_
      refine s_iald rfl (kd_150 _) (o_4 c_3) ?_
      refine wp_goto rfl ?_
      exact x_P.cong rfl (by rw [show z_5 = (I 150 a1.toNatClampNeg) from by rw [hz_5]; simp only [if_pos c_3]]) J
  refine wp_icmp_ge rfl (fun c_1 => ?_) (fun c_1 => ?_)
  · refine wp_bipush (v := (20 : Int32)) rfl (by decide) ?_
    exact x_P.cong rfl (by rw [show z_2 = (20 : Int32) from by rw [hz_2]; simp only [if_pos c_1]]) J
  · refine wp_aload_n rfl rfl rfl ?_
    refine s_getI rfl (by decide) (kd_142 _) rfl ?_
    refine wp_goto rfl ?_
    exact x_P.cong rfl (by rw [show z_2 = (I 142 16) from by rw [hz_2]; simp only [if_neg c_1]]) J
set_option maxRecDepth 20000 in
theorem r_M_as_0 {E : XE} {d : Nat} {I : Nat → Nat → Int32} {Q : Option Value → (Nat → Nat → Int32) → Prop} (hd : 3 ≤ d) (a1 : Int32) (a2 : Int32)
    (H : ((0 ≤ a1 ∧ a1 ≤ (I 143 31) - 1 → (((0 : Int32) ≤ a2 ∧ a2 ≤ (6 : Int32) → (vp_in ((38 : Int32) + a1) 931) ∧ x_K E (d - 1) 179 [.int (I 143 ((38 : Int32) + a1).toNatClampNeg), .int a2] I (fun v I2 => x_P E d 188 19 [.ref 142, .int a1, x_jk] (v.toList ++ []) I2 Q)) ∧ (¬ ((0 : Int32) ≤ a2 ∧ a2 ≤ (6 : Int32)) → Q (some (.int (-1 : Int32))) I))) ∧ (¬ (0 ≤ a1 ∧ a1 ≤ (I 143 31) - 1) → Q (some (.int (-1 : Int32))) I))) :
    x_P E d 188 0 [.ref 142, .int a1, .int a2] [] I Q := by
  refine wp_aload_n rfl rfl rfl ?_
  refine wp_iload_n rfl rfl rfl ?_
  refine s_invVP (As := [.int a1]) (d1 := d - 1) rfl ⟨by decide, by decide⟩ rfl rfl rfl (Nat.le_of_ble_eq_true rfl) (by omega) (kd_142 _) (by decide) rfl rfl (p_isMan (by omega)) ?_
  refine s_bi_eq rfl (fun c_1 => ?_) (fun c_1 => ?_)
  · replace H := H.2 c_1
    refine wp_iconst (v := (-1 : Int32)) rfl (by decide) ?_
    exact s_iret rfl rfl rfl H
  · replace H := H.1 c_1
    refine wp_iload_n rfl rfl rfl ?_
    refine wp_iconst (v := (0 : Int32)) rfl (by decide) ?_
    refine wp_bipush (v := (6 : Int32)) rfl (by decide) ?_
    refine s_invStP (As := [.int a2, .int (0 : Int32), .int (6 : Int32)]) (d1 := d - 1) rfl ⟨by decide, by decide⟩ rfl rfl rfl (Nat.le_of_ble_eq_true rfl) (by omega) (p_in (by omega)) ?_
    refine s_bi_ne rfl (fun c_2 => ?_) (fun c_2 => ?_)
    · replace H := H.1 c_2
      refine wp_aload_n rfl rfl rfl ?_
      refine wp_getR (v := .ref 143) rfl (by decide) (kd_142 _) rfl (kr_142_1 _) ?_
      refine wp_bipush (v := (38 : Int32)) rfl (by decide) ?_
      refine wp_iload_n rfl rfl rfl ?_
      refine wp_iadd rfl ?_
      obtain ⟨o_3, H⟩ := H
      refine s_iald rfl (kd_143 _) o_3 ?_
      refine wp_iload_n rfl rfl rfl ?_
      refine s_invSt (As := [.int (I 143 ((38 : Int32) + a1).toNatClampNeg), .int a2]) (d1 := d - 1) rfl ⟨by decide, by decide⟩ rfl rfl rfl (Nat.le_of_ble_eq_true rfl) (by omega) H ?_
      intro v I2 h2
      exact x_P.weak (L := [.ref 142, .int a1, x_jk]) (by exact ⟨Or.inr rfl, ⟨Or.inr rfl, ⟨Or.inl rfl, trivial⟩⟩⟩) h2
    · replace H := H.2 c_2
      refine wp_iconst (v := (-1 : Int32)) rfl (by decide) ?_
      exact s_iret rfl rfl rfl H
set_option maxRecDepth 20000 in
theorem r_M_as_19 {E : XE} {d : Nat} {I : Nat → Nat → Int32} {Q : Option Value → (Nat → Nat → Int32) → Prop} (hd : 1 ≤ d) (v1 : Int32) (w : Int32)
    (H : ((¬ (w = 0) → vp_in ((44 : Int32) + v1) 931)) ∧ (∀ z_3, z_3 = (if w = 0 then (-6 : Int32) else (I 143 ((44 : Int32) + v1).toNatClampNeg)) → Q (some (.int z_3)) I)) :
    x_P E d 188 19 [.ref 142, .int v1, x_jk] [.int w] I Q := by
  obtain ⟨o_2, H⟩ := H
  obtain ⟨z_3, hz_3⟩ : ∃ z : Int32, z = (if w = 0 then (-6 : Int32) else (I 143 ((44 : Int32) + v1).toNatClampNeg)) := ⟨_, rfl⟩
  replace H := H _ hz_3
  have J : x_P E d 188 28 [.ref 142, .int v1, x_jk] [.int z_3] I Q := by
    exact s_iret rfl rfl rfl H
  refine wp_if_eq rfl (fun c_1 => ?_) (fun c_1 => ?_)
  · refine wp_bipush (v := (-6 : Int32)) rfl (by decide) ?_
    exact x_P.cong rfl (by rw [show z_3 = (-6 : Int32) from by rw [hz_3]; simp only [if_pos c_1]]) J
  · refine wp_aload_n rfl rfl rfl ?_
    refine wp_getR (v := .ref 143) rfl (by decide) (kd_142 _) rfl (kr_142_1 _) ?_
    refine wp_bipush (v := (44 : Int32)) rfl (by decide) ?_
    refine wp_iload_n rfl rfl rfl ?_
    refine wp_iadd rfl ?_
    refine s_iald rfl (kd_143 _) (o_2 c_1) ?_
    refine wp_goto rfl ?_
    exact x_P.cong rfl (by rw [show z_3 = (I 143 ((44 : Int32) + v1).toNatClampNeg) from by rw [hz_3]; simp only [if_neg c_1]]) J
set_option maxRecDepth 20000 in
theorem r_M_image_0 {E : XE} {d : Nat} {I : Nat → Nat → Int32} {Q : Option Value → (Nat → Nat → Int32) → Prop} (hd : 1 ≤ d) 
    (H : x_P E d 189 2 [.ref 142, .int (0 : Int32)] [] I Q) :
    x_P E d 189 0 [.ref 142, x_jk] [] I Q := by
  refine wp_iconst (v := (0 : Int32)) rfl (by decide) ?_
  refine wp_istore_n (L' := [.ref 142, .int (0 : Int32)]) rfl rfl (by decide) rfl rfl ?_
  exact H
set_option maxRecDepth 20000 in
theorem r_M_image_2 {E : XE} {d : Nat} {I : Nat → Nat → Int32} {Q : Option Value → (Nat → Nat → Int32) → Prop} (hd : 1 ≤ d) (v1 : Int32)
    (H : (((931 : Int32) ≤ v1 → (∀ I_2, I_2 = x_up I 142 4 (1 : Int32) → Q (some (.int (I_2 143 31))) I_2)) ∧ (¬ ((931 : Int32) ≤ v1) → (vp_in v1 931) ∧ (vp_in v1 931) ∧ (∀ I_5, I_5 = x_up I 144 v1.toNatClampNeg (I 143 v1.toNatClampNeg) → x_P E d 189 2 [.ref 142, .int (v1 + 1)] [] I_5 Q)))) :
    x_P E d 189 2 [.ref 142, .int v1] [] I Q := by
  refine wp_iload_n rfl rfl rfl ?_
  refine wp_sipush (v := (931 : Int32)) rfl (by decide) ?_
  refine wp_icmp_ge rfl (fun c_1 => ?_) (fun c_1 => ?_)
  · replace H := H.1 c_1
    refine wp_aload_n rfl rfl rfl ?_
    refine wp_iconst (v := (1 : Int32)) rfl (by decide) ?_
    refine s_putI rfl (by decide) (kd_142 _) rfl rfl x_fit_b1 ?_
    generalize hI_2 : x_up I 142 4 (1 : Int32) = I_2
    replace H := H _ hI_2.symm
    refine wp_aload_n rfl rfl rfl ?_
    refine wp_getR (v := .ref 143) rfl (by decide) (kd_142 _) rfl (kr_142_1 _) ?_
    refine wp_bipush (v := (31 : Int32)) rfl (by decide) ?_
    refine s_ialdc (k0 := 31) rfl (kd_143 _) rfl ?_
    exact s_iret rfl rfl rfl H
  · replace H := H.2 c_1
    refine wp_aload_n rfl rfl rfl ?_
    refine wp_getR (v := .ref 144) rfl (by decide) (kd_142 _) rfl (kr_142_2 _) ?_
    refine wp_iload_n rfl rfl rfl ?_
    refine wp_aload_n rfl rfl rfl ?_
    refine wp_getR (v := .ref 143) rfl (by decide) (kd_142 _) rfl (kr_142_1 _) ?_
    refine wp_iload_n rfl rfl rfl ?_
    obtain ⟨o_3, H⟩ := H
    refine s_iald rfl (kd_143 _) o_3 ?_
    obtain ⟨o_4, H⟩ := H
    refine s_iast rfl (kd_144 _) o_4 ?_
    generalize hI_5 : x_up I 144 v1.toNatClampNeg (I 143 v1.toNatClampNeg) = I_5
    replace H := H _ hI_5.symm
    refine wp_iinc (v := v1 + 1) (L' := [.ref 142, .int (v1 + 1)]) rfl rfl rfl rfl rfl ?_
    refine wp_goto rfl ?_
    exact H
set_option maxRecDepth 20000 in
theorem r_M_undo_0 {E : XE} {d : Nat} {I : Nat → Nat → Int32} {Q : Option Value → (Nat → Nat → Int32) → Prop} (hd : 1 ≤ d) 
    (H : (((I 142 4) = 0 → Q (some (.int (-3 : Int32))) I) ∧ (¬ ((I 142 4) = 0) → x_P E d 190 7 [.ref 142, .int (0 : Int32)] [] I Q))) :
    x_P E d 190 0 [.ref 142, x_jk] [] I Q := by
  refine wp_aload_n rfl rfl rfl ?_
  refine s_getI rfl (by decide) (kd_142 _) rfl ?_
  refine wp_if_ne rfl (fun c_1 => ?_) (fun c_1 => ?_)
  · replace H := H.2 c_1
    refine wp_iconst (v := (0 : Int32)) rfl (by decide) ?_
    refine wp_istore_n (L' := [.ref 142, .int (0 : Int32)]) rfl rfl (by decide) rfl rfl ?_
    exact H
  · replace H := H.1 c_1
    refine wp_bipush (v := (-3 : Int32)) rfl (by decide) ?_
    exact s_iret rfl rfl rfl H
set_option maxRecDepth 20000 in
theorem r_M_undo_7 {E : XE} {d : Nat} {I : Nat → Nat → Int32} {Q : Option Value → (Nat → Nat → Int32) → Prop} (hd : 1 ≤ d) (v1 : Int32)
    (H : (((931 : Int32) ≤ v1 → Q (some (.int (I 143 31))) I) ∧ (¬ ((931 : Int32) ≤ v1) → (vp_in v1 931) ∧ (vp_in v1 931) ∧ (∀ I_4, I_4 = x_up I 143 v1.toNatClampNeg (I 144 v1.toNatClampNeg) → x_P E d 190 7 [.ref 142, .int (v1 + 1)] [] I_4 Q)))) :
    x_P E d 190 7 [.ref 142, .int v1] [] I Q := by
  refine wp_iload_n rfl rfl rfl ?_
  refine wp_sipush (v := (931 : Int32)) rfl (by decide) ?_
  refine wp_icmp_ge rfl (fun c_1 => ?_) (fun c_1 => ?_)
  · replace H := H.1 c_1
    refine wp_aload_n rfl rfl rfl ?_
    refine wp_getR (v := .ref 143) rfl (by decide) (kd_142 _) rfl (kr_142_1 _) ?_
    refine wp_bipush (v := (31 : Int32)) rfl (by decide) ?_
    refine s_ialdc (k0 := 31) rfl (kd_143 _) rfl ?_
    exact s_iret rfl rfl rfl H
  · replace H := H.2 c_1
    refine wp_aload_n rfl rfl rfl ?_
    refine wp_getR (v := .ref 143) rfl (by decide) (kd_142 _) rfl (kr_142_1 _) ?_
    refine wp_iload_n rfl rfl rfl ?_
    refine wp_aload_n rfl rfl rfl ?_
    refine wp_getR (v := .ref 144) rfl (by decide) (kd_142 _) rfl (kr_142_2 _) ?_
    refine wp_iload_n rfl rfl rfl ?_
    obtain ⟨o_2, H⟩ := H
    refine s_iald rfl (kd_144 _) o_2 ?_
    obtain ⟨o_3, H⟩ := H
    refine s_iast rfl (kd_143 _) o_3 ?_
    generalize hI_4 : x_up I 143 v1.toNatClampNeg (I 144 v1.toNatClampNeg) = I_4
    replace H := H _ hI_4.symm
    refine wp_iinc (v := v1 + 1) (L' := [.ref 142, .int (v1 + 1)]) rfl rfl rfl rfl rfl ?_
    refine wp_goto rfl ?_
    exact H
set_option maxRecDepth 20000 in
theorem r_M_count_0 {E : XE} {d : Nat} {I : Nat → Nat → Int32} {Q : Option Value → (Nat → Nat → Int32) → Prop} (hd : 2 ≤ d) (a1 : Int32)
    (H : ((a1 = (6 : Int32) → Q (some (.int (I 142 16))) I) ∧ (¬ (a1 = (6 : Int32)) → (((0 : Int32) ≤ a1 ∧ a1 ≤ (5 : Int32) → vp_in ((31 : Int32) + a1) 931)) ∧ (∀ z_4, z_4 = (if (0 : Int32) ≤ a1 ∧ a1 ≤ (5 : Int32) then (I 143 ((31 : Int32) + a1).toNatClampNeg) else (-1 : Int32)) → Q (some (.int z_4)) I)))) :
    x_P E d 191 0 [.ref 142, .int a1] [] I Q := by
  refine wp_iload_n rfl rfl rfl ?_
  refine wp_bipush (v := (6 : Int32)) rfl (by decide) ?_
  refine wp_icmp_ne rfl (fun c_1 => ?_) (fun c_1 => ?_)
  · replace H := H.2 c_1
    refine wp_iload_n rfl rfl rfl ?_
    refine wp_iconst (v := (0 : Int32)) rfl (by decide) ?_
    refine wp_iconst (v := (5 : Int32)) rfl (by decide) ?_
    refine s_invStP (As := [.int a1, .int (0 : Int32), .int (5 : Int32)]) (d1 := d - 1) rfl ⟨by decide, by decide⟩ rfl rfl rfl (Nat.le_of_ble_eq_true rfl) (by omega) (p_in (by omega)) ?_
    obtain ⟨o_3, H⟩ := H
    obtain ⟨z_4, hz_4⟩ : ∃ z : Int32, z = (if (0 : Int32) ≤ a1 ∧ a1 ≤ (5 : Int32) then (I 143 ((31 : Int32) + a1).toNatClampNeg) else (-1 : Int32)) := ⟨_, rfl⟩
    replace H := H _ hz_4
    have J : x_P E d 191 19 [.ref 142, .int a1] [.int z_4] I Q := by
      exact s_iret rfl rfl rfl H
    refine s_bi_eq rfl (fun c_2 => ?_) (fun c_2 => ?_)
    · refine wp_iconst (v := (-1 : Int32)) rfl (by decide) ?_
      exact x_P.cong rfl (by rw [show z_4 = (-1 : Int32) from by rw [hz_4]; simp only [if_neg c_2]]) J
    · refine wp_aload_n rfl rfl rfl ?_
      refine wp_getR (v := .ref 143) rfl (by decide) (kd_142 _) rfl (kr_142_1 _) ?_
      refine wp_bipush (v := (31 : Int32)) rfl (by decide) ?_
      refine wp_iload_n rfl rfl rfl ?_
      refine wp_iadd rfl ?_
      refine s_iald rfl (kd_143 _) (o_3 c_2) ?_
      refine wp_goto rfl ?_
      exact x_P.cong rfl (by rw [show z_4 = (I 143 ((31 : Int32) + a1).toNatClampNeg) from by rw [hz_4]; simp only [if_pos c_2]]) J
  · replace H := H.1 c_1
    refine wp_aload_n rfl rfl rfl ?_
    refine s_getI rfl (by decide) (kd_142 _) rfl ?_
    refine wp_goto rfl ?_
    exact s_iret rfl rfl rfl H
