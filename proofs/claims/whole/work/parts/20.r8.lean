set_option maxRecDepth 20000 in
theorem r_M_held_0 {E : XE} {d : Nat} {I : Nat → Nat → Int32} {Q : Option Value → (Nat → Nat → Int32) → Prop} (hd : 1 ≤ d) (a0 : Int32) (a1 : Int32)
    (H : (∀ z_3, z_3 = (if 0 ≤ a0 then (if a0 ≤ a1 then a0 else a1) else (0 : Int32)) → Q (some (.int z_3)) I)) :
    x_P E d 111 0 [.int a0, .int a1] [] I Q := by
  refine wp_iload_n rfl rfl rfl ?_
  obtain ⟨z_3, hz_3⟩ : ∃ z : Int32, z = (if 0 ≤ a0 then (if a0 ≤ a1 then a0 else a1) else (0 : Int32)) := ⟨_, rfl⟩
  replace H := H _ hz_3
  have J : x_P E d 111 10 [.int a0, .int a1] [.int z_3] I Q := by
    exact s_iret rfl rfl rfl H
  refine wp_if_ge rfl (fun c_1 => ?_) (fun c_1 => ?_)
  · refine wp_iload_n rfl rfl rfl ?_
    refine wp_iload_n rfl rfl rfl ?_
    refine wp_icmp_le rfl (fun c_2 => ?_) (fun c_2 => ?_)
    · refine wp_iload_n rfl rfl rfl ?_
      exact x_P.cong rfl (by rw [show z_3 = a0 from by rw [hz_3]; simp only [if_pos c_1, if_pos c_2]]) J
    · refine wp_iload_n rfl rfl rfl ?_
      refine wp_goto rfl ?_
      exact x_P.cong rfl (by rw [show z_3 = a1 from by rw [hz_3]; simp only [if_pos c_1, if_neg c_2]]) J
  · refine wp_iconst (v := (0 : Int32)) rfl (by decide) ?_
    refine wp_goto rfl ?_
    exact x_P.cong rfl (by rw [show z_3 = (0 : Int32) from by rw [hz_3]; simp only [if_neg c_1]]) J
set_option maxRecDepth 20000 in
theorem r_M_keeps_0 {E : XE} {d : Nat} {I : Nat → Nat → Int32} {Q : Option Value → (Nat → Nat → Int32) → Prop} (hd : 1 ≤ d) 
    (H : x_P E d 112 2 [.ref 142, .int (0 : Int32)] [] I Q) :
    x_P E d 112 0 [.ref 142, x_jk] [] I Q := by
  refine wp_iconst (v := (0 : Int32)) rfl (by decide) ?_
  refine wp_istore_n (L' := [.ref 142, .int (0 : Int32)]) rfl rfl (by decide) rfl rfl ?_
  exact H
set_option maxRecDepth 20000 in
theorem r_M_keeps_2 {E : XE} {d : Nat} {I : Nat → Nat → Int32} {Q : Option Value → (Nat → Nat → Int32) → Prop} (hd : 1 ≤ d) (v1 : Int32)
    (H : (((31 : Int32) ≤ v1 → Q none I) ∧ (¬ ((31 : Int32) ≤ v1) → (vp_in v1 931) ∧ (vp_in v1 31) ∧ (∀ I_4, I_4 = x_up I 145 v1.toNatClampNeg (I 143 v1.toNatClampNeg) → x_P E d 112 2 [.ref 142, .int (v1 + 1)] [] I_4 Q)))) :
    x_P E d 112 2 [.ref 142, .int v1] [] I Q := by
  refine wp_iload_n rfl rfl rfl ?_
  refine wp_bipush (v := (31 : Int32)) rfl (by decide) ?_
  refine wp_icmp_ge rfl (fun c_1 => ?_) (fun c_1 => ?_)
  · replace H := H.1 c_1
    exact s_vret rfl rfl H
  · replace H := H.2 c_1
    refine wp_aload_n rfl rfl rfl ?_
    refine wp_getR (v := .ref 145) rfl (by decide) (kd_142 _) rfl (kr_142_3 _) ?_
    refine wp_iload_n rfl rfl rfl ?_
    refine wp_aload_n rfl rfl rfl ?_
    refine wp_getR (v := .ref 143) rfl (by decide) (kd_142 _) rfl (kr_142_1 _) ?_
    refine wp_iload_n rfl rfl rfl ?_
    obtain ⟨o_2, H⟩ := H
    refine s_iald rfl (kd_143 _) o_2 ?_
    obtain ⟨o_3, H⟩ := H
    refine s_iast rfl (kd_145 _) o_3 ?_
    generalize hI_4 : x_up I 145 v1.toNatClampNeg (I 143 v1.toNatClampNeg) = I_4
    replace H := H _ hI_4.symm
    refine wp_iinc (v := v1 + 1) (L' := [.ref 142, .int (v1 + 1)]) rfl rfl rfl rfl rfl ?_
    refine wp_goto rfl ?_
    exact H
set_option maxRecDepth 20000 in
theorem r_M_goesBack_0 {E : XE} {d : Nat} {I : Nat → Nat → Int32} {Q : Option Value → (Nat → Nat → Int32) → Prop} (hd : 1 ≤ d) 
    (H : x_P E d 113 2 [.ref 142, .int (0 : Int32)] [] I Q) :
    x_P E d 113 0 [.ref 142, x_jk] [] I Q := by
  refine wp_iconst (v := (0 : Int32)) rfl (by decide) ?_
  refine wp_istore_n (L' := [.ref 142, .int (0 : Int32)]) rfl rfl (by decide) rfl rfl ?_
  exact H
set_option maxRecDepth 20000 in
theorem r_M_goesBack_2 {E : XE} {d : Nat} {I : Nat → Nat → Int32} {Q : Option Value → (Nat → Nat → Int32) → Prop} (hd : 1 ≤ d) (v1 : Int32)
    (H : (((31 : Int32) ≤ v1 → Q none I) ∧ (¬ ((31 : Int32) ≤ v1) → (vp_in v1 31) ∧ (vp_in v1 931) ∧ (∀ I_4, I_4 = x_up I 143 v1.toNatClampNeg (I 145 v1.toNatClampNeg) → x_P E d 113 2 [.ref 142, .int (v1 + 1)] [] I_4 Q)))) :
    x_P E d 113 2 [.ref 142, .int v1] [] I Q := by
  refine wp_iload_n rfl rfl rfl ?_
  refine wp_bipush (v := (31 : Int32)) rfl (by decide) ?_
  refine wp_icmp_ge rfl (fun c_1 => ?_) (fun c_1 => ?_)
  · replace H := H.1 c_1
    exact s_vret rfl rfl H
  · replace H := H.2 c_1
    refine wp_aload_n rfl rfl rfl ?_
    refine wp_getR (v := .ref 143) rfl (by decide) (kd_142 _) rfl (kr_142_1 _) ?_
    refine wp_iload_n rfl rfl rfl ?_
    refine wp_aload_n rfl rfl rfl ?_
    refine wp_getR (v := .ref 145) rfl (by decide) (kd_142 _) rfl (kr_142_3 _) ?_
    refine wp_iload_n rfl rfl rfl ?_
    obtain ⟨o_2, H⟩ := H
    refine s_iald rfl (kd_145 _) o_2 ?_
    obtain ⟨o_3, H⟩ := H
    refine s_iast rfl (kd_143 _) o_3 ?_
    generalize hI_4 : x_up I 143 v1.toNatClampNeg (I 145 v1.toNatClampNeg) = I_4
    replace H := H _ hI_4.symm
    refine wp_iinc (v := v1 + 1) (L' := [.ref 142, .int (v1 + 1)]) rfl rfl rfl rfl rfl ?_
    refine wp_goto rfl ?_
    exact H
set_option maxRecDepth 20000 in
theorem r_M_feed_0 {E : XE} {d : Nat} {I : Nat → Nat → Int32} {Q : Option Value → (Nat → Nat → Int32) → Prop} (hd : 2 ≤ d) (a1 : Int32)
    (H : (((0 : Int32) ≤ a1 ∧ a1 ≤ (127 : Int32) → (((I 143 36) = (100 : Int32) → Q (some (.int (-4 : Int32))) I) ∧ (¬ ((I 143 36) = (100 : Int32)) → (vp_in ((121 : Int32) + (I 143 36)) 931) ∧ (∀ I_4, I_4 = x_up I 143 ((121 : Int32) + (I 143 36)).toNatClampNeg a1 → (∀ I_5, I_5 = x_up I_4 143 36 ((I_4 143 36) + (1 : Int32)) → Q (some (.int (I_5 143 36))) I_5))))) ∧ (¬ ((0 : Int32) ≤ a1 ∧ a1 ≤ (127 : Int32)) → Q (some (.int (-2 : Int32))) I))) :
    x_P E d 114 0 [.ref 142, .int a1] [] I Q := by
  refine wp_iload_n rfl rfl rfl ?_
  refine wp_iconst (v := (0 : Int32)) rfl (by decide) ?_
  refine wp_bipush (v := (127 : Int32)) rfl (by decide) ?_
  refine s_invStP (As := [.int a1, .int (0 : Int32), .int (127 : Int32)]) (d1 := d - 1) rfl ⟨by decide, by decide⟩ rfl rfl rfl (Nat.le_of_ble_eq_true rfl) (by omega) (p_in (by omega)) ?_
  refine s_bi_ne rfl (fun c_1 => ?_) (fun c_1 => ?_)
  · replace H := H.1 c_1
    refine wp_aload_n rfl rfl rfl ?_
    refine wp_getR (v := .ref 143) rfl (by decide) (kd_142 _) rfl (kr_142_1 _) ?_
    refine wp_bipush (v := (36 : Int32)) rfl (by decide) ?_
    refine s_ialdc (k0 := 36) rfl (kd_143 _) rfl ?_
    refine wp_bipush (v := (100 : Int32)) rfl (by decide) ?_
    refine wp_icmp_ne rfl (fun c_2 => ?_) (fun c_2 => ?_)
    · replace H := H.2 c_2
      refine wp_aload_n rfl rfl rfl ?_
      refine wp_getR (v := .ref 143) rfl (by decide) (kd_142 _) rfl (kr_142_1 _) ?_
      refine wp_bipush (v := (121 : Int32)) rfl (by decide) ?_
      refine wp_aload_n rfl rfl rfl ?_
      refine wp_getR (v := .ref 143) rfl (by decide) (kd_142 _) rfl (kr_142_1 _) ?_
      refine wp_bipush (v := (36 : Int32)) rfl (by decide) ?_
      refine s_ialdc (k0 := 36) rfl (kd_143 _) rfl ?_
      refine wp_iadd rfl ?_
      refine wp_iload_n rfl rfl rfl ?_
      obtain ⟨o_3, H⟩ := H
      refine s_iast rfl (kd_143 _) o_3 ?_
      generalize hI_4 : x_up I 143 ((121 : Int32) + (I 143 36)).toNatClampNeg a1 = I_4
      replace H := H _ hI_4.symm
      refine wp_aload_n rfl rfl rfl ?_
      refine wp_getR (v := .ref 143) rfl (by decide) (kd_142 _) rfl (kr_142_1 _) ?_
      refine wp_bipush (v := (36 : Int32)) rfl (by decide) ?_
      refine wp_dup2 rfl rfl rfl ?_
      refine s_ialdc (k0 := 36) rfl (kd_143 _) rfl ?_
      refine wp_iconst (v := (1 : Int32)) rfl (by decide) ?_
      refine wp_iadd rfl ?_
      refine s_iastc (k0 := 36) rfl (kd_143 _) rfl ?_
      generalize hI_5 : x_up I_4 143 36 ((I_4 143 36) + (1 : Int32)) = I_5
      replace H := H _ hI_5.symm
      refine wp_aload_n rfl rfl rfl ?_
      refine wp_getR (v := .ref 143) rfl (by decide) (kd_142 _) rfl (kr_142_1 _) ?_
      refine wp_bipush (v := (36 : Int32)) rfl (by decide) ?_
      refine s_ialdc (k0 := 36) rfl (kd_143 _) rfl ?_
      exact s_iret rfl rfl rfl H
    · replace H := H.1 c_2
      refine wp_bipush (v := (-4 : Int32)) rfl (by decide) ?_
      exact s_iret rfl rfl rfl H
  · replace H := H.2 c_1
    refine wp_bipush (v := (-2 : Int32)) rfl (by decide) ?_
    exact s_iret rfl rfl rfl H
set_option maxRecDepth 20000 in
theorem r_M_here_0 {E : XE} {d : Nat} {I : Nat → Nat → Int32} {Q : Option Value → (Nat → Nat → Int32) → Prop} (hd : 1 ≤ d) 
    (H : ((¬ ((I 142 7) ≤ (I 142 6)) → vp_in ((121 : Int32) + (I 142 6)) 931)) ∧ (∀ z_3, z_3 = (if (I 142 7) ≤ (I 142 6) then (-1 : Int32) else (I 143 ((121 : Int32) + (I 142 6)).toNatClampNeg)) → Q (some (.int z_3)) I)) :
    x_P E d 115 0 [.ref 142] [] I Q := by
  refine wp_aload_n rfl rfl rfl ?_
  refine s_getI rfl (by decide) (kd_142 _) rfl ?_
  refine wp_aload_n rfl rfl rfl ?_
  refine s_getI rfl (by decide) (kd_142 _) rfl ?_
  obtain ⟨o_2, H⟩ := H
  obtain ⟨z_3, hz_3⟩ : ∃ z : Int32, z = (if (I 142 7) ≤ (I 142 6) then (-1 : Int32) else (I 143 ((121 : Int32) + (I 142 6)).toNatClampNeg)) := ⟨_, rfl⟩
  replace H := H _ hz_3
  have J : x_P E d 115 14 [.ref 142] [.int z_3] I Q := by
    exact s_iret rfl rfl rfl H
  refine wp_icmp_ge rfl (fun c_1 => ?_) (fun c_1 => ?_)
  · refine wp_iconst (v := (-1 : Int32)) rfl (by decide) ?_
    exact x_P.cong rfl (by rw [show z_3 = (-1 : Int32) from by rw [hz_3]; simp only [if_pos c_1]]) J
  · refine wp_aload_n rfl rfl rfl ?_
    refine wp_getR (v := .ref 143) rfl (by decide) (kd_142 _) rfl (kr_142_1 _) ?_
    refine wp_bipush (v := (121 : Int32)) rfl (by decide) ?_
    refine wp_aload_n rfl rfl rfl ?_
    refine s_getI rfl (by decide) (kd_142 _) rfl ?_
    refine wp_iadd rfl ?_
    refine s_iald rfl (kd_143 _) (o_2 c_1) ?_
    refine wp_goto rfl ?_
    exact x_P.cong rfl (by rw [show z_3 = (I 143 ((121 : Int32) + (I 142 6)).toNatClampNeg) from by rw [hz_3]; simp only [if_neg c_1]]) J
set_option maxRecDepth 20000 in
theorem r_M_must_0 {E : XE} {d : Nat} {I : Nat → Nat → Int32} {Q : Option Value → (Nat → Nat → Int32) → Prop} (hd : 1 ≤ d) (a1 : Int32)
    (H : (((I 142 8) = 0 → x_K E (d - 1) 115 [.ref 142] I (fun v I2 => x_P E d 116 6 [.ref 142, .int a1] (v.toList ++ [.ref 142]) I2 Q)) ∧ (¬ ((I 142 8) = 0) → (∀ I_2, I_2 = x_up I 142 8 (1 : Int32) → (∀ I_4, I_4 = x_up I_2 142 6 ((I_2 142 6) + (x_bi ((I_2 142 8) = 0))) → Q none I_4))))) :
    x_P E d 116 0 [.ref 142, .int a1] [] I Q := by
  refine wp_aload_n rfl rfl rfl ?_
  refine wp_aload_n rfl rfl rfl ?_
  refine s_getI rfl (by decide) (kd_142 _) rfl ?_
  refine wp_if_ne rfl (fun c_1 => ?_) (fun c_1 => ?_)
  · replace H := H.2 c_1
    refine wp_iconst (v := (1 : Int32)) rfl (by decide) ?_
    refine wp_goto rfl ?_
    refine s_putI rfl (by decide) (kd_142 _) rfl rfl x_fit_b1 ?_
    generalize hI_2 : x_up I 142 8 (1 : Int32) = I_2
    replace H := H _ hI_2.symm
    refine wp_aload_n rfl rfl rfl ?_
    refine wp_dup rfl rfl ?_
    refine s_getI rfl (by decide) (kd_142 _) rfl ?_
    refine wp_aload_n rfl rfl rfl ?_
    refine s_getI rfl (by decide) (kd_142 _) rfl ?_
    have J : x_P E d 116 21 [.ref 142, .int a1] [.int (x_bi ((I_2 142 8) = 0)), .int (I_2 142 6), .ref 142] I_2 Q := by
      refine wp_iadd rfl ?_
      refine s_putI rfl (by decide) (kd_142 _) rfl rfl (x_fit_int _) ?_
      generalize hI_4 : x_up I_2 142 6 ((I_2 142 6) + (x_bi ((I_2 142 8) = 0))) = I_4
      replace H := H _ hI_4.symm
      exact s_vret rfl rfl H
    refine wp_if_eq rfl (fun c_3 => ?_) (fun c_3 => ?_)
    · refine wp_iconst (v := (1 : Int32)) rfl (by decide) ?_
      exact x_P.cong rfl (by rw [show x_bi ((I_2 142 8) = 0) = (1 : Int32) from x_bi_t c_3]) J
    · refine wp_iconst (v := (0 : Int32)) rfl (by decide) ?_
      refine wp_goto rfl ?_
      exact x_P.cong rfl (by rw [show x_bi ((I_2 142 8) = 0) = (0 : Int32) from x_bi_f c_3]) J
  · replace H := H.1 c_1
    refine wp_aload_n rfl rfl rfl ?_
    refine s_invV (As := []) (d1 := d - 1) rfl ⟨by decide, by decide⟩ rfl rfl rfl (Nat.le_of_ble_eq_true rfl) (by omega) (kd_142 _) (by decide) rfl rfl H ?_
    intro v I2 h2
    exact h2
set_option maxRecDepth 20000 in
theorem r_M_must_6 {E : XE} {d : Nat} {I : Nat → Nat → Int32} {Q : Option Value → (Nat → Nat → Int32) → Prop} (hd : 1 ≤ d) (v1 : Int32) (w : Int32)
    (H : (∀ I_2, I_2 = x_up I 142 8 (x_bi (¬ (w = v1))) → (∀ I_4, I_4 = x_up I_2 142 6 ((I_2 142 6) + (x_bi ((I_2 142 8) = 0))) → Q none I_4))) :
    x_P E d 116 6 [.ref 142, .int v1] [.int w, .ref 142] I Q := by
  refine wp_iload_n rfl rfl rfl ?_
  have J : x_P E d 116 11 [.ref 142, .int v1] [.int (x_bi (¬ (w = v1))), .ref 142] I Q := by
    refine s_putI rfl (by decide) (kd_142 _) rfl rfl x_fit_bi ?_
    generalize hI_2 : x_up I 142 8 (x_bi (¬ (w = v1))) = I_2
    replace H := H _ hI_2.symm
    refine wp_aload_n rfl rfl rfl ?_
    refine wp_dup rfl rfl ?_
    refine s_getI rfl (by decide) (kd_142 _) rfl ?_
    refine wp_aload_n rfl rfl rfl ?_
    refine s_getI rfl (by decide) (kd_142 _) rfl ?_
    have J : x_P E d 116 21 [.ref 142, .int v1] [.int (x_bi ((I_2 142 8) = 0)), .int (I_2 142 6), .ref 142] I_2 Q := by
      refine wp_iadd rfl ?_
      refine s_putI rfl (by decide) (kd_142 _) rfl rfl (x_fit_int _) ?_
      generalize hI_4 : x_up I_2 142 6 ((I_2 142 6) + (x_bi ((I_2 142 8) = 0))) = I_4
      replace H := H _ hI_4.symm
      exact s_vret rfl rfl H
    refine wp_if_eq rfl (fun c_3 => ?_) (fun c_3 => ?_)
    · refine wp_iconst (v := (1 : Int32)) rfl (by decide) ?_
      exact x_P.cong rfl (by rw [show x_bi ((I_2 142 8) = 0) = (1 : Int32) from x_bi_t c_3]) J
    · refine wp_iconst (v := (0 : Int32)) rfl (by decide) ?_
      refine wp_goto rfl ?_
      exact x_P.cong rfl (by rw [show x_bi ((I_2 142 8) = 0) = (0 : Int32) from x_bi_f c_3]) J
  refine wp_icmp_eq rfl (fun c_1 => ?_) (fun c_1 => ?_)
  · refine wp_iconst (v := (0 : Int32)) rfl (by decide) ?_
    exact x_P.cong rfl (by rw [show x_bi (¬ (w = v1)) = (0 : Int32) from x_bi_f (fun h => h c_1)]) J
  · refine wp_iconst (v := (1 : Int32)) rfl (by decide) ?_
    refine wp_goto rfl ?_
    exact x_P.cong rfl (by rw [show x_bi (¬ (w = v1)) = (1 : Int32) from x_bi_t c_1]) J
set_option maxRecDepth 20000 in
theorem r_M_spells_0 {E : XE} {d : Nat} {I : Nat → Nat → Int32} {Q : Option Value → (Nat → Nat → Int32) → Prop} (hd : 1 ≤ d) (e1 : Nat) (he1 : e1 < 8)
    (H : x_P E d 117 2 [.ref 142, .ref (8 + e1), .int (0 : Int32)] [] I Q) :
    x_P E d 117 0 [.ref 142, .ref (8 + e1), x_jk] [] I Q := by
  refine wp_iconst (v := (0 : Int32)) rfl (by decide) ?_
  refine wp_istore_n (L' := [.ref 142, .ref (8 + e1), .int (0 : Int32)]) rfl rfl (by decide) rfl rfl ?_
  exact H
set_option maxRecDepth 20000 in
theorem r_M_spells_2 {E : XE} {d : Nat} {I : Nat → Nat → Int32} {Q : Option Value → (Nat → Nat → Int32) → Prop} (hd : 1 ≤ d) (ev1 : Nat) (hev1 : ev1 < 8) (v2 : Int32)
    (H : x_K E (d - 1) 6 [.ref (8 + ev1)] I (fun v I2 => x_P E d 117 5 [.ref 142, .ref (8 + ev1), .int v2] (v.toList ++ [.int v2]) I2 Q)) :
    x_P E d 117 2 [.ref 142, .ref (8 + ev1), .int v2] [] I Q := by
  refine wp_iload_n rfl rfl rfl ?_
  refine wp_aload_n rfl rfl rfl ?_
  refine s_invS (As := []) (d1 := d - 1) (e0 := ev1) rfl ⟨by decide, by decide⟩ rfl rfl rfl (Nat.le_of_ble_eq_true rfl) (by omega) hev1 rfl H ?_
  intro v I2 h2
  exact h2
set_option maxRecDepth 20000 in
theorem r_M_spells_5 {E : XE} {d : Nat} {I : Nat → Nat → Int32} {Q : Option Value → (Nat → Nat → Int32) → Prop} (hd : 1 ≤ d) (ev1 : Nat) (hev1 : ev1 < 8) (v2 : Int32) (s0 : Int32) (w : Int32)
    (H : ((w ≤ s0 → Q none I) ∧ (¬ (w ≤ s0) → x_K E (d - 1) 7 [.ref (8 + ev1), .int v2] I (fun v I2 => x_P E d 117 10 [.ref 142, .ref (8 + ev1), .int v2] (v.toList ++ [.ref 142]) I2 Q)))) :
    x_P E d 117 5 [.ref 142, .ref (8 + ev1), .int v2] [.int w, .int s0] I Q := by
  refine wp_icmp_ge rfl (fun c_1 => ?_) (fun c_1 => ?_)
  · replace H := H.1 c_1
    exact s_vret rfl rfl H
  · replace H := H.2 c_1
    refine wp_aload_n rfl rfl rfl ?_
    refine wp_aload_n rfl rfl rfl ?_
    refine wp_iload_n rfl rfl rfl ?_
    refine s_invS (As := [.int v2]) (d1 := d - 1) (e0 := ev1) rfl ⟨by decide, by decide⟩ rfl rfl rfl (Nat.le_of_ble_eq_true rfl) (by omega) hev1 rfl H ?_
    intro v I2 h2
    exact h2
set_option maxRecDepth 20000 in
theorem r_M_spells_10 {E : XE} {d : Nat} {I : Nat → Nat → Int32} {Q : Option Value → (Nat → Nat → Int32) → Prop} (hd : 1 ≤ d) (ev1 : Nat) (hev1 : ev1 < 8) (v2 : Int32) (w : Int32)
    (H : x_K E (d - 1) 116 [.ref 142, .int w] I (fun v I2 => x_P E d 117 11 [.ref 142, .ref (8 + ev1), .int v2] (v.toList ++ []) I2 Q)) :
    x_P E d 117 10 [.ref 142, .ref (8 + ev1), .int v2] [.int w, .ref 142] I Q := by
  refine s_invV (As := [.int w]) (d1 := d - 1) rfl ⟨by decide, by decide⟩ rfl rfl rfl (Nat.le_of_ble_eq_true rfl) (by omega) (kd_142 _) (by decide) rfl rfl H ?_
  intro v I2 h2
  exact h2
set_option maxRecDepth 20000 in
theorem r_M_spells_11 {E : XE} {d : Nat} {I : Nat → Nat → Int32} {Q : Option Value → (Nat → Nat → Int32) → Prop} (hd : 1 ≤ d) (ev1 : Nat) (hev1 : ev1 < 8) (v2 : Int32)
    (H : x_P E d 117 2 [.ref 142, .ref (8 + ev1), .int (v2 + 1)] [] I Q) :
    x_P E d 117 11 [.ref 142, .ref (8 + ev1), .int v2] [] I Q := by
  refine wp_iinc (v := v2 + 1) (L' := [.ref 142, .ref (8 + ev1), .int (v2 + 1)]) rfl rfl rfl rfl rfl ?_
  refine wp_goto rfl ?_
  exact H
set_option maxRecDepth 20000 in
theorem r_M_figures_0 {E : XE} {d : Nat} {I : Nat → Nat → Int32} {Q : Option Value → (Nat → Nat → Int32) → Prop} (hd : 1 ≤ d) 
    (H : (((I 142 8) = 0 → x_K E (d - 1) 115 [.ref 142] I (fun v I2 => x_P E d 118 6 [.ref 142, x_jk, x_jk] (v.toList ++ [.ref 142]) I2 Q)) ∧ (¬ ((I 142 8) = 0) → (∀ I_2, I_2 = x_up I 142 8 (1 : Int32) → x_P E d 118 18 [.ref 142, .int (0 : Int32), .int (0 : Int32)] [] I_2 Q)))) :
    x_P E d 118 0 [.ref 142, x_jk, x_jk] [] I Q := by
  refine wp_aload_n rfl rfl rfl ?_
  refine wp_aload_n rfl rfl rfl ?_
  refine s_getI rfl (by decide) (kd_142 _) rfl ?_
  refine wp_if_ne rfl (fun c_1 => ?_) (fun c_1 => ?_)
  · replace H := H.2 c_1
    refine wp_iconst (v := (1 : Int32)) rfl (by decide) ?_
    refine wp_goto rfl ?_
    refine s_putI rfl (by decide) (kd_142 _) rfl rfl x_fit_b1 ?_
    generalize hI_2 : x_up I 142 8 (1 : Int32) = I_2
    replace H := H _ hI_2.symm
    refine wp_iconst (v := (0 : Int32)) rfl (by decide) ?_
    refine wp_istore_n (L' := [.ref 142, .int (0 : Int32), x_jk]) rfl rfl (by decide) rfl rfl ?_
    refine wp_iconst (v := (0 : Int32)) rfl (by decide) ?_
    refine wp_istore_n (L' := [.ref 142, .int (0 : Int32), .int (0 : Int32)]) rfl rfl (by decide) rfl rfl ?_
    exact H
  · replace H := H.1 c_1
    refine wp_aload_n rfl rfl rfl ?_
    refine s_invV (As := []) (d1 := d - 1) rfl ⟨by decide, by decide⟩ rfl rfl rfl (Nat.le_of_ble_eq_true rfl) (by omega) (kd_142 _) (by decide) rfl rfl H ?_
    intro v I2 h2
    exact h2
set_option maxRecDepth 20000 in
theorem r_M_figures_6 {E : XE} {d : Nat} {I : Nat → Nat → Int32} {Q : Option Value → (Nat → Nat → Int32) → Prop} (hd : 2 ≤ d) (w : Int32)
    (H : (∀ I_2, I_2 = x_up I 142 8 (x_bi (¬ ((48 : Int32) ≤ w ∧ w ≤ (57 : Int32)))) → x_P E d 118 18 [.ref 142, .int (0 : Int32), .int (0 : Int32)] [] I_2 Q)) :
    x_P E d 118 6 [.ref 142, x_jk, x_jk] [.int w, .ref 142] I Q := by
  refine wp_bipush (v := (48 : Int32)) rfl (by decide) ?_
  refine wp_bipush (v := (57 : Int32)) rfl (by decide) ?_
  refine s_invStP (As := [.int w, .int (48 : Int32), .int (57 : Int32)]) (d1 := d - 1) rfl ⟨by decide, by decide⟩ rfl rfl rfl (Nat.le_of_ble_eq_true rfl) (by omega) (p_in (by omega)) ?_
  have J : x_P E d 118 13 [.ref 142, x_jk, x_jk] [.int (x_bi (¬ ((48 : Int32) ≤ w ∧ w ≤ (57 : Int32)))), .ref 142] I Q := by
    refine s_putI rfl (by decide) (kd_142 _) rfl rfl x_fit_bi ?_
    generalize hI_2 : x_up I 142 8 (x_bi (¬ ((48 : Int32) ≤ w ∧ w ≤ (57 : Int32)))) = I_2
    replace H := H _ hI_2.symm
    refine wp_iconst (v := (0 : Int32)) rfl (by decide) ?_
    refine wp_istore_n (L' := [.ref 142, .int (0 : Int32), x_jk]) rfl rfl (by decide) rfl rfl ?_
    refine wp_iconst (v := (0 : Int32)) rfl (by decide) ?_
    refine wp_istore_n (L' := [.ref 142, .int (0 : Int32), .int (0 : Int32)]) rfl rfl (by decide) rfl rfl ?_
    exact H
  refine s_bi_ne rfl (fun c_1 => ?_) (fun c_1 => ?_)
  · refine wp_iconst (v := (0 : Int32)) rfl (by decide) ?_
    exact x_P.cong rfl (by rw [show x_bi (¬ ((48 : Int32) ≤ w ∧ w ≤ (57 : Int32))) = (0 : Int32) from x_bi_f (fun h => h c_1)]) J
  · refine wp_iconst (v := (1 : Int32)) rfl (by decide) ?_
    refine wp_goto rfl ?_
    exact x_P.cong rfl (by rw [show x_bi (¬ ((48 : Int32) ≤ w ∧ w ≤ (57 : Int32))) = (1 : Int32) from x_bi_t c_1]) J
set_option maxRecDepth 20000 in
theorem r_M_figures_18 {E : XE} {d : Nat} {I : Nat → Nat → Int32} {Q : Option Value → (Nat → Nat → Int32) → Prop} (hd : 1 ≤ d) (v1 : Int32) (v2 : Int32)
    (H : (((2 : Int32) ≤ v2 → Q (some (.int v1)) I) ∧ (¬ ((2 : Int32) ≤ v2) → (((I 142 8) = 0 → x_K E (d - 1) 115 [.ref 142] I (fun v I2 => x_P E d 118 26 [.ref 142, .int v1, .int v2] (v.toList ++ []) I2 Q)) ∧ (¬ ((I 142 8) = 0) → Q (some (.int v1)) I))))) :
    x_P E d 118 18 [.ref 142, .int v1, .int v2] [] I Q := by
  refine wp_iload_n rfl rfl rfl ?_
  refine wp_iconst (v := (2 : Int32)) rfl (by decide) ?_
  refine wp_icmp_ge rfl (fun c_1 => ?_) (fun c_1 => ?_)
  · replace H := H.1 c_1
    refine wp_iload_n rfl rfl rfl ?_
    exact s_iret rfl rfl rfl H
  · replace H := H.2 c_1
    refine wp_aload_n rfl rfl rfl ?_
    refine s_getI rfl (by decide) (kd_142 _) rfl ?_
    refine wp_if_ne rfl (fun c_2 => ?_) (fun c_2 => ?_)
    · replace H := H.2 c_2
      refine wp_iload_n rfl rfl rfl ?_
      exact s_iret rfl rfl rfl H
    · replace H := H.1 c_2
      refine wp_aload_n rfl rfl rfl ?_
      refine s_invV (As := []) (d1 := d - 1) rfl ⟨by decide, by decide⟩ rfl rfl rfl (Nat.le_of_ble_eq_true rfl) (by omega) (kd_142 _) (by decide) rfl rfl H ?_
      intro v I2 h2
      exact h2
set_option maxRecDepth 20000 in
theorem r_M_figures_26 {E : XE} {d : Nat} {I : Nat → Nat → Int32} {Q : Option Value → (Nat → Nat → Int32) → Prop} (hd : 2 ≤ d) (v1 : Int32) (v2 : Int32) (w : Int32)
    (H : (((48 : Int32) ≤ w ∧ w ≤ (57 : Int32) → ((v2 = 0 → x_K E (d - 1) 115 [.ref 142] I (fun v I2 => x_P E d 118 39 [.ref 142, x_jk, .int v2] (v.toList ++ [.int ((10 : Int32) * v1)]) I2 Q)) ∧ (¬ (v2 = 0) → ((v1 ≤ 0 → Q (some (.int v1)) I) ∧ (¬ (v1 ≤ 0) → x_K E (d - 1) 115 [.ref 142] I (fun v I2 => x_P E d 118 39 [.ref 142, x_jk, .int v2] (v.toList ++ [.int ((10 : Int32) * v1)]) I2 Q)))))) ∧ (¬ ((48 : Int32) ≤ w ∧ w ≤ (57 : Int32)) → Q (some (.int v1)) I))) :
    x_P E d 118 26 [.ref 142, .int v1, .int v2] [.int w] I Q := by
  refine wp_bipush (v := (48 : Int32)) rfl (by decide) ?_
  refine wp_bipush (v := (57 : Int32)) rfl (by decide) ?_
  refine s_invStP (As := [.int w, .int (48 : Int32), .int (57 : Int32)]) (d1 := d - 1) rfl ⟨by decide, by decide⟩ rfl rfl rfl (Nat.le_of_ble_eq_true rfl) (by omega) (p_in (by omega)) ?_
  refine s_bi_eq rfl (fun c_1 => ?_) (fun c_1 => ?_)
  · replace H := H.2 c_1
    refine wp_iload_n rfl rfl rfl ?_
    exact s_iret rfl rfl rfl H
  · replace H := H.1 c_1
    refine wp_iload_n rfl rfl rfl ?_
    refine wp_if_eq rfl (fun c_2 => ?_) (fun c_2 => ?_)
    · replace H := H.1 c_2
      refine wp_bipush (v := (10 : Int32)) rfl (by decide) ?_
      refine wp_iload_n rfl rfl rfl ?_
      refine wp_imul rfl ?_
      refine wp_aload_n rfl rfl rfl ?_
      refine s_invV (As := []) (d1 := d - 1) rfl ⟨by decide, by decide⟩ rfl rfl rfl (Nat.le_of_ble_eq_true rfl) (by omega) (kd_142 _) (by decide) rfl rfl H ?_
      intro v I2 h2
      exact x_P.weak (L := [.ref 142, x_jk, .int v2]) (by exact ⟨Or.inr rfl, ⟨Or.inl rfl, ⟨Or.inr rfl, trivial⟩⟩⟩) h2
    · replace H := H.2 c_2
      refine wp_iload_n rfl rfl rfl ?_
      refine wp_if_le rfl (fun c_3 => ?_) (fun c_3 => ?_)
      · replace H := H.1 c_3
        refine wp_iload_n rfl rfl rfl ?_
        exact s_iret rfl rfl rfl H
      · replace H := H.2 c_3
        refine wp_bipush (v := (10 : Int32)) rfl (by decide) ?_
        refine wp_iload_n rfl rfl rfl ?_
        refine wp_imul rfl ?_
        refine wp_aload_n rfl rfl rfl ?_
        refine s_invV (As := []) (d1 := d - 1) rfl ⟨by decide, by decide⟩ rfl rfl rfl (Nat.le_of_ble_eq_true rfl) (by omega) (kd_142 _) (by decide) rfl rfl H ?_
        intro v I2 h2
        exact x_P.weak (L := [.ref 142, x_jk, .int v2]) (by exact ⟨Or.inr rfl, ⟨Or.inl rfl, ⟨Or.inr rfl, trivial⟩⟩⟩) h2
set_option maxRecDepth 20000 in
theorem r_M_figures_39 {E : XE} {d : Nat} {I : Nat → Nat → Int32} {Q : Option Value → (Nat → Nat → Int32) → Prop} (hd : 1 ≤ d) (v2 : Int32) (s0 : Int32) (w : Int32)
    (H : (∀ I_1, I_1 = x_up I 142 6 ((I 142 6) + (1 : Int32)) → x_P E d 118 18 [.ref 142, .int ((s0 + w) - (48 : Int32)), .int (v2 + 1)] [] I_1 Q)) :
    x_P E d 118 39 [.ref 142, x_jk, .int v2] [.int w, .int s0] I Q := by
  refine wp_iadd rfl ?_
  refine wp_bipush (v := (48 : Int32)) rfl (by decide) ?_
  refine wp_isub rfl ?_
  refine wp_istore_n (L' := [.ref 142, .int ((s0 + w) - (48 : Int32)), .int v2]) rfl rfl (by decide) rfl rfl ?_
  refine wp_aload_n rfl rfl rfl ?_
  refine wp_dup rfl rfl ?_
  refine s_getI rfl (by decide) (kd_142 _) rfl ?_
  refine wp_iconst (v := (1 : Int32)) rfl (by decide) ?_
  refine wp_iadd rfl ?_
  refine s_putI rfl (by decide) (kd_142 _) rfl rfl (x_fit_int _) ?_
  generalize hI_1 : x_up I 142 6 ((I 142 6) + (1 : Int32)) = I_1
  replace H := H _ hI_1.symm
  refine wp_iinc (v := v2 + 1) (L' := [.ref 142, .int ((s0 + w) - (48 : Int32)), .int (v2 + 1)]) rfl rfl rfl rfl rfl ?_
  refine wp_goto rfl ?_
  exact H
set_option maxRecDepth 20000 in
theorem r_M_among_0 {E : XE} {d : Nat} {I : Nat → Nat → Int32} {Q : Option Value → (Nat → Nat → Int32) → Prop} (hd : 1 ≤ d) (e1 : Nat) (he1 : e1 < 8)
    (H : x_P E d 119 2 [.ref 142, .ref (8 + e1), .int (0 : Int32)] [] I Q) :
    x_P E d 119 0 [.ref 142, .ref (8 + e1), x_jk] [] I Q := by
  refine wp_iconst (v := (0 : Int32)) rfl (by decide) ?_
  refine wp_istore_n (L' := [.ref 142, .ref (8 + e1), .int (0 : Int32)]) rfl rfl (by decide) rfl rfl ?_
  exact H
set_option maxRecDepth 20000 in
theorem r_M_among_2 {E : XE} {d : Nat} {I : Nat → Nat → Int32} {Q : Option Value → (Nat → Nat → Int32) → Prop} (hd : 1 ≤ d) (ev1 : Nat) (hev1 : ev1 < 8) (v2 : Int32)
    (H : x_K E (d - 1) 6 [.ref (8 + ev1)] I (fun v I2 => x_P E d 119 5 [.ref 142, .ref (8 + ev1), .int v2] (v.toList ++ [.int v2]) I2 Q)) :
    x_P E d 119 2 [.ref 142, .ref (8 + ev1), .int v2] [] I Q := by
  refine wp_iload_n rfl rfl rfl ?_
  refine wp_aload_n rfl rfl rfl ?_
  refine s_invS (As := []) (d1 := d - 1) (e0 := ev1) rfl ⟨by decide, by decide⟩ rfl rfl rfl (Nat.le_of_ble_eq_true rfl) (by omega) hev1 rfl H ?_
  intro v I2 h2
  exact h2
set_option maxRecDepth 20000 in
theorem r_M_among_5 {E : XE} {d : Nat} {I : Nat → Nat → Int32} {Q : Option Value → (Nat → Nat → Int32) → Prop} (hd : 1 ≤ d) (ev1 : Nat) (hev1 : ev1 < 8) (v2 : Int32) (s0 : Int32) (w : Int32)
    (H : ((w ≤ s0 → Q (some (.int (-1 : Int32))) I) ∧ (¬ (w ≤ s0) → x_K E (d - 1) 115 [.ref 142] I (fun v I2 => x_P E d 119 8 [.ref 142, .ref (8 + ev1), .int v2] (v.toList ++ []) I2 Q)))) :
    x_P E d 119 5 [.ref 142, .ref (8 + ev1), .int v2] [.int w, .int s0] I Q := by
  refine wp_icmp_ge rfl (fun c_1 => ?_) (fun c_1 => ?_)
  · replace H := H.1 c_1
    refine wp_iconst (v := (-1 : Int32)) rfl (by decide) ?_
    exact s_iret rfl rfl rfl H
  · replace H := H.2 c_1
    refine wp_aload_n rfl rfl rfl ?_
    refine s_invV (As := []) (d1 := d - 1) rfl ⟨by decide, by decide⟩ rfl rfl rfl (Nat.le_of_ble_eq_true rfl) (by omega) (kd_142 _) (by decide) rfl rfl H ?_
    intro v I2 h2
    exact h2
set_option maxRecDepth 20000 in
theorem r_M_among_8 {E : XE} {d : Nat} {I : Nat → Nat → Int32} {Q : Option Value → (Nat → Nat → Int32) → Prop} (hd : 1 ≤ d) (ev1 : Nat) (hev1 : ev1 < 8) (v2 : Int32) (w : Int32)
    (H : x_K E (d - 1) 7 [.ref (8 + ev1), .int v2] I (fun v I2 => x_P E d 119 11 [.ref 142, .ref (8 + ev1), .int v2] (v.toList ++ [.int w]) I2 Q)) :
    x_P E d 119 8 [.ref 142, .ref (8 + ev1), .int v2] [.int w] I Q := by
  refine wp_aload_n rfl rfl rfl ?_
  refine wp_iload_n rfl rfl rfl ?_
  refine s_invS (As := [.int v2]) (d1 := d - 1) (e0 := ev1) rfl ⟨by decide, by decide⟩ rfl rfl rfl (Nat.le_of_ble_eq_true rfl) (by omega) hev1 rfl H ?_
  intro v I2 h2
  exact h2
set_option maxRecDepth 20000 in
theorem r_M_among_11 {E : XE} {d : Nat} {I : Nat → Nat → Int32} {Q : Option Value → (Nat → Nat → Int32) → Prop} (hd : 1 ≤ d) (ev1 : Nat) (hev1 : ev1 < 8) (v2 : Int32) (s0 : Int32) (w : Int32)
    (H : ((s0 = w → (∀ I_2, I_2 = x_up I 142 6 ((I 142 6) + (1 : Int32)) → Q (some (.int v2)) I_2)) ∧ (¬ (s0 = w) → x_P E d 119 2 [.ref 142, .ref (8 + ev1), .int (v2 + 1)] [] I Q))) :
    x_P E d 119 11 [.ref 142, .ref (8 + ev1), .int v2] [.int w, .int s0] I Q := by
  refine wp_icmp_ne rfl (fun c_1 => ?_) (fun c_1 => ?_)
  · replace H := H.2 c_1
    refine wp_iinc (v := v2 + 1) (L' := [.ref 142, .ref (8 + ev1), .int (v2 + 1)]) rfl rfl rfl rfl rfl ?_
    refine wp_goto rfl ?_
    exact H
  · replace H := H.1 c_1
    refine wp_aload_n rfl rfl rfl ?_
    refine wp_dup rfl rfl ?_
    refine s_getI rfl (by decide) (kd_142 _) rfl ?_
    refine wp_iconst (v := (1 : Int32)) rfl (by decide) ?_
    refine wp_iadd rfl ?_
    refine s_putI rfl (by decide) (kd_142 _) rfl rfl (x_fit_int _) ?_
    generalize hI_2 : x_up I 142 6 ((I 142 6) + (1 : Int32)) = I_2
    replace H := H _ hI_2.symm
    refine wp_iload_n rfl rfl rfl ?_
    exact s_iret rfl rfl rfl H
set_option maxRecDepth 20000 in
theorem r_M_emits_0 {E : XE} {d : Nat} {I : Nat → Nat → Int32} {Q : Option Value → (Nat → Nat → Int32) → Prop} (hd : 1 ≤ d) (a1 : Int32)
    (H : (((I 142 8) = 0 → (vp_in ((226 : Int32) + (I 142 5)) 931) ∧ (vp_in (((231 : Int32) + ((140 : Int32) * (I 142 5))) + (I 143 ((226 : Int32) + (I 142 5)).toNatClampNeg)) 931) ∧ (∀ I_4, I_4 = x_up I 143 (((231 : Int32) + ((140 : Int32) * (I 142 5))) + (I 143 ((226 : Int32) + (I 142 5)).toNatClampNeg)).toNatClampNeg a1 → (vp_in ((226 : Int32) + (I_4 142 5)) 931) ∧ (vp_in ((226 : Int32) + (I_4 142 5)) 931) ∧ (∀ I_7, I_7 = x_up I_4 143 ((226 : Int32) + (I_4 142 5)).toNatClampNeg ((I_4 143 ((226 : Int32) + (I_4 142 5)).toNatClampNeg) + (1 : Int32)) → Q none I_7))) ∧ (¬ ((I 142 8) = 0) → Q none I))) :
    x_P E d 120 0 [.ref 142, .int a1] [] I Q := by
  refine wp_aload_n rfl rfl rfl ?_
  refine s_getI rfl (by decide) (kd_142 _) rfl ?_
  refine wp_if_ne rfl (fun c_1 => ?_) (fun c_1 => ?_)
  · replace H := H.2 c_1
    exact s_vret rfl rfl H
  · replace H := H.1 c_1
    refine wp_aload_n rfl rfl rfl ?_
    refine wp_getR (v := .ref 143) rfl (by decide) (kd_142 _) rfl (kr_142_1 _) ?_
    refine wp_sipush (v := (231 : Int32)) rfl (by decide) ?_
    refine wp_sipush (v := (140 : Int32)) rfl (by decide) ?_
    refine wp_aload_n rfl rfl rfl ?_
    refine s_getI rfl (by decide) (kd_142 _) rfl ?_
    refine wp_imul rfl ?_
    refine wp_iadd rfl ?_
    refine wp_aload_n rfl rfl rfl ?_
    refine wp_getR (v := .ref 143) rfl (by decide) (kd_142 _) rfl (kr_142_1 _) ?_
    refine wp_sipush (v := (226 : Int32)) rfl (by decide) ?_
    refine wp_aload_n rfl rfl rfl ?_
    refine s_getI rfl (by decide) (kd_142 _) rfl ?_
    refine wp_iadd rfl ?_
    obtain ⟨o_2, H⟩ := H
    refine s_iald rfl (kd_143 _) o_2 ?_
    refine wp_iadd rfl ?_
    refine wp_iload_n rfl rfl rfl ?_
    obtain ⟨o_3, H⟩ := H
    refine s_iast rfl (kd_143 _) o_3 ?_
    generalize hI_4 : x_up I 143 (((231 : Int32) + ((140 : Int32) * (I 142 5))) + (I 143 ((226 : Int32) + (I 142 5)).toNatClampNeg)).toNatClampNeg a1 = I_4
    replace H := H _ hI_4.symm
    refine wp_aload_n rfl rfl rfl ?_
    refine wp_getR (v := .ref 143) rfl (by decide) (kd_142 _) rfl (kr_142_1 _) ?_
    refine wp_sipush (v := (226 : Int32)) rfl (by decide) ?_
    refine wp_aload_n rfl rfl rfl ?_
    refine s_getI rfl (by decide) (kd_142 _) rfl ?_
    refine wp_iadd rfl ?_
    refine wp_dup2 rfl rfl rfl ?_
    obtain ⟨o_5, H⟩ := H
    refine s_iald rfl (kd_143 _) o_5 ?_
    refine wp_iconst (v := (1 : Int32)) rfl (by decide) ?_
    refine wp_iadd rfl ?_
    obtain ⟨o_6, H⟩ := H
    refine s_iast rfl (kd_143 _) o_6 ?_
    generalize hI_7 : x_up I_4 143 ((226 : Int32) + (I_4 142 5)).toNatClampNeg ((I_4 143 ((226 : Int32) + (I_4 142 5)).toNatClampNeg) + (1 : Int32)) = I_7
    replace H := H _ hI_7.symm
    exact s_vret rfl rfl H
set_option maxRecDepth 20000 in
theorem r_M_factor_0 {E : XE} {d : Nat} {I : Nat → Nat → Int32} {Q : Option Value → (Nat → Nat → Int32) → Prop} (hd : 1 ≤ d) 
    (H : (((I 142 8) = 0 → x_K E (d - 1) 115 [.ref 142] I (fun v I2 => x_P E d 121 6 [.ref 142, x_jk, x_jk, x_jk, x_jk] (v.toList ++ []) I2 Q)) ∧ (¬ ((I 142 8) = 0) → Q none I))) :
    x_P E d 121 0 [.ref 142, x_jk, x_jk, x_jk, x_jk] [] I Q := by
  refine wp_aload_n rfl rfl rfl ?_
  refine s_getI rfl (by decide) (kd_142 _) rfl ?_
  refine wp_if_eq rfl (fun c_1 => ?_) (fun c_1 => ?_)
  · replace H := H.1 c_1
    refine wp_aload_n rfl rfl rfl ?_
    refine s_invV (As := []) (d1 := d - 1) rfl ⟨by decide, by decide⟩ rfl rfl rfl (Nat.le_of_ble_eq_true rfl) (by omega) (kd_142 _) (by decide) rfl rfl H ?_
    intro v I2 h2
    exact h2
  · replace H := H.2 c_1
    exact s_vret rfl rfl H
set_option maxRecDepth 20000 in
theorem r_M_factor_6 {E : XE} {d : Nat} {I : Nat → Nat → Int32} {Q : Option Value → (Nat → Nat → Int32) → Prop} (hd : 1 ≤ d) (w : Int32)
    (H : ((w = (33 : Int32) → (∀ I_3, I_3 = x_up I 142 8 (x_bi ((I 142 9) = (5 : Int32))) → (∀ I_4, I_4 = x_up I_3 142 9 ((I_3 142 9) + (1 : Int32)) → (∀ I_6, I_6 = x_up I_4 142 6 ((I_4 142 6) + (x_bi ((I_4 142 8) = 0))) → ((w = (33 : Int32) → x_K E (d - 1) 121 [.ref 142] I_6 (fun v I2 => x_P E d 121 44 [.ref 142, x_jk, x_jk, x_jk, x_jk] (v.toList ++ []) I2 Q)) ∧ (¬ (w = (33 : Int32)) → x_K E (d - 1) 123 [.ref 142] I_6 (fun v I2 => x_P E d 121 50 [.ref 142, x_jk, x_jk, x_jk, x_jk] (v.toList ++ []) I2 Q))))))) ∧ (¬ (w = (33 : Int32)) → ((w = (40 : Int32) → (∀ I_10, I_10 = x_up I 142 8 (x_bi ((I 142 9) = (5 : Int32))) → (∀ I_11, I_11 = x_up I_10 142 9 ((I_10 142 9) + (1 : Int32)) → (∀ I_13, I_13 = x_up I_11 142 6 ((I_11 142 6) + (x_bi ((I_11 142 8) = 0))) → ((w = (33 : Int32) → x_K E (d - 1) 121 [.ref 142] I_13 (fun v I2 => x_P E d 121 44 [.ref 142, x_jk, x_jk, x_jk, x_jk] (v.toList ++ []) I2 Q)) ∧ (¬ (w = (33 : Int32)) → x_K E (d - 1) 123 [.ref 142] I_13 (fun v I2 => x_P E d 121 50 [.ref 142, x_jk, x_jk, x_jk, x_jk] (v.toList ++ []) I2 Q))))))) ∧ (¬ (w = (40 : Int32)) → x_K E (d - 1) 119 [.ref 142, .ref 11] I (fun v I2 => x_P E d 121 63 [.ref 142, x_jk, x_jk, x_jk, x_jk] (v.toList ++ []) I2 Q)))))) :
    x_P E d 121 6 [.ref 142, x_jk, x_jk, x_jk, x_jk] [.int w] I Q := by
  refine wp_istore_n (L' := [.ref 142, .int w, x_jk, x_jk, x_jk]) rfl rfl (by decide) rfl rfl ?_
  refine wp_iload_n rfl rfl rfl ?_
  refine wp_bipush (v := (33 : Int32)) rfl (by decide) ?_
  refine wp_icmp_eq rfl (fun c_1 => ?_) (fun c_1 => ?_)
  · replace H := H.1 c_1
    refine wp_aload_n rfl rfl rfl ?_
    refine wp_aload_n rfl rfl rfl ?_
    refine s_getI rfl (by decide) (kd_142 _) rfl ?_
    refine wp_iconst (v := (5 : Int32)) rfl (by decide) ?_
    have J : x_P E d 121 21 [.ref 142, .int w, x_jk, x_jk, x_jk] [.int (x_bi ((I 142 9) = (5 : Int32))), .ref 142] I Q := by
      refine s_putI rfl (by decide) (kd_142 _) rfl rfl x_fit_bi ?_
      generalize hI_3 : x_up I 142 8 (x_bi ((I 142 9) = (5 : Int32))) = I_3
      replace H := H _ hI_3.symm
      refine wp_aload_n rfl rfl rfl ?_
      refine wp_dup rfl rfl ?_
      refine s_getI rfl (by decide) (kd_142 _) rfl ?_
      refine wp_iconst (v := (1 : Int32)) rfl (by decide) ?_
      refine wp_iadd rfl ?_
      refine s_putI rfl (by decide) (kd_142 _) rfl rfl (x_fit_int _) ?_
      generalize hI_4 : x_up I_3 142 9 ((I_3 142 9) + (1 : Int32)) = I_4
      replace H := H _ hI_4.symm
      refine wp_aload_n rfl rfl rfl ?_
      refine wp_dup rfl rfl ?_
      refine s_getI rfl (by decide) (kd_142 _) rfl ?_
      refine wp_aload_n rfl rfl rfl ?_
      refine s_getI rfl (by decide) (kd_142 _) rfl ?_
      have J : x_P E d 121 37 [.ref 142, .int w, x_jk, x_jk, x_jk] [.int (x_bi ((I_4 142 8) = 0)), .int (I_4 142 6), .ref 142] I_4 Q := by
        refine wp_iadd rfl ?_
        refine s_putI rfl (by decide) (kd_142 _) rfl rfl (x_fit_int _) ?_
        generalize hI_6 : x_up I_4 142 6 ((I_4 142 6) + (x_bi ((I_4 142 8) = 0))) = I_6
        replace H := H _ hI_6.symm
        refine wp_iload_n rfl rfl rfl ?_
        refine wp_bipush (v := (33 : Int32)) rfl (by decide) ?_
        refine wp_icmp_ne rfl (fun c_7 => ?_) (fun c_7 => ?_)
        · replace H := H.2 c_7
          refine wp_aload_n rfl rfl rfl ?_
          refine s_invV (As := []) (d1 := d - 1) rfl ⟨by decide, by decide⟩ rfl rfl rfl (Nat.le_of_ble_eq_true rfl) (by omega) (kd_142 _) (by decide) rfl rfl H ?_
          intro v I2 h2
          exact x_P.weak (L := [.ref 142, x_jk, x_jk, x_jk, x_jk]) (by exact ⟨Or.inr rfl, ⟨Or.inl rfl, ⟨Or.inr rfl, ⟨Or.inr rfl, ⟨Or.inr rfl, trivial⟩⟩⟩⟩⟩) h2
        · replace H := H.1 c_7
          refine wp_aload_n rfl rfl rfl ?_
          refine s_invV (As := []) (d1 := d - 1) rfl ⟨by decide, by decide⟩ rfl rfl rfl (Nat.le_of_ble_eq_true rfl) (by omega) (kd_142 _) (by decide) rfl rfl H ?_
          intro v I2 h2
          exact x_P.weak (L := [.ref 142, x_jk, x_jk, x_jk, x_jk]) (by exact ⟨Or.inr rfl, ⟨Or.inl rfl, ⟨Or.inr rfl, ⟨Or.inr rfl, ⟨Or.inr rfl, trivial⟩⟩⟩⟩⟩) h2
      refine wp_if_eq rfl (fun c_5 => ?_) (fun c_5 => ?_)
      · refine wp_iconst (v := (1 : Int32)) rfl (by decide) ?_
        exact x_P.cong rfl (by rw [show x_bi ((I_4 142 8) = 0) = (1 : Int32) from x_bi_t c_5]) J
      · refine wp_iconst (v := (0 : Int32)) rfl (by decide) ?_
        refine wp_goto rfl ?_
        exact x_P.cong rfl (by rw [show x_bi ((I_4 142 8) = 0) = (0 : Int32) from x_bi_f c_5]) J
    refine wp_icmp_ne rfl (fun c_2 => ?_) (fun c_2 => ?_)
    · refine wp_iconst (v := (0 : Int32)) rfl (by decide) ?_
      exact x_P.cong rfl (by rw [show x_bi ((I 142 9) = (5 : Int32)) = (0 : Int32) from x_bi_f c_2]) J
    · refine wp_iconst (v := (1 : Int32)) rfl (by decide) ?_
      refine wp_goto rfl ?_
      exact x_P.cong rfl (by rw [show x_bi ((I 142 9) = (5 : Int32)) = (1 : Int32) from x_bi_t c_2]) J
  · replace H := H.2 c_1
    refine wp_iload_n rfl rfl rfl ?_
    refine wp_bipush (v := (40 : Int32)) rfl (by decide) ?_
    refine wp_icmp_ne rfl (fun c_8 => ?_) (fun c_8 => ?_)
    · replace H := H.2 c_8
      refine wp_aload_n rfl rfl rfl ?_
      refine wp_ldcS (j0 := 3) rfl rfl rfl (by decide) ?_
      refine s_invV (As := [.ref 11]) (d1 := d - 1) rfl ⟨by decide, by decide⟩ rfl rfl rfl (Nat.le_of_ble_eq_true rfl) (by omega) (kd_142 _) (by decide) rfl rfl H ?_
      intro v I2 h2
      exact x_P.weak (L := [.ref 142, x_jk, x_jk, x_jk, x_jk]) (by exact ⟨Or.inr rfl, ⟨Or.inl rfl, ⟨Or.inr rfl, ⟨Or.inr rfl, ⟨Or.inr rfl, trivial⟩⟩⟩⟩⟩) h2
    · replace H := H.1 c_8
      refine wp_aload_n rfl rfl rfl ?_
      refine wp_aload_n rfl rfl rfl ?_
      refine s_getI rfl (by decide) (kd_142 _) rfl ?_
      refine wp_iconst (v := (5 : Int32)) rfl (by decide) ?_
      have J : x_P E d 121 21 [.ref 142, .int w, x_jk, x_jk, x_jk] [.int (x_bi ((I 142 9) = (5 : Int32))), .ref 142] I Q := by
        refine s_putI rfl (by decide) (kd_142 _) rfl rfl x_fit_bi ?_
        generalize hI_10 : x_up I 142 8 (x_bi ((I 142 9) = (5 : Int32))) = I_10
        replace H := H _ hI_10.symm
        refine wp_aload_n rfl rfl rfl ?_
        refine wp_dup rfl rfl ?_
        refine s_getI rfl (by decide) (kd_142 _) rfl ?_
        refine wp_iconst (v := (1 : Int32)) rfl (by decide) ?_
        refine wp_iadd rfl ?_
        refine s_putI rfl (by decide) (kd_142 _) rfl rfl (x_fit_int _) ?_
        generalize hI_11 : x_up I_10 142 9 ((I_10 142 9) + (1 : Int32)) = I_11
        replace H := H _ hI_11.symm
        refine wp_aload_n rfl rfl rfl ?_
        refine wp_dup rfl rfl ?_
        refine s_getI rfl (by decide) (kd_142 _) rfl ?_
        refine wp_aload_n rfl rfl rfl ?_
        refine s_getI rfl (by decide) (kd_142 _) rfl ?_
        have J : x_P E d 121 37 [.ref 142, .int w, x_jk, x_jk, x_jk] [.int (x_bi ((I_11 142 8) = 0)), .int (I_11 142 6), .ref 142] I_11 Q := by
          refine wp_iadd rfl ?_
          refine s_putI rfl (by decide) (kd_142 _) rfl rfl (x_fit_int _) ?_
          generalize hI_13 : x_up I_11 142 6 ((I_11 142 6) + (x_bi ((I_11 142 8) = 0))) = I_13
          replace H := H _ hI_13.symm
          refine wp_iload_n rfl rfl rfl ?_
          refine wp_bipush (v := (33 : Int32)) rfl (by decide) ?_
          refine wp_icmp_ne rfl (fun c_14 => ?_) (fun c_14 => ?_)
          · replace H := H.2 c_14
            refine wp_aload_n rfl rfl rfl ?_
            refine s_invV (As := []) (d1 := d - 1) rfl ⟨by decide, by decide⟩ rfl rfl rfl (Nat.le_of_ble_eq_true rfl) (by omega) (kd_142 _) (by decide) rfl rfl H ?_
            intro v I2 h2
            exact x_P.weak (L := [.ref 142, x_jk, x_jk, x_jk, x_jk]) (by exact ⟨Or.inr rfl, ⟨Or.inl rfl, ⟨Or.inr rfl, ⟨Or.inr rfl, ⟨Or.inr rfl, trivial⟩⟩⟩⟩⟩) h2
          · replace H := H.1 c_14
            refine wp_aload_n rfl rfl rfl ?_
            refine s_invV (As := []) (d1 := d - 1) rfl ⟨by decide, by decide⟩ rfl rfl rfl (Nat.le_of_ble_eq_true rfl) (by omega) (kd_142 _) (by decide) rfl rfl H ?_
            intro v I2 h2
            exact x_P.weak (L := [.ref 142, x_jk, x_jk, x_jk, x_jk]) (by exact ⟨Or.inr rfl, ⟨Or.inl rfl, ⟨Or.inr rfl, ⟨Or.inr rfl, ⟨Or.inr rfl, trivial⟩⟩⟩⟩⟩) h2
        refine wp_if_eq rfl (fun c_12 => ?_) (fun c_12 => ?_)
        · refine wp_iconst (v := (1 : Int32)) rfl (by decide) ?_
          exact x_P.cong rfl (by rw [show x_bi ((I_11 142 8) = 0) = (1 : Int32) from x_bi_t c_12]) J
        · refine wp_iconst (v := (0 : Int32)) rfl (by decide) ?_
          refine wp_goto rfl ?_
          exact x_P.cong rfl (by rw [show x_bi ((I_11 142 8) = 0) = (0 : Int32) from x_bi_f c_12]) J
      refine wp_icmp_ne rfl (fun c_9 => ?_) (fun c_9 => ?_)
      · refine wp_iconst (v := (0 : Int32)) rfl (by decide) ?_
        exact x_P.cong rfl (by rw [show x_bi ((I 142 9) = (5 : Int32)) = (0 : Int32) from x_bi_f c_9]) J
      · refine wp_iconst (v := (1 : Int32)) rfl (by decide) ?_
        refine wp_goto rfl ?_
        exact x_P.cong rfl (by rw [show x_bi ((I 142 9) = (5 : Int32)) = (1 : Int32) from x_bi_t c_9]) J
set_option maxRecDepth 20000 in
theorem r_M_factor_44 {E : XE} {d : Nat} {I : Nat → Nat → Int32} {Q : Option Value → (Nat → Nat → Int32) → Prop} (hd : 1 ≤ d) 
    (H : x_K E (d - 1) 120 [.ref 142, .int (-1 : Int32)] I (fun v I2 => x_P E d 121 47 [.ref 142, x_jk, x_jk, x_jk, x_jk] (v.toList ++ []) I2 Q)) :
    x_P E d 121 44 [.ref 142, x_jk, x_jk, x_jk, x_jk] [] I Q := by
  refine wp_aload_n rfl rfl rfl ?_
  refine wp_iconst (v := (-1 : Int32)) rfl (by decide) ?_
  refine s_invV (As := [.int (-1 : Int32)]) (d1 := d - 1) rfl ⟨by decide, by decide⟩ rfl rfl rfl (Nat.le_of_ble_eq_true rfl) (by omega) (kd_142 _) (by decide) rfl rfl H ?_
  intro v I2 h2
  exact h2
set_option maxRecDepth 20000 in
theorem r_M_factor_50 {E : XE} {d : Nat} {I : Nat → Nat → Int32} {Q : Option Value → (Nat → Nat → Int32) → Prop} (hd : 1 ≤ d) 
    (H : x_K E (d - 1) 116 [.ref 142, .int (41 : Int32)] I (fun v I2 => x_P E d 121 53 [.ref 142, x_jk, x_jk, x_jk, x_jk] (v.toList ++ []) I2 Q)) :
    x_P E d 121 50 [.ref 142, x_jk, x_jk, x_jk, x_jk] [] I Q := by
  refine wp_aload_n rfl rfl rfl ?_
  refine wp_bipush (v := (41 : Int32)) rfl (by decide) ?_
  refine s_invV (As := [.int (41 : Int32)]) (d1 := d - 1) rfl ⟨by decide, by decide⟩ rfl rfl rfl (Nat.le_of_ble_eq_true rfl) (by omega) (kd_142 _) (by decide) rfl rfl H ?_
  intro v I2 h2
  exact h2
set_option maxRecDepth 20000 in
theorem r_M_factor_63 {E : XE} {d : Nat} {I : Nat → Nat → Int32} {Q : Option Value → (Nat → Nat → Int32) → Prop} (hd : 1 ≤ d) (w : Int32)
    (H : (∀ I_2, I_2 = x_up I 142 8 (x_bi (w = (-1 : Int32))) → (((I_2 142 8) = 0 → x_K E (d - 1) 119 [.ref 142, .ref 12] I_2 (fun v I2 => x_P E d 121 80 [.ref 142, x_jk, .int w, x_jk, x_jk] (v.toList ++ []) I2 Q)) ∧ (¬ ((I_2 142 8) = 0) → (∀ I_6, I_6 = x_up I_2 142 8 (x_bi (¬ ((I_2 142 8) = 0) ∨ ((0 : Int32) = (-1 : Int32)))) → x_K E (d - 1) 118 [.ref 142] I_6 (fun v I2 => x_P E d 121 94 [.ref 142, x_jk, .int w, .int (0 : Int32), x_jk] (v.toList ++ []) I2 Q)))))) :
    x_P E d 121 63 [.ref 142, x_jk, x_jk, x_jk, x_jk] [.int w] I Q := by
  refine wp_istore_n (L' := [.ref 142, x_jk, .int w, x_jk, x_jk]) rfl rfl (by decide) rfl rfl ?_
  refine wp_aload_n rfl rfl rfl ?_
  refine wp_iload_n rfl rfl rfl ?_
  refine wp_iconst (v := (-1 : Int32)) rfl (by decide) ?_
  have J : x_P E d 121 71 [.ref 142, x_jk, .int w, x_jk, x_jk] [.int (x_bi (w = (-1 : Int32))), .ref 142] I Q := by
    refine s_putI rfl (by decide) (kd_142 _) rfl rfl x_fit_bi ?_
    generalize hI_2 : x_up I 142 8 (x_bi (w = (-1 : Int32))) = I_2
    replace H := H _ hI_2.symm
    refine wp_aload_n rfl rfl rfl ?_
    refine s_getI rfl (by decide) (kd_142 _) rfl ?_
    refine wp_if_eq rfl (fun c_3 => ?_) (fun c_3 => ?_)
    · replace H := H.1 c_3
      refine wp_aload_n rfl rfl rfl ?_
      refine wp_ldcS (j0 := 4) rfl rfl rfl (by decide) ?_
      refine s_invV (As := [.ref 12]) (d1 := d - 1) rfl ⟨by decide, by decide⟩ rfl rfl rfl (Nat.le_of_ble_eq_true rfl) (by omega) (kd_142 _) (by decide) rfl rfl H ?_
      intro v I2 h2
      exact h2
    · replace H := H.2 c_3
      refine wp_iconst (v := (0 : Int32)) rfl (by decide) ?_
      refine wp_goto rfl ?_
      refine wp_istore_n (L' := [.ref 142, x_jk, .int w, .int (0 : Int32), x_jk]) rfl rfl (by decide) rfl rfl ?_
      refine wp_aload_n rfl rfl rfl ?_
      refine wp_aload_n rfl rfl rfl ?_
      refine s_getI rfl (by decide) (kd_142 _) rfl ?_
      have J : x_P E d 121 91 [.ref 142, x_jk, .int w, .int (0 : Int32), x_jk] [.int (x_bi (¬ ((I_2 142 8) = 0) ∨ ((0 : Int32) = (-1 : Int32)))), .ref 142] I_2 Q := by
        refine s_putI rfl (by decide) (kd_142 _) rfl rfl x_fit_bi ?_
        generalize hI_6 : x_up I_2 142 8 (x_bi (¬ ((I_2 142 8) = 0) ∨ ((0 : Int32) = (-1 : Int32)))) = I_6
        replace H := H _ hI_6.symm
        refine wp_aload_n rfl rfl rfl ?_
        refine s_invV (As := []) (d1 := d - 1) rfl ⟨by decide, by decide⟩ rfl rfl rfl (Nat.le_of_ble_eq_true rfl) (by omega) (kd_142 _) (by decide) rfl rfl H ?_
        intro v I2 h2
        exact h2
      refine wp_if_ne rfl (fun c_4 => ?_) (fun c_4 => ?_)
      · refine wp_iconst (v := (1 : Int32)) rfl (by decide) ?_
        refine wp_goto rfl ?_
        exact x_P.cong rfl (by rw [show x_bi (¬ ((I_2 142 8) = 0) ∨ ((0 : Int32) = (-1 : Int32))) = (1 : Int32) from x_bi_t (Or.inl c_4)]) J
      · refine wp_iload_n rfl rfl rfl ?_
        refine wp_iconst (v := (-1 : Int32)) rfl (by decide) ?_
        refine wp_icmp_ne rfl (fun c_5 => ?_) (fun c_5 => ?_)
        · refine wp_iconst (v := (0 : Int32)) rfl (by decide) ?_
          exact x_P.cong rfl (by rw [show x_bi (¬ ((I_2 142 8) = 0) ∨ ((0 : Int32) = (-1 : Int32))) = (0 : Int32) from x_bi_f (fun h => h.elim (fun g => g c_4) c_5)]) J
        · refine wp_iconst (v := (1 : Int32)) rfl (by decide) ?_
          refine wp_goto rfl ?_
          exact x_P.cong rfl (by rw [show x_bi (¬ ((I_2 142 8) = 0) ∨ ((0 : Int32) = (-1 : Int32))) = (1 : Int32) from x_bi_t (Or.inr c_5)]) J
  refine wp_icmp_ne rfl (fun c_1 => ?_) (fun c_1 => ?_)
  · refine wp_iconst (v := (0 : Int32)) rfl (by decide) ?_
    exact x_P.cong rfl (by rw [show x_bi (w = (-1 : Int32)) = (0 : Int32) from x_bi_f c_1]) J
  · refine wp_iconst (v := (1 : Int32)) rfl (by decide) ?_
    refine wp_goto rfl ?_
    exact x_P.cong rfl (by rw [show x_bi (w = (-1 : Int32)) = (1 : Int32) from x_bi_t c_1]) J
set_option maxRecDepth 20000 in
theorem r_M_factor_47 {E : XE} {d : Nat} {I : Nat → Nat → Int32} {Q : Option Value → (Nat → Nat → Int32) → Prop} (hd : 1 ≤ d) 
    (H : (∀ I_1, I_1 = x_up I 142 9 ((I 142 9) - (1 : Int32)) → Q none I_1)) :
    x_P E d 121 47 [.ref 142, x_jk, x_jk, x_jk, x_jk] [] I Q := by
  refine wp_goto rfl ?_
  refine wp_aload_n rfl rfl rfl ?_
  refine wp_dup rfl rfl ?_
  refine s_getI rfl (by decide) (kd_142 _) rfl ?_
  refine wp_iconst (v := (1 : Int32)) rfl (by decide) ?_
  refine wp_isub rfl ?_
  refine s_putI rfl (by decide) (kd_142 _) rfl rfl (x_fit_int _) ?_
  generalize hI_1 : x_up I 142 9 ((I 142 9) - (1 : Int32)) = I_1
  replace H := H _ hI_1.symm
  exact s_vret rfl rfl H
set_option maxRecDepth 20000 in
theorem r_M_factor_53 {E : XE} {d : Nat} {I : Nat → Nat → Int32} {Q : Option Value → (Nat → Nat → Int32) → Prop} (hd : 1 ≤ d) 
    (H : (∀ I_1, I_1 = x_up I 142 9 ((I 142 9) - (1 : Int32)) → Q none I_1)) :
    x_P E d 121 53 [.ref 142, x_jk, x_jk, x_jk, x_jk] [] I Q := by
  refine wp_aload_n rfl rfl rfl ?_
  refine wp_dup rfl rfl ?_
  refine s_getI rfl (by decide) (kd_142 _) rfl ?_
  refine wp_iconst (v := (1 : Int32)) rfl (by decide) ?_
  refine wp_isub rfl ?_
  refine s_putI rfl (by decide) (kd_142 _) rfl rfl (x_fit_int _) ?_
  generalize hI_1 : x_up I 142 9 ((I 142 9) - (1 : Int32)) = I_1
  replace H := H _ hI_1.symm
  exact s_vret rfl rfl H
set_option maxRecDepth 20000 in
theorem r_M_factor_80 {E : XE} {d : Nat} {I : Nat → Nat → Int32} {Q : Option Value → (Nat → Nat → Int32) → Prop} (hd : 1 ≤ d) (v2 : Int32) (w : Int32)
    (H : (∀ I_3, I_3 = x_up I 142 8 (x_bi (¬ ((I 142 8) = 0) ∨ (w = (-1 : Int32)))) → x_K E (d - 1) 118 [.ref 142] I_3 (fun v I2 => x_P E d 121 94 [.ref 142, x_jk, .int v2, .int w, x_jk] (v.toList ++ []) I2 Q))) :
    x_P E d 121 80 [.ref 142, x_jk, .int v2, x_jk, x_jk] [.int w] I Q := by
  refine wp_istore_n (L' := [.ref 142, x_jk, .int v2, .int w, x_jk]) rfl rfl (by decide) rfl rfl ?_
  refine wp_aload_n rfl rfl rfl ?_
  refine wp_aload_n rfl rfl rfl ?_
  refine s_getI rfl (by decide) (kd_142 _) rfl ?_
  have J : x_P E d 121 91 [.ref 142, x_jk, .int v2, .int w, x_jk] [.int (x_bi (¬ ((I 142 8) = 0) ∨ (w = (-1 : Int32)))), .ref 142] I Q := by
    refine s_putI rfl (by decide) (kd_142 _) rfl rfl x_fit_bi ?_
    generalize hI_3 : x_up I 142 8 (x_bi (¬ ((I 142 8) = 0) ∨ (w = (-1 : Int32)))) = I_3
    replace H := H _ hI_3.symm
    refine wp_aload_n rfl rfl rfl ?_
    refine s_invV (As := []) (d1 := d - 1) rfl ⟨by decide, by decide⟩ rfl rfl rfl (Nat.le_of_ble_eq_true rfl) (by omega) (kd_142 _) (by decide) rfl rfl H ?_
    intro v I2 h2
    exact h2
  refine wp_if_ne rfl (fun c_1 => ?_) (fun c_1 => ?_)
  · refine wp_iconst (v := (1 : Int32)) rfl (by decide) ?_
    refine wp_goto rfl ?_
    exact x_P.cong rfl (by rw [show x_bi (¬ ((I 142 8) = 0) ∨ (w = (-1 : Int32))) = (1 : Int32) from x_bi_t (Or.inl c_1)]) J
  · refine wp_iload_n rfl rfl rfl ?_
    refine wp_iconst (v := (-1 : Int32)) rfl (by decide) ?_
    refine wp_icmp_ne rfl (fun c_2 => ?_) (fun c_2 => ?_)
    · refine wp_iconst (v := (0 : Int32)) rfl (by decide) ?_
      exact x_P.cong rfl (by rw [show x_bi (¬ ((I 142 8) = 0) ∨ (w = (-1 : Int32))) = (0 : Int32) from x_bi_f (fun h => h.elim (fun g => g c_1) c_2)]) J
    · refine wp_iconst (v := (1 : Int32)) rfl (by decide) ?_
      refine wp_goto rfl ?_
      exact x_P.cong rfl (by rw [show x_bi (¬ ((I 142 8) = 0) ∨ (w = (-1 : Int32))) = (1 : Int32) from x_bi_t (Or.inr c_2)]) J
set_option maxRecDepth 20000 in
theorem r_M_factor_94 {E : XE} {d : Nat} {I : Nat → Nat → Int32} {Q : Option Value → (Nat → Nat → Int32) → Prop} (hd : 1 ≤ d) (v2 : Int32) (v3 : Int32) (w : Int32)
    (H : x_K E (d - 1) 120 [.ref 142, .int ((v2 + ((8 : Int32) * v3)) + ((32 : Int32) * w))] I (fun v I2 => x_P E d 121 106 [x_jk, x_jk, x_jk, x_jk, x_jk] (v.toList ++ []) I2 Q)) :
    x_P E d 121 94 [.ref 142, x_jk, .int v2, .int v3, x_jk] [.int w] I Q := by
  refine wp_istore (L' := [.ref 142, x_jk, .int v2, .int v3, .int w]) rfl (by decide) rfl rfl ?_
  refine wp_aload_n rfl rfl rfl ?_
  refine wp_iload_n rfl rfl rfl ?_
  refine wp_bipush (v := (8 : Int32)) rfl (by decide) ?_
  refine wp_iload_n rfl rfl rfl ?_
  refine wp_imul rfl ?_
  refine wp_iadd rfl ?_
  refine wp_bipush (v := (32 : Int32)) rfl (by decide) ?_
  refine wp_iload rfl rfl ?_
  refine wp_imul rfl ?_
  refine wp_iadd rfl ?_
  refine s_invV (As := [.int ((v2 + ((8 : Int32) * v3)) + ((32 : Int32) * w))]) (d1 := d - 1) rfl ⟨by decide, by decide⟩ rfl rfl rfl (Nat.le_of_ble_eq_true rfl) (by omega) (kd_142 _) (by decide) rfl rfl H ?_
  intro v I2 h2
  exact x_P.weak (L := [x_jk, x_jk, x_jk, x_jk, x_jk]) (by exact ⟨Or.inl rfl, ⟨Or.inr rfl, ⟨Or.inl rfl, ⟨Or.inl rfl, ⟨Or.inl rfl, trivial⟩⟩⟩⟩⟩) h2
set_option maxRecDepth 20000 in
theorem r_M_factor_106 {E : XE} {d : Nat} {I : Nat → Nat → Int32} {Q : Option Value → (Nat → Nat → Int32) → Prop} (hd : 1 ≤ d) 
    (H : Q none I) :
    x_P E d 121 106 [x_jk, x_jk, x_jk, x_jk, x_jk] [] I Q := by
  exact s_vret rfl rfl H
set_option maxRecDepth 20000 in
theorem r_M_every_0 {E : XE} {d : Nat} {I : Nat → Nat → Int32} {Q : Option Value → (Nat → Nat → Int32) → Prop} (hd : 1 ≤ d) 
    (H : x_K E (d - 1) 121 [.ref 142] I (fun v I2 => x_P E d 122 2 [.ref 142] (v.toList ++ []) I2 Q)) :
    x_P E d 122 0 [.ref 142] [] I Q := by
  refine wp_aload_n rfl rfl rfl ?_
  refine s_invV (As := []) (d1 := d - 1) rfl ⟨by decide, by decide⟩ rfl rfl rfl (Nat.le_of_ble_eq_true rfl) (by omega) (kd_142 _) (by decide) rfl rfl H ?_
  intro v I2 h2
  exact h2
set_option maxRecDepth 20000 in
theorem r_M_every_2 {E : XE} {d : Nat} {I : Nat → Nat → Int32} {Q : Option Value → (Nat → Nat → Int32) → Prop} (hd : 1 ≤ d) 
    (H : (((I 142 8) = 0 → x_K E (d - 1) 115 [.ref 142] I (fun v I2 => x_P E d 122 7 [.ref 142] (v.toList ++ []) I2 Q)) ∧ (¬ ((I 142 8) = 0) → Q none I))) :
    x_P E d 122 2 [.ref 142] [] I Q := by
  refine wp_aload_n rfl rfl rfl ?_
  refine s_getI rfl (by decide) (kd_142 _) rfl ?_
  refine wp_if_ne rfl (fun c_1 => ?_) (fun c_1 => ?_)
  · replace H := H.2 c_1
    exact s_vret rfl rfl H
  · replace H := H.1 c_1
    refine wp_aload_n rfl rfl rfl ?_
    refine s_invV (As := []) (d1 := d - 1) rfl ⟨by decide, by decide⟩ rfl rfl rfl (Nat.le_of_ble_eq_true rfl) (by omega) (kd_142 _) (by decide) rfl rfl H ?_
    intro v I2 h2
    exact h2
set_option maxRecDepth 20000 in
theorem r_M_every_7 {E : XE} {d : Nat} {I : Nat → Nat → Int32} {Q : Option Value → (Nat → Nat → Int32) → Prop} (hd : 1 ≤ d) (w : Int32)
    (H : ((w = (38 : Int32) → (∀ I_2, I_2 = x_up I 142 6 ((I 142 6) + (1 : Int32)) → x_K E (d - 1) 121 [.ref 142] I_2 (fun v I2 => x_P E d 122 17 [.ref 142] (v.toList ++ []) I2 Q))) ∧ (¬ (w = (38 : Int32)) → Q none I))) :
    x_P E d 122 7 [.ref 142] [.int w] I Q := by
  refine wp_bipush (v := (38 : Int32)) rfl (by decide) ?_
  refine wp_icmp_ne rfl (fun c_1 => ?_) (fun c_1 => ?_)
  · replace H := H.2 c_1
    exact s_vret rfl rfl H
  · replace H := H.1 c_1
    refine wp_aload_n rfl rfl rfl ?_
    refine wp_dup rfl rfl ?_
    refine s_getI rfl (by decide) (kd_142 _) rfl ?_
    refine wp_iconst (v := (1 : Int32)) rfl (by decide) ?_
    refine wp_iadd rfl ?_
    refine s_putI rfl (by decide) (kd_142 _) rfl rfl (x_fit_int _) ?_
    generalize hI_2 : x_up I 142 6 ((I 142 6) + (1 : Int32)) = I_2
    replace H := H _ hI_2.symm
    refine wp_aload_n rfl rfl rfl ?_
    refine s_invV (As := []) (d1 := d - 1) rfl ⟨by decide, by decide⟩ rfl rfl rfl (Nat.le_of_ble_eq_true rfl) (by omega) (kd_142 _) (by decide) rfl rfl H ?_
    intro v I2 h2
    exact h2
set_option maxRecDepth 20000 in
theorem r_M_every_17 {E : XE} {d : Nat} {I : Nat → Nat → Int32} {Q : Option Value → (Nat → Nat → Int32) → Prop} (hd : 1 ≤ d) 
    (H : x_K E (d - 1) 120 [.ref 142, .int (-2 : Int32)] I (fun v I2 => x_P E d 122 20 [.ref 142] (v.toList ++ []) I2 Q)) :
    x_P E d 122 17 [.ref 142] [] I Q := by
  refine wp_aload_n rfl rfl rfl ?_
  refine wp_bipush (v := (-2 : Int32)) rfl (by decide) ?_
  refine s_invV (As := [.int (-2 : Int32)]) (d1 := d - 1) rfl ⟨by decide, by decide⟩ rfl rfl rfl (Nat.le_of_ble_eq_true rfl) (by omega) (kd_142 _) (by decide) rfl rfl H ?_
  intro v I2 h2
  exact h2
set_option maxRecDepth 20000 in
theorem r_M_every_20 {E : XE} {d : Nat} {I : Nat → Nat → Int32} {Q : Option Value → (Nat → Nat → Int32) → Prop} (hd : 1 ≤ d) 
    (H : x_P E d 122 2 [.ref 142] [] I Q) :
    x_P E d 122 20 [.ref 142] [] I Q := by
  refine wp_goto rfl ?_
  exact H
set_option maxRecDepth 20000 in
theorem r_M_some_0 {E : XE} {d : Nat} {I : Nat → Nat → Int32} {Q : Option Value → (Nat → Nat → Int32) → Prop} (hd : 1 ≤ d) 
    (H : x_K E (d - 1) 122 [.ref 142] I (fun v I2 => x_P E d 123 2 [.ref 142] (v.toList ++ []) I2 Q)) :
    x_P E d 123 0 [.ref 142] [] I Q := by
  refine wp_aload_n rfl rfl rfl ?_
  refine s_invV (As := []) (d1 := d - 1) rfl ⟨by decide, by decide⟩ rfl rfl rfl (Nat.le_of_ble_eq_true rfl) (by omega) (kd_142 _) (by decide) rfl rfl H ?_
  intro v I2 h2
  exact h2
set_option maxRecDepth 20000 in
theorem r_M_some_2 {E : XE} {d : Nat} {I : Nat → Nat → Int32} {Q : Option Value → (Nat → Nat → Int32) → Prop} (hd : 1 ≤ d) 
    (H : (((I 142 8) = 0 → x_K E (d - 1) 115 [.ref 142] I (fun v I2 => x_P E d 123 7 [.ref 142] (v.toList ++ []) I2 Q)) ∧ (¬ ((I 142 8) = 0) → Q none I))) :
    x_P E d 123 2 [.ref 142] [] I Q := by
  refine wp_aload_n rfl rfl rfl ?_
  refine s_getI rfl (by decide) (kd_142 _) rfl ?_
  refine wp_if_ne rfl (fun c_1 => ?_) (fun c_1 => ?_)
  · replace H := H.2 c_1
    exact s_vret rfl rfl H
  · replace H := H.1 c_1
    refine wp_aload_n rfl rfl rfl ?_
    refine s_invV (As := []) (d1 := d - 1) rfl ⟨by decide, by decide⟩ rfl rfl rfl (Nat.le_of_ble_eq_true rfl) (by omega) (kd_142 _) (by decide) rfl rfl H ?_
    intro v I2 h2
    exact h2
set_option maxRecDepth 20000 in
theorem r_M_some_7 {E : XE} {d : Nat} {I : Nat → Nat → Int32} {Q : Option Value → (Nat → Nat → Int32) → Prop} (hd : 1 ≤ d) (w : Int32)
    (H : ((w = (124 : Int32) → (∀ I_2, I_2 = x_up I 142 6 ((I 142 6) + (1 : Int32)) → x_K E (d - 1) 122 [.ref 142] I_2 (fun v I2 => x_P E d 123 17 [.ref 142] (v.toList ++ []) I2 Q))) ∧ (¬ (w = (124 : Int32)) → Q none I))) :
    x_P E d 123 7 [.ref 142] [.int w] I Q := by
  refine wp_bipush (v := (124 : Int32)) rfl (by decide) ?_
  refine wp_icmp_ne rfl (fun c_1 => ?_) (fun c_1 => ?_)
  · replace H := H.2 c_1
    exact s_vret rfl rfl H
  · replace H := H.1 c_1
    refine wp_aload_n rfl rfl rfl ?_
    refine wp_dup rfl rfl ?_
    refine s_getI rfl (by decide) (kd_142 _) rfl ?_
    refine wp_iconst (v := (1 : Int32)) rfl (by decide) ?_
    refine wp_iadd rfl ?_
    refine s_putI rfl (by decide) (kd_142 _) rfl rfl (x_fit_int _) ?_
    generalize hI_2 : x_up I 142 6 ((I 142 6) + (1 : Int32)) = I_2
    replace H := H _ hI_2.symm
    refine wp_aload_n rfl rfl rfl ?_
    refine s_invV (As := []) (d1 := d - 1) rfl ⟨by decide, by decide⟩ rfl rfl rfl (Nat.le_of_ble_eq_true rfl) (by omega) (kd_142 _) (by decide) rfl rfl H ?_
    intro v I2 h2
    exact h2
set_option maxRecDepth 20000 in
theorem r_M_some_17 {E : XE} {d : Nat} {I : Nat → Nat → Int32} {Q : Option Value → (Nat → Nat → Int32) → Prop} (hd : 1 ≤ d) 
    (H : x_K E (d - 1) 120 [.ref 142, .int (-3 : Int32)] I (fun v I2 => x_P E d 123 20 [.ref 142] (v.toList ++ []) I2 Q)) :
    x_P E d 123 17 [.ref 142] [] I Q := by
  refine wp_aload_n rfl rfl rfl ?_
  refine wp_bipush (v := (-3 : Int32)) rfl (by decide) ?_
  refine s_invV (As := [.int (-3 : Int32)]) (d1 := d - 1) rfl ⟨by decide, by decide⟩ rfl rfl rfl (Nat.le_of_ble_eq_true rfl) (by omega) (kd_142 _) (by decide) rfl rfl H ?_
  intro v I2 h2
  exact h2
set_option maxRecDepth 20000 in
theorem r_M_some_20 {E : XE} {d : Nat} {I : Nat → Nat → Int32} {Q : Option Value → (Nat → Nat → Int32) → Prop} (hd : 1 ≤ d) 
    (H : x_P E d 123 2 [.ref 142] [] I Q) :
    x_P E d 123 20 [.ref 142] [] I Q := by
  refine wp_goto rfl ?_
  exact H
set_option maxRecDepth 20000 in
theorem r_M_much_0 {E : XE} {d : Nat} {I : Nat → Nat → Int32} {Q : Option Value → (Nat → Nat → Int32) → Prop} (hd : 1 ≤ d) (a1 : Int32) (e2 : Nat) (he2 : e2 < 8)
    (H : x_K E (d - 1) 117 [.ref 142, .ref (8 + e2)] I (fun v I2 => x_P E d 124 3 [.ref 142, .int a1, x_jk, x_jk] (v.toList ++ []) I2 Q)) :
    x_P E d 124 0 [.ref 142, .int a1, .ref (8 + e2), x_jk] [] I Q := by
  refine wp_aload_n rfl rfl rfl ?_
  refine wp_aload_n rfl rfl rfl ?_
  refine s_invV (As := [.ref (8 + e2)]) (d1 := d - 1) rfl ⟨by decide, by decide⟩ rfl rfl rfl (Nat.le_of_ble_eq_true rfl) (by omega) (kd_142 _) (by decide) rfl rfl H ?_
  intro v I2 h2
  exact x_P.weak (L := [.ref 142, .int a1, x_jk, x_jk]) (by exact ⟨Or.inr rfl, ⟨Or.inr rfl, ⟨Or.inl rfl, ⟨Or.inr rfl, trivial⟩⟩⟩⟩) h2
set_option maxRecDepth 20000 in
theorem r_M_much_3 {E : XE} {d : Nat} {I : Nat → Nat → Int32} {Q : Option Value → (Nat → Nat → Int32) → Prop} (hd : 1 ≤ d) (v1 : Int32)
    (H : x_K E (d - 1) 118 [.ref 142] I (fun v I2 => x_P E d 124 5 [.ref 142, .int v1, x_jk, x_jk] (v.toList ++ []) I2 Q)) :
    x_P E d 124 3 [.ref 142, .int v1, x_jk, x_jk] [] I Q := by
  refine wp_aload_n rfl rfl rfl ?_
  refine s_invV (As := []) (d1 := d - 1) rfl ⟨by decide, by decide⟩ rfl rfl rfl (Nat.le_of_ble_eq_true rfl) (by omega) (kd_142 _) (by decide) rfl rfl H ?_
  intro v I2 h2
  exact h2
set_option maxRecDepth 20000 in
theorem r_M_much_5 {E : XE} {d : Nat} {I : Nat → Nat → Int32} {Q : Option Value → (Nat → Nat → Int32) → Prop} (hd : 1 ≤ d) (v1 : Int32) (w : Int32)
    (H : x_K E (d - 1) 116 [.ref 142, .int (32 : Int32)] I (fun v I2 => x_P E d 124 9 [.ref 142, .int v1, x_jk, .int w] (v.toList ++ []) I2 Q)) :
    x_P E d 124 5 [.ref 142, .int v1, x_jk, x_jk] [.int w] I Q := by
  refine wp_istore_n (L' := [.ref 142, .int v1, x_jk, .int w]) rfl rfl (by decide) rfl rfl ?_
  refine wp_aload_n rfl rfl rfl ?_
  refine wp_bipush (v := (32 : Int32)) rfl (by decide) ?_
  refine s_invV (As := [.int (32 : Int32)]) (d1 := d - 1) rfl ⟨by decide, by decide⟩ rfl rfl rfl (Nat.le_of_ble_eq_true rfl) (by omega) (kd_142 _) (by decide) rfl rfl H ?_
  intro v I2 h2
  exact h2
set_option maxRecDepth 20000 in
theorem r_M_much_9 {E : XE} {d : Nat} {I : Nat → Nat → Int32} {Q : Option Value → (Nat → Nat → Int32) → Prop} (hd : 1 ≤ d) (v1 : Int32) (v3 : Int32)
    (H : x_K E (d - 1) 123 [.ref 142] I (fun v I2 => x_P E d 124 11 [.ref 142, .int v1, x_jk, .int v3] (v.toList ++ []) I2 Q)) :
    x_P E d 124 9 [.ref 142, .int v1, x_jk, .int v3] [] I Q := by
  refine wp_aload_n rfl rfl rfl ?_
  refine s_invV (As := []) (d1 := d - 1) rfl ⟨by decide, by decide⟩ rfl rfl rfl (Nat.le_of_ble_eq_true rfl) (by omega) (kd_142 _) (by decide) rfl rfl H ?_
  intro v I2 h2
  exact h2
set_option maxRecDepth 20000 in
theorem r_M_much_11 {E : XE} {d : Nat} {I : Nat → Nat → Int32} {Q : Option Value → (Nat → Nat → Int32) → Prop} (hd : 1 ≤ d) (v1 : Int32) (v3 : Int32)
    (H : x_K E (d - 1) 120 [.ref 142, .int (v1 - v3)] I (fun v I2 => x_P E d 124 16 [x_jk, x_jk, x_jk, x_jk] (v.toList ++ []) I2 Q)) :
    x_P E d 124 11 [.ref 142, .int v1, x_jk, .int v3] [] I Q := by
  refine wp_aload_n rfl rfl rfl ?_
  refine wp_iload_n rfl rfl rfl ?_
  refine wp_iload_n rfl rfl rfl ?_
  refine wp_isub rfl ?_
  refine s_invV (As := [.int (v1 - v3)]) (d1 := d - 1) rfl ⟨by decide, by decide⟩ rfl rfl rfl (Nat.le_of_ble_eq_true rfl) (by omega) (kd_142 _) (by decide) rfl rfl H ?_
  intro v I2 h2
  exact x_P.weak (L := [x_jk, x_jk, x_jk, x_jk]) (by exact ⟨Or.inl rfl, ⟨Or.inl rfl, ⟨Or.inr rfl, ⟨Or.inl rfl, trivial⟩⟩⟩⟩) h2
set_option maxRecDepth 20000 in
theorem r_M_much_16 {E : XE} {d : Nat} {I : Nat → Nat → Int32} {Q : Option Value → (Nat → Nat → Int32) → Prop} (hd : 1 ≤ d) 
    (H : Q none I) :
    x_P E d 124 16 [x_jk, x_jk, x_jk, x_jk] [] I Q := by
  exact s_vret rfl rfl H
set_option maxRecDepth 20000 in
theorem r_M_tellsHere_0 {E : XE} {d : Nat} {I : Nat → Nat → Int32} {Q : Option Value → (Nat → Nat → Int32) → Prop} (hd : 1 ≤ d) (a1 : Int32) (e2 : Nat) (he2 : e2 < 8)
    (H : x_K E (d - 1) 117 [.ref 142, .ref (8 + e2)] I (fun v I2 => x_P E d 125 3 [.ref 142, .int a1, x_jk, x_jk] (v.toList ++ []) I2 Q)) :
    x_P E d 125 0 [.ref 142, .int a1, .ref (8 + e2), x_jk] [] I Q := by
  refine wp_aload_n rfl rfl rfl ?_
  refine wp_aload_n rfl rfl rfl ?_
  refine s_invV (As := [.ref (8 + e2)]) (d1 := d - 1) rfl ⟨by decide, by decide⟩ rfl rfl rfl (Nat.le_of_ble_eq_true rfl) (by omega) (kd_142 _) (by decide) rfl rfl H ?_
  intro v I2 h2
  exact x_P.weak (L := [.ref 142, .int a1, x_jk, x_jk]) (by exact ⟨Or.inr rfl, ⟨Or.inr rfl, ⟨Or.inl rfl, ⟨Or.inr rfl, trivial⟩⟩⟩⟩) h2
set_option maxRecDepth 20000 in
theorem r_M_tellsHere_3 {E : XE} {d : Nat} {I : Nat → Nat → Int32} {Q : Option Value → (Nat → Nat → Int32) → Prop} (hd : 1 ≤ d) (v1 : Int32)
    (H : x_K E (d - 1) 118 [.ref 142] I (fun v I2 => x_P E d 125 5 [.ref 142, .int v1, x_jk, x_jk] (v.toList ++ []) I2 Q)) :
    x_P E d 125 3 [.ref 142, .int v1, x_jk, x_jk] [] I Q := by
  refine wp_aload_n rfl rfl rfl ?_
  refine s_invV (As := []) (d1 := d - 1) rfl ⟨by decide, by decide⟩ rfl rfl rfl (Nat.le_of_ble_eq_true rfl) (by omega) (kd_142 _) (by decide) rfl rfl H ?_
  intro v I2 h2
  exact h2
set_option maxRecDepth 20000 in
theorem r_M_tellsHere_5 {E : XE} {d : Nat} {I : Nat → Nat → Int32} {Q : Option Value → (Nat → Nat → Int32) → Prop} (hd : 1 ≤ d) (v1 : Int32) (w : Int32)
    (H : (((I 142 8) = 0 → (vp_in (v1 + (I 142 5)) 931) ∧ (∀ I_3, I_3 = x_up I 143 (v1 + (I 142 5)).toNatClampNeg w → Q none I_3)) ∧ (¬ ((I 142 8) = 0) → Q none I))) :
    x_P E d 125 5 [.ref 142, .int v1, x_jk, x_jk] [.int w] I Q := by
  refine wp_istore_n (L' := [.ref 142, .int v1, x_jk, .int w]) rfl rfl (by decide) rfl rfl ?_
  refine wp_aload_n rfl rfl rfl ?_
  refine s_getI rfl (by decide) (kd_142 _) rfl ?_
  refine wp_if_ne rfl (fun c_1 => ?_) (fun c_1 => ?_)
  · replace H := H.2 c_1
    exact s_vret rfl rfl H
  · replace H := H.1 c_1
    refine wp_aload_n rfl rfl rfl ?_
    refine wp_getR (v := .ref 143) rfl (by decide) (kd_142 _) rfl (kr_142_1 _) ?_
    refine wp_iload_n rfl rfl rfl ?_
    refine wp_aload_n rfl rfl rfl ?_
    refine s_getI rfl (by decide) (kd_142 _) rfl ?_
    refine wp_iadd rfl ?_
    refine wp_iload_n rfl rfl rfl ?_
    obtain ⟨o_2, H⟩ := H
    refine s_iast rfl (kd_143 _) o_2 ?_
    generalize hI_3 : x_up I 143 (v1 + (I 142 5)).toNatClampNeg w = I_3
    replace H := H _ hI_3.symm
    exact s_vret rfl rfl H
set_option maxRecDepth 20000 in
theorem r_M_second_0 {E : XE} {d : Nat} {I : Nat → Nat → Int32} {Q : Option Value → (Nat → Nat → Int32) → Prop} (hd : 1 ≤ d) 
    (H : ((¬ ((I 142 7) ≤ ((I 142 6) + (1 : Int32))) → vp_in (((121 : Int32) + (I 142 6)) + (1 : Int32)) 931)) ∧ (∀ z_3, z_3 = (if (I 142 7) ≤ ((I 142 6) + (1 : Int32)) then (-1 : Int32) else (I 143 (((121 : Int32) + (I 142 6)) + (1 : Int32)).toNatClampNeg)) → Q (some (.int z_3)) I)) :
    x_P E d 126 0 [.ref 142] [] I Q := by
  refine wp_aload_n rfl rfl rfl ?_
  refine s_getI rfl (by decide) (kd_142 _) rfl ?_
  refine wp_iconst (v := (1 : Int32)) rfl (by decide) ?_
  refine wp_iadd rfl ?_
  refine wp_aload_n rfl rfl rfl ?_
  refine s_getI rfl (by decide) (kd_142 _) rfl ?_
  obtain ⟨o_2, H⟩ := H
  obtain ⟨z_3, hz_3⟩ : ∃ z : Int32, z = (if (I 142 7) ≤ ((I 142 6) + (1 : Int32)) then (-1 : Int32) else (I 143 (((121 : Int32) + (I 142 6)) + (1 : Int32)).toNatClampNeg)) := ⟨_, rfl⟩
  replace H := H _ hz_3
  have J : x_P E d 126 18 [.ref 142] [.int z_3] I Q := by
    exact s_iret rfl rfl rfl H
  refine wp_icmp_ge rfl (fun c_1 => ?_) (fun c_1 => ?_)
  · refine wp_iconst (v := (-1 : Int32)) rfl (by decide) ?_
    exact x_P.cong rfl (by rw [show z_3 = (-1 : Int32) from by rw [hz_3]; simp only [if_pos c_1]]) J
  · refine wp_aload_n rfl rfl rfl ?_
    refine wp_getR (v := .ref 143) rfl (by decide) (kd_142 _) rfl (kr_142_1 _) ?_
    refine wp_bipush (v := (121 : Int32)) rfl (by decide) ?_
    refine wp_aload_n rfl rfl rfl ?_
    refine s_getI rfl (by decide) (kd_142 _) rfl ?_
    refine wp_iadd rfl ?_
    refine wp_iconst (v := (1 : Int32)) rfl (by decide) ?_
    refine wp_iadd rfl ?_
    refine s_iald rfl (kd_143 _) (o_2 c_1) ?_
    refine wp_goto rfl ?_
    exact x_P.cong rfl (by rw [show z_3 = (I 143 (((121 : Int32) + (I 142 6)) + (1 : Int32)).toNatClampNeg) from by rw [hz_3]; simp only [if_neg c_1]]) J
set_option maxRecDepth 20000 in
theorem r_M_clauseHere_0 {E : XE} {d : Nat} {I : Nat → Nat → Int32} {Q : Option Value → (Nat → Nat → Int32) → Prop} (hd : 1 ≤ d) 
    (H : x_K E (d - 1) 115 [.ref 142] I (fun v I2 => x_P E d 127 2 [.ref 142] (v.toList ++ []) I2 Q)) :
    x_P E d 127 0 [.ref 142] [] I Q := by
  refine wp_aload_n rfl rfl rfl ?_
  refine s_invV (As := []) (d1 := d - 1) rfl ⟨by decide, by decide⟩ rfl rfl rfl (Nat.le_of_ble_eq_true rfl) (by omega) (kd_142 _) (by decide) rfl rfl H ?_
  intro v I2 h2
  exact h2
set_option maxRecDepth 20000 in
theorem r_M_clauseHere_2 {E : XE} {d : Nat} {I : Nat → Nat → Int32} {Q : Option Value → (Nat → Nat → Int32) → Prop} (hd : 1 ≤ d) (w : Int32)
    (H : ((w = (98 : Int32) → x_K E (d - 1) 125 [.ref 142, .int (221 : Int32), .ref 13] I (fun v I2 => x_P E d 127 8 [x_jk] (v.toList ++ []) I2 Q)) ∧ (¬ (w = (98 : Int32)) → x_K E (d - 1) 115 [.ref 142] I (fun v I2 => x_P E d 127 11 [.ref 142] (v.toList ++ []) I2 Q)))) :
    x_P E d 127 2 [.ref 142] [.int w] I Q := by
  refine wp_bipush (v := (98 : Int32)) rfl (by decide) ?_
  refine wp_icmp_ne rfl (fun c_1 => ?_) (fun c_1 => ?_)
  · replace H := H.2 c_1
    refine wp_aload_n rfl rfl rfl ?_
    refine s_invV (As := []) (d1 := d - 1) rfl ⟨by decide, by decide⟩ rfl rfl rfl (Nat.le_of_ble_eq_true rfl) (by omega) (kd_142 _) (by decide) rfl rfl H ?_
    intro v I2 h2
    exact h2
  · replace H := H.1 c_1
    refine wp_aload_n rfl rfl rfl ?_
    refine wp_sipush (v := (221 : Int32)) rfl (by decide) ?_
    refine wp_ldcS (j0 := 5) rfl rfl rfl (by decide) ?_
    refine s_invV (As := [.int (221 : Int32), .ref 13]) (d1 := d - 1) rfl ⟨by decide, by decide⟩ rfl rfl rfl (Nat.le_of_ble_eq_true rfl) (by omega) (kd_142 _) (by decide) rfl rfl H ?_
    intro v I2 h2
    exact x_P.weak (L := [x_jk]) (by exact ⟨Or.inl rfl, trivial⟩) h2
set_option maxRecDepth 20000 in
theorem r_M_clauseHere_8 {E : XE} {d : Nat} {I : Nat → Nat → Int32} {Q : Option Value → (Nat → Nat → Int32) → Prop} (hd : 1 ≤ d) 
    (H : Q none I) :
    x_P E d 127 8 [x_jk] [] I Q := by
  refine wp_goto rfl ?_
  exact s_vret rfl rfl H
set_option maxRecDepth 20000 in
theorem r_M_clauseHere_11 {E : XE} {d : Nat} {I : Nat → Nat → Int32} {Q : Option Value → (Nat → Nat → Int32) → Prop} (hd : 1 ≤ d) (w : Int32)
    (H : ((w = (115 : Int32) → x_K E (d - 1) 126 [.ref 142] I (fun v I2 => x_P E d 127 15 [.ref 142] (v.toList ++ []) I2 Q)) ∧ (¬ (w = (115 : Int32)) → x_K E (d - 1) 115 [.ref 142] I (fun v I2 => x_P E d 127 24 [.ref 142] (v.toList ++ []) I2 Q)))) :
    x_P E d 127 11 [.ref 142] [.int w] I Q := by
  refine wp_bipush (v := (115 : Int32)) rfl (by decide) ?_
  refine wp_icmp_ne rfl (fun c_1 => ?_) (fun c_1 => ?_)
  · replace H := H.2 c_1
    refine wp_aload_n rfl rfl rfl ?_
    refine s_invV (As := []) (d1 := d - 1) rfl ⟨by decide, by decide⟩ rfl rfl rfl (Nat.le_of_ble_eq_true rfl) (by omega) (kd_142 _) (by decide) rfl rfl H ?_
    intro v I2 h2
    exact h2
  · replace H := H.1 c_1
    refine wp_aload_n rfl rfl rfl ?_
    refine s_invV (As := []) (d1 := d - 1) rfl ⟨by decide, by decide⟩ rfl rfl rfl (Nat.le_of_ble_eq_true rfl) (by omega) (kd_142 _) (by decide) rfl rfl H ?_
    intro v I2 h2
    exact h2
set_option maxRecDepth 20000 in
theorem r_M_clauseHere_15 {E : XE} {d : Nat} {I : Nat → Nat → Int32} {Q : Option Value → (Nat → Nat → Int32) → Prop} (hd : 1 ≤ d) (w : Int32)
    (H : ((w = (116 : Int32) → x_K E (d - 1) 124 [.ref 142, .int (-10 : Int32), .ref 14] I (fun v I2 => x_P E d 127 21 [x_jk] (v.toList ++ []) I2 Q)) ∧ (¬ (w = (116 : Int32)) → x_K E (d - 1) 115 [.ref 142] I (fun v I2 => x_P E d 127 24 [.ref 142] (v.toList ++ []) I2 Q)))) :
    x_P E d 127 15 [.ref 142] [.int w] I Q := by
  refine wp_bipush (v := (116 : Int32)) rfl (by decide) ?_
  refine wp_icmp_ne rfl (fun c_1 => ?_) (fun c_1 => ?_)
  · replace H := H.2 c_1
    refine wp_aload_n rfl rfl rfl ?_
    refine s_invV (As := []) (d1 := d - 1) rfl ⟨by decide, by decide⟩ rfl rfl rfl (Nat.le_of_ble_eq_true rfl) (by omega) (kd_142 _) (by decide) rfl rfl H ?_
    intro v I2 h2
    exact h2
  · replace H := H.1 c_1
    refine wp_aload_n rfl rfl rfl ?_
    refine wp_bipush (v := (-10 : Int32)) rfl (by decide) ?_
    refine wp_ldcS (j0 := 6) rfl rfl rfl (by decide) ?_
    refine s_invV (As := [.int (-10 : Int32), .ref 14]) (d1 := d - 1) rfl ⟨by decide, by decide⟩ rfl rfl rfl (Nat.le_of_ble_eq_true rfl) (by omega) (kd_142 _) (by decide) rfl rfl H ?_
    intro v I2 h2
    exact x_P.weak (L := [x_jk]) (by exact ⟨Or.inl rfl, trivial⟩) h2
set_option maxRecDepth 20000 in
theorem r_M_clauseHere_24 {E : XE} {d : Nat} {I : Nat → Nat → Int32} {Q : Option Value → (Nat → Nat → Int32) → Prop} (hd : 1 ≤ d) (w : Int32)
    (H : ((w = (115 : Int32) → x_K E (d - 1) 124 [.ref 142, .int (-200 : Int32), .ref 15] I (fun v I2 => x_P E d 127 30 [x_jk] (v.toList ++ []) I2 Q)) ∧ (¬ (w = (115 : Int32)) → (∀ I_2, I_2 = x_up I 142 8 (1 : Int32) → Q none I_2)))) :
    x_P E d 127 24 [.ref 142] [.int w] I Q := by
  refine wp_bipush (v := (115 : Int32)) rfl (by decide) ?_
  refine wp_icmp_ne rfl (fun c_1 => ?_) (fun c_1 => ?_)
  · replace H := H.2 c_1
    refine wp_aload_n rfl rfl rfl ?_
    refine wp_iconst (v := (1 : Int32)) rfl (by decide) ?_
    refine s_putI rfl (by decide) (kd_142 _) rfl rfl x_fit_b1 ?_
    generalize hI_2 : x_up I 142 8 (1 : Int32) = I_2
    replace H := H _ hI_2.symm
    exact s_vret rfl rfl H
  · replace H := H.1 c_1
    refine wp_aload_n rfl rfl rfl ?_
    refine wp_sipush (v := (-200 : Int32)) rfl (by decide) ?_
    refine wp_ldcS (j0 := 7) rfl rfl rfl (by decide) ?_
    refine s_invV (As := [.int (-200 : Int32), .ref 15]) (d1 := d - 1) rfl ⟨by decide, by decide⟩ rfl rfl rfl (Nat.le_of_ble_eq_true rfl) (by omega) (kd_142 _) (by decide) rfl rfl H ?_
    intro v I2 h2
    exact x_P.weak (L := [x_jk]) (by exact ⟨Or.inl rfl, trivial⟩) h2
set_option maxRecDepth 20000 in
theorem r_M_clauseHere_21 {E : XE} {d : Nat} {I : Nat → Nat → Int32} {Q : Option Value → (Nat → Nat → Int32) → Prop} (hd : 1 ≤ d) 
    (H : Q none I) :
    x_P E d 127 21 [x_jk] [] I Q := by
  refine wp_goto rfl ?_
  exact s_vret rfl rfl H
set_option maxRecDepth 20000 in
theorem r_M_clauseHere_30 {E : XE} {d : Nat} {I : Nat → Nat → Int32} {Q : Option Value → (Nat → Nat → Int32) → Prop} (hd : 1 ≤ d) 
    (H : Q none I) :
    x_P E d 127 30 [x_jk] [] I Q := by
  refine wp_goto rfl ?_
  exact s_vret rfl rfl H
set_option maxRecDepth 20000 in
theorem r_M_town_0 {E : XE} {d : Nat} {I : Nat → Nat → Int32} {Q : Option Value → (Nat → Nat → Int32) → Prop} (hd : 1 ≤ d) 
    (H : (((I 143 32) = (5 : Int32) → Q (some (.int (-4 : Int32))) I) ∧ (¬ ((I 143 32) = (5 : Int32)) → (∀ I_2, I_2 = x_up I 142 5 (I 143 32) → (∀ I_3, I_3 = x_up I_2 142 7 (I_2 143 36) → (∀ I_4, I_4 = x_up I_3 143 36 (0 : Int32) → (vp_in ((221 : Int32) + (I_4 142 5)) 931) ∧ (∀ I_6, I_6 = x_up I_4 143 ((221 : Int32) + (I_4 142 5)).toNatClampNeg (90 : Int32) → (vp_in ((226 : Int32) + (I_6 142 5)) 931) ∧ (∀ I_8, I_8 = x_up I_6 143 ((226 : Int32) + (I_6 142 5)).toNatClampNeg (0 : Int32) → (∀ I_9, I_9 = x_up I_8 142 6 (0 : Int32) → (∀ I_10, I_10 = x_up I_9 142 8 (0 : Int32) → (∀ I_11, I_11 = x_up I_10 142 9 (0 : Int32) → x_K E (d - 1) 127 [.ref 142] I_11 (fun v I2 => x_P E d 128 54 [.ref 142, .int (1 : Int32)] (v.toList ++ []) I2 Q)))))))))))) :
    x_P E d 128 0 [.ref 142, x_jk] [] I Q := by
  refine wp_aload_n rfl rfl rfl ?_
  refine wp_getR (v := .ref 143) rfl (by decide) (kd_142 _) rfl (kr_142_1 _) ?_
  refine wp_bipush (v := (32 : Int32)) rfl (by decide) ?_
  refine s_ialdc (k0 := 32) rfl (kd_143 _) rfl ?_
  refine wp_iconst (v := (5 : Int32)) rfl (by decide) ?_
  refine wp_icmp_ne rfl (fun c_1 => ?_) (fun c_1 => ?_)
  · replace H := H.2 c_1
    refine wp_aload_n rfl rfl rfl ?_
    refine wp_aload_n rfl rfl rfl ?_
    refine wp_getR (v := .ref 143) rfl (by decide) (kd_142 _) rfl (kr_142_1 _) ?_
    refine wp_bipush (v := (32 : Int32)) rfl (by decide) ?_
    refine s_ialdc (k0 := 32) rfl (kd_143 _) rfl ?_
    refine s_putI rfl (by decide) (kd_142 _) rfl rfl (x_fit_int _) ?_
    generalize hI_2 : x_up I 142 5 (I 143 32) = I_2
    replace H := H _ hI_2.symm
    refine wp_aload_n rfl rfl rfl ?_
    refine wp_aload_n rfl rfl rfl ?_
    refine wp_getR (v := .ref 143) rfl (by decide) (kd_142 _) rfl (kr_142_1 _) ?_
    refine wp_bipush (v := (36 : Int32)) rfl (by decide) ?_
    refine s_ialdc (k0 := 36) rfl (kd_143 _) rfl ?_
    refine s_putI rfl (by decide) (kd_142 _) rfl rfl (x_fit_int _) ?_
    generalize hI_3 : x_up I_2 142 7 (I_2 143 36) = I_3
    replace H := H _ hI_3.symm
    refine wp_aload_n rfl rfl rfl ?_
    refine wp_getR (v := .ref 143) rfl (by decide) (kd_142 _) rfl (kr_142_1 _) ?_
    refine wp_bipush (v := (36 : Int32)) rfl (by decide) ?_
    refine wp_iconst (v := (0 : Int32)) rfl (by decide) ?_
    refine s_iastc (k0 := 36) rfl (kd_143 _) rfl ?_
    generalize hI_4 : x_up I_3 143 36 (0 : Int32) = I_4
    replace H := H _ hI_4.symm
    refine wp_aload_n rfl rfl rfl ?_
    refine wp_getR (v := .ref 143) rfl (by decide) (kd_142 _) rfl (kr_142_1 _) ?_
    refine wp_sipush (v := (221 : Int32)) rfl (by decide) ?_
    refine wp_aload_n rfl rfl rfl ?_
    refine s_getI rfl (by decide) (kd_142 _) rfl ?_
    refine wp_iadd rfl ?_
    refine wp_bipush (v := (90 : Int32)) rfl (by decide) ?_
    obtain ⟨o_5, H⟩ := H
    refine s_iast rfl (kd_143 _) o_5 ?_
    generalize hI_6 : x_up I_4 143 ((221 : Int32) + (I_4 142 5)).toNatClampNeg (90 : Int32) = I_6
    replace H := H _ hI_6.symm
    refine wp_aload_n rfl rfl rfl ?_
    refine wp_getR (v := .ref 143) rfl (by decide) (kd_142 _) rfl (kr_142_1 _) ?_
    refine wp_sipush (v := (226 : Int32)) rfl (by decide) ?_
    refine wp_aload_n rfl rfl rfl ?_
    refine s_getI rfl (by decide) (kd_142 _) rfl ?_
    refine wp_iadd rfl ?_
    refine wp_iconst (v := (0 : Int32)) rfl (by decide) ?_
    obtain ⟨o_7, H⟩ := H
    refine s_iast rfl (kd_143 _) o_7 ?_
    generalize hI_8 : x_up I_6 143 ((226 : Int32) + (I_6 142 5)).toNatClampNeg (0 : Int32) = I_8
    replace H := H _ hI_8.symm
    refine wp_aload_n rfl rfl rfl ?_
    refine wp_iconst (v := (0 : Int32)) rfl (by decide) ?_
    refine s_putI rfl (by decide) (kd_142 _) rfl rfl (x_fit_int _) ?_
    generalize hI_9 : x_up I_8 142 6 (0 : Int32) = I_9
    replace H := H _ hI_9.symm
    refine wp_aload_n rfl rfl rfl ?_
    refine wp_iconst (v := (0 : Int32)) rfl (by decide) ?_
    refine s_putI rfl (by decide) (kd_142 _) rfl rfl x_fit_b0 ?_
    generalize hI_10 : x_up I_9 142 8 (0 : Int32) = I_10
    replace H := H _ hI_10.symm
    refine wp_aload_n rfl rfl rfl ?_
    refine wp_iconst (v := (0 : Int32)) rfl (by decide) ?_
    refine s_putI rfl (by decide) (kd_142 _) rfl rfl (x_fit_int _) ?_
    generalize hI_11 : x_up I_10 142 9 (0 : Int32) = I_11
    replace H := H _ hI_11.symm
    refine wp_iconst (v := (1 : Int32)) rfl (by decide) ?_
    refine wp_istore_n (L' := [.ref 142, .int (1 : Int32)]) rfl rfl (by decide) rfl rfl ?_
    refine wp_aload_n rfl rfl rfl ?_
    refine s_invV (As := []) (d1 := d - 1) rfl ⟨by decide, by decide⟩ rfl rfl rfl (Nat.le_of_ble_eq_true rfl) (by omega) (kd_142 _) (by decide) rfl rfl H ?_
    intro v I2 h2
    exact h2
  · replace H := H.1 c_1
    refine wp_bipush (v := (-4 : Int32)) rfl (by decide) ?_
    exact s_iret rfl rfl rfl H
set_option maxRecDepth 20000 in
theorem r_M_town_54 {E : XE} {d : Nat} {I : Nat → Nat → Int32} {Q : Option Value → (Nat → Nat → Int32) → Prop} (hd : 1 ≤ d) (v1 : Int32)
    (H : (((I 142 8) = 0 → (((10 : Int32) ≤ v1 → (((I 142 8) = 0 → (((I 142 6) = (I 142 7) → (∀ I_9, I_9 = x_up I 143 32 ((I 143 32) + (1 : Int32)) → (∀ I_10, I_10 = x_up I_9 143 37 (I_9 142 5) → Q (some (.int (I_10 142 5))) I_10))) ∧ (¬ ((I 142 6) = (I 142 7)) → Q (some (.int ((-10 : Int32) - (I 142 6)))) I))) ∧ (¬ ((I 142 8) = 0) → Q (some (.int ((-10 : Int32) - (I 142 6)))) I))) ∧ (¬ ((10 : Int32) ≤ v1) → x_K E (d - 1) 115 [.ref 142] I (fun v I2 => x_P E d 128 62 [.ref 142, .int v1] (v.toList ++ []) I2 Q)))) ∧ (¬ ((I 142 8) = 0) → (((I 142 8) = 0 → (((I 142 6) = (I 142 7) → (∀ I_4, I_4 = x_up I 143 32 ((I 143 32) + (1 : Int32)) → (∀ I_5, I_5 = x_up I_4 143 37 (I_4 142 5) → Q (some (.int (I_5 142 5))) I_5))) ∧ (¬ ((I 142 6) = (I 142 7)) → Q (some (.int ((-10 : Int32) - (I 142 6)))) I))) ∧ (¬ ((I 142 8) = 0) → Q (some (.int ((-10 : Int32) - (I 142 6)))) I))))) :
    x_P E d 128 54 [.ref 142, .int v1] [] I Q := by
  refine wp_aload_n rfl rfl rfl ?_
  refine s_getI rfl (by decide) (kd_142 _) rfl ?_
  refine wp_if_ne rfl (fun c_1 => ?_) (fun c_1 => ?_)
  · replace H := H.2 c_1
    refine wp_aload_n rfl rfl rfl ?_
    refine s_getI rfl (by decide) (kd_142 _) rfl ?_
    refine wp_if_ne rfl (fun c_2 => ?_) (fun c_2 => ?_)
    · replace H := H.2 c_2
      refine wp_bipush (v := (-10 : Int32)) rfl (by decide) ?_
      refine wp_aload_n rfl rfl rfl ?_
      refine s_getI rfl (by decide) (kd_142 _) rfl ?_
      refine wp_isub rfl ?_
      exact s_iret rfl rfl rfl H
    · replace H := H.1 c_2
      refine wp_aload_n rfl rfl rfl ?_
      refine s_getI rfl (by decide) (kd_142 _) rfl ?_
      refine wp_aload_n rfl rfl rfl ?_
      refine s_getI rfl (by decide) (kd_142 _) rfl ?_
      refine wp_icmp_eq rfl (fun c_3 => ?_) (fun c_3 => ?_)
      · replace H := H.1 c_3
        refine wp_aload_n rfl rfl rfl ?_
        refine wp_getR (v := .ref 143) rfl (by decide) (kd_142 _) rfl (kr_142_1 _) ?_
        refine wp_bipush (v := (32 : Int32)) rfl (by decide) ?_
        refine wp_dup2 rfl rfl rfl ?_
        refine s_ialdc (k0 := 32) rfl (kd_143 _) rfl ?_
        refine wp_iconst (v := (1 : Int32)) rfl (by decide) ?_
        refine wp_iadd rfl ?_
        refine s_iastc (k0 := 32) rfl (kd_143 _) rfl ?_
        generalize hI_4 : x_up I 143 32 ((I 143 32) + (1 : Int32)) = I_4
        replace H := H _ hI_4.symm
        refine wp_aload_n rfl rfl rfl ?_
        refine wp_getR (v := .ref 143) rfl (by decide) (kd_142 _) rfl (kr_142_1 _) ?_
        refine wp_bipush (v := (37 : Int32)) rfl (by decide) ?_
        refine wp_aload_n rfl rfl rfl ?_
        refine s_getI rfl (by decide) (kd_142 _) rfl ?_
        refine s_iastc (k0 := 37) rfl (kd_143 _) rfl ?_
        generalize hI_5 : x_up I_4 143 37 (I_4 142 5) = I_5
        replace H := H _ hI_5.symm
        refine wp_aload_n rfl rfl rfl ?_
        refine s_getI rfl (by decide) (kd_142 _) rfl ?_
        exact s_iret rfl rfl rfl H
      · replace H := H.2 c_3
        refine wp_bipush (v := (-10 : Int32)) rfl (by decide) ?_
        refine wp_aload_n rfl rfl rfl ?_
        refine s_getI rfl (by decide) (kd_142 _) rfl ?_
        refine wp_isub rfl ?_
        exact s_iret rfl rfl rfl H
  · replace H := H.1 c_1
    refine wp_iload_n rfl rfl rfl ?_
    refine wp_bipush (v := (10 : Int32)) rfl (by decide) ?_
    refine wp_icmp_ge rfl (fun c_6 => ?_) (fun c_6 => ?_)
    · replace H := H.1 c_6
      refine wp_aload_n rfl rfl rfl ?_
      refine s_getI rfl (by decide) (kd_142 _) rfl ?_
      refine wp_if_ne rfl (fun c_7 => ?_) (fun c_7 => ?_)
      · replace H := H.2 c_7
        refine wp_bipush (v := (-10 : Int32)) rfl (by decide) ?_
        refine wp_aload_n rfl rfl rfl ?_
        refine s_getI rfl (by decide) (kd_142 _) rfl ?_
        refine wp_isub rfl ?_
        exact s_iret rfl rfl rfl H
      · replace H := H.1 c_7
        refine wp_aload_n rfl rfl rfl ?_
        refine s_getI rfl (by decide) (kd_142 _) rfl ?_
        refine wp_aload_n rfl rfl rfl ?_
        refine s_getI rfl (by decide) (kd_142 _) rfl ?_
        refine wp_icmp_eq rfl (fun c_8 => ?_) (fun c_8 => ?_)
        · replace H := H.1 c_8
          refine wp_aload_n rfl rfl rfl ?_
          refine wp_getR (v := .ref 143) rfl (by decide) (kd_142 _) rfl (kr_142_1 _) ?_
          refine wp_bipush (v := (32 : Int32)) rfl (by decide) ?_
          refine wp_dup2 rfl rfl rfl ?_
          refine s_ialdc (k0 := 32) rfl (kd_143 _) rfl ?_
          refine wp_iconst (v := (1 : Int32)) rfl (by decide) ?_
          refine wp_iadd rfl ?_
          refine s_iastc (k0 := 32) rfl (kd_143 _) rfl ?_
          generalize hI_9 : x_up I 143 32 ((I 143 32) + (1 : Int32)) = I_9
          replace H := H _ hI_9.symm
          refine wp_aload_n rfl rfl rfl ?_
          refine wp_getR (v := .ref 143) rfl (by decide) (kd_142 _) rfl (kr_142_1 _) ?_
          refine wp_bipush (v := (37 : Int32)) rfl (by decide) ?_
          refine wp_aload_n rfl rfl rfl ?_
          refine s_getI rfl (by decide) (kd_142 _) rfl ?_
          refine s_iastc (k0 := 37) rfl (kd_143 _) rfl ?_
          generalize hI_10 : x_up I_9 143 37 (I_9 142 5) = I_10
          replace H := H _ hI_10.symm
          refine wp_aload_n rfl rfl rfl ?_
          refine s_getI rfl (by decide) (kd_142 _) rfl ?_
          exact s_iret rfl rfl rfl H
        · replace H := H.2 c_8
          refine wp_bipush (v := (-10 : Int32)) rfl (by decide) ?_
          refine wp_aload_n rfl rfl rfl ?_
          refine s_getI rfl (by decide) (kd_142 _) rfl ?_
          refine wp_isub rfl ?_
          exact s_iret rfl rfl rfl H
    · replace H := H.2 c_6
      refine wp_aload_n rfl rfl rfl ?_
      refine s_invV (As := []) (d1 := d - 1) rfl ⟨by decide, by decide⟩ rfl rfl rfl (Nat.le_of_ble_eq_true rfl) (by omega) (kd_142 _) (by decide) rfl rfl H ?_
      intro v I2 h2
      exact h2
set_option maxRecDepth 20000 in
theorem r_M_town_62 {E : XE} {d : Nat} {I : Nat → Nat → Int32} {Q : Option Value → (Nat → Nat → Int32) → Prop} (hd : 1 ≤ d) (v1 : Int32) (w : Int32)
    (H : ((w = (59 : Int32) → (∀ I_6, I_6 = x_up I 142 6 ((I 142 6) + (1 : Int32)) → x_K E (d - 1) 127 [.ref 142] I_6 (fun v I2 => x_P E d 128 72 [.ref 142, .int v1] (v.toList ++ []) I2 Q))) ∧ (¬ (w = (59 : Int32)) → (((I 142 8) = 0 → (((I 142 6) = (I 142 7) → (∀ I_4, I_4 = x_up I 143 32 ((I 143 32) + (1 : Int32)) → (∀ I_5, I_5 = x_up I_4 143 37 (I_4 142 5) → Q (some (.int (I_5 142 5))) I_5))) ∧ (¬ ((I 142 6) = (I 142 7)) → Q (some (.int ((-10 : Int32) - (I 142 6)))) I))) ∧ (¬ ((I 142 8) = 0) → Q (some (.int ((-10 : Int32) - (I 142 6)))) I))))) :
    x_P E d 128 62 [.ref 142, .int v1] [.int w] I Q := by
  refine wp_bipush (v := (59 : Int32)) rfl (by decide) ?_
  refine wp_icmp_ne rfl (fun c_1 => ?_) (fun c_1 => ?_)
  · replace H := H.2 c_1
    refine wp_aload_n rfl rfl rfl ?_
    refine s_getI rfl (by decide) (kd_142 _) rfl ?_
    refine wp_if_ne rfl (fun c_2 => ?_) (fun c_2 => ?_)
    · replace H := H.2 c_2
      refine wp_bipush (v := (-10 : Int32)) rfl (by decide) ?_
      refine wp_aload_n rfl rfl rfl ?_
      refine s_getI rfl (by decide) (kd_142 _) rfl ?_
      refine wp_isub rfl ?_
      exact s_iret rfl rfl rfl H
    · replace H := H.1 c_2
      refine wp_aload_n rfl rfl rfl ?_
      refine s_getI rfl (by decide) (kd_142 _) rfl ?_
      refine wp_aload_n rfl rfl rfl ?_
      refine s_getI rfl (by decide) (kd_142 _) rfl ?_
      refine wp_icmp_eq rfl (fun c_3 => ?_) (fun c_3 => ?_)
      · replace H := H.1 c_3
        refine wp_aload_n rfl rfl rfl ?_
        refine wp_getR (v := .ref 143) rfl (by decide) (kd_142 _) rfl (kr_142_1 _) ?_
        refine wp_bipush (v := (32 : Int32)) rfl (by decide) ?_
        refine wp_dup2 rfl rfl rfl ?_
        refine s_ialdc (k0 := 32) rfl (kd_143 _) rfl ?_
        refine wp_iconst (v := (1 : Int32)) rfl (by decide) ?_
        refine wp_iadd rfl ?_
        refine s_iastc (k0 := 32) rfl (kd_143 _) rfl ?_
        generalize hI_4 : x_up I 143 32 ((I 143 32) + (1 : Int32)) = I_4
        replace H := H _ hI_4.symm
        refine wp_aload_n rfl rfl rfl ?_
        refine wp_getR (v := .ref 143) rfl (by decide) (kd_142 _) rfl (kr_142_1 _) ?_
        refine wp_bipush (v := (37 : Int32)) rfl (by decide) ?_
        refine wp_aload_n rfl rfl rfl ?_
        refine s_getI rfl (by decide) (kd_142 _) rfl ?_
        refine s_iastc (k0 := 37) rfl (kd_143 _) rfl ?_
        generalize hI_5 : x_up I_4 143 37 (I_4 142 5) = I_5
        replace H := H _ hI_5.symm
        refine wp_aload_n rfl rfl rfl ?_
        refine s_getI rfl (by decide) (kd_142 _) rfl ?_
        exact s_iret rfl rfl rfl H
      · replace H := H.2 c_3
        refine wp_bipush (v := (-10 : Int32)) rfl (by decide) ?_
        refine wp_aload_n rfl rfl rfl ?_
        refine s_getI rfl (by decide) (kd_142 _) rfl ?_
        refine wp_isub rfl ?_
        exact s_iret rfl rfl rfl H
  · replace H := H.1 c_1
    refine wp_aload_n rfl rfl rfl ?_
    refine wp_dup rfl rfl ?_
    refine s_getI rfl (by decide) (kd_142 _) rfl ?_
    refine wp_iconst (v := (1 : Int32)) rfl (by decide) ?_
    refine wp_iadd rfl ?_
    refine s_putI rfl (by decide) (kd_142 _) rfl rfl (x_fit_int _) ?_
    generalize hI_6 : x_up I 142 6 ((I 142 6) + (1 : Int32)) = I_6
    replace H := H _ hI_6.symm
    refine wp_aload_n rfl rfl rfl ?_
    refine s_invV (As := []) (d1 := d - 1) rfl ⟨by decide, by decide⟩ rfl rfl rfl (Nat.le_of_ble_eq_true rfl) (by omega) (kd_142 _) (by decide) rfl rfl H ?_
    intro v I2 h2
    exact h2
set_option maxRecDepth 20000 in
theorem r_M_town_72 {E : XE} {d : Nat} {I : Nat → Nat → Int32} {Q : Option Value → (Nat → Nat → Int32) → Prop} (hd : 1 ≤ d) (v1 : Int32)
    (H : x_P E d 128 54 [.ref 142, .int (v1 + 1)] [] I Q) :
    x_P E d 128 72 [.ref 142, .int v1] [] I Q := by
  refine wp_iinc (v := v1 + 1) (L' := [.ref 142, .int (v1 + 1)]) rfl rfl rfl rfl rfl ?_
  refine wp_goto rfl ?_
  exact H
