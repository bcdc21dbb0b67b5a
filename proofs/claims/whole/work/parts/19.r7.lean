set_option maxRecDepth 20000 in
theorem r_C_mean_0 {E : XE} {d : Nat} {I : Nat → Nat → Int32} {Q : Option Value → (Nat → Nat → Int32) → Prop} (hd : 1 ≤ d) (a1 : Int32)
    (H : x_K E (d - 1) 61 [.ref 65] I (fun v I2 => x_P E d 83 3 [.ref 64, .int a1, x_jk, x_jk, x_jk] (v.toList ++ []) I2 Q)) :
    x_P E d 83 0 [.ref 64, .int a1, x_jk, x_jk, x_jk] [] I Q := by
  refine wp_aload_n rfl rfl rfl ?_
  refine wp_getR (v := .ref 65) rfl (by decide) (kd_64 _) rfl (kr_64_0 _) ?_
  refine s_invV (As := []) (d1 := d - 1) rfl ⟨by decide, by decide⟩ rfl rfl rfl (Nat.le_of_ble_eq_true rfl) (by omega) (kd_65 _) (by decide) rfl rfl H ?_
  intro v I2 h2
  exact h2
set_option maxRecDepth 20000 in
theorem r_C_mean_3 {E : XE} {d : Nat} {I : Nat → Nat → Int32} {Q : Option Value → (Nat → Nat → Int32) → Prop} (hd : 2 ≤ d) (v1 : Int32) (w : Int32)
    (H : ((0 ≤ v1 ∧ v1 ≤ (1 : Int32) → ((w = 0 → Q (some (.long (-9223372036854775808 : Int64))) I) ∧ (¬ (w = 0) → x_P E d 83 16 [.ref 64, .int v1, .int w, .int (0 : Int32), .int (0 : Int32)] [] I Q))) ∧ (¬ (0 ≤ v1 ∧ v1 ≤ (1 : Int32)) → Q (some (.long (-9223372036854775808 : Int64))) I))) :
    x_P E d 83 3 [.ref 64, .int v1, x_jk, x_jk, x_jk] [.int w] I Q := by
  refine wp_istore_n (L' := [.ref 64, .int v1, .int w, x_jk, x_jk]) rfl rfl (by decide) rfl rfl ?_
  refine wp_iload_n rfl rfl rfl ?_
  refine wp_iconst (v := (1 : Int32)) rfl (by decide) ?_
  refine s_invStP (As := [.int v1, .int (1 : Int32)]) (d1 := d - 1) rfl ⟨by decide, by decide⟩ rfl rfl rfl (Nat.le_of_ble_eq_true rfl) (by omega) (p_isUpTo (by omega)) ?_
  refine s_bi_eq rfl (fun c_1 => ?_) (fun c_1 => ?_)
  · replace H := H.2 c_1
    refine wp_ldc2 (v := (0, -9223372036854775808)) rfl rfl rfl ?_
    exact s_lret rfl rfl H
  · replace H := H.1 c_1
    refine wp_iload_n rfl rfl rfl ?_
    refine wp_if_ne rfl (fun c_2 => ?_) (fun c_2 => ?_)
    · replace H := H.2 c_2
      refine wp_iconst (v := (0 : Int32)) rfl (by decide) ?_
      refine wp_istore_n (L' := [.ref 64, .int v1, .int w, .int (0 : Int32), x_jk]) rfl rfl (by decide) rfl rfl ?_
      refine wp_iconst (v := (0 : Int32)) rfl (by decide) ?_
      refine wp_istore (L' := [.ref 64, .int v1, .int w, .int (0 : Int32), .int (0 : Int32)]) rfl (by decide) rfl rfl ?_
      exact H
    · replace H := H.1 c_2
      refine wp_ldc2 (v := (0, -9223372036854775808)) rfl rfl rfl ?_
      exact s_lret rfl rfl H
set_option maxRecDepth 20000 in
theorem r_C_mean_16 {E : XE} {d : Nat} {I : Nat → Nat → Int32} {Q : Option Value → (Nat → Nat → Int32) → Prop} (hd : 1 ≤ d) (v1 : Int32) (v2 : Int32) (v3 : Int32) (v4 : Int32)
    (H : (((I 65 1) ≤ v4 → x_K E (d - 1) 1 [.int v2] I (fun v I2 => x_P E d 83 44 [x_jk, .int v1, x_jk, x_jk, x_jk] (v.toList ++ [.int v3]) I2 Q)) ∧ (¬ ((I 65 1) ≤ v4) → (vp_in v4 6) ∧ (((I (85 + 2 * v4.toNatClampNeg) 7) = 0 → vp_in v4 6)) ∧ (∀ z_5, z_5 = (if (I (85 + 2 * v4.toNatClampNeg) 7) = 0 then (I (85 + 2 * v4.toNatClampNeg) 5) else (0 : Int32)) → x_P E d 83 16 [.ref 64, .int v1, .int v2, .int (v3 + z_5), .int (v4 + 1)] [] I Q)))) :
    x_P E d 83 16 [.ref 64, .int v1, .int v2, .int v3, .int v4] [] I Q := by
  refine wp_iload rfl rfl ?_
  refine wp_aload_n rfl rfl rfl ?_
  refine wp_getR (v := .ref 65) rfl (by decide) (kd_64 _) rfl (kr_64_0 _) ?_
  refine s_getI rfl (by decide) (kd_65 _) rfl ?_
  refine wp_icmp_ge rfl (fun c_1 => ?_) (fun c_1 => ?_)
  · replace H := H.1 c_1
    refine wp_iload_n rfl rfl rfl ?_
    refine wp_iload_n rfl rfl rfl ?_
    refine s_invSt (As := [.int v2]) (d1 := d - 1) rfl ⟨by decide, by decide⟩ rfl rfl rfl (Nat.le_of_ble_eq_true rfl) (by omega) H ?_
    intro v I2 h2
    exact x_P.weak (L := [x_jk, .int v1, x_jk, x_jk, x_jk]) (by exact ⟨Or.inl rfl, ⟨Or.inr rfl, ⟨Or.inl rfl, ⟨Or.inl rfl, ⟨Or.inl rfl, trivial⟩⟩⟩⟩⟩) h2
  · replace H := H.2 c_1
    refine wp_iload_n rfl rfl rfl ?_
    refine wp_aload_n rfl rfl rfl ?_
    refine wp_getR (v := .ref 65) rfl (by decide) (kd_64 _) rfl (kr_64_0 _) ?_
    refine wp_getR (v := .ref 66) rfl (by decide) (kd_65 _) rfl (kr_65_0 _) ?_
    refine wp_iload rfl rfl ?_
    obtain ⟨o_2, H⟩ := H
    refine wp_aald (v := .ref (85 + 2 * v4.toNatClampNeg)) rfl (kd_66 _) o_2 (x_man_now (x_in_lt o_2)).2 ?_
    refine s_getI rfl (by decide) ((x_man_now (x_in_lt o_2)).1.1 _) rfl ?_
    obtain ⟨o_4, H⟩ := H
    obtain ⟨z_5, hz_5⟩ : ∃ z : Int32, z = (if (I (85 + 2 * v4.toNatClampNeg) 7) = 0 then (I (85 + 2 * v4.toNatClampNeg) 5) else (0 : Int32)) := ⟨_, rfl⟩
    replace H := H _ hz_5
    have J : x_P E d 83 37 [.ref 64, .int v1, .int v2, .int v3, .int v4] [.int z_5, .int v3] I Q := by
      refine wp_iadd rfl ?_
      refine wp_istore_n (L' := [.ref 64, .int v1, .int v2, .int (v3 + z_5), .int v4]) rfl rfl (by decide) rfl rfl ?_
      refine wp_iinc (v := v4 + 1) (L' := [.ref 64, .int v1, .int v2, .int (v3 + z_5), .int (v4 + 1)]) rfl rfl rfl rfl rfl ?_
      refine wp_goto rfl ?_
      exact H
    refine wp_if_eq rfl (fun c_3 => ?_) (fun c_3 => ?_)
    · refine wp_aload_n rfl rfl rfl ?_
      refine wp_getR (v := .ref 65) rfl (by decide) (kd_64 _) rfl (kr_64_0 _) ?_
      refine wp_getR (v := .ref 66) rfl (by decide) (kd_65 _) rfl (kr_65_0 _) ?_
      refine wp_iload rfl rfl ?_
      refine wp_aald (v := .ref (85 + 2 * v4.toNatClampNeg)) rfl (kd_66 _) (o_4 c_3) (x_man_now (x_in_lt (o_4 c_3))).2 ?_
      refine s_getI rfl (by decide) ((x_man_now (x_in_lt (o_4 c_3))).1.1 _) rfl ?_
      exact x_P.cong rfl (by rw [show z_5 = (I (85 + 2 * v4.toNatClampNeg) 5) from by rw [hz_5]; simp only [if_pos c_3]]) J
    · refine wp_iconst (v := (0 : Int32)) rfl (by decide) ?_
      refine wp_goto rfl ?_
      exact x_P.cong rfl (by rw [show z_5 = (0 : Int32) from by rw [hz_5]; simp only [if_neg c_3]]) J
set_option maxRecDepth 20000 in
theorem r_C_mean_44 {E : XE} {d : Nat} {I : Nat → Nat → Int32} {Q : Option Value → (Nat → Nat → Int32) → Prop} (hd : 1 ≤ d) (v1 : Int32) (s0 : Int32) (w : Int32)
    (H : x_K E (d - 1) 95 [.int s0, .int w, .int v1] I (fun v I2 => x_P E d 83 46 [x_jk, x_jk, x_jk, x_jk, x_jk] (v.toList ++ []) I2 Q)) :
    x_P E d 83 44 [x_jk, .int v1, x_jk, x_jk, x_jk] [.int w, .int s0] I Q := by
  refine wp_iload_n rfl rfl rfl ?_
  refine s_invSt (As := [.int s0, .int w, .int v1]) (d1 := d - 1) rfl ⟨by decide, by decide⟩ rfl rfl rfl (Nat.le_of_ble_eq_true rfl) (by omega) H ?_
  intro v I2 h2
  exact x_P.weak (L := [x_jk, x_jk, x_jk, x_jk, x_jk]) (by exact ⟨Or.inr rfl, ⟨Or.inl rfl, ⟨Or.inr rfl, ⟨Or.inr rfl, ⟨Or.inr rfl, trivial⟩⟩⟩⟩⟩) h2
set_option maxRecDepth 20000 in
theorem r_C_mean_46 {E : XE} {d : Nat} {I : Nat → Nat → Int32} {Q : Option Value → (Nat → Nat → Int32) → Prop} (hd : 1 ≤ d) (w : Int32)
    (H : Q (some (.long (w.toInt64))) I) :
    x_P E d 83 46 [x_jk, x_jk, x_jk, x_jk, x_jk] [.int w] I Q := by
  refine wp_i2l rfl ?_
  exact s_lret rfl rfl H
set_option maxRecDepth 20000 in
theorem r_C_plan_0 {E : XE} {d : Nat} {I : Nat → Nat → Int32} {Q : Option Value → (Nat → Nat → Int32) → Prop} (hd : 2 ≤ d) (a1 : Int32) (a2 : Int32)
    (H : ((a1 = (-1 : Int32) → x_K E (d - 1) 46 [.ref 77] I (fun v I2 => x_P E d 84 7 [x_jk, x_jk, x_jk] (v.toList ++ []) I2 Q)) ∧ (¬ (a1 = (-1 : Int32)) → ((0 ≤ a1 ∧ a1 ≤ (3 : Int32) → ((a1 = 0 → (((I 77 3) < (8 : Int32) → x_K E (d - 1) 45 [.ref 77, .int a1, .int a2, .int (0 : Int32)] I (fun v I2 => x_P E d 84 36 [x_jk, x_jk, x_jk] (v.toList ++ []) I2 Q)) ∧ (¬ ((I 77 3) < (8 : Int32)) → Q (some (.int (-4 : Int32))) I))) ∧ (¬ (a1 = 0) → x_K E (d - 1) 59 [.ref 65, .int a2] I (fun v I2 => x_P E d 84 18 [.ref 64, .int a1, .int a2] (v.toList ++ []) I2 Q)))) ∧ (¬ (0 ≤ a1 ∧ a1 ≤ (3 : Int32)) → Q (some (.int (-1 : Int32))) I))))) :
    x_P E d 84 0 [.ref 64, .int a1, .int a2] [] I Q := by
  refine wp_iload_n rfl rfl rfl ?_
  refine wp_iconst (v := (-1 : Int32)) rfl (by decide) ?_
  refine wp_icmp_ne rfl (fun c_1 => ?_) (fun c_1 => ?_)
  · replace H := H.2 c_1
    refine wp_iload_n rfl rfl rfl ?_
    refine wp_iconst (v := (3 : Int32)) rfl (by decide) ?_
    refine s_invStP (As := [.int a1, .int (3 : Int32)]) (d1 := d - 1) rfl ⟨by decide, by decide⟩ rfl rfl rfl (Nat.le_of_ble_eq_true rfl) (by omega) (p_isUpTo (by omega)) ?_
    refine s_bi_eq rfl (fun c_2 => ?_) (fun c_2 => ?_)
    · replace H := H.2 c_2
      refine wp_iconst (v := (-1 : Int32)) rfl (by decide) ?_
      exact s_iret rfl rfl rfl H
    · replace H := H.1 c_2
      refine wp_iload_n rfl rfl rfl ?_
      refine wp_if_eq rfl (fun c_3 => ?_) (fun c_3 => ?_)
      · replace H := H.1 c_3
        refine wp_aload_n rfl rfl rfl ?_
        refine wp_getR (v := .ref 65) rfl (by decide) (kd_64 _) rfl (kr_64_0 _) ?_
        refine wp_getR (v := .ref 77) rfl (by decide) (kd_65 _) rfl (kr_65_8 _) ?_
        refine s_getI rfl (by decide) (kd_77 _) rfl ?_
        refine wp_bipush (v := (8 : Int32)) rfl (by decide) ?_
        refine wp_icmp_lt rfl (fun c_4 => ?_) (fun c_4 => ?_)
        · replace H := H.1 c_4
          refine wp_aload_n rfl rfl rfl ?_
          refine wp_getR (v := .ref 65) rfl (by decide) (kd_64 _) rfl (kr_64_0 _) ?_
          refine wp_getR (v := .ref 77) rfl (by decide) (kd_65 _) rfl (kr_65_8 _) ?_
          refine wp_iload_n rfl rfl rfl ?_
          refine wp_iload_n rfl rfl rfl ?_
          refine wp_iconst (v := (0 : Int32)) rfl (by decide) ?_
          refine s_invV (As := [.int a1, .int a2, .int (0 : Int32)]) (d1 := d - 1) rfl ⟨by decide, by decide⟩ rfl rfl rfl (Nat.le_of_ble_eq_true rfl) (by omega) (kd_77 _) (by decide) rfl rfl H ?_
          intro v I2 h2
          exact x_P.weak (L := [x_jk, x_jk, x_jk]) (by exact ⟨Or.inl rfl, ⟨Or.inl rfl, ⟨Or.inl rfl, trivial⟩⟩⟩) h2
        · replace H := H.2 c_4
          refine wp_bipush (v := (-4 : Int32)) rfl (by decide) ?_
          refine wp_goto rfl ?_
          exact s_iret rfl rfl rfl H
      · replace H := H.2 c_3
        refine wp_aload_n rfl rfl rfl ?_
        refine wp_getR (v := .ref 65) rfl (by decide) (kd_64 _) rfl (kr_64_0 _) ?_
        refine wp_iload_n rfl rfl rfl ?_
        refine s_invV (As := [.int a2]) (d1 := d - 1) rfl ⟨by decide, by decide⟩ rfl rfl rfl (Nat.le_of_ble_eq_true rfl) (by omega) (kd_65 _) (by decide) rfl rfl H ?_
        intro v I2 h2
        exact h2
  · replace H := H.1 c_1
    refine wp_aload_n rfl rfl rfl ?_
    refine wp_getR (v := .ref 65) rfl (by decide) (kd_64 _) rfl (kr_64_0 _) ?_
    refine wp_getR (v := .ref 77) rfl (by decide) (kd_65 _) rfl (kr_65_8 _) ?_
    refine s_invV (As := []) (d1 := d - 1) rfl ⟨by decide, by decide⟩ rfl rfl rfl (Nat.le_of_ble_eq_true rfl) (by omega) (kd_77 _) (by decide) rfl rfl H ?_
    intro v I2 h2
    exact x_P.weak (L := [x_jk, x_jk, x_jk]) (by exact ⟨Or.inl rfl, ⟨Or.inl rfl, ⟨Or.inl rfl, trivial⟩⟩⟩) h2
set_option maxRecDepth 20000 in
theorem r_C_plan_7 {E : XE} {d : Nat} {I : Nat → Nat → Int32} {Q : Option Value → (Nat → Nat → Int32) → Prop} (hd : 1 ≤ d) (w : Int32)
    (H : Q (some (.int w)) I) :
    x_P E d 84 7 [x_jk, x_jk, x_jk] [.int w] I Q := by
  exact s_iret rfl rfl rfl H
set_option maxRecDepth 20000 in
theorem r_C_plan_18 {E : XE} {d : Nat} {I : Nat → Nat → Int32} {Q : Option Value → (Nat → Nat → Int32) → Prop} (hd : 1 ≤ d) (v1 : Int32) (v2 : Int32) (w : Nat) (hw : x_man w)
    (H : (((I 77 3) < (8 : Int32) → x_K E (d - 1) 45 [.ref 77, .int v1, .int v2, .int (0 : Int32)] I (fun v I2 => x_P E d 84 36 [x_jk, x_jk, x_jk] (v.toList ++ []) I2 Q)) ∧ (¬ ((I 77 3) < (8 : Int32)) → Q (some (.int (-4 : Int32))) I))) :
    x_P E d 84 18 [.ref 64, .int v1, .int v2] [.ref w] I Q := by
  refine wp_ifnonnull rfl hw.2.2.2 ?_
  refine wp_aload_n rfl rfl rfl ?_
  refine wp_getR (v := .ref 65) rfl (by decide) (kd_64 _) rfl (kr_64_0 _) ?_
  refine wp_getR (v := .ref 77) rfl (by decide) (kd_65 _) rfl (kr_65_8 _) ?_
  refine s_getI rfl (by decide) (kd_77 _) rfl ?_
  refine wp_bipush (v := (8 : Int32)) rfl (by decide) ?_
  refine wp_icmp_lt rfl (fun c_1 => ?_) (fun c_1 => ?_)
  · replace H := H.1 c_1
    refine wp_aload_n rfl rfl rfl ?_
    refine wp_getR (v := .ref 65) rfl (by decide) (kd_64 _) rfl (kr_64_0 _) ?_
    refine wp_getR (v := .ref 77) rfl (by decide) (kd_65 _) rfl (kr_65_8 _) ?_
    refine wp_iload_n rfl rfl rfl ?_
    refine wp_iload_n rfl rfl rfl ?_
    refine wp_iconst (v := (0 : Int32)) rfl (by decide) ?_
    refine s_invV (As := [.int v1, .int v2, .int (0 : Int32)]) (d1 := d - 1) rfl ⟨by decide, by decide⟩ rfl rfl rfl (Nat.le_of_ble_eq_true rfl) (by omega) (kd_77 _) (by decide) rfl rfl H ?_
    intro v I2 h2
    exact x_P.weak (L := [x_jk, x_jk, x_jk]) (by exact ⟨Or.inl rfl, ⟨Or.inl rfl, ⟨Or.inl rfl, trivial⟩⟩⟩) h2
  · replace H := H.2 c_1
    refine wp_bipush (v := (-4 : Int32)) rfl (by decide) ?_
    refine wp_goto rfl ?_
    exact s_iret rfl rfl rfl H
set_option maxRecDepth 20000 in
theorem r_C_plan_18N {E : XE} {d : Nat} {I : Nat → Nat → Int32} {Q : Option Value → (Nat → Nat → Int32) → Prop} (hd : 1 ≤ d) (v1 : Int32) (v2 : Int32)
    (H : Q (some (.int (-1 : Int32))) I) :
    x_P E d 84 18 [.ref 64, .int v1, .int v2] [.null] I Q := by
  refine wp_ifnonnullN rfl ?_
  refine wp_iconst (v := (-1 : Int32)) rfl (by decide) ?_
  exact s_iret rfl rfl rfl H
set_option maxRecDepth 20000 in
theorem r_C_plan_36 {E : XE} {d : Nat} {I : Nat → Nat → Int32} {Q : Option Value → (Nat → Nat → Int32) → Prop} (hd : 1 ≤ d) (w : Int32)
    (H : Q (some (.int w)) I) :
    x_P E d 84 36 [x_jk, x_jk, x_jk] [.int w] I Q := by
  exact s_iret rfl rfl rfl H
set_option maxRecDepth 20000 in
theorem r_C_done_0 {E : XE} {d : Nat} {I : Nat → Nat → Int32} {Q : Option Value → (Nat → Nat → Int32) → Prop} (hd : 2 ≤ d) (a1 : Int32)
    (H : ((0 ≤ a1 ∧ a1 ≤ (1 : Int32) → x_P E d 85 12 [.ref 64, .int a1, .int (0 : Int32), .int (0 : Int32), .int (0 : Int32)] [] I Q) ∧ (¬ (0 ≤ a1 ∧ a1 ≤ (1 : Int32)) → Q (some (.int (-1 : Int32))) I))) :
    x_P E d 85 0 [.ref 64, .int a1, x_jk, x_jk, x_jk] [] I Q := by
  refine wp_iload_n rfl rfl rfl ?_
  refine wp_iconst (v := (1 : Int32)) rfl (by decide) ?_
  refine s_invStP (As := [.int a1, .int (1 : Int32)]) (d1 := d - 1) rfl ⟨by decide, by decide⟩ rfl rfl rfl (Nat.le_of_ble_eq_true rfl) (by omega) (p_isUpTo (by omega)) ?_
  refine s_bi_ne rfl (fun c_1 => ?_) (fun c_1 => ?_)
  · replace H := H.1 c_1
    refine wp_iconst (v := (0 : Int32)) rfl (by decide) ?_
    refine wp_istore_n (L' := [.ref 64, .int a1, .int (0 : Int32), x_jk, x_jk]) rfl rfl (by decide) rfl rfl ?_
    refine wp_iconst (v := (0 : Int32)) rfl (by decide) ?_
    refine wp_istore_n (L' := [.ref 64, .int a1, .int (0 : Int32), .int (0 : Int32), x_jk]) rfl rfl (by decide) rfl rfl ?_
    refine wp_iconst (v := (0 : Int32)) rfl (by decide) ?_
    refine wp_istore (L' := [.ref 64, .int a1, .int (0 : Int32), .int (0 : Int32), .int (0 : Int32)]) rfl (by decide) rfl rfl ?_
    exact H
  · replace H := H.2 c_1
    refine wp_iconst (v := (-1 : Int32)) rfl (by decide) ?_
    exact s_iret rfl rfl rfl H
set_option maxRecDepth 20000 in
theorem r_C_done_12 {E : XE} {d : Nat} {I : Nat → Nat → Int32} {Q : Option Value → (Nat → Nat → Int32) → Prop} (hd : 1 ≤ d) (v1 : Int32) (v2 : Int32) (v3 : Int32) (v4 : Int32)
    (H : (((I 65 1) ≤ v4 → Q (some (.int (if v1 = 0 then v2 else v3))) I) ∧ (¬ ((I 65 1) ≤ v4) → (vp_in v4 6) ∧ x_K E (d - 1) 24 [.ref 129, .ref (85 + 2 * v4.toNatClampNeg)] I (fun v I2 => x_P E d 85 25 [.ref 64, .int v1, .int v2, .int v3, .int v4] (v.toList ++ []) I2 Q)))) :
    x_P E d 85 12 [.ref 64, .int v1, .int v2, .int v3, .int v4] [] I Q := by
  refine wp_iload rfl rfl ?_
  refine wp_aload_n rfl rfl rfl ?_
  refine wp_getR (v := .ref 65) rfl (by decide) (kd_64 _) rfl (kr_64_0 _) ?_
  refine s_getI rfl (by decide) (kd_65 _) rfl ?_
  refine wp_icmp_ge rfl (fun c_1 => ?_) (fun c_1 => ?_)
  · replace H := H.1 c_1
    refine wp_iload_n rfl rfl rfl ?_
    have J : x_P E d 85 52 [.ref 64, .int v1, .int v2, .int v3, .int v4] [.int (if v1 = 0 then v2 else v3)] I Q := by
      exact s_iret rfl rfl rfl H
    refine wp_if_ne rfl (fun c_2 => ?_) (fun c_2 => ?_)
    · refine wp_iload_n rfl rfl rfl ?_
      exact x_P.cong rfl (by rw [show (if v1 = 0 then v2 else v3) = v3 from by simp only [if_neg c_2]]) J
    · refine wp_iload_n rfl rfl rfl ?_
      refine wp_goto rfl ?_
      exact x_P.cong rfl (by rw [show (if v1 = 0 then v2 else v3) = v2 from by simp only [if_pos c_2]]) J
  · replace H := H.2 c_1
    refine wp_aload_n rfl rfl rfl ?_
    refine wp_getR (v := .ref 129) rfl (by decide) (kd_64 _) rfl (kr_64_3 _) ?_
    refine wp_aload_n rfl rfl rfl ?_
    refine wp_getR (v := .ref 65) rfl (by decide) (kd_64 _) rfl (kr_64_0 _) ?_
    refine wp_getR (v := .ref 66) rfl (by decide) (kd_65 _) rfl (kr_65_0 _) ?_
    refine wp_iload rfl rfl ?_
    obtain ⟨o_3, H⟩ := H
    refine wp_aald (v := .ref (85 + 2 * v4.toNatClampNeg)) rfl (kd_66 _) o_3 (x_man_now (x_in_lt o_3)).2 ?_
    refine s_invV (As := [.ref (85 + 2 * v4.toNatClampNeg)]) (d1 := d - 1) rfl ⟨by decide, by decide⟩ rfl rfl rfl (Nat.le_of_ble_eq_true rfl) (by omega) (kd_129 _) (by decide) rfl rfl H ?_
    intro v I2 h2
    exact h2
set_option maxRecDepth 20000 in
theorem r_C_done_25 {E : XE} {d : Nat} {I : Nat → Nat → Int32} {Q : Option Value → (Nat → Nat → Int32) → Prop} (hd : 1 ≤ d) (v1 : Int32) (v2 : Int32) (v3 : Int32) (v4 : Int32)
    (H : x_K E (d - 1) 107 [.ref 64] I (fun v I2 => x_P E d 85 27 [.ref 64, .int v1, .int v2, .int v3, .int v4] (v.toList ++ []) I2 Q)) :
    x_P E d 85 25 [.ref 64, .int v1, .int v2, .int v3, .int v4] [] I Q := by
  refine wp_aload_n rfl rfl rfl ?_
  refine s_invV (As := []) (d1 := d - 1) rfl ⟨by decide, by decide⟩ rfl rfl rfl (Nat.le_of_ble_eq_true rfl) (by omega) (kd_64 _) (by decide) rfl rfl H ?_
  intro v I2 h2
  exact h2
set_option maxRecDepth 20000 in
theorem r_C_done_27 {E : XE} {d : Nat} {I : Nat → Nat → Int32} {Q : Option Value → (Nat → Nat → Int32) → Prop} (hd : 1 ≤ d) (v1 : Int32) (v2 : Int32) (v3 : Int32) (v4 : Int32)
    (H : (∀ z_2, z_2 = (if (I 129 6) = 0 then (0 : Int32) else ((1 : Int32) <<< (v4 &&& 31))) → x_P E d 85 12 [.ref 64, .int v1, .int (v2 ||| z_2), .int (v3 + (I 129 5)), .int (v4 + 1)] [] I Q)) :
    x_P E d 85 27 [.ref 64, .int v1, .int v2, .int v3, .int v4] [] I Q := by
  refine wp_iload_n rfl rfl rfl ?_
  refine wp_aload_n rfl rfl rfl ?_
  refine wp_getR (v := .ref 129) rfl (by decide) (kd_64 _) rfl (kr_64_3 _) ?_
  refine s_getI rfl (by decide) (kd_129 _) rfl ?_
  obtain ⟨z_2, hz_2⟩ : ∃ z : Int32, z = (if (I 129 6) = 0 then (0 : Int32) else ((1 : Int32) <<< (v4 &&& 31))) := ⟨_, rfl⟩
  replace H := H _ hz_2
  have J : x_P E d 85 37 [.ref 64, .int v1, .int v2, .int v3, .int v4] [.int z_2, .int v2] I Q := by
    refine wp_ior rfl ?_
    refine wp_istore_n (L' := [.ref 64, .int v1, .int (v2 ||| z_2), .int v3, .int v4]) rfl rfl (by decide) rfl rfl ?_
    refine wp_iload_n rfl rfl rfl ?_
    refine wp_aload_n rfl rfl rfl ?_
    refine wp_getR (v := .ref 129) rfl (by decide) (kd_64 _) rfl (kr_64_3 _) ?_
    refine s_getI rfl (by decide) (kd_129 _) rfl ?_
    refine wp_iadd rfl ?_
    refine wp_istore_n (L' := [.ref 64, .int v1, .int (v2 ||| z_2), .int (v3 + (I 129 5)), .int v4]) rfl rfl (by decide) rfl rfl ?_
    refine wp_iinc (v := v4 + 1) (L' := [.ref 64, .int v1, .int (v2 ||| z_2), .int (v3 + (I 129 5)), .int (v4 + 1)]) rfl rfl rfl rfl rfl ?_
    refine wp_goto rfl ?_
    exact H
  refine wp_if_eq rfl (fun c_1 => ?_) (fun c_1 => ?_)
  · refine wp_iconst (v := (0 : Int32)) rfl (by decide) ?_
    exact x_P.cong rfl (by rw [show z_2 = (0 : Int32) from by rw [hz_2]; simp only [if_pos c_1]]) J
  · refine wp_iconst (v := (1 : Int32)) rfl (by decide) ?_
    refine wp_iload rfl rfl ?_
    refine wp_ishl rfl ?_
    refine wp_goto rfl ?_
    exact x_P.cong rfl (by rw [show z_2 = ((1 : Int32) <<< (v4 &&& 31)) from by rw [hz_2]; simp only [if_neg c_1]]) J
set_option maxRecDepth 20000 in
theorem r_C_book_0 {E : XE} {d : Nat} {I : Nat → Nat → Int32} {Q : Option Value → (Nat → Nat → Int32) → Prop} (hd : 1 ≤ d) (a1 : Int32) (a2 : Int32)
    (H : ((a1 = (-1 : Int32) → x_K E (d - 1) 46 [.ref 81] I (fun v I2 => x_P E d 86 7 [x_jk, x_jk, x_jk] (v.toList ++ []) I2 Q)) ∧ (¬ (a1 = (-1 : Int32)) → x_K E (d - 1) 59 [.ref 65, .int a1] I (fun v I2 => x_P E d 86 12 [.ref 64, .int a1, .int a2] (v.toList ++ []) I2 Q)))) :
    x_P E d 86 0 [.ref 64, .int a1, .int a2] [] I Q := by
  refine wp_iload_n rfl rfl rfl ?_
  refine wp_iconst (v := (-1 : Int32)) rfl (by decide) ?_
  refine wp_icmp_ne rfl (fun c_1 => ?_) (fun c_1 => ?_)
  · replace H := H.2 c_1
    refine wp_aload_n rfl rfl rfl ?_
    refine wp_getR (v := .ref 65) rfl (by decide) (kd_64 _) rfl (kr_64_0 _) ?_
    refine wp_iload_n rfl rfl rfl ?_
    refine s_invV (As := [.int a1]) (d1 := d - 1) rfl ⟨by decide, by decide⟩ rfl rfl rfl (Nat.le_of_ble_eq_true rfl) (by omega) (kd_65 _) (by decide) rfl rfl H ?_
    intro v I2 h2
    exact h2
  · replace H := H.1 c_1
    refine wp_aload_n rfl rfl rfl ?_
    refine wp_getR (v := .ref 65) rfl (by decide) (kd_64 _) rfl (kr_64_0 _) ?_
    refine wp_getR (v := .ref 81) rfl (by decide) (kd_65 _) rfl (kr_65_9 _) ?_
    refine s_invV (As := []) (d1 := d - 1) rfl ⟨by decide, by decide⟩ rfl rfl rfl (Nat.le_of_ble_eq_true rfl) (by omega) (kd_81 _) (by decide) rfl rfl H ?_
    intro v I2 h2
    exact x_P.weak (L := [x_jk, x_jk, x_jk]) (by exact ⟨Or.inl rfl, ⟨Or.inl rfl, ⟨Or.inl rfl, trivial⟩⟩⟩) h2
set_option maxRecDepth 20000 in
theorem r_C_book_7 {E : XE} {d : Nat} {I : Nat → Nat → Int32} {Q : Option Value → (Nat → Nat → Int32) → Prop} (hd : 1 ≤ d) (w : Int32)
    (H : Q (some (.int w)) I) :
    x_P E d 86 7 [x_jk, x_jk, x_jk] [.int w] I Q := by
  exact s_iret rfl rfl rfl H
set_option maxRecDepth 20000 in
theorem r_C_book_12 {E : XE} {d : Nat} {I : Nat → Nat → Int32} {Q : Option Value → (Nat → Nat → Int32) → Prop} (hd : 2 ≤ d) (v1 : Int32) (v2 : Int32) (w : Nat) (hw : x_man w)
    (H : ((0 ≤ v2 ∧ v2 ≤ (255 : Int32) → (((I 81 3) < (8 : Int32) → x_K E (d - 1) 45 [.ref 81, .int v1, .int v2, .int (0 : Int32)] I (fun v I2 => x_P E d 86 36 [x_jk, x_jk, x_jk] (v.toList ++ []) I2 Q)) ∧ (¬ ((I 81 3) < (8 : Int32)) → Q (some (.int (-4 : Int32))) I))) ∧ (¬ (0 ≤ v2 ∧ v2 ≤ (255 : Int32)) → Q (some (.int (-2 : Int32))) I))) :
    x_P E d 86 12 [.ref 64, .int v1, .int v2] [.ref w] I Q := by
  refine wp_ifnonnull rfl hw.2.2.2 ?_
  refine wp_iload_n rfl rfl rfl ?_
  refine wp_sipush (v := (255 : Int32)) rfl (by decide) ?_
  refine s_invStP (As := [.int v2, .int (255 : Int32)]) (d1 := d - 1) rfl ⟨by decide, by decide⟩ rfl rfl rfl (Nat.le_of_ble_eq_true rfl) (by omega) (p_isUpTo (by omega)) ?_
  refine s_bi_ne rfl (fun c_1 => ?_) (fun c_1 => ?_)
  · replace H := H.1 c_1
    refine wp_aload_n rfl rfl rfl ?_
    refine wp_getR (v := .ref 65) rfl (by decide) (kd_64 _) rfl (kr_64_0 _) ?_
    refine wp_getR (v := .ref 81) rfl (by decide) (kd_65 _) rfl (kr_65_9 _) ?_
    refine s_getI rfl (by decide) (kd_81 _) rfl ?_
    refine wp_bipush (v := (8 : Int32)) rfl (by decide) ?_
    refine wp_icmp_lt rfl (fun c_2 => ?_) (fun c_2 => ?_)
    · replace H := H.1 c_2
      refine wp_aload_n rfl rfl rfl ?_
      refine wp_getR (v := .ref 65) rfl (by decide) (kd_64 _) rfl (kr_64_0 _) ?_
      refine wp_getR (v := .ref 81) rfl (by decide) (kd_65 _) rfl (kr_65_9 _) ?_
      refine wp_iload_n rfl rfl rfl ?_
      refine wp_iload_n rfl rfl rfl ?_
      refine wp_iconst (v := (0 : Int32)) rfl (by decide) ?_
      refine s_invV (As := [.int v1, .int v2, .int (0 : Int32)]) (d1 := d - 1) rfl ⟨by decide, by decide⟩ rfl rfl rfl (Nat.le_of_ble_eq_true rfl) (by omega) (kd_81 _) (by decide) rfl rfl H ?_
      intro v I2 h2
      exact x_P.weak (L := [x_jk, x_jk, x_jk]) (by exact ⟨Or.inl rfl, ⟨Or.inl rfl, ⟨Or.inl rfl, trivial⟩⟩⟩) h2
    · replace H := H.2 c_2
      refine wp_bipush (v := (-4 : Int32)) rfl (by decide) ?_
      refine wp_goto rfl ?_
      exact s_iret rfl rfl rfl H
  · replace H := H.2 c_1
    refine wp_bipush (v := (-2 : Int32)) rfl (by decide) ?_
    exact s_iret rfl rfl rfl H
set_option maxRecDepth 20000 in
theorem r_C_book_12N {E : XE} {d : Nat} {I : Nat → Nat → Int32} {Q : Option Value → (Nat → Nat → Int32) → Prop} (hd : 1 ≤ d) (v1 : Int32) (v2 : Int32)
    (H : Q (some (.int (-1 : Int32))) I) :
    x_P E d 86 12 [.ref 64, .int v1, .int v2] [.null] I Q := by
  refine wp_ifnonnullN rfl ?_
  refine wp_iconst (v := (-1 : Int32)) rfl (by decide) ?_
  exact s_iret rfl rfl rfl H
set_option maxRecDepth 20000 in
theorem r_C_book_36 {E : XE} {d : Nat} {I : Nat → Nat → Int32} {Q : Option Value → (Nat → Nat → Int32) → Prop} (hd : 1 ≤ d) (w : Int32)
    (H : Q (some (.int w)) I) :
    x_P E d 86 36 [x_jk, x_jk, x_jk] [.int w] I Q := by
  exact s_iret rfl rfl rfl H
set_option maxRecDepth 20000 in
theorem r_C_looked_0 {E : XE} {d : Nat} {I : Nat → Nat → Int32} {Q : Option Value → (Nat → Nat → Int32) → Prop} (hd : 1 ≤ d) 
    (H : x_P E d 87 2 [.ref 64, .int (0 : Int32), x_jk] [] I Q) :
    x_P E d 87 0 [.ref 64, x_jk, x_jk] [] I Q := by
  refine wp_iconst (v := (0 : Int32)) rfl (by decide) ?_
  refine wp_istore_n (L' := [.ref 64, .int (0 : Int32), x_jk]) rfl rfl (by decide) rfl rfl ?_
  exact H
set_option maxRecDepth 20000 in
theorem r_C_looked_2 {E : XE} {d : Nat} {I : Nat → Nat → Int32} {Q : Option Value → (Nat → Nat → Int32) → Prop} (hd : 1 ≤ d) (v1 : Int32)
    (H : (((I 81 3) ≤ v1 → Q (some (.int (-5 : Int32))) I) ∧ (¬ ((I 81 3) ≤ v1) → (vp_in v1 8) ∧ x_K E (d - 1) 59 [.ref 65, .int (I 82 v1.toNatClampNeg)] I (fun v I2 => x_P E d 87 17 [.ref 64, .int v1, x_jk] (v.toList ++ []) I2 Q)))) :
    x_P E d 87 2 [.ref 64, .int v1, x_jk] [] I Q := by
  refine wp_iload_n rfl rfl rfl ?_
  refine wp_aload_n rfl rfl rfl ?_
  refine wp_getR (v := .ref 65) rfl (by decide) (kd_64 _) rfl (kr_64_0 _) ?_
  refine wp_getR (v := .ref 81) rfl (by decide) (kd_65 _) rfl (kr_65_9 _) ?_
  refine s_getI rfl (by decide) (kd_81 _) rfl ?_
  refine wp_icmp_ge rfl (fun c_1 => ?_) (fun c_1 => ?_)
  · replace H := H.1 c_1
    refine wp_bipush (v := (-5 : Int32)) rfl (by decide) ?_
    exact s_iret rfl rfl rfl H
  · replace H := H.2 c_1
    refine wp_aload_n rfl rfl rfl ?_
    refine wp_getR (v := .ref 65) rfl (by decide) (kd_64 _) rfl (kr_64_0 _) ?_
    refine wp_aload_n rfl rfl rfl ?_
    refine wp_getR (v := .ref 65) rfl (by decide) (kd_64 _) rfl (kr_64_0 _) ?_
    refine wp_getR (v := .ref 81) rfl (by decide) (kd_65 _) rfl (kr_65_9 _) ?_
    refine wp_getR (v := .ref 82) rfl (by decide) (kd_81 _) rfl (kr_81_0 _) ?_
    refine wp_iload_n rfl rfl rfl ?_
    obtain ⟨o_2, H⟩ := H
    refine s_iald rfl (kd_82 _) o_2 ?_
    refine s_invV (As := [.int (I 82 v1.toNatClampNeg)]) (d1 := d - 1) rfl ⟨by decide, by decide⟩ rfl rfl rfl (Nat.le_of_ble_eq_true rfl) (by omega) (kd_65 _) (by decide) rfl rfl H ?_
    intro v I2 h2
    exact h2
set_option maxRecDepth 20000 in
theorem r_C_looked_17 {E : XE} {d : Nat} {I : Nat → Nat → Int32} {Q : Option Value → (Nat → Nat → Int32) → Prop} (hd : 1 ≤ d) (v1 : Int32) (w : Nat) (hw : x_man w)
    (H : (vp_in v1 8) ∧ (((I w 4) = (I 83 v1.toNatClampNeg) → x_P E d 87 2 [.ref 64, .int (v1 + 1), x_jk] [] I Q) ∧ (¬ ((I w 4) = (I 83 v1.toNatClampNeg)) → Q (some (.int v1)) I))) :
    x_P E d 87 17 [.ref 64, .int v1, x_jk] [.ref w] I Q := by
  refine wp_astore_n (L' := [.ref 64, .int v1, .ref w]) rfl rfl (by decide) rfl rfl ?_
  refine wp_aload_n rfl rfl rfl ?_
  refine wp_ifnull rfl hw.2.2.2 ?_
  refine wp_aload_n rfl rfl rfl ?_
  refine s_getI rfl (by decide) (hw.1 _) rfl ?_
  refine wp_aload_n rfl rfl rfl ?_
  refine wp_getR (v := .ref 65) rfl (by decide) (kd_64 _) rfl (kr_64_0 _) ?_
  refine wp_getR (v := .ref 81) rfl (by decide) (kd_65 _) rfl (kr_65_9 _) ?_
  refine wp_getR (v := .ref 83) rfl (by decide) (kd_81 _) rfl (kr_81_1 _) ?_
  refine wp_iload_n rfl rfl rfl ?_
  obtain ⟨o_1, H⟩ := H
  refine s_iald rfl (kd_83 _) o_1 ?_
  refine wp_icmp_eq rfl (fun c_2 => ?_) (fun c_2 => ?_)
  · replace H := H.1 c_2
    refine wp_iinc (v := v1 + 1) (L' := [.ref 64, .int (v1 + 1), .ref w]) rfl rfl rfl rfl rfl ?_
    refine wp_goto rfl ?_
    exact x_P.weak (L := [.ref 64, .int (v1 + 1), x_jk]) (by exact ⟨Or.inr rfl, ⟨Or.inr rfl, ⟨Or.inl rfl, trivial⟩⟩⟩) H
  · replace H := H.2 c_2
    refine wp_iload_n rfl rfl rfl ?_
    exact s_iret rfl rfl rfl H
set_option maxRecDepth 20000 in
theorem r_C_looked_17N {E : XE} {d : Nat} {I : Nat → Nat → Int32} {Q : Option Value → (Nat → Nat → Int32) → Prop} (hd : 1 ≤ d) (v1 : Int32)
    (H : x_P E d 87 2 [.ref 64, .int (v1 + 1), x_jk] [] I Q) :
    x_P E d 87 17 [.ref 64, .int v1, x_jk] [.null] I Q := by
  refine wp_astore_nN (L' := [.ref 64, .int v1, .null]) rfl rfl (by decide) rfl rfl ?_
  refine wp_aload_nN rfl rfl rfl ?_
  refine wp_ifnullN rfl ?_
  refine wp_iinc (v := v1 + 1) (L' := [.ref 64, .int (v1 + 1), .null]) rfl rfl rfl rfl rfl ?_
  refine wp_goto rfl ?_
  exact x_P.weak (L := [.ref 64, .int (v1 + 1), x_jk]) (by exact ⟨Or.inr rfl, ⟨Or.inr rfl, ⟨Or.inl rfl, trivial⟩⟩⟩) H
set_option maxRecDepth 20000 in
theorem r_C_act_0 {E : XE} {d : Nat} {I : Nat → Nat → Int32} {Q : Option Value → (Nat → Nat → Int32) → Prop} (hd : 1 ≤ d) (a1 : Int32) (a2 : Int32) (a3 : Int32)
    (H : x_K E (d - 1) 59 [.ref 65, .int a1] I (fun v I2 => x_P E d 88 6 [x_jk, x_jk, .int a2, .int a3] (v.toList ++ [.ref 138]) I2 Q)) :
    x_P E d 88 0 [.ref 64, .int a1, .int a2, .int a3] [] I Q := by
  refine wp_aload_n rfl rfl rfl ?_
  refine wp_getR (v := .ref 138) rfl (by decide) (kd_64 _) rfl (kr_64_5 _) ?_
  refine wp_aload_n rfl rfl rfl ?_
  refine wp_getR (v := .ref 65) rfl (by decide) (kd_64 _) rfl (kr_64_0 _) ?_
  refine wp_iload_n rfl rfl rfl ?_
  refine s_invV (As := [.int a1]) (d1 := d - 1) rfl ⟨by decide, by decide⟩ rfl rfl rfl (Nat.le_of_ble_eq_true rfl) (by omega) (kd_65 _) (by decide) rfl rfl H ?_
  intro v I2 h2
  exact x_P.weak (L := [x_jk, x_jk, .int a2, .int a3]) (by exact ⟨Or.inl rfl, ⟨Or.inl rfl, ⟨Or.inr rfl, ⟨Or.inr rfl, trivial⟩⟩⟩⟩) h2
set_option maxRecDepth 20000 in
theorem r_C_act_6 {E : XE} {d : Nat} {I : Nat → Nat → Int32} {Q : Option Value → (Nat → Nat → Int32) → Prop} (hd : 1 ≤ d) (v2 : Int32) (v3 : Int32) (w : Nat) (hw : x_man w)
    (H : x_K E (d - 1) 19 [.ref 138, .ref w, .int v2, .int v3] I (fun v I2 => x_P E d 88 9 [x_jk, x_jk, x_jk, x_jk] (v.toList ++ []) I2 Q)) :
    x_P E d 88 6 [x_jk, x_jk, .int v2, .int v3] [.ref w, .ref 138] I Q := by
  refine wp_iload_n rfl rfl rfl ?_
  refine wp_iload_n rfl rfl rfl ?_
  refine s_invV (As := [.ref w, .int v2, .int v3]) (d1 := d - 1) rfl ⟨by decide, by decide⟩ rfl rfl rfl (Nat.le_of_ble_eq_true rfl) (by omega) (kd_138 _) (by decide) rfl rfl H ?_
  intro v I2 h2
  exact x_P.weak (L := [x_jk, x_jk, x_jk, x_jk]) (by exact ⟨Or.inr rfl, ⟨Or.inr rfl, ⟨Or.inl rfl, ⟨Or.inl rfl, trivial⟩⟩⟩⟩) h2
set_option maxRecDepth 20000 in
theorem r_C_act_6N {E : XE} {d : Nat} {I : Nat → Nat → Int32} {Q : Option Value → (Nat → Nat → Int32) → Prop} (hd : 1 ≤ d) (v2 : Int32) (v3 : Int32)
    (H : x_K E (d - 1) 19 [.ref 138, .null, .int v2, .int v3] I (fun v I2 => x_P E d 88 9 [x_jk, x_jk, x_jk, x_jk] (v.toList ++ []) I2 Q)) :
    x_P E d 88 6 [x_jk, x_jk, .int v2, .int v3] [.null, .ref 138] I Q := by
  refine wp_iload_n rfl rfl rfl ?_
  refine wp_iload_n rfl rfl rfl ?_
  refine s_invV (As := [.null, .int v2, .int v3]) (d1 := d - 1) rfl ⟨by decide, by decide⟩ rfl rfl rfl (Nat.le_of_ble_eq_true rfl) (by omega) (kd_138 _) (by decide) rfl rfl H ?_
  intro v I2 h2
  exact x_P.weak (L := [x_jk, x_jk, x_jk, x_jk]) (by exact ⟨Or.inr rfl, ⟨Or.inr rfl, ⟨Or.inl rfl, ⟨Or.inl rfl, trivial⟩⟩⟩⟩) h2
set_option maxRecDepth 20000 in
theorem r_C_act_9 {E : XE} {d : Nat} {I : Nat → Nat → Int32} {Q : Option Value → (Nat → Nat → Int32) → Prop} (hd : 1 ≤ d) (w : Int32)
    (H : Q (some (.int w)) I) :
    x_P E d 88 9 [x_jk, x_jk, x_jk, x_jk] [.int w] I Q := by
  exact s_iret rfl rfl rfl H
set_option maxRecDepth 20000 in
theorem r_C_trace_0 {E : XE} {d : Nat} {I : Nat → Nat → Int32} {Q : Option Value → (Nat → Nat → Int32) → Prop} (hd : 1 ≤ d) (a1 : Int32)
    (H : ((¬ (a1 < 0) → (¬ ((I 138 1) ≤ a1) → (¬ ((20 : Int32) ≤ a1) → vp_in a1 20)))) ∧ (∀ z_5, z_5 = (if a1 < 0 then (-1 : Int32) else (if (I 138 1) ≤ a1 then (-1 : Int32) else (if (20 : Int32) ≤ a1 then (-1 : Int32) else (I 139 a1.toNatClampNeg)))) → Q (some (.int z_5)) I)) :
    x_P E d 89 0 [.ref 64, .int a1] [] I Q := by
  refine wp_iload_n rfl rfl rfl ?_
  obtain ⟨o_4, H⟩ := H
  obtain ⟨z_5, hz_5⟩ : ∃ z : Int32, z = (if a1 < 0 then (-1 : Int32) else (if (I 138 1) ≤ a1 then (-1 : Int32) else (if (20 : Int32) ≤ a1 then (-1 : Int32) else (I 139 a1.toNatClampNeg)))) := ⟨_, rfl⟩
  replace H := H _ hz_5
  have J : x_P E d 89 17 [.ref 64, .int a1] [.int z_5] I Q := by
    exact s_iret rfl rfl rfl H
  refine wp_if_lt rfl (fun c_1 => ?_) (fun c_1 => ?_)
  · refine wp_iconst (v := (-1 : Int32)) rfl (by decide) ?_
    exact x_P.cong rfl (by rw [show z_5 = (-1 : Int32) from by rw [hz_5]; simp only [if_pos c_1]]) J
  · refine wp_iload_n rfl rfl rfl ?_
    refine wp_aload_n rfl rfl rfl ?_
    refine wp_getR (v := .ref 138) rfl (by decide) (kd_64 _) rfl (kr_64_5 _) ?_
    refine s_getI rfl (by decide) (kd_138 _) rfl ?_
    refine wp_icmp_ge rfl (fun c_2 => ?_) (fun c_2 => ?_)
    · refine wp_iconst (v := (-1 : Int32)) rfl (by decide) ?_
      exact x_P.cong rfl (by rw [show z_5 = (-1 : Int32) from by rw [hz_5]; simp only [if_neg c_1, if_pos c_2]]) J
    · refine wp_iload_n rfl rfl rfl ?_
      refine wp_bipush (v := (20 : Int32)) rfl (by decide) ?_
      refine wp_icmp_ge rfl (fun c_3 => ?_) (fun c_3 => ?_)
      · refine wp_iconst (v := (-1 : Int32)) rfl (by decide) ?_
        exact x_P.cong rfl (by rw [show z_5 = (-1 : Int32) from by rw [hz_5]; simp only [if_neg c_1, if_neg c_2, if_pos c_3]]) J
      · refine wp_aload_n rfl rfl rfl ?_
        refine wp_getR (v := .ref 138) rfl (by decide) (kd_64 _) rfl (kr_64_5 _) ?_
        refine wp_getR (v := .ref 139) rfl (by decide) (kd_138 _) rfl (kr_138_0 _) ?_
        refine wp_iload_n rfl rfl rfl ?_
        refine s_iald rfl (kd_139 _) (o_4 c_1 c_2 c_3) ?_
        refine wp_goto rfl ?_
        exact x_P.cong rfl (by rw [show z_5 = (I 139 a1.toNatClampNeg) from by rw [hz_5]; simp only [if_neg c_1, if_neg c_2, if_neg c_3]]) J
set_option maxRecDepth 20000 in
theorem r_C_as_0 {E : XE} {d : Nat} {I : Nat → Nat → Int32} {Q : Option Value → (Nat → Nat → Int32) → Prop} (hd : 1 ≤ d) (a1 : Int32) (a2 : Int32)
    (H : x_K E (d - 1) 59 [.ref 65, .int a1] I (fun v I2 => x_P E d 90 4 [x_jk, x_jk, .int a2, x_jk, x_jk, x_jk] (v.toList ++ []) I2 Q)) :
    x_P E d 90 0 [.ref 64, .int a1, .int a2, x_jk, x_jk, x_jk] [] I Q := by
  refine wp_aload_n rfl rfl rfl ?_
  refine wp_getR (v := .ref 65) rfl (by decide) (kd_64 _) rfl (kr_64_0 _) ?_
  refine wp_iload_n rfl rfl rfl ?_
  refine s_invV (As := [.int a1]) (d1 := d - 1) rfl ⟨by decide, by decide⟩ rfl rfl rfl (Nat.le_of_ble_eq_true rfl) (by omega) (kd_65 _) (by decide) rfl rfl H ?_
  intro v I2 h2
  exact x_P.weak (L := [x_jk, x_jk, .int a2, x_jk, x_jk, x_jk]) (by exact ⟨Or.inl rfl, ⟨Or.inl rfl, ⟨Or.inr rfl, ⟨Or.inr rfl, ⟨Or.inr rfl, ⟨Or.inr rfl, trivial⟩⟩⟩⟩⟩⟩) h2
set_option maxRecDepth 20000 in
theorem r_C_as_4 {E : XE} {d : Nat} {I : Nat → Nat → Int32} {Q : Option Value → (Nat → Nat → Int32) → Prop} (hd : 2 ≤ d) (v2 : Int32) (w : Nat) (hw : x_man w)
    (H : ((0 ≤ v2 ∧ v2 ≤ (6 : Int32) → x_P E d 90 18 [x_jk, x_jk, .int v2, .ref w, .int (I w 1), .int (0 : Int32)] [] I Q) ∧ (¬ (0 ≤ v2 ∧ v2 ≤ (6 : Int32)) → Q (some (.int (-1 : Int32))) I))) :
    x_P E d 90 4 [x_jk, x_jk, .int v2, x_jk, x_jk, x_jk] [.ref w] I Q := by
  refine wp_astore_n (L' := [x_jk, x_jk, .int v2, .ref w, x_jk, x_jk]) rfl rfl (by decide) rfl rfl ?_
  refine wp_aload_n rfl rfl rfl ?_
  refine wp_ifnull rfl hw.2.2.2 ?_
  refine wp_iload_n rfl rfl rfl ?_
  refine wp_bipush (v := (6 : Int32)) rfl (by decide) ?_
  refine s_invStP (As := [.int v2, .int (6 : Int32)]) (d1 := d - 1) rfl ⟨by decide, by decide⟩ rfl rfl rfl (Nat.le_of_ble_eq_true rfl) (by omega) (p_isUpTo (by omega)) ?_
  refine s_bi_ne rfl (fun c_1 => ?_) (fun c_1 => ?_)
  · replace H := H.1 c_1
    refine wp_aload_n rfl rfl rfl ?_
    refine s_getI rfl (by decide) (hw.1 _) rfl ?_
    refine wp_istore (L' := [x_jk, x_jk, .int v2, .ref w, .int (I w 1), x_jk]) rfl (by decide) rfl rfl ?_
    refine wp_iconst (v := (0 : Int32)) rfl (by decide) ?_
    refine wp_istore (L' := [x_jk, x_jk, .int v2, .ref w, .int (I w 1), .int (0 : Int32)]) rfl (by decide) rfl rfl ?_
    exact H
  · replace H := H.2 c_1
    refine wp_iconst (v := (-1 : Int32)) rfl (by decide) ?_
    exact s_iret rfl rfl rfl H
set_option maxRecDepth 20000 in
theorem r_C_as_4N {E : XE} {d : Nat} {I : Nat → Nat → Int32} {Q : Option Value → (Nat → Nat → Int32) → Prop} (hd : 1 ≤ d) (v2 : Int32)
    (H : Q (some (.int (-1 : Int32))) I) :
    x_P E d 90 4 [x_jk, x_jk, .int v2, x_jk, x_jk, x_jk] [.null] I Q := by
  refine wp_astore_nN (L' := [x_jk, x_jk, .int v2, .null, x_jk, x_jk]) rfl rfl (by decide) rfl rfl ?_
  refine wp_aload_nN rfl rfl rfl ?_
  refine wp_ifnullN rfl ?_
  refine wp_iconst (v := (-1 : Int32)) rfl (by decide) ?_
  exact s_iret rfl rfl rfl H
set_option maxRecDepth 20000 in
theorem r_C_as_18 {E : XE} {d : Nat} {I : Nat → Nat → Int32} {Q : Option Value → (Nat → Nat → Int32) → Prop} (hd : 2 ≤ d) (v2 : Int32) (rv3 : Nat) (hrv3 : x_man rv3) (v4 : Int32) (v5 : Int32)
    (H : (((7 : Int32) ≤ v5 → (∀ z_3, z_3 = (if v4 = v2 then (I rv3 2) else (-6 : Int32)) → Q (some (.int z_3)) I)) ∧ (¬ ((7 : Int32) ≤ v5) → ((v4 = v2 → (∀ z_6, z_6 = (if v4 = v2 then (I rv3 2) else (-6 : Int32)) → Q (some (.int z_6)) I)) ∧ (¬ (v4 = v2) → ((0 ≤ v4 ∧ v4 ≤ (6 : Int32) → (vp_in v4 7) ∧ x_P E d 90 18 [x_jk, x_jk, .int v2, .ref rv3, .int (([0, 0, 0, 0, 1, 2, 3] : List Int32).getD v4.toNatClampNeg 0), .int (v5 + 1)] [] I Q) ∧ (¬ (0 ≤ v4 ∧ v4 ≤ (6 : Int32)) → (∀ z_9, z_9 = (if v4 = v2 then (I rv3 2) else (-6 : Int32)) → Q (some (.int z_9)) I)))))))) :
    x_P E d 90 18 [x_jk, x_jk, .int v2, .ref rv3, .int v4, .int v5] [] I Q := by
  refine wp_iload rfl rfl ?_
  refine wp_gets rfl (by decide) rfl rfl ?_
  refine wp_alenX (N := 7) (f := fun j => ([0, 0, 0, 0, 1, 2, 3] : List Int32).getD j 0) (v := (7 : Int32)) rfl rfl rfl ?_
  refine wp_icmp_ge rfl (fun c_1 => ?_) (fun c_1 => ?_)
  · replace H := H.1 c_1
    refine wp_iload rfl rfl ?_
    refine wp_iload_n rfl rfl rfl ?_
    obtain ⟨z_3, hz_3⟩ : ∃ z : Int32, z = (if v4 = v2 then (I rv3 2) else (-6 : Int32)) := ⟨_, rfl⟩
    replace H := H _ hz_3
    have J : x_P E d 90 42 [x_jk, x_jk, .int v2, .ref rv3, .int v4, .int v5] [.int z_3] I Q := by
      exact s_iret rfl rfl rfl H
    refine wp_icmp_ne rfl (fun c_2 => ?_) (fun c_2 => ?_)
    · refine wp_bipush (v := (-6 : Int32)) rfl (by decide) ?_
      exact x_P.cong rfl (by rw [show z_3 = (-6 : Int32) from by rw [hz_3]; simp only [if_neg c_2]]) J
    · refine wp_aload_n rfl rfl rfl ?_
      refine s_getI rfl (by decide) (hrv3.1 _) rfl ?_
      refine wp_goto rfl ?_
      exact x_P.cong rfl (by rw [show z_3 = (I rv3 2) from by rw [hz_3]; simp only [if_pos c_2]]) J
  · replace H := H.2 c_1
    refine wp_iload rfl rfl ?_
    refine wp_iload_n rfl rfl rfl ?_
    refine wp_icmp_eq rfl (fun c_4 => ?_) (fun c_4 => ?_)
    · replace H := H.1 c_4
      refine wp_iload rfl rfl ?_
      refine wp_iload_n rfl rfl rfl ?_
      obtain ⟨z_6, hz_6⟩ : ∃ z : Int32, z = (if v4 = v2 then (I rv3 2) else (-6 : Int32)) := ⟨_, rfl⟩
      replace H := H _ hz_6
      have J : x_P E d 90 42 [x_jk, x_jk, .int v2, .ref rv3, .int v4, .int v5] [.int z_6] I Q := by
        exact s_iret rfl rfl rfl H
      refine wp_icmp_ne rfl (fun c_5 => ?_) (fun c_5 => ?_)
      · refine wp_bipush (v := (-6 : Int32)) rfl (by decide) ?_
        exact x_P.cong rfl (by rw [show z_6 = (-6 : Int32) from by rw [hz_6]; simp only [if_neg c_5]]) J
      · refine wp_aload_n rfl rfl rfl ?_
        refine s_getI rfl (by decide) (hrv3.1 _) rfl ?_
        refine wp_goto rfl ?_
        exact x_P.cong rfl (by rw [show z_6 = (I rv3 2) from by rw [hz_6]; simp only [if_pos c_5]]) J
    · replace H := H.2 c_4
      refine wp_iload rfl rfl ?_
      refine wp_bipush (v := (6 : Int32)) rfl (by decide) ?_
      refine s_invStP (As := [.int v4, .int (6 : Int32)]) (d1 := d - 1) rfl ⟨by decide, by decide⟩ rfl rfl rfl (Nat.le_of_ble_eq_true rfl) (by omega) (p_isUpTo (by omega)) ?_
      refine s_bi_eq rfl (fun c_7 => ?_) (fun c_7 => ?_)
      · replace H := H.2 c_7
        refine wp_iload rfl rfl ?_
        refine wp_iload_n rfl rfl rfl ?_
        obtain ⟨z_9, hz_9⟩ : ∃ z : Int32, z = (if v4 = v2 then (I rv3 2) else (-6 : Int32)) := ⟨_, rfl⟩
        replace H := H _ hz_9
        have J : x_P E d 90 42 [x_jk, x_jk, .int v2, .ref rv3, .int v4, .int v5] [.int z_9] I Q := by
          exact s_iret rfl rfl rfl H
        refine wp_icmp_ne rfl (fun c_8 => ?_) (fun c_8 => ?_)
        · refine wp_bipush (v := (-6 : Int32)) rfl (by decide) ?_
          exact x_P.cong rfl (by rw [show z_9 = (-6 : Int32) from by rw [hz_9]; simp only [if_neg c_8]]) J
        · refine wp_aload_n rfl rfl rfl ?_
          refine s_getI rfl (by decide) (hrv3.1 _) rfl ?_
          refine wp_goto rfl ?_
          exact x_P.cong rfl (by rw [show z_9 = (I rv3 2) from by rw [hz_9]; simp only [if_pos c_8]]) J
      · replace H := H.1 c_7
        refine wp_gets rfl (by decide) rfl rfl ?_
        refine wp_iload rfl rfl ?_
        obtain ⟨o_10, H⟩ := H
        refine wp_ialdX (N := 7) (f := fun j => ([0, 0, 0, 0, 1, 2, 3] : List Int32).getD j 0) rfl rfl o_10 ?_
        refine wp_istore (L' := [x_jk, x_jk, .int v2, .ref rv3, .int (([0, 0, 0, 0, 1, 2, 3] : List Int32).getD v4.toNatClampNeg 0), .int v5]) rfl (by decide) rfl rfl ?_
        refine wp_iinc (v := v5 + 1) (L' := [x_jk, x_jk, .int v2, .ref rv3, .int (([0, 0, 0, 0, 1, 2, 3] : List Int32).getD v4.toNatClampNeg 0), .int (v5 + 1)]) rfl rfl rfl rfl rfl ?_
        refine wp_goto rfl ?_
        exact H
set_option maxRecDepth 20000 in
theorem r_C_image_0 {E : XE} {d : Nat} {I : Nat → Nat → Int32} {Q : Option Value → (Nat → Nat → Int32) → Prop} (hd : 1 ≤ d) 
    (H : x_K E (d - 1) 58 [.ref 97, .ref 65] I (fun v I2 => x_P E d 91 5 [.ref 64] (v.toList ++ []) I2 Q)) :
    x_P E d 91 0 [.ref 64] [] I Q := by
  refine wp_aload_n rfl rfl rfl ?_
  refine wp_getR (v := .ref 97) rfl (by decide) (kd_64 _) rfl (kr_64_1 _) ?_
  refine wp_aload_n rfl rfl rfl ?_
  refine wp_getR (v := .ref 65) rfl (by decide) (kd_64 _) rfl (kr_64_0 _) ?_
  refine s_invV (As := [.ref 65]) (d1 := d - 1) rfl ⟨by decide, by decide⟩ rfl rfl rfl (Nat.le_of_ble_eq_true rfl) (by omega) (kd_97 _) (by decide) rfl rfl H ?_
  intro v I2 h2
  exact h2
set_option maxRecDepth 20000 in
theorem r_C_image_5 {E : XE} {d : Nat} {I : Nat → Nat → Int32} {Q : Option Value → (Nat → Nat → Int32) → Prop} (hd : 1 ≤ d) 
    (H : (∀ I_1, I_1 = x_up I 64 2 (1 : Int32) → Q (some (.int (I_1 65 1))) I_1)) :
    x_P E d 91 5 [.ref 64] [] I Q := by
  refine wp_aload_n rfl rfl rfl ?_
  refine wp_iconst (v := (1 : Int32)) rfl (by decide) ?_
  refine s_putI rfl (by decide) (kd_64 _) rfl rfl x_fit_b1 ?_
  generalize hI_1 : x_up I 64 2 (1 : Int32) = I_1
  replace H := H _ hI_1.symm
  refine wp_aload_n rfl rfl rfl ?_
  refine wp_getR (v := .ref 65) rfl (by decide) (kd_64 _) rfl (kr_64_0 _) ?_
  refine s_getI rfl (by decide) (kd_65 _) rfl ?_
  exact s_iret rfl rfl rfl H
set_option maxRecDepth 20000 in
theorem r_C_undo_0 {E : XE} {d : Nat} {I : Nat → Nat → Int32} {Q : Option Value → (Nat → Nat → Int32) → Prop} (hd : 1 ≤ d) 
    (H : (((I 64 2) = 0 → Q (some (.int (-3 : Int32))) I) ∧ (¬ ((I 64 2) = 0) → x_K E (d - 1) 58 [.ref 65, .ref 97] I (fun v I2 => x_P E d 92 10 [.ref 64] (v.toList ++ []) I2 Q)))) :
    x_P E d 92 0 [.ref 64] [] I Q := by
  refine wp_aload_n rfl rfl rfl ?_
  refine s_getI rfl (by decide) (kd_64 _) rfl ?_
  refine wp_if_ne rfl (fun c_1 => ?_) (fun c_1 => ?_)
  · replace H := H.2 c_1
    refine wp_aload_n rfl rfl rfl ?_
    refine wp_getR (v := .ref 65) rfl (by decide) (kd_64 _) rfl (kr_64_0 _) ?_
    refine wp_aload_n rfl rfl rfl ?_
    refine wp_getR (v := .ref 97) rfl (by decide) (kd_64 _) rfl (kr_64_1 _) ?_
    refine s_invV (As := [.ref 97]) (d1 := d - 1) rfl ⟨by decide, by decide⟩ rfl rfl rfl (Nat.le_of_ble_eq_true rfl) (by omega) (kd_65 _) (by decide) rfl rfl H ?_
    intro v I2 h2
    exact h2
  · replace H := H.1 c_1
    refine wp_bipush (v := (-3 : Int32)) rfl (by decide) ?_
    exact s_iret rfl rfl rfl H
set_option maxRecDepth 20000 in
theorem r_C_undo_10 {E : XE} {d : Nat} {I : Nat → Nat → Int32} {Q : Option Value → (Nat → Nat → Int32) → Prop} (hd : 1 ≤ d) 
    (H : Q (some (.int (I 65 1))) I) :
    x_P E d 92 10 [.ref 64] [] I Q := by
  refine wp_aload_n rfl rfl rfl ?_
  refine wp_getR (v := .ref 65) rfl (by decide) (kd_64 _) rfl (kr_64_0 _) ?_
  refine s_getI rfl (by decide) (kd_65 _) rfl ?_
  exact s_iret rfl rfl rfl H
set_option maxRecDepth 20000 in
theorem r_C_count_0 {E : XE} {d : Nat} {I : Nat → Nat → Int32} {Q : Option Value → (Nat → Nat → Int32) → Prop} (hd : 1 ≤ d) (a1 : Int32)
    (H : ((a1 = (0 : Int32) → Q (some (.int (I 65 1))) I) ∧ (a1 = (1 : Int32) → Q (some (.int (I 65 6))) I) ∧ (a1 = (2 : Int32) → Q (some (.int (I 73 3))) I) ∧ (a1 = (3 : Int32) → Q (some (.int (I 77 3))) I) ∧ (a1 = (4 : Int32) → Q (some (.int (I 81 3))) I) ∧ (a1 = (5 : Int32) → Q (some (.int (I 65 4))) I) ∧ (a1 = (6 : Int32) → Q (some (.int (I 138 1))) I) ∧ (¬ a1 = (0 : Int32) → ¬ a1 = (1 : Int32) → ¬ a1 = (2 : Int32) → ¬ a1 = (3 : Int32) → ¬ a1 = (4 : Int32) → ¬ a1 = (5 : Int32) → ¬ a1 = (6 : Int32) → Q (some (.int (-1 : Int32))) I))) :
    x_P E d 93 0 [.ref 64, .int a1] [] I Q := by
  refine wp_iload_n rfl rfl rfl ?_
  by_cases c_1 : a1 = (0 : Int32)
  · replace H := H.1 c_1
    refine wp_tswIn (j := 0) rfl rfl (Eq.trans (congrArg Int32.toInt c_1) rfl) ?_
    refine wp_aload_n rfl rfl rfl ?_
    refine wp_getR (v := .ref 65) rfl (by decide) (kd_64 _) rfl (kr_64_0 _) ?_
    refine s_getI rfl (by decide) (kd_65 _) rfl ?_
    exact s_iret rfl rfl rfl H
  · by_cases c_2 : a1 = (1 : Int32)
    · replace H := H.2.1 c_2
      refine wp_tswIn (j := 1) rfl rfl (Eq.trans (congrArg Int32.toInt c_2) rfl) ?_
      refine wp_aload_n rfl rfl rfl ?_
      refine wp_getR (v := .ref 65) rfl (by decide) (kd_64 _) rfl (kr_64_0 _) ?_
      refine s_getI rfl (by decide) (kd_65 _) rfl ?_
      exact s_iret rfl rfl rfl H
    · by_cases c_3 : a1 = (2 : Int32)
      · replace H := H.2.2.1 c_3
        refine wp_tswIn (j := 2) rfl rfl (Eq.trans (congrArg Int32.toInt c_3) rfl) ?_
        refine wp_aload_n rfl rfl rfl ?_
        refine wp_getR (v := .ref 65) rfl (by decide) (kd_64 _) rfl (kr_64_0 _) ?_
        refine wp_getR (v := .ref 73) rfl (by decide) (kd_65 _) rfl (kr_65_7 _) ?_
        refine s_getI rfl (by decide) (kd_73 _) rfl ?_
        exact s_iret rfl rfl rfl H
      · by_cases c_4 : a1 = (3 : Int32)
        · replace H := H.2.2.2.1 c_4
          refine wp_tswIn (j := 3) rfl rfl (Eq.trans (congrArg Int32.toInt c_4) rfl) ?_
          refine wp_aload_n rfl rfl rfl ?_
          refine wp_getR (v := .ref 65) rfl (by decide) (kd_64 _) rfl (kr_64_0 _) ?_
          refine wp_getR (v := .ref 77) rfl (by decide) (kd_65 _) rfl (kr_65_8 _) ?_
          refine s_getI rfl (by decide) (kd_77 _) rfl ?_
          exact s_iret rfl rfl rfl H
        · by_cases c_5 : a1 = (4 : Int32)
          · replace H := H.2.2.2.2.1 c_5
            refine wp_tswIn (j := 4) rfl rfl (Eq.trans (congrArg Int32.toInt c_5) rfl) ?_
            refine wp_aload_n rfl rfl rfl ?_
            refine wp_getR (v := .ref 65) rfl (by decide) (kd_64 _) rfl (kr_64_0 _) ?_
            refine wp_getR (v := .ref 81) rfl (by decide) (kd_65 _) rfl (kr_65_9 _) ?_
            refine s_getI rfl (by decide) (kd_81 _) rfl ?_
            exact s_iret rfl rfl rfl H
          · by_cases c_6 : a1 = (5 : Int32)
            · replace H := H.2.2.2.2.2.1 c_6
              refine wp_tswIn (j := 5) rfl rfl (Eq.trans (congrArg Int32.toInt c_6) rfl) ?_
              refine wp_aload_n rfl rfl rfl ?_
              refine wp_getR (v := .ref 65) rfl (by decide) (kd_64 _) rfl (kr_64_0 _) ?_
              refine s_getI rfl (by decide) (kd_65 _) rfl ?_
              exact s_iret rfl rfl rfl H
            · by_cases c_7 : a1 = (6 : Int32)
              · replace H := H.2.2.2.2.2.2.1 c_7
                refine wp_tswIn (j := 6) rfl rfl (Eq.trans (congrArg Int32.toInt c_7) rfl) ?_
                refine wp_aload_n rfl rfl rfl ?_
                refine wp_getR (v := .ref 138) rfl (by decide) (kd_64 _) rfl (kr_64_5 _) ?_
                refine s_getI rfl (by decide) (kd_138 _) rfl ?_
                exact s_iret rfl rfl rfl H
              · replace H := H.2.2.2.2.2.2.2 c_1 c_2 c_3 c_4 c_5 c_6 c_7
                have nc_1 := x_tne (z := 0) c_1 rfl
                have nc_2 := x_tne (z := 1) c_2 rfl
                have nc_3 := x_tne (z := 2) c_3 rfl
                have nc_4 := x_tne (z := 3) c_4 rfl
                have nc_5 := x_tne (z := 4) c_5 rfl
                have nc_6 := x_tne (z := 5) c_6 rfl
                have nc_7 := x_tne (z := 6) c_7 rfl
                have hout : (a1).toInt < 0 ∨ 6 < (a1).toInt := by omega
                refine wp_tswOut rfl hout ?_
                refine wp_iconst (v := (-1 : Int32)) rfl (by decide) ?_
                exact s_iret rfl rfl rfl H
set_option maxRecDepth 20000 in
theorem r_C_lowest_0 {E : XE} {d : Nat} {I : Nat → Nat → Int32} {Q : Option Value → (Nat → Nat → Int32) → Prop} (hd : 1 ≤ d) (a0 : Int32) (a1 : Int32) (a2 : Int32)
    (H : x_P E d 95 8 [.int a0, .int a1, x_jk, .int (if a2 = 0 then a0 else a1), .int a1] [] I Q) :
    x_P E d 95 0 [.int a0, .int a1, .int a2, x_jk, x_jk] [] I Q := by
  refine wp_iload_n rfl rfl rfl ?_
  have J : x_P E d 95 5 [.int a0, .int a1, .int a2, x_jk, x_jk] [.int (if a2 = 0 then a0 else a1)] I Q := by
    refine wp_istore_n (L' := [.int a0, .int a1, .int a2, .int (if a2 = 0 then a0 else a1), x_jk]) rfl rfl (by decide) rfl rfl ?_
    refine wp_iload_n rfl rfl rfl ?_
    refine wp_istore (L' := [.int a0, .int a1, .int a2, .int (if a2 = 0 then a0 else a1), .int a1]) rfl (by decide) rfl rfl ?_
    exact x_P.weak (L := [.int a0, .int a1, x_jk, .int (if a2 = 0 then a0 else a1), .int a1]) (by exact ⟨Or.inr rfl, ⟨Or.inr rfl, ⟨Or.inl rfl, ⟨Or.inr rfl, ⟨Or.inr rfl, trivial⟩⟩⟩⟩⟩) H
  refine wp_if_ne rfl (fun c_1 => ?_) (fun c_1 => ?_)
  · refine wp_iload_n rfl rfl rfl ?_
    exact x_P.cong rfl (by rw [show (if a2 = 0 then a0 else a1) = a1 from by simp only [if_neg c_1]]) J
  · refine wp_iload_n rfl rfl rfl ?_
    refine wp_goto rfl ?_
    exact x_P.cong rfl (by rw [show (if a2 = 0 then a0 else a1) = a0 from by simp only [if_pos c_1]]) J
set_option maxRecDepth 20000 in
theorem r_C_lowest_8 {E : XE} {d : Nat} {I : Nat → Nat → Int32} {Q : Option Value → (Nat → Nat → Int32) → Prop} (hd : 1 ≤ d) (v0 : Int32) (v1 : Int32) (v3 : Int32) (v4 : Int32)
    (H : ((v4 ≤ (1 : Int32) → Q (some (.int v3)) I) ∧ (¬ (v4 ≤ (1 : Int32)) → (¬ v4 = 0) ∧ (((v0 - v0 / v4 * v4) = 0 → (¬ v4 = 0) ∧ (((v1 - v1 / v4 * v4) = 0 → (¬ v4 = 0) ∧ Q (some (.int (v3 / v4))) I) ∧ (¬ ((v1 - v1 / v4 * v4) = 0) → x_P E d 95 8 [.int v0, .int v1, x_jk, .int v3, .int (v4 + (-1))] [] I Q))) ∧ (¬ ((v0 - v0 / v4 * v4) = 0) → x_P E d 95 8 [.int v0, .int v1, x_jk, .int v3, .int (v4 + (-1))] [] I Q))))) :
    x_P E d 95 8 [.int v0, .int v1, x_jk, .int v3, .int v4] [] I Q := by
  refine wp_iload rfl rfl ?_
  refine wp_iconst (v := (1 : Int32)) rfl (by decide) ?_
  refine wp_icmp_le rfl (fun c_1 => ?_) (fun c_1 => ?_)
  · replace H := H.1 c_1
    refine wp_iload_n rfl rfl rfl ?_
    exact s_iret rfl rfl rfl H
  · replace H := H.2 c_1
    refine wp_iload_n rfl rfl rfl ?_
    refine wp_iload rfl rfl ?_
    obtain ⟨o_2, H⟩ := H
    refine wp_irem rfl o_2 ?_
    refine wp_if_ne rfl (fun c_3 => ?_) (fun c_3 => ?_)
    · replace H := H.2 c_3
      refine wp_iinc (v := v4 + (-1)) (L' := [.int v0, .int v1, x_jk, .int v3, .int (v4 + (-1))]) rfl rfl rfl rfl rfl ?_
      refine wp_goto rfl ?_
      exact H
    · replace H := H.1 c_3
      refine wp_iload_n rfl rfl rfl ?_
      refine wp_iload rfl rfl ?_
      obtain ⟨o_4, H⟩ := H
      refine wp_irem rfl o_4 ?_
      refine wp_if_ne rfl (fun c_5 => ?_) (fun c_5 => ?_)
      · replace H := H.2 c_5
        refine wp_iinc (v := v4 + (-1)) (L' := [.int v0, .int v1, x_jk, .int v3, .int (v4 + (-1))]) rfl rfl rfl rfl rfl ?_
        refine wp_goto rfl ?_
        exact H
      · replace H := H.1 c_5
        refine wp_iload_n rfl rfl rfl ?_
        refine wp_iload rfl rfl ?_
        obtain ⟨o_6, H⟩ := H
        refine wp_idiv rfl o_6 ?_
        exact s_iret rfl rfl rfl H
set_option maxRecDepth 20000 in
theorem r_C_goOn_0 {E : XE} {d : Nat} {I : Nat → Nat → Int32} {Q : Option Value → (Nat → Nat → Int32) → Prop} (hd : 1 ≤ d) (r1 : Nat) (hm1 : x_man r1) (a2 : Int32)
    (H : x_P E d 96 2 [.ref 64, .ref r1, .int a2, .int (0 : Int32)] [] I Q) :
    x_P E d 96 0 [.ref 64, .ref r1, .int a2, x_jk] [] I Q := by
  refine wp_iconst (v := (0 : Int32)) rfl (by decide) ?_
  refine wp_istore_n (L' := [.ref 64, .ref r1, .int a2, .int (0 : Int32)]) rfl rfl (by decide) rfl rfl ?_
  exact H
set_option maxRecDepth 20000 in
theorem r_C_goOn_2 {E : XE} {d : Nat} {I : Nat → Nat → Int32} {Q : Option Value → (Nat → Nat → Int32) → Prop} (hd : 1 ≤ d) (rv1 : Nat) (hrv1 : x_man rv1) (v2 : Int32) (v3 : Int32)
    (H : ((v2 ≤ v3 → Q none I) ∧ (¬ (v2 ≤ v3) → x_K E (d - 1) 28 [.ref rv1, .ref 68, .int ((I 65 2) + v3)] I (fun v I2 => x_P E d 96 15 [.ref 64, .ref rv1, .int v2, .int v3] (v.toList ++ []) I2 Q)))) :
    x_P E d 96 2 [.ref 64, .ref rv1, .int v2, .int v3] [] I Q := by
  refine wp_iload_n rfl rfl rfl ?_
  refine wp_iload_n rfl rfl rfl ?_
  refine wp_icmp_ge rfl (fun c_1 => ?_) (fun c_1 => ?_)
  · replace H := H.1 c_1
    exact s_vret rfl rfl H
  · replace H := H.2 c_1
    refine wp_aload_n rfl rfl rfl ?_
    refine wp_aload_n rfl rfl rfl ?_
    refine wp_getR (v := .ref 65) rfl (by decide) (kd_64 _) rfl (kr_64_0 _) ?_
    refine wp_getR (v := .ref 68) rfl (by decide) (kd_65 _) rfl (kr_65_5 _) ?_
    refine wp_aload_n rfl rfl rfl ?_
    refine wp_getR (v := .ref 65) rfl (by decide) (kd_64 _) rfl (kr_64_0 _) ?_
    refine s_getI rfl (by decide) (kd_65 _) rfl ?_
    refine wp_iload_n rfl rfl rfl ?_
    refine wp_iadd rfl ?_
    refine s_invV (As := [.ref 68, .int ((I 65 2) + v3)]) (d1 := d - 1) rfl ⟨by decide, by decide⟩ rfl rfl rfl (Nat.le_of_ble_eq_true rfl) (by omega) (hrv1.1 _) (by decide) rfl rfl H ?_
    intro v I2 h2
    exact h2
set_option maxRecDepth 20000 in
theorem r_C_goOn_15 {E : XE} {d : Nat} {I : Nat → Nat → Int32} {Q : Option Value → (Nat → Nat → Int32) → Prop} (hd : 1 ≤ d) (rv1 : Nat) (hrv1 : x_man rv1) (v2 : Int32) (v3 : Int32)
    (H : x_P E d 96 2 [.ref 64, .ref rv1, .int v2, .int (v3 + 1)] [] I Q) :
    x_P E d 96 15 [.ref 64, .ref rv1, .int v2, .int v3] [] I Q := by
  refine wp_iinc (v := v3 + 1) (L' := [.ref 64, .ref rv1, .int v2, .int (v3 + 1)]) rfl rfl rfl rfl rfl ?_
  refine wp_goto rfl ?_
  exact H
set_option maxRecDepth 20000 in
theorem r_C_goneBehind_0 {E : XE} {d : Nat} {I : Nat → Nat → Int32} {Q : Option Value → (Nat → Nat → Int32) → Prop} (hd : 1 ≤ d) (a1 : Int32)
    (H : x_P E d 97 4 [.ref 64, .int a1, .int (0 : Int32), .int (0 : Int32)] [] I Q) :
    x_P E d 97 0 [.ref 64, .int a1, x_jk, x_jk] [] I Q := by
  refine wp_iconst (v := (0 : Int32)) rfl (by decide) ?_
  refine wp_istore_n (L' := [.ref 64, .int a1, .int (0 : Int32), x_jk]) rfl rfl (by decide) rfl rfl ?_
  refine wp_iconst (v := (0 : Int32)) rfl (by decide) ?_
  refine wp_istore_n (L' := [.ref 64, .int a1, .int (0 : Int32), .int (0 : Int32)]) rfl rfl (by decide) rfl rfl ?_
  exact H
set_option maxRecDepth 20000 in
theorem r_C_goneBehind_4 {E : XE} {d : Nat} {I : Nat → Nat → Int32} {Q : Option Value → (Nat → Nat → Int32) → Prop} (hd : 1 ≤ d) (v1 : Int32) (v2 : Int32) (v3 : Int32)
    (H : (((I 65 1) ≤ v3 → Q (some (.int v2)) I) ∧ (¬ ((I 65 1) ≤ v3) → (vp_in v3 6) ∧ x_K E (d - 1) 24 [.ref 129, .ref (85 + 2 * v3.toNatClampNeg)] I (fun v I2 => x_P E d 97 17 [.ref 64, .int v1, .int v2, .int v3] (v.toList ++ []) I2 Q)))) :
    x_P E d 97 4 [.ref 64, .int v1, .int v2, .int v3] [] I Q := by
  refine wp_iload_n rfl rfl rfl ?_
  refine wp_aload_n rfl rfl rfl ?_
  refine wp_getR (v := .ref 65) rfl (by decide) (kd_64 _) rfl (kr_64_0 _) ?_
  refine s_getI rfl (by decide) (kd_65 _) rfl ?_
  refine wp_icmp_ge rfl (fun c_1 => ?_) (fun c_1 => ?_)
  · replace H := H.1 c_1
    refine wp_iload_n rfl rfl rfl ?_
    exact s_iret rfl rfl rfl H
  · replace H := H.2 c_1
    refine wp_aload_n rfl rfl rfl ?_
    refine wp_getR (v := .ref 129) rfl (by decide) (kd_64 _) rfl (kr_64_3 _) ?_
    refine wp_aload_n rfl rfl rfl ?_
    refine wp_getR (v := .ref 65) rfl (by decide) (kd_64 _) rfl (kr_64_0 _) ?_
    refine wp_getR (v := .ref 66) rfl (by decide) (kd_65 _) rfl (kr_65_0 _) ?_
    refine wp_iload_n rfl rfl rfl ?_
    obtain ⟨o_2, H⟩ := H
    refine wp_aald (v := .ref (85 + 2 * v3.toNatClampNeg)) rfl (kd_66 _) o_2 (x_man_now (x_in_lt o_2)).2 ?_
    refine s_invV (As := [.ref (85 + 2 * v3.toNatClampNeg)]) (d1 := d - 1) rfl ⟨by decide, by decide⟩ rfl rfl rfl (Nat.le_of_ble_eq_true rfl) (by omega) (kd_129 _) (by decide) rfl rfl H ?_
    intro v I2 h2
    exact h2
set_option maxRecDepth 20000 in
theorem r_C_goneBehind_17 {E : XE} {d : Nat} {I : Nat → Nat → Int32} {Q : Option Value → (Nat → Nat → Int32) → Prop} (hd : 1 ≤ d) (v1 : Int32) (v2 : Int32) (v3 : Int32)
    (H : x_K E (d - 1) 96 [.ref 64, .ref 129, .int v1] I (fun v I2 => x_P E d 97 22 [.ref 64, .int v1, .int v2, .int v3] (v.toList ++ []) I2 Q)) :
    x_P E d 97 17 [.ref 64, .int v1, .int v2, .int v3] [] I Q := by
  refine wp_aload_n rfl rfl rfl ?_
  refine wp_aload_n rfl rfl rfl ?_
  refine wp_getR (v := .ref 129) rfl (by decide) (kd_64 _) rfl (kr_64_3 _) ?_
  refine wp_iload_n rfl rfl rfl ?_
  refine s_invV (As := [.ref 129, .int v1]) (d1 := d - 1) rfl ⟨by decide, by decide⟩ rfl rfl rfl (Nat.le_of_ble_eq_true rfl) (by omega) (kd_64 _) (by decide) rfl rfl H ?_
  intro v I2 h2
  exact h2
set_option maxRecDepth 20000 in
theorem r_C_goneBehind_22 {E : XE} {d : Nat} {I : Nat → Nat → Int32} {Q : Option Value → (Nat → Nat → Int32) → Prop} (hd : 1 ≤ d) (v1 : Int32) (v2 : Int32) (v3 : Int32)
    (H : (∀ z_2, z_2 = (if (I 129 6) = 0 then (0 : Int32) else ((1 : Int32) <<< (v3 &&& 31))) → x_P E d 97 4 [.ref 64, .int v1, .int (v2 ||| z_2), .int (v3 + 1)] [] I Q)) :
    x_P E d 97 22 [.ref 64, .int v1, .int v2, .int v3] [] I Q := by
  refine wp_iload_n rfl rfl rfl ?_
  refine wp_aload_n rfl rfl rfl ?_
  refine wp_getR (v := .ref 129) rfl (by decide) (kd_64 _) rfl (kr_64_3 _) ?_
  refine s_getI rfl (by decide) (kd_129 _) rfl ?_
  obtain ⟨z_2, hz_2⟩ : ∃ z : Int32, z = (if (I 129 6) = 0 then (0 : Int32) else ((1 : Int32) <<< (v3 &&& 31))) := ⟨_, rfl⟩
  replace H := H _ hz_2
  have J : x_P E d 97 32 [.ref 64, .int v1, .int v2, .int v3] [.int z_2, .int v2] I Q := by
    refine wp_ior rfl ?_
    refine wp_istore_n (L' := [.ref 64, .int v1, .int (v2 ||| z_2), .int v3]) rfl rfl (by decide) rfl rfl ?_
    refine wp_iinc (v := v3 + 1) (L' := [.ref 64, .int v1, .int (v2 ||| z_2), .int (v3 + 1)]) rfl rfl rfl rfl rfl ?_
    refine wp_goto rfl ?_
    exact H
  refine wp_if_eq rfl (fun c_1 => ?_) (fun c_1 => ?_)
  · refine wp_iconst (v := (0 : Int32)) rfl (by decide) ?_
    exact x_P.cong rfl (by rw [show z_2 = (0 : Int32) from by rw [hz_2]; simp only [if_pos c_1]]) J
  · refine wp_iconst (v := (1 : Int32)) rfl (by decide) ?_
    refine wp_iload_n rfl rfl rfl ?_
    refine wp_ishl rfl ?_
    refine wp_goto rfl ?_
    exact x_P.cong rfl (by rw [show z_2 = ((1 : Int32) <<< (v3 &&& 31)) from by rw [hz_2]; simp only [if_neg c_1]]) J
set_option maxRecDepth 20000 in
theorem r_C_isGoneBehindWash_0 {E : XE} {d : Nat} {I : Nat → Nat → Int32} {Q : Option Value → (Nat → Nat → Int32) → Prop} (hd : 1 ≤ d) (r1 : Nat) (hm1 : x_man r1) (a2 : Int32)
    (H : x_K E (d - 1) 24 [.ref 129, .ref r1] I (fun v I2 => x_P E d 98 4 [.ref 64, x_jk, .int a2] (v.toList ++ []) I2 Q)) :
    x_P E d 98 0 [.ref 64, .ref r1, .int a2] [] I Q := by
  refine wp_aload_n rfl rfl rfl ?_
  refine wp_getR (v := .ref 129) rfl (by decide) (kd_64 _) rfl (kr_64_3 _) ?_
  refine wp_aload_n rfl rfl rfl ?_
  refine s_invV (As := [.ref r1]) (d1 := d - 1) rfl ⟨by decide, by decide⟩ rfl rfl rfl (Nat.le_of_ble_eq_true rfl) (by omega) (kd_129 _) (by decide) rfl rfl H ?_
  intro v I2 h2
  exact x_P.weak (L := [.ref 64, x_jk, .int a2]) (by exact ⟨Or.inr rfl, ⟨Or.inl rfl, ⟨Or.inr rfl, trivial⟩⟩⟩) h2
set_option maxRecDepth 20000 in
theorem r_C_isGoneBehindWash_4 {E : XE} {d : Nat} {I : Nat → Nat → Int32} {Q : Option Value → (Nat → Nat → Int32) → Prop} (hd : 1 ≤ d) (v2 : Int32)
    (H : ((v2 = 0 → x_K E (d - 1) 96 [.ref 64, .ref 129, .int (12 : Int32)] I (fun v I2 => x_P E d 98 15 [.ref 64, x_jk, x_jk] (v.toList ++ []) I2 Q)) ∧ (¬ (v2 = 0) → (∀ I_2, I_2 = x_up I 129 5 (0 : Int32) → x_K E (d - 1) 96 [.ref 64, .ref 129, .int (12 : Int32)] I_2 (fun v I2 => x_P E d 98 15 [.ref 64, x_jk, x_jk] (v.toList ++ []) I2 Q))))) :
    x_P E d 98 4 [.ref 64, x_jk, .int v2] [] I Q := by
  refine wp_iload_n rfl rfl rfl ?_
  refine wp_if_eq rfl (fun c_1 => ?_) (fun c_1 => ?_)
  · replace H := H.1 c_1
    refine wp_aload_n rfl rfl rfl ?_
    refine wp_aload_n rfl rfl rfl ?_
    refine wp_getR (v := .ref 129) rfl (by decide) (kd_64 _) rfl (kr_64_3 _) ?_
    refine wp_bipush (v := (12 : Int32)) rfl (by decide) ?_
    refine s_invV (As := [.ref 129, .int (12 : Int32)]) (d1 := d - 1) rfl ⟨by decide, by decide⟩ rfl rfl rfl (Nat.le_of_ble_eq_true rfl) (by omega) (kd_64 _) (by decide) rfl rfl H ?_
    intro v I2 h2
    exact x_P.weak (L := [.ref 64, x_jk, x_jk]) (by exact ⟨Or.inr rfl, ⟨Or.inr rfl, ⟨Or.inl rfl, trivial⟩⟩⟩) h2
  · replace H := H.2 c_1
    refine wp_aload_n rfl rfl rfl ?_
    refine wp_getR (v := .ref 129) rfl (by decide) (kd_64 _) rfl (kr_64_3 _) ?_
    refine wp_iconst (v := (0 : Int32)) rfl (by decide) ?_
    refine s_putI rfl (by decide) (kd_129 _) rfl rfl (x_fit_int _) ?_
    generalize hI_2 : x_up I 129 5 (0 : Int32) = I_2
    replace H := H _ hI_2.symm
    refine wp_aload_n rfl rfl rfl ?_
    refine wp_aload_n rfl rfl rfl ?_
    refine wp_getR (v := .ref 129) rfl (by decide) (kd_64 _) rfl (kr_64_3 _) ?_
    refine wp_bipush (v := (12 : Int32)) rfl (by decide) ?_
    refine s_invV (As := [.ref 129, .int (12 : Int32)]) (d1 := d - 1) rfl ⟨by decide, by decide⟩ rfl rfl rfl (Nat.le_of_ble_eq_true rfl) (by omega) (kd_64 _) (by decide) rfl rfl H ?_
    intro v I2 h2
    exact x_P.weak (L := [.ref 64, x_jk, x_jk]) (by exact ⟨Or.inr rfl, ⟨Or.inr rfl, ⟨Or.inl rfl, trivial⟩⟩⟩) h2
set_option maxRecDepth 20000 in
theorem r_C_isGoneBehindWash_15 {E : XE} {d : Nat} {I : Nat → Nat → Int32} {Q : Option Value → (Nat → Nat → Int32) → Prop} (hd : 1 ≤ d) 
    (H : (narrow .boolean (.int (I 129 6)) = .int (I 129 6)) ∧ Q (some (.int (I 129 6))) I) :
    x_P E d 98 15 [.ref 64, x_jk, x_jk] [] I Q := by
  refine wp_aload_n rfl rfl rfl ?_
  refine wp_getR (v := .ref 129) rfl (by decide) (kd_64 _) rfl (kr_64_3 _) ?_
  refine s_getI rfl (by decide) (kd_129 _) rfl ?_
  obtain ⟨o_1, H⟩ := H
  exact s_iret rfl rfl o_1 H
set_option maxRecDepth 20000 in
theorem r_C_sharedCreed_0 {E : XE} {d : Nat} {I : Nat → Nat → Int32} {Q : Option Value → (Nat → Nat → Int32) → Prop} (hd : 1 ≤ d) 
    (H : x_P E d 99 4 [.ref 64, .int (255 : Int32), .int (0 : Int32)] [] I Q) :
    x_P E d 99 0 [.ref 64, x_jk, x_jk] [] I Q := by
  refine wp_sipush (v := (255 : Int32)) rfl (by decide) ?_
  refine wp_istore_n (L' := [.ref 64, .int (255 : Int32), x_jk]) rfl rfl (by decide) rfl rfl ?_
  refine wp_iconst (v := (0 : Int32)) rfl (by decide) ?_
  refine wp_istore_n (L' := [.ref 64, .int (255 : Int32), .int (0 : Int32)]) rfl rfl (by decide) rfl rfl ?_
  exact H
set_option maxRecDepth 20000 in
theorem r_C_sharedCreed_4 {E : XE} {d : Nat} {I : Nat → Nat → Int32} {Q : Option Value → (Nat → Nat → Int32) → Prop} (hd : 1 ≤ d) (v1 : Int32) (v2 : Int32)
    (H : (((I 65 1) ≤ v2 → Q (some (.int v1)) I) ∧ (¬ ((I 65 1) ≤ v2) → (vp_in v2 6) ∧ (((I (85 + 2 * v2.toNatClampNeg) 7) = 0 → vp_in v2 6)) ∧ (∀ z_5, z_5 = (if (I (85 + 2 * v2.toNatClampNeg) 7) = 0 then (I (85 + 2 * v2.toNatClampNeg) 4) else (255 : Int32)) → x_P E d 99 4 [.ref 64, .int (v1 &&& z_5), .int (v2 + 1)] [] I Q)))) :
    x_P E d 99 4 [.ref 64, .int v1, .int v2] [] I Q := by
  refine wp_iload_n rfl rfl rfl ?_
  refine wp_aload_n rfl rfl rfl ?_
  refine wp_getR (v := .ref 65) rfl (by decide) (kd_64 _) rfl (kr_64_0 _) ?_
  refine s_getI rfl (by decide) (kd_65 _) rfl ?_
  refine wp_icmp_ge rfl (fun c_1 => ?_) (fun c_1 => ?_)
  · replace H := H.1 c_1
    refine wp_iload_n rfl rfl rfl ?_
    exact s_iret rfl rfl rfl H
  · replace H := H.2 c_1
    refine wp_iload_n rfl rfl rfl ?_
    refine wp_aload_n rfl rfl rfl ?_
    refine wp_getR (v := .ref 65) rfl (by decide) (kd_64 _) rfl (kr_64_0 _) ?_
    refine wp_getR (v := .ref 66) rfl (by decide) (kd_65 _) rfl (kr_65_0 _) ?_
    refine wp_iload_n rfl rfl rfl ?_
    obtain ⟨o_2, H⟩ := H
    refine wp_aald (v := .ref (85 + 2 * v2.toNatClampNeg)) rfl (kd_66 _) o_2 (x_man_now (x_in_lt o_2)).2 ?_
    refine s_getI rfl (by decide) ((x_man_now (x_in_lt o_2)).1.1 _) rfl ?_
    obtain ⟨o_4, H⟩ := H
    obtain ⟨z_5, hz_5⟩ : ∃ z : Int32, z = (if (I (85 + 2 * v2.toNatClampNeg) 7) = 0 then (I (85 + 2 * v2.toNatClampNeg) 4) else (255 : Int32)) := ⟨_, rfl⟩
    replace H := H _ hz_5
    have J : x_P E d 99 25 [.ref 64, .int v1, .int v2] [.int z_5, .int v1] I Q := by
      refine wp_iand rfl ?_
      refine wp_istore_n (L' := [.ref 64, .int (v1 &&& z_5), .int v2]) rfl rfl (by decide) rfl rfl ?_
      refine wp_iinc (v := v2 + 1) (L' := [.ref 64, .int (v1 &&& z_5), .int (v2 + 1)]) rfl rfl rfl rfl rfl ?_
      refine wp_goto rfl ?_
      exact H
    refine wp_if_eq rfl (fun c_3 => ?_) (fun c_3 => ?_)
    · refine wp_aload_n rfl rfl rfl ?_
      refine wp_getR (v := .ref 65) rfl (by decide) (kd_64 _) rfl (kr_64_0 _) ?_
      refine wp_getR (v := .ref 66) rfl (by decide) (kd_65 _) rfl (kr_65_0 _) ?_
      refine wp_iload_n rfl rfl rfl ?_
      refine wp_aald (v := .ref (85 + 2 * v2.toNatClampNeg)) rfl (kd_66 _) (o_4 c_3) (x_man_now (x_in_lt (o_4 c_3))).2 ?_
      refine s_getI rfl (by decide) ((x_man_now (x_in_lt (o_4 c_3))).1.1 _) rfl ?_
      exact x_P.cong rfl (by rw [show z_5 = (I (85 + 2 * v2.toNatClampNeg) 4) from by rw [hz_5]; simp only [if_pos c_3]]) J
    · refine wp_sipush (v := (255 : Int32)) rfl (by decide) ?_
      refine wp_goto rfl ?_
      exact x_P.cong rfl (by rw [show z_5 = (255 : Int32) from by rw [hz_5]; simp only [if_neg c_3]]) J
set_option maxRecDepth 20000 in
theorem r_C_seenFrom_0 {E : XE} {d : Nat} {I : Nat → Nat → Int32} {Q : Option Value → (Nat → Nat → Int32) → Prop} (hd : 1 ≤ d) (r1 : Nat) (hm1 : x_man r1) (a2 : Int32)
    (H : (((I r1 7) = 0 → x_P E d 100 9 [.ref 64, .ref r1, .int a2, .int (0 : Int32), .int (0 : Int32), x_jk, x_jk] [] I Q) ∧ (¬ ((I r1 7) = 0) → Q (some (.int (0 : Int32))) I))) :
    x_P E d 100 0 [.ref 64, .ref r1, .int a2, x_jk, x_jk, x_jk, x_jk] [] I Q := by
  refine wp_aload_n rfl rfl rfl ?_
  refine s_getI rfl (by decide) (hm1.1 _) rfl ?_
  refine wp_if_eq rfl (fun c_1 => ?_) (fun c_1 => ?_)
  · replace H := H.1 c_1
    refine wp_iconst (v := (0 : Int32)) rfl (by decide) ?_
    refine wp_istore_n (L' := [.ref 64, .ref r1, .int a2, .int (0 : Int32), x_jk, x_jk, x_jk]) rfl rfl (by decide) rfl rfl ?_
    refine wp_iconst (v := (0 : Int32)) rfl (by decide) ?_
    refine wp_istore (L' := [.ref 64, .ref r1, .int a2, .int (0 : Int32), .int (0 : Int32), x_jk, x_jk]) rfl (by decide) rfl rfl ?_
    exact H
  · replace H := H.2 c_1
    refine wp_iconst (v := (0 : Int32)) rfl (by decide) ?_
    exact s_iret rfl rfl rfl H
set_option maxRecDepth 20000 in
theorem r_C_seenFrom_9 {E : XE} {d : Nat} {I : Nat → Nat → Int32} {Q : Option Value → (Nat → Nat → Int32) → Prop} (hd : 1 ≤ d) (rv1 : Nat) (hrv1 : x_man rv1) (v2 : Int32) (v3 : Int32) (v4 : Int32)
    (H : (((I 65 1) ≤ v4 → Q (some (.int v3)) I) ∧ (¬ ((I 65 1) ≤ v4) → (vp_in v4 6) ∧ x_K E (d - 1) 25 [.ref rv1] I (fun v I2 => x_P E d 100 27 [.ref 64, .ref rv1, .int v2, .int v3, .int v4, .ref (85 + 2 * v4.toNatClampNeg), x_jk] (v.toList ++ [.int (if 0 ≤ ((I (85 + 2 * v4.toNatClampNeg) 3) - v2) then ((I (85 + 2 * v4.toNatClampNeg) 3) - v2) else 0 - ((I (85 + 2 * v4.toNatClampNeg) 3) - v2))]) I2 Q)))) :
    x_P E d 100 9 [.ref 64, .ref rv1, .int v2, .int v3, .int v4, x_jk, x_jk] [] I Q := by
  refine wp_iload rfl rfl ?_
  refine wp_aload_n rfl rfl rfl ?_
  refine wp_getR (v := .ref 65) rfl (by decide) (kd_64 _) rfl (kr_64_0 _) ?_
  refine s_getI rfl (by decide) (kd_65 _) rfl ?_
  refine wp_icmp_ge rfl (fun c_1 => ?_) (fun c_1 => ?_)
  · replace H := H.1 c_1
    refine wp_iload_n rfl rfl rfl ?_
    exact s_iret rfl rfl rfl H
  · replace H := H.2 c_1
    refine wp_aload_n rfl rfl rfl ?_
    refine wp_getR (v := .ref 65) rfl (by decide) (kd_64 _) rfl (kr_64_0 _) ?_
    refine wp_getR (v := .ref 66) rfl (by decide) (kd_65 _) rfl (kr_65_0 _) ?_
    refine wp_iload rfl rfl ?_
    obtain ⟨o_2, H⟩ := H
    refine wp_aald (v := .ref (85 + 2 * v4.toNatClampNeg)) rfl (kd_66 _) o_2 (x_man_now (x_in_lt o_2)).2 ?_
    refine wp_astore (L' := [.ref 64, .ref rv1, .int v2, .int v3, .int v4, .ref (85 + 2 * v4.toNatClampNeg), x_jk]) rfl (by decide) rfl rfl ?_
    refine wp_aload rfl rfl ?_
    refine s_getI rfl (by decide) ((x_man_now (x_in_lt o_2)).1.1 _) rfl ?_
    refine wp_iload_n rfl rfl rfl ?_
    refine wp_isub rfl ?_
    refine s_mabs rfl rfl (Nat.le_of_ble_eq_true rfl) (by omega) ?_
    refine wp_aload_n rfl rfl rfl ?_
    refine s_invV (As := []) (d1 := d - 1) rfl ⟨by decide, by decide⟩ rfl rfl rfl (Nat.le_of_ble_eq_true rfl) (by omega) (hrv1.1 _) (by decide) rfl rfl H ?_
    intro v I2 h2
    exact h2
set_option maxRecDepth 20000 in
theorem r_C_seenFrom_27 {E : XE} {d : Nat} {I : Nat → Nat → Int32} {Q : Option Value → (Nat → Nat → Int32) → Prop} (hd : 1 ≤ d) (rv1 : Nat) (hrv1 : x_man rv1) (v2 : Int32) (v3 : Int32) (v4 : Int32) (rv5 : Nat) (hrv5 : x_man rv5) (s0 : Int32) (w : Int32)
    (H : (∀ z_5, z_5 = (if ¬ (w < s0) then (if (I rv5 7) = 0 then (if v4 = (I rv1 0) then (0 : Int32) else ((1 : Int32) <<< (v4 &&& 31))) else (0 : Int32)) else (0 : Int32)) → x_P E d 100 9 [.ref 64, .ref rv1, .int v2, .int (v3 ||| z_5), .int (v4 + 1), x_jk, x_jk] [] I Q)) :
    x_P E d 100 27 [.ref 64, .ref rv1, .int v2, .int v3, .int v4, .ref rv5, x_jk] [.int w, .int s0] I Q := by
  have J : x_P E d 100 31 [.ref 64, .ref rv1, .int v2, .int v3, .int v4, .ref rv5, x_jk] [.int (x_bi (¬ (w < s0)))] I Q := by
    refine wp_istore (L' := [.ref 64, .ref rv1, .int v2, .int v3, .int v4, .ref rv5, .int (x_bi (¬ (w < s0)))]) rfl (by decide) rfl rfl ?_
    refine wp_iload_n rfl rfl rfl ?_
    refine wp_iload rfl rfl ?_
    obtain ⟨z_5, hz_5⟩ : ∃ z : Int32, z = (if ¬ (w < s0) then (if (I rv5 7) = 0 then (if v4 = (I rv1 0) then (0 : Int32) else ((1 : Int32) <<< (v4 &&& 31))) else (0 : Int32)) else (0 : Int32)) := ⟨_, rfl⟩
    replace H := H _ hz_5
    have J : x_P E d 100 47 [.ref 64, .ref rv1, .int v2, .int v3, .int v4, .ref rv5, .int (x_bi (¬ (w < s0)))] [.int z_5, .int v3] I Q := by
      refine wp_ior rfl ?_
      refine wp_istore_n (L' := [.ref 64, .ref rv1, .int v2, .int (v3 ||| z_5), .int v4, .ref rv5, .int (x_bi (¬ (w < s0)))]) rfl rfl (by decide) rfl rfl ?_
      refine wp_iinc (v := v4 + 1) (L' := [.ref 64, .ref rv1, .int v2, .int (v3 ||| z_5), .int (v4 + 1), .ref rv5, .int (x_bi (¬ (w < s0)))]) rfl rfl rfl rfl rfl ?_
      refine wp_goto rfl ?_
      exact x_P.weak (L := [.ref 64, .ref rv1, .int v2, .int (v3 ||| z_5), .int (v4 + 1), x_jk, x_jk]) (by exact ⟨Or.inr rfl, ⟨Or.inr rfl, ⟨Or.inr rfl, ⟨Or.inr rfl, ⟨Or.inr rfl, ⟨Or.inl rfl, ⟨Or.inl rfl, trivial⟩⟩⟩⟩⟩⟩⟩) H
    refine s_bi_eq rfl (fun c_2 => ?_) (fun c_2 => ?_)
    · refine wp_iconst (v := (0 : Int32)) rfl (by decide) ?_
      exact x_P.cong rfl (by rw [show z_5 = (0 : Int32) from by rw [hz_5]; simp only [if_neg c_2]]) J
    · refine wp_aload rfl rfl ?_
      refine s_getI rfl (by decide) (hrv5.1 _) rfl ?_
      refine wp_if_ne rfl (fun c_3 => ?_) (fun c_3 => ?_)
      · refine wp_iconst (v := (0 : Int32)) rfl (by decide) ?_
        exact x_P.cong rfl (by rw [show z_5 = (0 : Int32) from by rw [hz_5]; simp only [if_pos c_2, if_neg c_3]]) J
      · refine wp_iload rfl rfl ?_
        refine wp_aload_n rfl rfl rfl ?_
        refine s_getI rfl (by decide) (hrv1.1 _) rfl ?_
        refine wp_icmp_eq rfl (fun c_4 => ?_) (fun c_4 => ?_)
        · refine wp_iconst (v := (0 : Int32)) rfl (by decide) ?_
          exact x_P.cong rfl (by rw [show z_5 = (0 : Int32) from by rw [hz_5]; simp only [if_pos c_2, if_pos c_3, if_pos c_4]]) J
        · refine wp_iconst (v := (1 : Int32)) rfl (by decide) ?_
          refine wp_iload rfl rfl ?_
          refine wp_ishl rfl ?_
          refine wp_goto rfl ?_
          exact x_P.cong rfl (by rw [show z_5 = ((1 : Int32) <<< (v4 &&& 31)) from by rw [hz_5]; simp only [if_pos c_2, if_pos c_3, if_neg c_4]]) J
  refine wp_icmp_gt rfl (fun c_1 => ?_) (fun c_1 => ?_)
  · refine wp_iconst (v := (0 : Int32)) rfl (by decide) ?_
    exact x_P.cong rfl (by rw [show x_bi (¬ (w < s0)) = (0 : Int32) from x_bi_f (fun h => h c_1)]) J
  · refine wp_iconst (v := (1 : Int32)) rfl (by decide) ?_
    refine wp_goto rfl ?_
    exact x_P.cong rfl (by rw [show x_bi (¬ (w < s0)) = (1 : Int32) from x_bi_t c_1]) J
set_option maxRecDepth 20000 in
theorem r_C_bench_0 {E : XE} {d : Nat} {I : Nat → Nat → Int32} {Q : Option Value → (Nat → Nat → Int32) → Prop} (hd : 1 ≤ d) (r1 : Nat) (hm1 : x_man r1)
    (H : x_P E d 101 4 [.ref 64, .ref r1, .int (0 : Int32), .int (1 : Int32)] [] I Q) :
    x_P E d 101 0 [.ref 64, .ref r1, x_jk, x_jk] [] I Q := by
  refine wp_iconst (v := (0 : Int32)) rfl (by decide) ?_
  refine wp_istore_n (L' := [.ref 64, .ref r1, .int (0 : Int32), x_jk]) rfl rfl (by decide) rfl rfl ?_
  refine wp_iconst (v := (1 : Int32)) rfl (by decide) ?_
  refine wp_istore_n (L' := [.ref 64, .ref r1, .int (0 : Int32), .int (1 : Int32)]) rfl rfl (by decide) rfl rfl ?_
  exact H
set_option maxRecDepth 20000 in
theorem r_C_bench_4 {E : XE} {d : Nat} {I : Nat → Nat → Int32} {Q : Option Value → (Nat → Nat → Int32) → Prop} (hd : 1 ≤ d) (rv1 : Nat) (hrv1 : x_man rv1) (v2 : Int32) (v3 : Int32)
    (H : (((9 : Int32) < v3 → Q (some (.int v2)) I) ∧ (¬ ((9 : Int32) < v3) → x_K E (d - 1) 100 [.ref 64, .ref rv1, .int v3] I (fun v I2 => x_P E d 101 11 [.ref 64, .ref rv1, .int v2, .int v3] (v.toList ++ []) I2 Q)))) :
    x_P E d 101 4 [.ref 64, .ref rv1, .int v2, .int v3] [] I Q := by
  refine wp_iload_n rfl rfl rfl ?_
  refine wp_bipush (v := (9 : Int32)) rfl (by decide) ?_
  refine wp_icmp_gt rfl (fun c_1 => ?_) (fun c_1 => ?_)
  · replace H := H.1 c_1
    refine wp_iload_n rfl rfl rfl ?_
    exact s_iret rfl rfl rfl H
  · replace H := H.2 c_1
    refine wp_aload_n rfl rfl rfl ?_
    refine wp_aload_n rfl rfl rfl ?_
    refine wp_iload_n rfl rfl rfl ?_
    refine s_invV (As := [.ref rv1, .int v3]) (d1 := d - 1) rfl ⟨by decide, by decide⟩ rfl rfl rfl (Nat.le_of_ble_eq_true rfl) (by omega) (kd_64 _) (by decide) rfl rfl H ?_
    intro v I2 h2
    exact h2
set_option maxRecDepth 20000 in
theorem r_C_bench_11 {E : XE} {d : Nat} {I : Nat → Nat → Int32} {Q : Option Value → (Nat → Nat → Int32) → Prop} (hd : 1 ≤ d) (rv1 : Nat) (hrv1 : x_man rv1) (v2 : Int32) (v3 : Int32) (w : Int32)
    (H : x_K E (d - 1) 1 [.int w] I (fun v I2 => x_P E d 101 12 [.ref 64, .ref rv1, .int v2, .int v3] (v.toList ++ []) I2 Q)) :
    x_P E d 101 11 [.ref 64, .ref rv1, .int v2, .int v3] [.int w] I Q := by
  refine s_invSt (As := [.int w]) (d1 := d - 1) rfl ⟨by decide, by decide⟩ rfl rfl rfl (Nat.le_of_ble_eq_true rfl) (by omega) H ?_
  intro v I2 h2
  exact h2
set_option maxRecDepth 20000 in
theorem r_C_bench_12 {E : XE} {d : Nat} {I : Nat → Nat → Int32} {Q : Option Value → (Nat → Nat → Int32) → Prop} (hd : 1 ≤ d) (rv1 : Nat) (hrv1 : x_man rv1) (v2 : Int32) (v3 : Int32) (w : Int32)
    (H : x_K E (d - 1) 100 [.ref 64, .ref rv1, .int v2] I (fun v I2 => x_P E d 101 16 [.ref 64, .ref rv1, .int v2, .int v3] (v.toList ++ [.int w]) I2 Q)) :
    x_P E d 101 12 [.ref 64, .ref rv1, .int v2, .int v3] [.int w] I Q := by
  refine wp_aload_n rfl rfl rfl ?_
  refine wp_aload_n rfl rfl rfl ?_
  refine wp_iload_n rfl rfl rfl ?_
  refine s_invV (As := [.ref rv1, .int v2]) (d1 := d - 1) rfl ⟨by decide, by decide⟩ rfl rfl rfl (Nat.le_of_ble_eq_true rfl) (by omega) (kd_64 _) (by decide) rfl rfl H ?_
  intro v I2 h2
  exact h2
set_option maxRecDepth 20000 in
theorem r_C_bench_16 {E : XE} {d : Nat} {I : Nat → Nat → Int32} {Q : Option Value → (Nat → Nat → Int32) → Prop} (hd : 1 ≤ d) (rv1 : Nat) (hrv1 : x_man rv1) (v2 : Int32) (v3 : Int32) (s0 : Int32) (w : Int32)
    (H : x_K E (d - 1) 1 [.int w] I (fun v I2 => x_P E d 101 17 [.ref 64, .ref rv1, .int v2, .int v3] (v.toList ++ [.int s0]) I2 Q)) :
    x_P E d 101 16 [.ref 64, .ref rv1, .int v2, .int v3] [.int w, .int s0] I Q := by
  refine s_invSt (As := [.int w]) (d1 := d - 1) rfl ⟨by decide, by decide⟩ rfl rfl rfl (Nat.le_of_ble_eq_true rfl) (by omega) H ?_
  intro v I2 h2
  exact h2
set_option maxRecDepth 20000 in
theorem r_C_bench_17 {E : XE} {d : Nat} {I : Nat → Nat → Int32} {Q : Option Value → (Nat → Nat → Int32) → Prop} (hd : 1 ≤ d) (rv1 : Nat) (hrv1 : x_man rv1) (v2 : Int32) (v3 : Int32) (s0 : Int32) (w : Int32)
    (H : ((s0 ≤ w → x_P E d 101 4 [.ref 64, .ref rv1, .int v2, .int (v3 + 1)] [] I Q) ∧ (¬ (s0 ≤ w) → x_P E d 101 4 [.ref 64, .ref rv1, .int v3, .int (v3 + 1)] [] I Q))) :
    x_P E d 101 17 [.ref 64, .ref rv1, .int v2, .int v3] [.int w, .int s0] I Q := by
  refine wp_icmp_le rfl (fun c_1 => ?_) (fun c_1 => ?_)
  · replace H := H.1 c_1
    refine wp_iinc (v := v3 + 1) (L' := [.ref 64, .ref rv1, .int v2, .int (v3 + 1)]) rfl rfl rfl rfl rfl ?_
    refine wp_goto rfl ?_
    exact H
  · replace H := H.2 c_1
    refine wp_iload_n rfl rfl rfl ?_
    refine wp_istore_n (L' := [.ref 64, .ref rv1, .int v3, .int v3]) rfl rfl (by decide) rfl rfl ?_
    refine wp_iinc (v := v3 + 1) (L' := [.ref 64, .ref rv1, .int v3, .int (v3 + 1)]) rfl rfl rfl rfl rfl ?_
    refine wp_goto rfl ?_
    exact H
set_option maxRecDepth 20000 in
theorem r_C_isNear_0 {E : XE} {d : Nat} {I : Nat → Nat → Int32} {Q : Option Value → (Nat → Nat → Int32) → Prop} (hd : 1 ≤ d) (a1 : Int32) (a2 : Int32)
    (H : x_P E d 102 2 [.ref 64, .int a1, .int a2, .int (0 : Int32), x_jk, x_jk] [] I Q) :
    x_P E d 102 0 [.ref 64, .int a1, .int a2, x_jk, x_jk, x_jk] [] I Q := by
  refine wp_iconst (v := (0 : Int32)) rfl (by decide) ?_
  refine wp_istore_n (L' := [.ref 64, .int a1, .int a2, .int (0 : Int32), x_jk, x_jk]) rfl rfl (by decide) rfl rfl ?_
  exact H
set_option maxRecDepth 20000 in
theorem r_C_isNear_2 {E : XE} {d : Nat} {I : Nat → Nat → Int32} {Q : Option Value → (Nat → Nat → Int32) → Prop} (hd : 1 ≤ d) (v1 : Int32) (v2 : Int32) (v3 : Int32)
    (H : (((I 65 1) ≤ v3 → Q (some (.int (1 : Int32))) I) ∧ (¬ ((I 65 1) ≤ v3) → x_P E d 102 11 [.ref 64, .int v1, .int v2, .int v3, .int (v3 + (1 : Int32)), x_jk] [] I Q))) :
    x_P E d 102 2 [.ref 64, .int v1, .int v2, .int v3, x_jk, x_jk] [] I Q := by
  refine wp_iload_n rfl rfl rfl ?_
  refine wp_aload_n rfl rfl rfl ?_
  refine wp_getR (v := .ref 65) rfl (by decide) (kd_64 _) rfl (kr_64_0 _) ?_
  refine s_getI rfl (by decide) (kd_65 _) rfl ?_
  refine wp_icmp_ge rfl (fun c_1 => ?_) (fun c_1 => ?_)
  · replace H := H.1 c_1
    refine wp_iconst (v := (1 : Int32)) rfl (by decide) ?_
    exact s_iret rfl rfl rfl H
  · replace H := H.2 c_1
    refine wp_iload_n rfl rfl rfl ?_
    refine wp_iconst (v := (1 : Int32)) rfl (by decide) ?_
    refine wp_iadd rfl ?_
    refine wp_istore (L' := [.ref 64, .int v1, .int v2, .int v3, .int (v3 + (1 : Int32)), x_jk]) rfl (by decide) rfl rfl ?_
    exact H
set_option maxRecDepth 20000 in
theorem r_C_isNear_11 {E : XE} {d : Nat} {I : Nat → Nat → Int32} {Q : Option Value → (Nat → Nat → Int32) → Prop} (hd : 1 ≤ d) (v1 : Int32) (v2 : Int32) (v3 : Int32) (v4 : Int32)
    (H : (((I 65 1) ≤ v4 → x_P E d 102 2 [.ref 64, .int v1, .int v2, .int (v3 + 1), x_jk, x_jk] [] I Q) ∧ (¬ ((I 65 1) ≤ v4) → ((¬ ((((v1 >>> (v3 &&& 31)) &&& (v1 >>> (v4 &&& 31))) &&& (1 : Int32)) = 0) → (vp_in v3 6) ∧ (vp_in v4 6) ∧ x_K E (d - 1) 26 [.ref (85 + 2 * v3.toNatClampNeg), .ref (85 + 2 * v4.toNatClampNeg)] I (fun v I2 => x_P E d 102 43 [.ref 64, .int v1, .int v2, .int v3, .int v4, x_jk] (v.toList ++ []) I2 Q)) ∧ (¬ (¬ ((((v1 >>> (v3 &&& 31)) &&& (v1 >>> (v4 &&& 31))) &&& (1 : Int32)) = 0)) → x_P E d 102 11 [.ref 64, .int v1, .int v2, .int v3, .int (v4 + 1), x_jk] [] I Q))))) :
    x_P E d 102 11 [.ref 64, .int v1, .int v2, .int v3, .int v4, x_jk] [] I Q := by
  refine wp_iload rfl rfl ?_
  refine wp_aload_n rfl rfl rfl ?_
  refine wp_getR (v := .ref 65) rfl (by decide) (kd_64 _) rfl (kr_64_0 _) ?_
  refine s_getI rfl (by decide) (kd_65 _) rfl ?_
  refine wp_icmp_ge rfl (fun c_1 => ?_) (fun c_1 => ?_)
  · replace H := H.1 c_1
    refine wp_iinc (v := v3 + 1) (L' := [.ref 64, .int v1, .int v2, .int (v3 + 1), .int v4, x_jk]) rfl rfl rfl rfl rfl ?_
    refine wp_goto rfl ?_
    exact x_P.weak (L := [.ref 64, .int v1, .int v2, .int (v3 + 1), x_jk, x_jk]) (by exact ⟨Or.inr rfl, ⟨Or.inr rfl, ⟨Or.inr rfl, ⟨Or.inr rfl, ⟨Or.inl rfl, ⟨Or.inr rfl, trivial⟩⟩⟩⟩⟩⟩) H
  · replace H := H.2 c_1
    refine wp_iload_n rfl rfl rfl ?_
    refine wp_iload_n rfl rfl rfl ?_
    refine wp_ishr rfl ?_
    refine wp_iload_n rfl rfl rfl ?_
    refine wp_iload rfl rfl ?_
    refine wp_ishr rfl ?_
    refine wp_iand rfl ?_
    refine wp_iconst (v := (1 : Int32)) rfl (by decide) ?_
    refine wp_iand rfl ?_
    have J : x_P E d 102 29 [.ref 64, .int v1, .int v2, .int v3, .int v4, x_jk] [.int (x_bi (¬ ((((v1 >>> (v3 &&& 31)) &&& (v1 >>> (v4 &&& 31))) &&& (1 : Int32)) = 0)))] I Q := by
      refine wp_istore (L' := [.ref 64, .int v1, .int v2, .int v3, .int v4, .int (x_bi (¬ ((((v1 >>> (v3 &&& 31)) &&& (v1 >>> (v4 &&& 31))) &&& (1 : Int32)) = 0)))]) rfl (by decide) rfl rfl ?_
      refine wp_iload rfl rfl ?_
      refine s_bi_eq rfl (fun c_3 => ?_) (fun c_3 => ?_)
      · replace H := H.2 c_3
        refine wp_iinc (v := v4 + 1) (L' := [.ref 64, .int v1, .int v2, .int v3, .int (v4 + 1), .int (x_bi (¬ ((((v1 >>> (v3 &&& 31)) &&& (v1 >>> (v4 &&& 31))) &&& (1 : Int32)) = 0)))]) rfl rfl rfl rfl rfl ?_
        refine wp_goto rfl ?_
        exact x_P.weak (L := [.ref 64, .int v1, .int v2, .int v3, .int (v4 + 1), x_jk]) (by exact ⟨Or.inr rfl, ⟨Or.inr rfl, ⟨Or.inr rfl, ⟨Or.inr rfl, ⟨Or.inr rfl, ⟨Or.inl rfl, trivial⟩⟩⟩⟩⟩⟩) H
      · replace H := H.1 c_3
        refine wp_aload_n rfl rfl rfl ?_
        refine wp_getR (v := .ref 65) rfl (by decide) (kd_64 _) rfl (kr_64_0 _) ?_
        refine wp_getR (v := .ref 66) rfl (by decide) (kd_65 _) rfl (kr_65_0 _) ?_
        refine wp_iload_n rfl rfl rfl ?_
        obtain ⟨o_4, H⟩ := H
        refine wp_aald (v := .ref (85 + 2 * v3.toNatClampNeg)) rfl (kd_66 _) o_4 (x_man_now (x_in_lt o_4)).2 ?_
        refine wp_aload_n rfl rfl rfl ?_
        refine wp_getR (v := .ref 65) rfl (by decide) (kd_64 _) rfl (kr_64_0 _) ?_
        refine wp_getR (v := .ref 66) rfl (by decide) (kd_65 _) rfl (kr_65_0 _) ?_
        refine wp_iload rfl rfl ?_
        obtain ⟨o_5, H⟩ := H
        refine wp_aald (v := .ref (85 + 2 * v4.toNatClampNeg)) rfl (kd_66 _) o_5 (x_man_now (x_in_lt o_5)).2 ?_
        refine s_invV (As := [.ref (85 + 2 * v4.toNatClampNeg)]) (d1 := d - 1) rfl ⟨by decide, by decide⟩ rfl rfl rfl (Nat.le_of_ble_eq_true rfl) (by omega) ((x_man_now (x_in_lt o_4)).1.1 _) (by decide) rfl rfl H ?_
        intro v I2 h2
        exact x_P.weak (L := [.ref 64, .int v1, .int v2, .int v3, .int v4, x_jk]) (by exact ⟨Or.inr rfl, ⟨Or.inr rfl, ⟨Or.inr rfl, ⟨Or.inr rfl, ⟨Or.inr rfl, ⟨Or.inl rfl, trivial⟩⟩⟩⟩⟩⟩) h2
    refine wp_if_eq rfl (fun c_2 => ?_) (fun c_2 => ?_)
    · refine wp_iconst (v := (0 : Int32)) rfl (by decide) ?_
      exact x_P.cong rfl (by rw [show x_bi (¬ ((((v1 >>> (v3 &&& 31)) &&& (v1 >>> (v4 &&& 31))) &&& (1 : Int32)) = 0)) = (0 : Int32) from x_bi_f (fun h => h c_2)]) J
    · refine wp_iconst (v := (1 : Int32)) rfl (by decide) ?_
      refine wp_goto rfl ?_
      exact x_P.cong rfl (by rw [show x_bi (¬ ((((v1 >>> (v3 &&& 31)) &&& (v1 >>> (v4 &&& 31))) &&& (1 : Int32)) = 0)) = (1 : Int32) from x_bi_t c_2]) J
set_option maxRecDepth 20000 in
theorem r_C_isNear_43 {E : XE} {d : Nat} {I : Nat → Nat → Int32} {Q : Option Value → (Nat → Nat → Int32) → Prop} (hd : 1 ≤ d) (v1 : Int32) (v2 : Int32) (v3 : Int32) (v4 : Int32) (w : Int32)
    (H : ((w ≤ v2 → x_P E d 102 11 [.ref 64, .int v1, .int v2, .int v3, .int (v4 + 1), x_jk] [] I Q) ∧ (¬ (w ≤ v2) → Q (some (.int (0 : Int32))) I))) :
    x_P E d 102 43 [.ref 64, .int v1, .int v2, .int v3, .int v4, x_jk] [.int w] I Q := by
  refine wp_iload_n rfl rfl rfl ?_
  refine wp_icmp_le rfl (fun c_1 => ?_) (fun c_1 => ?_)
  · replace H := H.1 c_1
    refine wp_iinc (v := v4 + 1) (L' := [.ref 64, .int v1, .int v2, .int v3, .int (v4 + 1), x_jk]) rfl rfl rfl rfl rfl ?_
    refine wp_goto rfl ?_
    exact H
  · replace H := H.2 c_1
    refine wp_iconst (v := (0 : Int32)) rfl (by decide) ?_
    exact s_iret rfl rfl rfl H
set_option maxRecDepth 20000 in
theorem r_C_fitting_0 {E : XE} {d : Nat} {I : Nat → Nat → Int32} {Q : Option Value → (Nat → Nat → Int32) → Prop} (hd : 2 ≤ d) (r1 : Nat) (hm1 : x_man r1) (a2 : Int32) (a3 : Int32)
    (H : ((0 ≤ a2 ∧ a2 ≤ (1 : Int32) → x_K E (d - 1) 104 [.ref 64, .int (I r1 0)] I (fun v I2 => x_P E d 103 12 [.ref 64, .ref r1, .int a2, .int a3, x_jk, x_jk, x_jk, x_jk, x_jk] (v.toList ++ []) I2 Q)) ∧ (¬ (0 ≤ a2 ∧ a2 ≤ (1 : Int32)) → Q (some (.int (-1 : Int32))) I))) :
    x_P E d 103 0 [.ref 64, .ref r1, .int a2, .int a3, x_jk, x_jk, x_jk, x_jk, x_jk] [] I Q := by
  refine wp_aload_n rfl rfl rfl ?_
  refine wp_ifnull rfl hm1.2.2.2 ?_
  refine wp_iload_n rfl rfl rfl ?_
  refine wp_iconst (v := (1 : Int32)) rfl (by decide) ?_
  refine s_invStP (As := [.int a2, .int (1 : Int32)]) (d1 := d - 1) rfl ⟨by decide, by decide⟩ rfl rfl rfl (Nat.le_of_ble_eq_true rfl) (by omega) (p_isUpTo (by omega)) ?_
  refine s_bi_ne rfl (fun c_1 => ?_) (fun c_1 => ?_)
  · replace H := H.1 c_1
    refine wp_aload_n rfl rfl rfl ?_
    refine wp_aload_n rfl rfl rfl ?_
    refine s_getI rfl (by decide) (hm1.1 _) rfl ?_
    refine s_invV (As := [.int (I r1 0)]) (d1 := d - 1) rfl ⟨by decide, by decide⟩ rfl rfl rfl (Nat.le_of_ble_eq_true rfl) (by omega) (kd_64 _) (by decide) rfl rfl H ?_
    intro v I2 h2
    exact h2
  · replace H := H.2 c_1
    refine wp_iconst (v := (-1 : Int32)) rfl (by decide) ?_
    exact s_iret rfl rfl rfl H
set_option maxRecDepth 20000 in
theorem r_C_fitting_12 {E : XE} {d : Nat} {I : Nat → Nat → Int32} {Q : Option Value → (Nat → Nat → Int32) → Prop} (hd : 1 ≤ d) (rv1 : Nat) (hrv1 : x_man rv1) (v2 : Int32) (v3 : Int32) (w : Int32)
    (H : (∀ z_2, z_2 = (if v3 = 0 then (9 : Int32) else (99 : Int32)) → x_P E d 103 25 [.ref 64, .ref rv1, .int v2, .int v3, .int w, x_jk, .int (0 : Int32), .int (-5 : Int32), .int z_2] [] I Q)) :
    x_P E d 103 12 [.ref 64, .ref rv1, .int v2, .int v3, x_jk, x_jk, x_jk, x_jk, x_jk] [.int w] I Q := by
  refine wp_istore (L' := [.ref 64, .ref rv1, .int v2, .int v3, .int w, x_jk, x_jk, x_jk, x_jk]) rfl (by decide) rfl rfl ?_
  refine wp_iload_n rfl rfl rfl ?_
  obtain ⟨z_2, hz_2⟩ : ∃ z : Int32, z = (if v3 = 0 then (9 : Int32) else (99 : Int32)) := ⟨_, rfl⟩
  replace H := H _ hz_2
  have J : x_P E d 103 18 [.ref 64, .ref rv1, .int v2, .int v3, .int w, x_jk, x_jk, x_jk, x_jk] [.int z_2] I Q := by
    refine wp_istore (L' := [.ref 64, .ref rv1, .int v2, .int v3, .int w, .int z_2, x_jk, x_jk, x_jk]) rfl (by decide) rfl rfl ?_
    refine wp_iconst (v := (0 : Int32)) rfl (by decide) ?_
    refine wp_istore (L' := [.ref 64, .ref rv1, .int v2, .int v3, .int w, .int z_2, .int (0 : Int32), x_jk, x_jk]) rfl (by decide) rfl rfl ?_
    refine wp_bipush (v := (-5 : Int32)) rfl (by decide) ?_
    refine wp_istore (L' := [.ref 64, .ref rv1, .int v2, .int v3, .int w, .int z_2, .int (0 : Int32), .int (-5 : Int32), x_jk]) rfl (by decide) rfl rfl ?_
    refine wp_iload rfl rfl ?_
    refine wp_istore (L' := [.ref 64, .ref rv1, .int v2, .int v3, .int w, .int z_2, .int (0 : Int32), .int (-5 : Int32), .int z_2]) rfl (by decide) rfl rfl ?_
    exact x_P.weak (L := [.ref 64, .ref rv1, .int v2, .int v3, .int w, x_jk, .int (0 : Int32), .int (-5 : Int32), .int z_2]) (by exact ⟨Or.inr rfl, ⟨Or.inr rfl, ⟨Or.inr rfl, ⟨Or.inr rfl, ⟨Or.inr rfl, ⟨Or.inl rfl, ⟨Or.inr rfl, ⟨Or.inr rfl, ⟨Or.inr rfl, trivial⟩⟩⟩⟩⟩⟩⟩⟩⟩) H
  refine wp_if_eq rfl (fun c_1 => ?_) (fun c_1 => ?_)
  · refine wp_bipush (v := (9 : Int32)) rfl (by decide) ?_
    exact x_P.cong rfl (by rw [show z_2 = (9 : Int32) from by rw [hz_2]; simp only [if_pos c_1]]) J
  · refine wp_bipush (v := (99 : Int32)) rfl (by decide) ?_
    refine wp_goto rfl ?_
    exact x_P.cong rfl (by rw [show z_2 = (99 : Int32) from by rw [hz_2]; simp only [if_neg c_1]]) J
set_option maxRecDepth 20000 in
theorem r_C_fitting_25 {E : XE} {d : Nat} {I : Nat → Nat → Int32} {Q : Option Value → (Nat → Nat → Int32) → Prop} (hd : 1 ≤ d) (rv1 : Nat) (hrv1 : x_man rv1) (v2 : Int32) (v3 : Int32) (v4 : Int32) (v6 : Int32) (v7 : Int32) (v8 : Int32)
    (H : ((v8 < 0 → Q (some (.int (if v2 = 0 then v6 else v7))) I) ∧ (¬ (v8 < 0) → x_K E (d - 1) 24 [.ref 129, .ref rv1] I (fun v I2 => x_P E d 103 31 [.ref 64, .ref rv1, .int v2, .int v3, .int v4, x_jk, .int v6, .int v7, .int v8] (v.toList ++ []) I2 Q)))) :
    x_P E d 103 25 [.ref 64, .ref rv1, .int v2, .int v3, .int v4, x_jk, .int v6, .int v7, .int v8] [] I Q := by
  refine wp_iload rfl rfl ?_
  refine wp_if_lt rfl (fun c_1 => ?_) (fun c_1 => ?_)
  · replace H := H.1 c_1
    refine wp_iload_n rfl rfl rfl ?_
    have J : x_P E d 103 56 [.ref 64, .ref rv1, .int v2, .int v3, .int v4, x_jk, .int v6, .int v7, .int v8] [.int (if v2 = 0 then v6 else v7)] I Q := by
      exact s_iret rfl rfl rfl H
    refine wp_if_ne rfl (fun c_2 => ?_) (fun c_2 => ?_)
    · refine wp_iload rfl rfl ?_
      exact x_P.cong rfl (by rw [show (if v2 = 0 then v6 else v7) = v7 from by simp only [if_neg c_2]]) J
    · refine wp_iload rfl rfl ?_
      refine wp_goto rfl ?_
      exact x_P.cong rfl (by rw [show (if v2 = 0 then v6 else v7) = v6 from by simp only [if_pos c_2]]) J
  · replace H := H.2 c_1
    refine wp_aload_n rfl rfl rfl ?_
    refine wp_getR (v := .ref 129) rfl (by decide) (kd_64 _) rfl (kr_64_3 _) ?_
    refine wp_aload_n rfl rfl rfl ?_
    refine s_invV (As := [.ref rv1]) (d1 := d - 1) rfl ⟨by decide, by decide⟩ rfl rfl rfl (Nat.le_of_ble_eq_true rfl) (by omega) (kd_129 _) (by decide) rfl rfl H ?_
    intro v I2 h2
    exact h2
set_option maxRecDepth 20000 in
theorem r_C_fitting_31 {E : XE} {d : Nat} {I : Nat → Nat → Int32} {Q : Option Value → (Nat → Nat → Int32) → Prop} (hd : 1 ≤ d) (rv1 : Nat) (hrv1 : x_man rv1) (v2 : Int32) (v3 : Int32) (v4 : Int32) (v6 : Int32) (v7 : Int32) (v8 : Int32)
    (H : ((v3 = 0 → (∀ I_2, I_2 = x_up I 129 2 v8 → x_K E (d - 1) 105 [.ref 64, .int v4] I_2 (fun v I2 => x_P E d 103 45 [.ref 64, .ref rv1, .int v2, .int v3, .int v4, x_jk, .int v6, .int v7, .int v8] (v.toList ++ []) I2 Q))) ∧ (¬ (v3 = 0) → (∀ I_3, I_3 = x_up I 129 5 v8 → x_K E (d - 1) 105 [.ref 64, .int v4] I_3 (fun v I2 => x_P E d 103 45 [.ref 64, .ref rv1, .int v2, .int v3, .int v4, x_jk, .int v6, .int v7, .int v8] (v.toList ++ []) I2 Q))))) :
    x_P E d 103 31 [.ref 64, .ref rv1, .int v2, .int v3, .int v4, x_jk, .int v6, .int v7, .int v8] [] I Q := by
  refine wp_iload_n rfl rfl rfl ?_
  refine wp_if_eq rfl (fun c_1 => ?_) (fun c_1 => ?_)
  · replace H := H.1 c_1
    refine wp_aload_n rfl rfl rfl ?_
    refine wp_getR (v := .ref 129) rfl (by decide) (kd_64 _) rfl (kr_64_3 _) ?_
    refine wp_iload rfl rfl ?_
    refine s_putI rfl (by decide) (kd_129 _) rfl rfl (x_fit_int _) ?_
    generalize hI_2 : x_up I 129 2 v8 = I_2
    replace H := H _ hI_2.symm
    refine wp_aload_n rfl rfl rfl ?_
    refine wp_iload rfl rfl ?_
    refine s_invV (As := [.int v4]) (d1 := d - 1) rfl ⟨by decide, by decide⟩ rfl rfl rfl (Nat.le_of_ble_eq_true rfl) (by omega) (kd_64 _) (by decide) rfl rfl H ?_
    intro v I2 h2
    exact h2
  · replace H := H.2 c_1
    refine wp_aload_n rfl rfl rfl ?_
    refine wp_getR (v := .ref 129) rfl (by decide) (kd_64 _) rfl (kr_64_3 _) ?_
    refine wp_iload rfl rfl ?_
    refine s_putI rfl (by decide) (kd_129 _) rfl rfl (x_fit_int _) ?_
    generalize hI_3 : x_up I 129 5 v8 = I_3
    replace H := H _ hI_3.symm
    refine wp_goto rfl ?_
    refine wp_aload_n rfl rfl rfl ?_
    refine wp_iload rfl rfl ?_
    refine s_invV (As := [.int v4]) (d1 := d - 1) rfl ⟨by decide, by decide⟩ rfl rfl rfl (Nat.le_of_ble_eq_true rfl) (by omega) (kd_64 _) (by decide) rfl rfl H ?_
    intro v I2 h2
    exact h2
set_option maxRecDepth 20000 in
theorem r_C_fitting_45 {E : XE} {d : Nat} {I : Nat → Nat → Int32} {Q : Option Value → (Nat → Nat → Int32) → Prop} (hd : 1 ≤ d) (rv1 : Nat) (hrv1 : x_man rv1) (v2 : Int32) (v3 : Int32) (v4 : Int32) (v6 : Int32) (v7 : Int32) (v8 : Int32) (w : Int32)
    (H : ((w = 0 → x_P E d 103 25 [.ref 64, .ref rv1, .int v2, .int v3, .int v4, x_jk, .int v6, .int v7, .int (v8 + (-1))] [] I Q) ∧ (¬ (w = 0) → x_P E d 103 25 [.ref 64, .ref rv1, .int v2, .int v3, .int v4, x_jk, .int (v6 + 1), .int v8, .int (v8 + (-1))] [] I Q))) :
    x_P E d 103 45 [.ref 64, .ref rv1, .int v2, .int v3, .int v4, x_jk, .int v6, .int v7, .int v8] [.int w] I Q := by
  refine wp_if_eq rfl (fun c_1 => ?_) (fun c_1 => ?_)
  · replace H := H.1 c_1
    refine wp_iinc (v := v8 + (-1)) (L' := [.ref 64, .ref rv1, .int v2, .int v3, .int v4, x_jk, .int v6, .int v7, .int (v8 + (-1))]) rfl rfl rfl rfl rfl ?_
    refine wp_goto rfl ?_
    exact H
  · replace H := H.2 c_1
    refine wp_iinc (v := v6 + 1) (L' := [.ref 64, .ref rv1, .int v2, .int v3, .int v4, x_jk, .int (v6 + 1), .int v7, .int v8]) rfl rfl rfl rfl rfl ?_
    refine wp_iload rfl rfl ?_
    refine wp_istore (L' := [.ref 64, .ref rv1, .int v2, .int v3, .int v4, x_jk, .int (v6 + 1), .int v8, .int v8]) rfl (by decide) rfl rfl ?_
    refine wp_iinc (v := v8 + (-1)) (L' := [.ref 64, .ref rv1, .int v2, .int v3, .int v4, x_jk, .int (v6 + 1), .int v8, .int (v8 + (-1))]) rfl rfl rfl rfl rfl ?_
    refine wp_goto rfl ?_
    exact H
set_option maxRecDepth 20000 in
theorem r_C_latestSeen_0 {E : XE} {d : Nat} {I : Nat → Nat → Int32} {Q : Option Value → (Nat → Nat → Int32) → Prop} (hd : 1 ≤ d) (a1 : Int32)
    (H : x_P E d 104 4 [.ref 64, .int a1, .int (-1 : Int32), .int (0 : Int32)] [] I Q) :
    x_P E d 104 0 [.ref 64, .int a1, x_jk, x_jk] [] I Q := by
  refine wp_iconst (v := (-1 : Int32)) rfl (by decide) ?_
  refine wp_istore_n (L' := [.ref 64, .int a1, .int (-1 : Int32), x_jk]) rfl rfl (by decide) rfl rfl ?_
  refine wp_iconst (v := (0 : Int32)) rfl (by decide) ?_
  refine wp_istore_n (L' := [.ref 64, .int a1, .int (-1 : Int32), .int (0 : Int32)]) rfl rfl (by decide) rfl rfl ?_
  exact H
set_option maxRecDepth 20000 in
theorem r_C_latestSeen_4 {E : XE} {d : Nat} {I : Nat → Nat → Int32} {Q : Option Value → (Nat → Nat → Int32) → Prop} (hd : 1 ≤ d) (v1 : Int32) (v2 : Int32) (v3 : Int32)
    (H : (((I 73 3) ≤ v3 → Q (some (.int v2)) I) ∧ (¬ ((I 73 3) ≤ v3) → (vp_in v3 8) ∧ (((I 74 v3.toNatClampNeg) = v1 → (vp_in v3 8) ∧ x_P E d 104 4 [.ref 64, .int v1, .int (if v2 < (I 75 v3.toNatClampNeg) then (I 75 v3.toNatClampNeg) else v2), .int (v3 + 1)] [] I Q) ∧ (¬ ((I 74 v3.toNatClampNeg) = v1) → x_P E d 104 4 [.ref 64, .int v1, .int v2, .int (v3 + 1)] [] I Q))))) :
    x_P E d 104 4 [.ref 64, .int v1, .int v2, .int v3] [] I Q := by
  refine wp_iload_n rfl rfl rfl ?_
  refine wp_aload_n rfl rfl rfl ?_
  refine wp_getR (v := .ref 65) rfl (by decide) (kd_64 _) rfl (kr_64_0 _) ?_
  refine wp_getR (v := .ref 73) rfl (by decide) (kd_65 _) rfl (kr_65_7 _) ?_
  refine s_getI rfl (by decide) (kd_73 _) rfl ?_
  refine wp_icmp_ge rfl (fun c_1 => ?_) (fun c_1 => ?_)
  · replace H := H.1 c_1
    refine wp_iload_n rfl rfl rfl ?_
    exact s_iret rfl rfl rfl H
  · replace H := H.2 c_1
    refine wp_aload_n rfl rfl rfl ?_
    refine wp_getR (v := .ref 65) rfl (by decide) (kd_64 _) rfl (kr_64_0 _) ?_
    refine wp_getR (v := .ref 73) rfl (by decide) (kd_65 _) rfl (kr_65_7 _) ?_
    refine wp_getR (v := .ref 74) rfl (by decide) (kd_73 _) rfl (kr_73_0 _) ?_
    refine wp_iload_n rfl rfl rfl ?_
    obtain ⟨o_2, H⟩ := H
    refine s_iald rfl (kd_74 _) o_2 ?_
    refine wp_iload_n rfl rfl rfl ?_
    refine wp_icmp_ne rfl (fun c_3 => ?_) (fun c_3 => ?_)
    · replace H := H.2 c_3
      refine wp_iinc (v := v3 + 1) (L' := [.ref 64, .int v1, .int v2, .int (v3 + 1)]) rfl rfl rfl rfl rfl ?_
      refine wp_goto rfl ?_
      exact H
    · replace H := H.1 c_3
      refine wp_iload_n rfl rfl rfl ?_
      refine wp_aload_n rfl rfl rfl ?_
      refine wp_getR (v := .ref 65) rfl (by decide) (kd_64 _) rfl (kr_64_0 _) ?_
      refine wp_getR (v := .ref 73) rfl (by decide) (kd_65 _) rfl (kr_65_7 _) ?_
      refine wp_getR (v := .ref 75) rfl (by decide) (kd_73 _) rfl (kr_73_1 _) ?_
      refine wp_iload_n rfl rfl rfl ?_
      obtain ⟨o_4, H⟩ := H
      refine s_iald rfl (kd_75 _) o_4 ?_
      refine s_mmax rfl rfl (Nat.le_of_ble_eq_true rfl) (by omega) ?_
      refine wp_istore_n (L' := [.ref 64, .int v1, .int (if v2 < (I 75 v3.toNatClampNeg) then (I 75 v3.toNatClampNeg) else v2), .int v3]) rfl rfl (by decide) rfl rfl ?_
      refine wp_iinc (v := v3 + 1) (L' := [.ref 64, .int v1, .int (if v2 < (I 75 v3.toNatClampNeg) then (I 75 v3.toNatClampNeg) else v2), .int (v3 + 1)]) rfl rfl rfl rfl rfl ?_
      refine wp_goto rfl ?_
      exact H
set_option maxRecDepth 20000 in
theorem r_C_isGhostAsSeen_0 {E : XE} {d : Nat} {I : Nat → Nat → Int32} {Q : Option Value → (Nat → Nat → Int32) → Prop} (hd : 1 ≤ d) (a1 : Int32)
    (H : x_P E d 105 2 [.ref 64, .int a1, .int (0 : Int32)] [] I Q) :
    x_P E d 105 0 [.ref 64, .int a1, x_jk] [] I Q := by
  refine wp_iconst (v := (0 : Int32)) rfl (by decide) ?_
  refine wp_istore_n (L' := [.ref 64, .int a1, .int (0 : Int32)]) rfl rfl (by decide) rfl rfl ?_
  exact H
set_option maxRecDepth 20000 in
theorem r_C_isGhostAsSeen_2 {E : XE} {d : Nat} {I : Nat → Nat → Int32} {Q : Option Value → (Nat → Nat → Int32) → Prop} (hd : 1 ≤ d) (v1 : Int32) (v2 : Int32)
    (H : ((v1 < v2 → Q (some (.int (1 : Int32))) I) ∧ (¬ (v1 < v2) → x_K E (d - 1) 106 [.ref 64, .int v2] I (fun v I2 => x_P E d 105 8 [.ref 64, .int v1, .int v2] (v.toList ++ []) I2 Q)))) :
    x_P E d 105 2 [.ref 64, .int v1, .int v2] [] I Q := by
  refine wp_iload_n rfl rfl rfl ?_
  refine wp_iload_n rfl rfl rfl ?_
  refine wp_icmp_gt rfl (fun c_1 => ?_) (fun c_1 => ?_)
  · replace H := H.1 c_1
    refine wp_iconst (v := (1 : Int32)) rfl (by decide) ?_
    exact s_iret rfl rfl rfl H
  · replace H := H.2 c_1
    refine wp_aload_n rfl rfl rfl ?_
    refine wp_iload_n rfl rfl rfl ?_
    refine s_invV (As := [.int v2]) (d1 := d - 1) rfl ⟨by decide, by decide⟩ rfl rfl rfl (Nat.le_of_ble_eq_true rfl) (by omega) (kd_64 _) (by decide) rfl rfl H ?_
    intro v I2 h2
    exact h2
set_option maxRecDepth 20000 in
theorem r_C_isGhostAsSeen_8 {E : XE} {d : Nat} {I : Nat → Nat → Int32} {Q : Option Value → (Nat → Nat → Int32) → Prop} (hd : 1 ≤ d) (v1 : Int32) (v2 : Int32) (w : Int32)
    (H : ((w = 0 → Q (some (.int (0 : Int32))) I) ∧ (¬ (w = 0) → x_K E (d - 1) 28 [.ref 129, .ref 68, .int ((I 65 2) + v2)] I (fun v I2 => x_P E d 105 22 [.ref 64, .int v1, .int v2] (v.toList ++ []) I2 Q)))) :
    x_P E d 105 8 [.ref 64, .int v1, .int v2] [.int w] I Q := by
  refine wp_if_ne rfl (fun c_1 => ?_) (fun c_1 => ?_)
  · replace H := H.2 c_1
    refine wp_aload_n rfl rfl rfl ?_
    refine wp_getR (v := .ref 129) rfl (by decide) (kd_64 _) rfl (kr_64_3 _) ?_
    refine wp_aload_n rfl rfl rfl ?_
    refine wp_getR (v := .ref 65) rfl (by decide) (kd_64 _) rfl (kr_64_0 _) ?_
    refine wp_getR (v := .ref 68) rfl (by decide) (kd_65 _) rfl (kr_65_5 _) ?_
    refine wp_aload_n rfl rfl rfl ?_
    refine wp_getR (v := .ref 65) rfl (by decide) (kd_64 _) rfl (kr_64_0 _) ?_
    refine s_getI rfl (by decide) (kd_65 _) rfl ?_
    refine wp_iload_n rfl rfl rfl ?_
    refine wp_iadd rfl ?_
    refine s_invV (As := [.ref 68, .int ((I 65 2) + v2)]) (d1 := d - 1) rfl ⟨by decide, by decide⟩ rfl rfl rfl (Nat.le_of_ble_eq_true rfl) (by omega) (kd_129 _) (by decide) rfl rfl H ?_
    intro v I2 h2
    exact h2
  · replace H := H.1 c_1
    refine wp_iconst (v := (0 : Int32)) rfl (by decide) ?_
    exact s_iret rfl rfl rfl H
set_option maxRecDepth 20000 in
theorem r_C_isGhostAsSeen_22 {E : XE} {d : Nat} {I : Nat → Nat → Int32} {Q : Option Value → (Nat → Nat → Int32) → Prop} (hd : 1 ≤ d) (v1 : Int32) (v2 : Int32)
    (H : x_P E d 105 2 [.ref 64, .int v1, .int (v2 + 1)] [] I Q) :
    x_P E d 105 22 [.ref 64, .int v1, .int v2] [] I Q := by
  refine wp_iinc (v := v2 + 1) (L' := [.ref 64, .int v1, .int (v2 + 1)]) rfl rfl rfl rfl rfl ?_
  refine wp_goto rfl ?_
  exact H
set_option maxRecDepth 20000 in
theorem r_C_isGhostAsSeenAt_0 {E : XE} {d : Nat} {I : Nat → Nat → Int32} {Q : Option Value → (Nat → Nat → Int32) → Prop} (hd : 1 ≤ d) (a1 : Int32)
    (H : x_P E d 106 6 [.ref 64, .int a1, .ref 73, .int (0 : Int32), x_jk] [] I Q) :
    x_P E d 106 0 [.ref 64, .int a1, x_jk, x_jk, x_jk] [] I Q := by
  refine wp_aload_n rfl rfl rfl ?_
  refine wp_getR (v := .ref 65) rfl (by decide) (kd_64 _) rfl (kr_64_0 _) ?_
  refine wp_getR (v := .ref 73) rfl (by decide) (kd_65 _) rfl (kr_65_7 _) ?_
  refine wp_astore_n (L' := [.ref 64, .int a1, .ref 73, x_jk, x_jk]) rfl rfl (by decide) rfl rfl ?_
  refine wp_iconst (v := (0 : Int32)) rfl (by decide) ?_
  refine wp_istore_n (L' := [.ref 64, .int a1, .ref 73, .int (0 : Int32), x_jk]) rfl rfl (by decide) rfl rfl ?_
  exact H
set_option maxRecDepth 20000 in
theorem r_C_isGhostAsSeenAt_6 {E : XE} {d : Nat} {I : Nat → Nat → Int32} {Q : Option Value → (Nat → Nat → Int32) → Prop} (hd : 1 ≤ d) (v1 : Int32) (v3 : Int32)
    (H : (((I 73 3) ≤ v3 → Q (some (.int (1 : Int32))) I) ∧ (¬ ((I 73 3) ≤ v3) → (vp_in v3 8) ∧ (((I 74 v3.toNatClampNeg) = (I 129 0) → vp_in v3 8)) ∧ ((((I 74 v3.toNatClampNeg) = (I 129 0)) ∧ ((I 75 v3.toNatClampNeg) = v1) → (vp_in v3 8) ∧ (((I 76 v3.toNatClampNeg) = (I 129 5) → x_P E d 106 6 [.ref 64, .int v1, .ref 73, .int (v3 + 1), x_jk] [] I Q) ∧ (¬ ((I 76 v3.toNatClampNeg) = (I 129 5)) → Q (some (.int (0 : Int32))) I))) ∧ (¬ (((I 74 v3.toNatClampNeg) = (I 129 0)) ∧ ((I 75 v3.toNatClampNeg) = v1)) → x_P E d 106 6 [.ref 64, .int v1, .ref 73, .int (v3 + 1), x_jk] [] I Q))))) :
    x_P E d 106 6 [.ref 64, .int v1, .ref 73, .int v3, x_jk] [] I Q := by
  refine wp_iload_n rfl rfl rfl ?_
  refine wp_aload_n rfl rfl rfl ?_
  refine s_getI rfl (by decide) (kd_73 _) rfl ?_
  refine wp_icmp_ge rfl (fun c_1 => ?_) (fun c_1 => ?_)
  · replace H := H.1 c_1
    refine wp_iconst (v := (1 : Int32)) rfl (by decide) ?_
    exact s_iret rfl rfl rfl H
  · replace H := H.2 c_1
    refine wp_aload_n rfl rfl rfl ?_
    refine wp_getR (v := .ref 74) rfl (by decide) (kd_73 _) rfl (kr_73_0 _) ?_
    refine wp_iload_n rfl rfl rfl ?_
    obtain ⟨o_2, H⟩ := H
    refine s_iald rfl (kd_74 _) o_2 ?_
    refine wp_aload_n rfl rfl rfl ?_
    refine wp_getR (v := .ref 129) rfl (by decide) (kd_64 _) rfl (kr_64_3 _) ?_
    refine s_getI rfl (by decide) (kd_129 _) rfl ?_
    obtain ⟨o_4, H⟩ := H
    have J : x_P E d 106 27 [.ref 64, .int v1, .ref 73, .int v3, x_jk] [.int (x_bi (((I 74 v3.toNatClampNeg) = (I 129 0)) ∧ ((I 75 v3.toNatClampNeg) = v1)))] I Q := by
      refine wp_istore (L' := [.ref 64, .int v1, .ref 73, .int v3, .int (x_bi (((I 74 v3.toNatClampNeg) = (I 129 0)) ∧ ((I 75 v3.toNatClampNeg) = v1)))]) rfl (by decide) rfl rfl ?_
      refine wp_iload rfl rfl ?_
      refine s_bi_eq rfl (fun c_6 => ?_) (fun c_6 => ?_)
      · replace H := H.2 c_6
        refine wp_iinc (v := v3 + 1) (L' := [.ref 64, .int v1, .ref 73, .int (v3 + 1), .int (x_bi (((I 74 v3.toNatClampNeg) = (I 129 0)) ∧ ((I 75 v3.toNatClampNeg) = v1)))]) rfl rfl rfl rfl rfl ?_
        refine wp_goto rfl ?_
        exact x_P.weak (L := [.ref 64, .int v1, .ref 73, .int (v3 + 1), x_jk]) (by exact ⟨Or.inr rfl, ⟨Or.inr rfl, ⟨Or.inr rfl, ⟨Or.inr rfl, ⟨Or.inl rfl, trivial⟩⟩⟩⟩⟩) H
      · replace H := H.1 c_6
        refine wp_aload_n rfl rfl rfl ?_
        refine wp_getR (v := .ref 76) rfl (by decide) (kd_73 _) rfl (kr_73_2 _) ?_
        refine wp_iload_n rfl rfl rfl ?_
        obtain ⟨o_7, H⟩ := H
        refine s_iald rfl (kd_76 _) o_7 ?_
        refine wp_aload_n rfl rfl rfl ?_
        refine wp_getR (v := .ref 129) rfl (by decide) (kd_64 _) rfl (kr_64_3 _) ?_
        refine s_getI rfl (by decide) (kd_129 _) rfl ?_
        refine wp_icmp_eq rfl (fun c_8 => ?_) (fun c_8 => ?_)
        · replace H := H.1 c_8
          refine wp_iinc (v := v3 + 1) (L' := [.ref 64, .int v1, .ref 73, .int (v3 + 1), .int (x_bi (((I 74 v3.toNatClampNeg) = (I 129 0)) ∧ ((I 75 v3.toNatClampNeg) = v1)))]) rfl rfl rfl rfl rfl ?_
          refine wp_goto rfl ?_
          exact x_P.weak (L := [.ref 64, .int v1, .ref 73, .int (v3 + 1), x_jk]) (by exact ⟨Or.inr rfl, ⟨Or.inr rfl, ⟨Or.inr rfl, ⟨Or.inr rfl, ⟨Or.inl rfl, trivial⟩⟩⟩⟩⟩) H
        · replace H := H.2 c_8
          refine wp_iconst (v := (0 : Int32)) rfl (by decide) ?_
          exact s_iret rfl rfl rfl H
    refine wp_icmp_ne rfl (fun c_3 => ?_) (fun c_3 => ?_)
    · refine wp_iconst (v := (0 : Int32)) rfl (by decide) ?_
      exact x_P.cong rfl (by rw [show x_bi (((I 74 v3.toNatClampNeg) = (I 129 0)) ∧ ((I 75 v3.toNatClampNeg) = v1)) = (0 : Int32) from x_bi_f (fun h => c_3 h.1)]) J
    · refine wp_aload_n rfl rfl rfl ?_
      refine wp_getR (v := .ref 75) rfl (by decide) (kd_73 _) rfl (kr_73_1 _) ?_
      refine wp_iload_n rfl rfl rfl ?_
      refine s_iald rfl (kd_75 _) (o_4 c_3) ?_
      refine wp_iload_n rfl rfl rfl ?_
      refine wp_icmp_ne rfl (fun c_5 => ?_) (fun c_5 => ?_)
      · refine wp_iconst (v := (0 : Int32)) rfl (by decide) ?_
        exact x_P.cong rfl (by rw [show x_bi (((I 74 v3.toNatClampNeg) = (I 129 0)) ∧ ((I 75 v3.toNatClampNeg) = v1)) = (0 : Int32) from x_bi_f (fun h => c_5 h.2)]) J
      · refine wp_iconst (v := (1 : Int32)) rfl (by decide) ?_
        refine wp_goto rfl ?_
        exact x_P.cong rfl (by rw [show x_bi (((I 74 v3.toNatClampNeg) = (I 129 0)) ∧ ((I 75 v3.toNatClampNeg) = v1)) = (1 : Int32) from x_bi_t ⟨c_3, c_5⟩]) J
set_option maxRecDepth 20000 in
theorem r_C_followPlan_0 {E : XE} {d : Nat} {I : Nat → Nat → Int32} {Q : Option Value → (Nat → Nat → Int32) → Prop} (hd : 1 ≤ d) 
    (H : x_P E d 107 6 [.ref 64, .int (I 65 2), .int (0 : Int32), x_jk, x_jk] [] I Q) :
    x_P E d 107 0 [.ref 64, x_jk, x_jk, x_jk, x_jk] [] I Q := by
  refine wp_aload_n rfl rfl rfl ?_
  refine wp_getR (v := .ref 65) rfl (by decide) (kd_64 _) rfl (kr_64_0 _) ?_
  refine s_getI rfl (by decide) (kd_65 _) rfl ?_
  refine wp_istore_n (L' := [.ref 64, .int (I 65 2), x_jk, x_jk, x_jk]) rfl rfl (by decide) rfl rfl ?_
  refine wp_iconst (v := (0 : Int32)) rfl (by decide) ?_
  refine wp_istore_n (L' := [.ref 64, .int (I 65 2), .int (0 : Int32), x_jk, x_jk]) rfl rfl (by decide) rfl rfl ?_
  exact H
set_option maxRecDepth 20000 in
theorem r_C_followPlan_6 {E : XE} {d : Nat} {I : Nat → Nat → Int32} {Q : Option Value → (Nat → Nat → Int32) → Prop} (hd : 1 ≤ d) (v1 : Int32) (v2 : Int32)
    (H : (((I 77 3) ≤ v2 → Q none I) ∧ (¬ ((I 77 3) ≤ v2) → (vp_in v2 8) ∧ (vp_in v2 8) ∧ (((I 78 v2.toNatClampNeg) = 0 → x_K E (d - 1) 28 [.ref 129, .ref 68, .int v1] I (fun v I2 => x_P E d 107 42 [.ref 64, .int v1, .int v2, x_jk, x_jk] (v.toList ++ []) I2 Q)) ∧ (¬ ((I 78 v2.toNatClampNeg) = 0) → (((I 78 v2.toNatClampNeg) = (1 : Int32) → (((I 79 v2.toNatClampNeg) = (I 129 0) → (∀ I_26, I_26 = x_up I 129 5 (0 : Int32) → x_P E d 107 6 [.ref 64, .int v1, .int (v2 + 1), x_jk, x_jk] [] I_26 Q)) ∧ (¬ ((I 79 v2.toNatClampNeg) = (I 129 0)) → (((I 78 v2.toNatClampNeg) = (2 : Int32) → (((I 79 v2.toNatClampNeg) = (I 129 0) → (∀ I_25, I_25 = x_up I 129 6 (0 : Int32) → x_P E d 107 6 [.ref 64, .int v1, .int (v2 + 1), x_jk, x_jk] [] I_25 Q)) ∧ (¬ ((I 79 v2.toNatClampNeg) = (I 129 0)) → (((I 78 v2.toNatClampNeg) = (3 : Int32) → (((I 79 v2.toNatClampNeg) = (I 129 0) → (∀ I_24, I_24 = x_up I 129 7 (1 : Int32) → x_P E d 107 6 [.ref 64, .int v1, .int (v2 + 1), x_jk, x_jk] [] I_24 Q)) ∧ (¬ ((I 79 v2.toNatClampNeg) = (I 129 0)) → x_P E d 107 6 [.ref 64, .int v1, .int (v2 + 1), x_jk, x_jk] [] I Q))) ∧ (¬ ((I 78 v2.toNatClampNeg) = (3 : Int32)) → x_P E d 107 6 [.ref 64, .int v1, .int (v2 + 1), x_jk, x_jk] [] I Q))))) ∧ (¬ ((I 78 v2.toNatClampNeg) = (2 : Int32)) → (((I 78 v2.toNatClampNeg) = (3 : Int32) → (((I 79 v2.toNatClampNeg) = (I 129 0) → (∀ I_20, I_20 = x_up I 129 7 (1 : Int32) → x_P E d 107 6 [.ref 64, .int v1, .int (v2 + 1), x_jk, x_jk] [] I_20 Q)) ∧ (¬ ((I 79 v2.toNatClampNeg) = (I 129 0)) → x_P E d 107 6 [.ref 64, .int v1, .int (v2 + 1), x_jk, x_jk] [] I Q))) ∧ (¬ ((I 78 v2.toNatClampNeg) = (3 : Int32)) → x_P E d 107 6 [.ref 64, .int v1, .int (v2 + 1), x_jk, x_jk] [] I Q))))))) ∧ (¬ ((I 78 v2.toNatClampNeg) = (1 : Int32)) → (((I 78 v2.toNatClampNeg) = (2 : Int32) → (((I 79 v2.toNatClampNeg) = (I 129 0) → (∀ I_15, I_15 = x_up I 129 6 (0 : Int32) → x_P E d 107 6 [.ref 64, .int v1, .int (v2 + 1), x_jk, x_jk] [] I_15 Q)) ∧ (¬ ((I 79 v2.toNatClampNeg) = (I 129 0)) → (((I 78 v2.toNatClampNeg) = (3 : Int32) → (((I 79 v2.toNatClampNeg) = (I 129 0) → (∀ I_14, I_14 = x_up I 129 7 (1 : Int32) → x_P E d 107 6 [.ref 64, .int v1, .int (v2 + 1), x_jk, x_jk] [] I_14 Q)) ∧ (¬ ((I 79 v2.toNatClampNeg) = (I 129 0)) → x_P E d 107 6 [.ref 64, .int v1, .int (v2 + 1), x_jk, x_jk] [] I Q))) ∧ (¬ ((I 78 v2.toNatClampNeg) = (3 : Int32)) → x_P E d 107 6 [.ref 64, .int v1, .int (v2 + 1), x_jk, x_jk] [] I Q))))) ∧ (¬ ((I 78 v2.toNatClampNeg) = (2 : Int32)) → (((I 78 v2.toNatClampNeg) = (3 : Int32) → (((I 79 v2.toNatClampNeg) = (I 129 0) → (∀ I_10, I_10 = x_up I 129 7 (1 : Int32) → x_P E d 107 6 [.ref 64, .int v1, .int (v2 + 1), x_jk, x_jk] [] I_10 Q)) ∧ (¬ ((I 79 v2.toNatClampNeg) = (I 129 0)) → x_P E d 107 6 [.ref 64, .int v1, .int (v2 + 1), x_jk, x_jk] [] I Q))) ∧ (¬ ((I 78 v2.toNatClampNeg) = (3 : Int32)) → x_P E d 107 6 [.ref 64, .int v1, .int (v2 + 1), x_jk, x_jk] [] I Q))))))))))) :
    x_P E d 107 6 [.ref 64, .int v1, .int v2, x_jk, x_jk] [] I Q := by
  refine wp_iload_n rfl rfl rfl ?_
  refine wp_aload_n rfl rfl rfl ?_
  refine wp_getR (v := .ref 65) rfl (by decide) (kd_64 _) rfl (kr_64_0 _) ?_
  refine wp_getR (v := .ref 77) rfl (by decide) (kd_65 _) rfl (kr_65_8 _) ?_
  refine s_getI rfl (by decide) (kd_77 _) rfl ?_
  refine wp_icmp_ge rfl (fun c_1 => ?_) (fun c_1 => ?_)
  · replace H := H.1 c_1
    exact s_vret rfl rfl H
  · replace H := H.2 c_1
    refine wp_aload_n rfl rfl rfl ?_
    refine wp_getR (v := .ref 65) rfl (by decide) (kd_64 _) rfl (kr_64_0 _) ?_
    refine wp_getR (v := .ref 77) rfl (by decide) (kd_65 _) rfl (kr_65_8 _) ?_
    refine wp_getR (v := .ref 78) rfl (by decide) (kd_77 _) rfl (kr_77_0 _) ?_
    refine wp_iload_n rfl rfl rfl ?_
    obtain ⟨o_2, H⟩ := H
    refine s_iald rfl (kd_78 _) o_2 ?_
    refine wp_istore_n (L' := [.ref 64, .int v1, .int v2, .int (I 78 v2.toNatClampNeg), x_jk]) rfl rfl (by decide) rfl rfl ?_
    refine wp_aload_n rfl rfl rfl ?_
    refine wp_getR (v := .ref 65) rfl (by decide) (kd_64 _) rfl (kr_64_0 _) ?_
    refine wp_getR (v := .ref 77) rfl (by decide) (kd_65 _) rfl (kr_65_8 _) ?_
    refine wp_getR (v := .ref 79) rfl (by decide) (kd_77 _) rfl (kr_77_1 _) ?_
    refine wp_iload_n rfl rfl rfl ?_
    obtain ⟨o_3, H⟩ := H
    refine s_iald rfl (kd_79 _) o_3 ?_
    refine wp_aload_n rfl rfl rfl ?_
    refine wp_getR (v := .ref 129) rfl (by decide) (kd_64 _) rfl (kr_64_3 _) ?_
    refine s_getI rfl (by decide) (kd_129 _) rfl ?_
    have J : x_P E d 107 32 [.ref 64, .int v1, .int v2, .int (I 78 v2.toNatClampNeg), x_jk] [.int (x_bi ((I 79 v2.toNatClampNeg) = (I 129 0)))] I Q := by
      refine wp_istore (L' := [.ref 64, .int v1, .int v2, .int (I 78 v2.toNatClampNeg), .int (x_bi ((I 79 v2.toNatClampNeg) = (I 129 0)))]) rfl (by decide) rfl rfl ?_
      refine wp_iload_n rfl rfl rfl ?_
      refine wp_if_ne rfl (fun c_5 => ?_) (fun c_5 => ?_)
      · replace H := H.2 c_5
        refine wp_iload_n rfl rfl rfl ?_
        refine wp_iconst (v := (1 : Int32)) rfl (by decide) ?_
        refine wp_icmp_ne rfl (fun c_6 => ?_) (fun c_6 => ?_)
        · replace H := H.2 c_6
          refine wp_iload_n rfl rfl rfl ?_
          refine wp_iconst (v := (2 : Int32)) rfl (by decide) ?_
          refine wp_icmp_ne rfl (fun c_7 => ?_) (fun c_7 => ?_)
          · replace H := H.2 c_7
            refine wp_iload_n rfl rfl rfl ?_
            refine wp_iconst (v := (3 : Int32)) rfl (by decide) ?_
            refine wp_icmp_ne rfl (fun c_8 => ?_) (fun c_8 => ?_)
            · replace H := H.2 c_8
              refine wp_iinc (v := v2 + 1) (L' := [.ref 64, .int v1, .int (v2 + 1), .int (I 78 v2.toNatClampNeg), .int (x_bi ((I 79 v2.toNatClampNeg) = (I 129 0)))]) rfl rfl rfl rfl rfl ?_
              refine wp_goto rfl ?_
              exact x_P.weak (L := [.ref 64, .int v1, .int (v2 + 1), x_jk, x_jk]) (by exact ⟨Or.inr rfl, ⟨Or.inr rfl, ⟨Or.inr rfl, ⟨Or.inl rfl, ⟨Or.inl rfl, trivial⟩⟩⟩⟩⟩) H
            · replace H := H.1 c_8
              refine wp_iload rfl rfl ?_
              refine s_bi_eq rfl (fun c_9 => ?_) (fun c_9 => ?_)
              · replace H := H.2 c_9
                refine wp_iinc (v := v2 + 1) (L' := [.ref 64, .int v1, .int (v2 + 1), .int (I 78 v2.toNatClampNeg), .int (x_bi ((I 79 v2.toNatClampNeg) = (I 129 0)))]) rfl rfl rfl rfl rfl ?_
                refine wp_goto rfl ?_
                exact x_P.weak (L := [.ref 64, .int v1, .int (v2 + 1), x_jk, x_jk]) (by exact ⟨Or.inr rfl, ⟨Or.inr rfl, ⟨Or.inr rfl, ⟨Or.inl rfl, ⟨Or.inl rfl, trivial⟩⟩⟩⟩⟩) H
              · replace H := H.1 c_9
                refine wp_aload_n rfl rfl rfl ?_
                refine wp_getR (v := .ref 129) rfl (by decide) (kd_64 _) rfl (kr_64_3 _) ?_
                refine wp_iconst (v := (1 : Int32)) rfl (by decide) ?_
                refine s_putI rfl (by decide) (kd_129 _) rfl rfl x_fit_b1 ?_
                generalize hI_10 : x_up I 129 7 (1 : Int32) = I_10
                replace H := H _ hI_10.symm
                refine wp_iinc (v := v2 + 1) (L' := [.ref 64, .int v1, .int (v2 + 1), .int (I 78 v2.toNatClampNeg), .int (x_bi ((I 79 v2.toNatClampNeg) = (I 129 0)))]) rfl rfl rfl rfl rfl ?_
                refine wp_goto rfl ?_
                exact x_P.weak (L := [.ref 64, .int v1, .int (v2 + 1), x_jk, x_jk]) (by exact ⟨Or.inr rfl, ⟨Or.inr rfl, ⟨Or.inr rfl, ⟨Or.inl rfl, ⟨Or.inl rfl, trivial⟩⟩⟩⟩⟩) H
          · replace H := H.1 c_7
            refine wp_iload rfl rfl ?_
            refine s_bi_eq rfl (fun c_11 => ?_) (fun c_11 => ?_)
            · replace H := H.2 c_11
              refine wp_iload_n rfl rfl rfl ?_
              refine wp_iconst (v := (3 : Int32)) rfl (by decide) ?_
              refine wp_icmp_ne rfl (fun c_12 => ?_) (fun c_12 => ?_)
              · replace H := H.2 c_12
                refine wp_iinc (v := v2 + 1) (L' := [.ref 64, .int v1, .int (v2 + 1), .int (I 78 v2.toNatClampNeg), .int (x_bi ((I 79 v2.toNatClampNeg) = (I 129 0)))]) rfl rfl rfl rfl rfl ?_
                refine wp_goto rfl ?_
                exact x_P.weak (L := [.ref 64, .int v1, .int (v2 + 1), x_jk, x_jk]) (by exact ⟨Or.inr rfl, ⟨Or.inr rfl, ⟨Or.inr rfl, ⟨Or.inl rfl, ⟨Or.inl rfl, trivial⟩⟩⟩⟩⟩) H
              · replace H := H.1 c_12
                refine wp_iload rfl rfl ?_
                refine s_bi_eq rfl (fun c_13 => ?_) (fun c_13 => ?_)
                · replace H := H.2 c_13
                  refine wp_iinc (v := v2 + 1) (L' := [.ref 64, .int v1, .int (v2 + 1), .int (I 78 v2.toNatClampNeg), .int (x_bi ((I 79 v2.toNatClampNeg) = (I 129 0)))]) rfl rfl rfl rfl rfl ?_
                  refine wp_goto rfl ?_
                  exact x_P.weak (L := [.ref 64, .int v1, .int (v2 + 1), x_jk, x_jk]) (by exact ⟨Or.inr rfl, ⟨Or.inr rfl, ⟨Or.inr rfl, ⟨Or.inl rfl, ⟨Or.inl rfl, trivial⟩⟩⟩⟩⟩) H
                · replace H := H.1 c_13
                  refine wp_aload_n rfl rfl rfl ?_
                  refine wp_getR (v := .ref 129) rfl (by decide) (kd_64 _) rfl (kr_64_3 _) ?_
                  refine wp_iconst (v := (1 : Int32)) rfl (by decide) ?_
                  refine s_putI rfl (by decide) (kd_129 _) rfl rfl x_fit_b1 ?_
                  generalize hI_14 : x_up I 129 7 (1 : Int32) = I_14
                  replace H := H _ hI_14.symm
                  refine wp_iinc (v := v2 + 1) (L' := [.ref 64, .int v1, .int (v2 + 1), .int (I 78 v2.toNatClampNeg), .int (x_bi ((I 79 v2.toNatClampNeg) = (I 129 0)))]) rfl rfl rfl rfl rfl ?_
                  refine wp_goto rfl ?_
                  exact x_P.weak (L := [.ref 64, .int v1, .int (v2 + 1), x_jk, x_jk]) (by exact ⟨Or.inr rfl, ⟨Or.inr rfl, ⟨Or.inr rfl, ⟨Or.inl rfl, ⟨Or.inl rfl, trivial⟩⟩⟩⟩⟩) H
            · replace H := H.1 c_11
              refine wp_aload_n rfl rfl rfl ?_
              refine wp_getR (v := .ref 129) rfl (by decide) (kd_64 _) rfl (kr_64_3 _) ?_
              refine wp_iconst (v := (0 : Int32)) rfl (by decide) ?_
              refine s_putI rfl (by decide) (kd_129 _) rfl rfl x_fit_b0 ?_
              generalize hI_15 : x_up I 129 6 (0 : Int32) = I_15
              replace H := H _ hI_15.symm
              refine wp_goto rfl ?_
              refine wp_iinc (v := v2 + 1) (L' := [.ref 64, .int v1, .int (v2 + 1), .int (I 78 v2.toNatClampNeg), .int (x_bi ((I 79 v2.toNatClampNeg) = (I 129 0)))]) rfl rfl rfl rfl rfl ?_
              refine wp_goto rfl ?_
              exact x_P.weak (L := [.ref 64, .int v1, .int (v2 + 1), x_jk, x_jk]) (by exact ⟨Or.inr rfl, ⟨Or.inr rfl, ⟨Or.inr rfl, ⟨Or.inl rfl, ⟨Or.inl rfl, trivial⟩⟩⟩⟩⟩) H
        · replace H := H.1 c_6
          refine wp_iload rfl rfl ?_
          refine s_bi_eq rfl (fun c_16 => ?_) (fun c_16 => ?_)
          · replace H := H.2 c_16
            refine wp_iload_n rfl rfl rfl ?_
            refine wp_iconst (v := (2 : Int32)) rfl (by decide) ?_
            refine wp_icmp_ne rfl (fun c_17 => ?_) (fun c_17 => ?_)
            · replace H := H.2 c_17
              refine wp_iload_n rfl rfl rfl ?_
              refine wp_iconst (v := (3 : Int32)) rfl (by decide) ?_
              refine wp_icmp_ne rfl (fun c_18 => ?_) (fun c_18 => ?_)
              · replace H := H.2 c_18
                refine wp_iinc (v := v2 + 1) (L' := [.ref 64, .int v1, .int (v2 + 1), .int (I 78 v2.toNatClampNeg), .int (x_bi ((I 79 v2.toNatClampNeg) = (I 129 0)))]) rfl rfl rfl rfl rfl ?_
                refine wp_goto rfl ?_
                exact x_P.weak (L := [.ref 64, .int v1, .int (v2 + 1), x_jk, x_jk]) (by exact ⟨Or.inr rfl, ⟨Or.inr rfl, ⟨Or.inr rfl, ⟨Or.inl rfl, ⟨Or.inl rfl, trivial⟩⟩⟩⟩⟩) H
              · replace H := H.1 c_18
                refine wp_iload rfl rfl ?_
                refine s_bi_eq rfl (fun c_19 => ?_) (fun c_19 => ?_)
                · replace H := H.2 c_19
                  refine wp_iinc (v := v2 + 1) (L' := [.ref 64, .int v1, .int (v2 + 1), .int (I 78 v2.toNatClampNeg), .int (x_bi ((I 79 v2.toNatClampNeg) = (I 129 0)))]) rfl rfl rfl rfl rfl ?_
                  refine wp_goto rfl ?_
                  exact x_P.weak (L := [.ref 64, .int v1, .int (v2 + 1), x_jk, x_jk]) (by exact ⟨Or.inr rfl, ⟨Or.inr rfl, ⟨Or.inr rfl, ⟨Or.inl rfl, ⟨Or.inl rfl, trivial⟩⟩⟩⟩⟩) H
                · replace H := H.1 c_19
                  refine wp_aload_n rfl rfl rfl ?_
                  refine wp_getR (v := .ref 129) rfl (by decide) (kd_64 _) rfl (kr_64_3 _) ?_
                  refine wp_iconst (v := (1 : Int32)) rfl (by decide) ?_
                  refine s_putI rfl (by decide) (kd_129 _) rfl rfl x_fit_b1 ?_
                  generalize hI_20 : x_up I 129 7 (1 : Int32) = I_20
                  replace H := H _ hI_20.symm
                  refine wp_iinc (v := v2 + 1) (L' := [.ref 64, .int v1, .int (v2 + 1), .int (I 78 v2.toNatClampNeg), .int (x_bi ((I 79 v2.toNatClampNeg) = (I 129 0)))]) rfl rfl rfl rfl rfl ?_
                  refine wp_goto rfl ?_
                  exact x_P.weak (L := [.ref 64, .int v1, .int (v2 + 1), x_jk, x_jk]) (by exact ⟨Or.inr rfl, ⟨Or.inr rfl, ⟨Or.inr rfl, ⟨Or.inl rfl, ⟨Or.inl rfl, trivial⟩⟩⟩⟩⟩) H
            · replace H := H.1 c_17
              refine wp_iload rfl rfl ?_
              refine s_bi_eq rfl (fun c_21 => ?_) (fun c_21 => ?_)
              · replace H := H.2 c_21
                refine wp_iload_n rfl rfl rfl ?_
                refine wp_iconst (v := (3 : Int32)) rfl (by decide) ?_
                refine wp_icmp_ne rfl (fun c_22 => ?_) (fun c_22 => ?_)
                · replace H := H.2 c_22
                  refine wp_iinc (v := v2 + 1) (L' := [.ref 64, .int v1, .int (v2 + 1), .int (I 78 v2.toNatClampNeg), .int (x_bi ((I 79 v2.toNatClampNeg) = (I 129 0)))]) rfl rfl rfl rfl rfl ?_
                  refine wp_goto rfl ?_
                  exact x_P.weak (L := [.ref 64, .int v1, .int (v2 + 1), x_jk, x_jk]) (by exact ⟨Or.inr rfl, ⟨Or.inr rfl, ⟨Or.inr rfl, ⟨Or.inl rfl, ⟨Or.inl rfl, trivial⟩⟩⟩⟩⟩) H
                · replace H := H.1 c_22
                  refine wp_iload rfl rfl ?_
                  refine s_bi_eq rfl (fun c_23 => ?_) (fun c_23 => ?_)
                  · replace H := H.2 c_23
                    refine wp_iinc (v := v2 + 1) (L' := [.ref 64, .int v1, .int (v2 + 1), .int (I 78 v2.toNatClampNeg), .int (x_bi ((I 79 v2.toNatClampNeg) = (I 129 0)))]) rfl rfl rfl rfl rfl ?_
                    refine wp_goto rfl ?_
                    exact x_P.weak (L := [.ref 64, .int v1, .int (v2 + 1), x_jk, x_jk]) (by exact ⟨Or.inr rfl, ⟨Or.inr rfl, ⟨Or.inr rfl, ⟨Or.inl rfl, ⟨Or.inl rfl, trivial⟩⟩⟩⟩⟩) H
                  · replace H := H.1 c_23
                    refine wp_aload_n rfl rfl rfl ?_
                    refine wp_getR (v := .ref 129) rfl (by decide) (kd_64 _) rfl (kr_64_3 _) ?_
                    refine wp_iconst (v := (1 : Int32)) rfl (by decide) ?_
                    refine s_putI rfl (by decide) (kd_129 _) rfl rfl x_fit_b1 ?_
                    generalize hI_24 : x_up I 129 7 (1 : Int32) = I_24
                    replace H := H _ hI_24.symm
                    refine wp_iinc (v := v2 + 1) (L' := [.ref 64, .int v1, .int (v2 + 1), .int (I 78 v2.toNatClampNeg), .int (x_bi ((I 79 v2.toNatClampNeg) = (I 129 0)))]) rfl rfl rfl rfl rfl ?_
                    refine wp_goto rfl ?_
                    exact x_P.weak (L := [.ref 64, .int v1, .int (v2 + 1), x_jk, x_jk]) (by exact ⟨Or.inr rfl, ⟨Or.inr rfl, ⟨Or.inr rfl, ⟨Or.inl rfl, ⟨Or.inl rfl, trivial⟩⟩⟩⟩⟩) H
              · replace H := H.1 c_21
                refine wp_aload_n rfl rfl rfl ?_
                refine wp_getR (v := .ref 129) rfl (by decide) (kd_64 _) rfl (kr_64_3 _) ?_
                refine wp_iconst (v := (0 : Int32)) rfl (by decide) ?_
                refine s_putI rfl (by decide) (kd_129 _) rfl rfl x_fit_b0 ?_
                generalize hI_25 : x_up I 129 6 (0 : Int32) = I_25
                replace H := H _ hI_25.symm
                refine wp_goto rfl ?_
                refine wp_iinc (v := v2 + 1) (L' := [.ref 64, .int v1, .int (v2 + 1), .int (I 78 v2.toNatClampNeg), .int (x_bi ((I 79 v2.toNatClampNeg) = (I 129 0)))]) rfl rfl rfl rfl rfl ?_
                refine wp_goto rfl ?_
                exact x_P.weak (L := [.ref 64, .int v1, .int (v2 + 1), x_jk, x_jk]) (by exact ⟨Or.inr rfl, ⟨Or.inr rfl, ⟨Or.inr rfl, ⟨Or.inl rfl, ⟨Or.inl rfl, trivial⟩⟩⟩⟩⟩) H
          · replace H := H.1 c_16
            refine wp_aload_n rfl rfl rfl ?_
            refine wp_getR (v := .ref 129) rfl (by decide) (kd_64 _) rfl (kr_64_3 _) ?_
            refine wp_iconst (v := (0 : Int32)) rfl (by decide) ?_
            refine s_putI rfl (by decide) (kd_129 _) rfl rfl (x_fit_int _) ?_
            generalize hI_26 : x_up I 129 5 (0 : Int32) = I_26
            replace H := H _ hI_26.symm
            refine wp_goto rfl ?_
            refine wp_iinc (v := v2 + 1) (L' := [.ref 64, .int v1, .int (v2 + 1), .int (I 78 v2.toNatClampNeg), .int (x_bi ((I 79 v2.toNatClampNeg) = (I 129 0)))]) rfl rfl rfl rfl rfl ?_
            refine wp_goto rfl ?_
            exact x_P.weak (L := [.ref 64, .int v1, .int (v2 + 1), x_jk, x_jk]) (by exact ⟨Or.inr rfl, ⟨Or.inr rfl, ⟨Or.inr rfl, ⟨Or.inl rfl, ⟨Or.inl rfl, trivial⟩⟩⟩⟩⟩) H
      · replace H := H.1 c_5
        refine wp_aload_n rfl rfl rfl ?_
        refine wp_getR (v := .ref 129) rfl (by decide) (kd_64 _) rfl (kr_64_3 _) ?_
        refine wp_aload_n rfl rfl rfl ?_
        refine wp_getR (v := .ref 65) rfl (by decide) (kd_64 _) rfl (kr_64_0 _) ?_
        refine wp_getR (v := .ref 68) rfl (by decide) (kd_65 _) rfl (kr_65_5 _) ?_
        refine wp_iload_n rfl rfl rfl ?_
        refine s_invV (As := [.ref 68, .int v1]) (d1 := d - 1) rfl ⟨by decide, by decide⟩ rfl rfl rfl (Nat.le_of_ble_eq_true rfl) (by omega) (kd_129 _) (by decide) rfl rfl H ?_
        intro v I2 h2
        exact x_P.weak (L := [.ref 64, .int v1, .int v2, x_jk, x_jk]) (by exact ⟨Or.inr rfl, ⟨Or.inr rfl, ⟨Or.inr rfl, ⟨Or.inl rfl, ⟨Or.inl rfl, trivial⟩⟩⟩⟩⟩) h2
    refine wp_icmp_ne rfl (fun c_4 => ?_) (fun c_4 => ?_)
    · refine wp_iconst (v := (0 : Int32)) rfl (by decide) ?_
      exact x_P.cong rfl (by rw [show x_bi ((I 79 v2.toNatClampNeg) = (I 129 0)) = (0 : Int32) from x_bi_f c_4]) J
    · refine wp_iconst (v := (1 : Int32)) rfl (by decide) ?_
      refine wp_goto rfl ?_
      exact x_P.cong rfl (by rw [show x_bi ((I 79 v2.toNatClampNeg) = (I 129 0)) = (1 : Int32) from x_bi_t c_4]) J
set_option maxRecDepth 20000 in
theorem r_C_followPlan_42 {E : XE} {d : Nat} {I : Nat → Nat → Int32} {Q : Option Value → (Nat → Nat → Int32) → Prop} (hd : 1 ≤ d) (v1 : Int32) (v2 : Int32)
    (H : x_P E d 107 6 [.ref 64, .int (v1 + 1), .int (v2 + 1), x_jk, x_jk] [] I Q) :
    x_P E d 107 42 [.ref 64, .int v1, .int v2, x_jk, x_jk] [] I Q := by
  refine wp_iinc (v := v1 + 1) (L' := [.ref 64, .int (v1 + 1), .int v2, x_jk, x_jk]) rfl rfl rfl rfl rfl ?_
  refine wp_goto rfl ?_
  refine wp_iinc (v := v2 + 1) (L' := [.ref 64, .int (v1 + 1), .int (v2 + 1), x_jk, x_jk]) rfl rfl rfl rfl rfl ?_
  refine wp_goto rfl ?_
  exact H
