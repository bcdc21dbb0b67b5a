set_option maxRecDepth 20000 in
theorem r_World_copyFromi_0 {E : XE} {d : Nat} {I : Nat → Nat → Int32} {Q : Option Value → (Nat → Nat → Int32) → Prop} (hd : 1 ≤ d) 
    (H : x_P E d 58 2 [.ref 97, .ref 65, .int (0 : Int32)] [] I Q) :
    x_P E d 58 0 [.ref 97, .ref 65, x_jk] [] I Q := by
  refine wp_iconst (v := (0 : Int32)) rfl (by decide) ?_
  refine wp_istore_n (L' := [.ref 97, .ref 65, .int (0 : Int32)]) rfl rfl (by decide) rfl rfl ?_
  exact H
set_option maxRecDepth 20000 in
theorem r_World_copyFromi_2 {E : XE} {d : Nat} {I : Nat → Nat → Int32} {Q : Option Value → (Nat → Nat → Int32) → Prop} (hd : 1 ≤ d) (v2 : Int32)
    (H : (((6 : Int32) ≤ v2 → (∀ I_2, I_2 = x_up I 97 1 (I 65 1) → (∀ I_3, I_3 = x_up I_2 97 2 (I_2 65 2) → (∀ j, j < 100 → fits .byte (.int (I_3 67 j)) = true) ∧ (∀ I_5, I_5 = x_cp I_3 67 99 (100 : Int32).toNatClampNeg → (∀ I_6, I_6 = x_up I_5 97 4 (I_5 65 4) → x_K E (d - 1) 50 [.ref 100, .ref 68] I_6 (fun v I2 => x_P E d 58 41 [.ref 97, .ref 65, x_jk] (v.toList ++ []) I2 Q)))))) ∧ (¬ ((6 : Int32) ≤ v2) → (vp_in v2 6) ∧ (vp_in v2 6) ∧ x_K E (d - 1) 24 [.ref (117 + 2 * v2.toNatClampNeg), .ref (85 + 2 * v2.toNatClampNeg)] I (fun v I2 => x_P E d 58 14 [.ref 97, .ref 65, .int v2] (v.toList ++ []) I2 Q)))) :
    x_P E d 58 2 [.ref 97, .ref 65, .int v2] [] I Q := by
  refine wp_iload_n rfl rfl rfl ?_
  refine wp_bipush (v := (6 : Int32)) rfl (by decide) ?_
  refine wp_icmp_ge rfl (fun c_1 => ?_) (fun c_1 => ?_)
  · replace H := H.1 c_1
    refine wp_aload_n rfl rfl rfl ?_
    refine wp_aload_n rfl rfl rfl ?_
    refine s_getI rfl (by decide) (kd_65 _) rfl ?_
    refine s_putI rfl (by decide) (kd_97 _) rfl rfl (x_fit_int _) ?_
    generalize hI_2 : x_up I 97 1 (I 65 1) = I_2
    replace H := H _ hI_2.symm
    refine wp_aload_n rfl rfl rfl ?_
    refine wp_aload_n rfl rfl rfl ?_
    refine s_getI rfl (by decide) (kd_65 _) rfl ?_
    refine s_putI rfl (by decide) (kd_97 _) rfl rfl (x_fit_int _) ?_
    generalize hI_3 : x_up I_2 97 2 (I_2 65 2) = I_3
    replace H := H _ hI_3.symm
    refine wp_aload_n rfl rfl rfl ?_
    refine wp_getR (v := .ref 67) rfl (by decide) (kd_65 _) rfl (kr_65_3 _) ?_
    refine wp_iconst (v := (0 : Int32)) rfl (by decide) ?_
    refine wp_aload_n rfl rfl rfl ?_
    refine wp_getR (v := .ref 99) rfl (by decide) (kd_97 _) rfl (kr_97_3 _) ?_
    refine wp_iconst (v := (0 : Int32)) rfl (by decide) ?_
    refine wp_bipush (v := (100 : Int32)) rfl (by decide) ?_
    obtain ⟨o_4, H⟩ := H
    refine s_copy rfl rfl (kd_67 _) (kd_99 _) (by decide) (by decide) (by decide) (by decide) (fun _ => o_4) (Nat.le_of_ble_eq_true rfl) (by omega) ?_
    generalize hI_5 : x_cp I_3 67 99 (100 : Int32).toNatClampNeg = I_5
    replace H := H _ hI_5.symm
    refine wp_aload_n rfl rfl rfl ?_
    refine wp_aload_n rfl rfl rfl ?_
    refine s_getI rfl (by decide) (kd_65 _) rfl ?_
    refine s_putI rfl (by decide) (kd_97 _) rfl rfl (x_fit_int _) ?_
    generalize hI_6 : x_up I_5 97 4 (I_5 65 4) = I_6
    replace H := H _ hI_6.symm
    refine wp_aload_n rfl rfl rfl ?_
    refine wp_getR (v := .ref 100) rfl (by decide) (kd_97 _) rfl (kr_97_5 _) ?_
    refine wp_aload_n rfl rfl rfl ?_
    refine wp_getR (v := .ref 68) rfl (by decide) (kd_65 _) rfl (kr_65_5 _) ?_
    refine s_invV (As := [.ref 68]) (d1 := d - 1) rfl ⟨by decide, by decide⟩ rfl rfl rfl (Nat.le_of_ble_eq_true rfl) (by omega) (kd_100 _) (by decide) rfl rfl H ?_
    intro v I2 h2
    exact x_P.weak (L := [.ref 97, .ref 65, x_jk]) (by exact ⟨Or.inr rfl, ⟨Or.inr rfl, ⟨Or.inl rfl, trivial⟩⟩⟩) h2
  · replace H := H.2 c_1
    refine wp_aload_n rfl rfl rfl ?_
    refine wp_getR (v := .ref 98) rfl (by decide) (kd_97 _) rfl (kr_97_0 _) ?_
    refine wp_iload_n rfl rfl rfl ?_
    obtain ⟨o_7, H⟩ := H
    refine wp_aald (v := .ref (117 + 2 * v2.toNatClampNeg)) rfl (kd_98 _) o_7 (x_man_img (x_in_lt o_7)).2 ?_
    refine wp_aload_n rfl rfl rfl ?_
    refine wp_getR (v := .ref 66) rfl (by decide) (kd_65 _) rfl (kr_65_0 _) ?_
    refine wp_iload_n rfl rfl rfl ?_
    obtain ⟨o_8, H⟩ := H
    refine wp_aald (v := .ref (85 + 2 * v2.toNatClampNeg)) rfl (kd_66 _) o_8 (x_man_now (x_in_lt o_8)).2 ?_
    refine s_invV (As := [.ref (85 + 2 * v2.toNatClampNeg)]) (d1 := d - 1) rfl ⟨by decide, by decide⟩ rfl rfl rfl (Nat.le_of_ble_eq_true rfl) (by omega) ((x_man_img (x_in_lt o_7)).1.1 _) (by decide) rfl rfl H ?_
    intro v I2 h2
    exact h2
set_option maxRecDepth 20000 in
theorem r_World_copyFromi_14 {E : XE} {d : Nat} {I : Nat → Nat → Int32} {Q : Option Value → (Nat → Nat → Int32) → Prop} (hd : 1 ≤ d) (v2 : Int32)
    (H : x_P E d 58 2 [.ref 97, .ref 65, .int (v2 + 1)] [] I Q) :
    x_P E d 58 14 [.ref 97, .ref 65, .int v2] [] I Q := by
  refine wp_iinc (v := v2 + 1) (L' := [.ref 97, .ref 65, .int (v2 + 1)]) rfl rfl rfl rfl rfl ?_
  refine wp_goto rfl ?_
  exact H
set_option maxRecDepth 20000 in
theorem r_World_copyFromi_41 {E : XE} {d : Nat} {I : Nat → Nat → Int32} {Q : Option Value → (Nat → Nat → Int32) → Prop} (hd : 1 ≤ d) 
    (H : (∀ I_1, I_1 = x_up I 97 6 (I 65 6) → x_K E (d - 1) 47 [.ref 105, .ref 73] I_1 (fun v I2 => x_P E d 58 50 [.ref 97, .ref 65, x_jk] (v.toList ++ []) I2 Q))) :
    x_P E d 58 41 [.ref 97, .ref 65, x_jk] [] I Q := by
  refine wp_aload_n rfl rfl rfl ?_
  refine wp_aload_n rfl rfl rfl ?_
  refine s_getI rfl (by decide) (kd_65 _) rfl ?_
  refine s_putI rfl (by decide) (kd_97 _) rfl rfl (x_fit_int _) ?_
  generalize hI_1 : x_up I 97 6 (I 65 6) = I_1
  replace H := H _ hI_1.symm
  refine wp_aload_n rfl rfl rfl ?_
  refine wp_getR (v := .ref 105) rfl (by decide) (kd_97 _) rfl (kr_97_7 _) ?_
  refine wp_aload_n rfl rfl rfl ?_
  refine wp_getR (v := .ref 73) rfl (by decide) (kd_65 _) rfl (kr_65_7 _) ?_
  refine s_invV (As := [.ref 73]) (d1 := d - 1) rfl ⟨by decide, by decide⟩ rfl rfl rfl (Nat.le_of_ble_eq_true rfl) (by omega) (kd_105 _) (by decide) rfl rfl H ?_
  intro v I2 h2
  exact h2
set_option maxRecDepth 20000 in
theorem r_World_copyFromi_50 {E : XE} {d : Nat} {I : Nat → Nat → Int32} {Q : Option Value → (Nat → Nat → Int32) → Prop} (hd : 1 ≤ d) 
    (H : x_K E (d - 1) 47 [.ref 109, .ref 77] I (fun v I2 => x_P E d 58 55 [.ref 97, .ref 65, x_jk] (v.toList ++ []) I2 Q)) :
    x_P E d 58 50 [.ref 97, .ref 65, x_jk] [] I Q := by
  refine wp_aload_n rfl rfl rfl ?_
  refine wp_getR (v := .ref 109) rfl (by decide) (kd_97 _) rfl (kr_97_8 _) ?_
  refine wp_aload_n rfl rfl rfl ?_
  refine wp_getR (v := .ref 77) rfl (by decide) (kd_65 _) rfl (kr_65_8 _) ?_
  refine s_invV (As := [.ref 77]) (d1 := d - 1) rfl ⟨by decide, by decide⟩ rfl rfl rfl (Nat.le_of_ble_eq_true rfl) (by omega) (kd_109 _) (by decide) rfl rfl H ?_
  intro v I2 h2
  exact h2
set_option maxRecDepth 20000 in
theorem r_World_copyFromi_55 {E : XE} {d : Nat} {I : Nat → Nat → Int32} {Q : Option Value → (Nat → Nat → Int32) → Prop} (hd : 1 ≤ d) 
    (H : x_K E (d - 1) 47 [.ref 113, .ref 81] I (fun v I2 => x_P E d 58 60 [x_jk, x_jk, x_jk] (v.toList ++ []) I2 Q)) :
    x_P E d 58 55 [.ref 97, .ref 65, x_jk] [] I Q := by
  refine wp_aload_n rfl rfl rfl ?_
  refine wp_getR (v := .ref 113) rfl (by decide) (kd_97 _) rfl (kr_97_9 _) ?_
  refine wp_aload_n rfl rfl rfl ?_
  refine wp_getR (v := .ref 81) rfl (by decide) (kd_65 _) rfl (kr_65_9 _) ?_
  refine s_invV (As := [.ref 81]) (d1 := d - 1) rfl ⟨by decide, by decide⟩ rfl rfl rfl (Nat.le_of_ble_eq_true rfl) (by omega) (kd_113 _) (by decide) rfl rfl H ?_
  intro v I2 h2
  exact x_P.weak (L := [x_jk, x_jk, x_jk]) (by exact ⟨Or.inl rfl, ⟨Or.inl rfl, ⟨Or.inr rfl, trivial⟩⟩⟩) h2
set_option maxRecDepth 20000 in
theorem r_World_copyFromi_60 {E : XE} {d : Nat} {I : Nat → Nat → Int32} {Q : Option Value → (Nat → Nat → Int32) → Prop} (hd : 1 ≤ d) 
    (H : Q none I) :
    x_P E d 58 60 [x_jk, x_jk, x_jk] [] I Q := by
  exact s_vret rfl rfl H
set_option maxRecDepth 20000 in
theorem r_World_copyFromu_0 {E : XE} {d : Nat} {I : Nat → Nat → Int32} {Q : Option Value → (Nat → Nat → Int32) → Prop} (hd : 1 ≤ d) 
    (H : x_P E d 58 2 [.ref 65, .ref 97, .int (0 : Int32)] [] I Q) :
    x_P E d 58 0 [.ref 65, .ref 97, x_jk] [] I Q := by
  refine wp_iconst (v := (0 : Int32)) rfl (by decide) ?_
  refine wp_istore_n (L' := [.ref 65, .ref 97, .int (0 : Int32)]) rfl rfl (by decide) rfl rfl ?_
  exact H
set_option maxRecDepth 20000 in
theorem r_World_copyFromu_2 {E : XE} {d : Nat} {I : Nat → Nat → Int32} {Q : Option Value → (Nat → Nat → Int32) → Prop} (hd : 1 ≤ d) (v2 : Int32)
    (H : (((6 : Int32) ≤ v2 → (∀ I_2, I_2 = x_up I 65 1 (I 97 1) → (∀ I_3, I_3 = x_up I_2 65 2 (I_2 97 2) → (∀ j, j < 100 → fits .byte (.int (I_3 99 j)) = true) ∧ (∀ I_5, I_5 = x_cp I_3 99 67 (100 : Int32).toNatClampNeg → (∀ I_6, I_6 = x_up I_5 65 4 (I_5 97 4) → x_K E (d - 1) 50 [.ref 68, .ref 100] I_6 (fun v I2 => x_P E d 58 41 [.ref 65, .ref 97, x_jk] (v.toList ++ []) I2 Q)))))) ∧ (¬ ((6 : Int32) ≤ v2) → (vp_in v2 6) ∧ (vp_in v2 6) ∧ x_K E (d - 1) 24 [.ref (85 + 2 * v2.toNatClampNeg), .ref (117 + 2 * v2.toNatClampNeg)] I (fun v I2 => x_P E d 58 14 [.ref 65, .ref 97, .int v2] (v.toList ++ []) I2 Q)))) :
    x_P E d 58 2 [.ref 65, .ref 97, .int v2] [] I Q := by
  refine wp_iload_n rfl rfl rfl ?_
  refine wp_bipush (v := (6 : Int32)) rfl (by decide) ?_
  refine wp_icmp_ge rfl (fun c_1 => ?_) (fun c_1 => ?_)
  · replace H := H.1 c_1
    refine wp_aload_n rfl rfl rfl ?_
    refine wp_aload_n rfl rfl rfl ?_
    refine s_getI rfl (by decide) (kd_97 _) rfl ?_
    refine s_putI rfl (by decide) (kd_65 _) rfl rfl (x_fit_int _) ?_
    generalize hI_2 : x_up I 65 1 (I 97 1) = I_2
    replace H := H _ hI_2.symm
    refine wp_aload_n rfl rfl rfl ?_
    refine wp_aload_n rfl rfl rfl ?_
    refine s_getI rfl (by decide) (kd_97 _) rfl ?_
    refine s_putI rfl (by decide) (kd_65 _) rfl rfl (x_fit_int _) ?_
    generalize hI_3 : x_up I_2 65 2 (I_2 97 2) = I_3
    replace H := H _ hI_3.symm
    refine wp_aload_n rfl rfl rfl ?_
    refine wp_getR (v := .ref 99) rfl (by decide) (kd_97 _) rfl (kr_97_3 _) ?_
    refine wp_iconst (v := (0 : Int32)) rfl (by decide) ?_
    refine wp_aload_n rfl rfl rfl ?_
    refine wp_getR (v := .ref 67) rfl (by decide) (kd_65 _) rfl (kr_65_3 _) ?_
    refine wp_iconst (v := (0 : Int32)) rfl (by decide) ?_
    refine wp_bipush (v := (100 : Int32)) rfl (by decide) ?_
    obtain ⟨o_4, H⟩ := H
    refine s_copy rfl rfl (kd_99 _) (kd_67 _) (by decide) (by decide) (by decide) (by decide) (fun _ => o_4) (Nat.le_of_ble_eq_true rfl) (by omega) ?_
    generalize hI_5 : x_cp I_3 99 67 (100 : Int32).toNatClampNeg = I_5
    replace H := H _ hI_5.symm
    refine wp_aload_n rfl rfl rfl ?_
    refine wp_aload_n rfl rfl rfl ?_
    refine s_getI rfl (by decide) (kd_97 _) rfl ?_
    refine s_putI rfl (by decide) (kd_65 _) rfl rfl (x_fit_int _) ?_
    generalize hI_6 : x_up I_5 65 4 (I_5 97 4) = I_6
    replace H := H _ hI_6.symm
    refine wp_aload_n rfl rfl rfl ?_
    refine wp_getR (v := .ref 68) rfl (by decide) (kd_65 _) rfl (kr_65_5 _) ?_
    refine wp_aload_n rfl rfl rfl ?_
    refine wp_getR (v := .ref 100) rfl (by decide) (kd_97 _) rfl (kr_97_5 _) ?_
    refine s_invV (As := [.ref 100]) (d1 := d - 1) rfl ⟨by decide, by decide⟩ rfl rfl rfl (Nat.le_of_ble_eq_true rfl) (by omega) (kd_68 _) (by decide) rfl rfl H ?_
    intro v I2 h2
    exact x_P.weak (L := [.ref 65, .ref 97, x_jk]) (by exact ⟨Or.inr rfl, ⟨Or.inr rfl, ⟨Or.inl rfl, trivial⟩⟩⟩) h2
  · replace H := H.2 c_1
    refine wp_aload_n rfl rfl rfl ?_
    refine wp_getR (v := .ref 66) rfl (by decide) (kd_65 _) rfl (kr_65_0 _) ?_
    refine wp_iload_n rfl rfl rfl ?_
    obtain ⟨o_7, H⟩ := H
    refine wp_aald (v := .ref (85 + 2 * v2.toNatClampNeg)) rfl (kd_66 _) o_7 (x_man_now (x_in_lt o_7)).2 ?_
    refine wp_aload_n rfl rfl rfl ?_
    refine wp_getR (v := .ref 98) rfl (by decide) (kd_97 _) rfl (kr_97_0 _) ?_
    refine wp_iload_n rfl rfl rfl ?_
    obtain ⟨o_8, H⟩ := H
    refine wp_aald (v := .ref (117 + 2 * v2.toNatClampNeg)) rfl (kd_98 _) o_8 (x_man_img (x_in_lt o_8)).2 ?_
    refine s_invV (As := [.ref (117 + 2 * v2.toNatClampNeg)]) (d1 := d - 1) rfl ⟨by decide, by decide⟩ rfl rfl rfl (Nat.le_of_ble_eq_true rfl) (by omega) ((x_man_now (x_in_lt o_7)).1.1 _) (by decide) rfl rfl H ?_
    intro v I2 h2
    exact h2
set_option maxRecDepth 20000 in
theorem r_World_copyFromu_14 {E : XE} {d : Nat} {I : Nat → Nat → Int32} {Q : Option Value → (Nat → Nat → Int32) → Prop} (hd : 1 ≤ d) (v2 : Int32)
    (H : x_P E d 58 2 [.ref 65, .ref 97, .int (v2 + 1)] [] I Q) :
    x_P E d 58 14 [.ref 65, .ref 97, .int v2] [] I Q := by
  refine wp_iinc (v := v2 + 1) (L' := [.ref 65, .ref 97, .int (v2 + 1)]) rfl rfl rfl rfl rfl ?_
  refine wp_goto rfl ?_
  exact H
set_option maxRecDepth 20000 in
theorem r_World_copyFromu_41 {E : XE} {d : Nat} {I : Nat → Nat → Int32} {Q : Option Value → (Nat → Nat → Int32) → Prop} (hd : 1 ≤ d) 
    (H : (∀ I_1, I_1 = x_up I 65 6 (I 97 6) → x_K E (d - 1) 47 [.ref 73, .ref 105] I_1 (fun v I2 => x_P E d 58 50 [.ref 65, .ref 97, x_jk] (v.toList ++ []) I2 Q))) :
    x_P E d 58 41 [.ref 65, .ref 97, x_jk] [] I Q := by
  refine wp_aload_n rfl rfl rfl ?_
  refine wp_aload_n rfl rfl rfl ?_
  refine s_getI rfl (by decide) (kd_97 _) rfl ?_
  refine s_putI rfl (by decide) (kd_65 _) rfl rfl (x_fit_int _) ?_
  generalize hI_1 : x_up I 65 6 (I 97 6) = I_1
  replace H := H _ hI_1.symm
  refine wp_aload_n rfl rfl rfl ?_
  refine wp_getR (v := .ref 73) rfl (by decide) (kd_65 _) rfl (kr_65_7 _) ?_
  refine wp_aload_n rfl rfl rfl ?_
  refine wp_getR (v := .ref 105) rfl (by decide) (kd_97 _) rfl (kr_97_7 _) ?_
  refine s_invV (As := [.ref 105]) (d1 := d - 1) rfl ⟨by decide, by decide⟩ rfl rfl rfl (Nat.le_of_ble_eq_true rfl) (by omega) (kd_73 _) (by decide) rfl rfl H ?_
  intro v I2 h2
  exact h2
set_option maxRecDepth 20000 in
theorem r_World_copyFromu_50 {E : XE} {d : Nat} {I : Nat → Nat → Int32} {Q : Option Value → (Nat → Nat → Int32) → Prop} (hd : 1 ≤ d) 
    (H : x_K E (d - 1) 47 [.ref 77, .ref 109] I (fun v I2 => x_P E d 58 55 [.ref 65, .ref 97, x_jk] (v.toList ++ []) I2 Q)) :
    x_P E d 58 50 [.ref 65, .ref 97, x_jk] [] I Q := by
  refine wp_aload_n rfl rfl rfl ?_
  refine wp_getR (v := .ref 77) rfl (by decide) (kd_65 _) rfl (kr_65_8 _) ?_
  refine wp_aload_n rfl rfl rfl ?_
  refine wp_getR (v := .ref 109) rfl (by decide) (kd_97 _) rfl (kr_97_8 _) ?_
  refine s_invV (As := [.ref 109]) (d1 := d - 1) rfl ⟨by decide, by decide⟩ rfl rfl rfl (Nat.le_of_ble_eq_true rfl) (by omega) (kd_77 _) (by decide) rfl rfl H ?_
  intro v I2 h2
  exact h2
set_option maxRecDepth 20000 in
theorem r_World_copyFromu_55 {E : XE} {d : Nat} {I : Nat → Nat → Int32} {Q : Option Value → (Nat → Nat → Int32) → Prop} (hd : 1 ≤ d) 
    (H : x_K E (d - 1) 47 [.ref 81, .ref 113] I (fun v I2 => x_P E d 58 60 [x_jk, x_jk, x_jk] (v.toList ++ []) I2 Q)) :
    x_P E d 58 55 [.ref 65, .ref 97, x_jk] [] I Q := by
  refine wp_aload_n rfl rfl rfl ?_
  refine wp_getR (v := .ref 81) rfl (by decide) (kd_65 _) rfl (kr_65_9 _) ?_
  refine wp_aload_n rfl rfl rfl ?_
  refine wp_getR (v := .ref 113) rfl (by decide) (kd_97 _) rfl (kr_97_9 _) ?_
  refine s_invV (As := [.ref 113]) (d1 := d - 1) rfl ⟨by decide, by decide⟩ rfl rfl rfl (Nat.le_of_ble_eq_true rfl) (by omega) (kd_81 _) (by decide) rfl rfl H ?_
  intro v I2 h2
  exact x_P.weak (L := [x_jk, x_jk, x_jk]) (by exact ⟨Or.inl rfl, ⟨Or.inl rfl, ⟨Or.inr rfl, trivial⟩⟩⟩) h2
set_option maxRecDepth 20000 in
theorem r_World_copyFromu_60 {E : XE} {d : Nat} {I : Nat → Nat → Int32} {Q : Option Value → (Nat → Nat → Int32) → Prop} (hd : 1 ≤ d) 
    (H : Q none I) :
    x_P E d 58 60 [x_jk, x_jk, x_jk] [] I Q := by
  exact s_vret rfl rfl H
set_option maxRecDepth 20000 in
theorem r_Town_copyFromi_0 {E : XE} {d : Nat} {I : Nat → Nat → Int32} {Q : Option Value → (Nat → Nat → Int32) → Prop} (hd : 1 ≤ d) 
    (H : (∀ I_1, I_1 = x_up I 100 0 (I 68 0) → (∀ I_2, I_2 = x_up I_1 100 1 (I_1 68 1) → (∀ I_3, I_3 = x_cp I_2 69 101 (10 : Int32).toNatClampNeg → (∀ I_4, I_4 = x_cp I_3 70 102 (10 : Int32).toNatClampNeg → (∀ I_5, I_5 = x_cp I_4 71 103 (100 : Int32).toNatClampNeg → (∀ I_6, I_6 = x_up I_5 100 5 (I_5 68 5) → Q none I_6))))))) :
    x_P E d 50 0 [.ref 100, .ref 68] [] I Q := by
  refine wp_aload_n rfl rfl rfl ?_
  refine wp_aload_n rfl rfl rfl ?_
  refine s_getI rfl (by decide) (kd_68 _) rfl ?_
  refine s_putI rfl (by decide) (kd_100 _) rfl rfl (x_fit_int _) ?_
  generalize hI_1 : x_up I 100 0 (I 68 0) = I_1
  replace H := H _ hI_1.symm
  refine wp_aload_n rfl rfl rfl ?_
  refine wp_aload_n rfl rfl rfl ?_
  refine s_getI rfl (by decide) (kd_68 _) rfl ?_
  refine s_putI rfl (by decide) (kd_100 _) rfl rfl (x_fit_int _) ?_
  generalize hI_2 : x_up I_1 100 1 (I_1 68 1) = I_2
  replace H := H _ hI_2.symm
  refine wp_aload_n rfl rfl rfl ?_
  refine wp_getR (v := .ref 69) rfl (by decide) (kd_68 _) rfl (kr_68_2 _) ?_
  refine wp_iconst (v := (0 : Int32)) rfl (by decide) ?_
  refine wp_aload_n rfl rfl rfl ?_
  refine wp_getR (v := .ref 101) rfl (by decide) (kd_100 _) rfl (kr_100_2 _) ?_
  refine wp_iconst (v := (0 : Int32)) rfl (by decide) ?_
  refine wp_bipush (v := (10 : Int32)) rfl (by decide) ?_
  refine s_copy rfl rfl (kd_69 _) (kd_101 _) (by decide) (by decide) (by decide) (by decide) (fun h => absurd h (by decide)) (Nat.le_of_ble_eq_true rfl) (by omega) ?_
  generalize hI_3 : x_cp I_2 69 101 (10 : Int32).toNatClampNeg = I_3
  replace H := H _ hI_3.symm
  refine wp_aload_n rfl rfl rfl ?_
  refine wp_getR (v := .ref 70) rfl (by decide) (kd_68 _) rfl (kr_68_3 _) ?_
  refine wp_iconst (v := (0 : Int32)) rfl (by decide) ?_
  refine wp_aload_n rfl rfl rfl ?_
  refine wp_getR (v := .ref 102) rfl (by decide) (kd_100 _) rfl (kr_100_3 _) ?_
  refine wp_iconst (v := (0 : Int32)) rfl (by decide) ?_
  refine wp_bipush (v := (10 : Int32)) rfl (by decide) ?_
  refine s_copy rfl rfl (kd_70 _) (kd_102 _) (by decide) (by decide) (by decide) (by decide) (fun h => absurd h (by decide)) (Nat.le_of_ble_eq_true rfl) (by omega) ?_
  generalize hI_4 : x_cp I_3 70 102 (10 : Int32).toNatClampNeg = I_4
  replace H := H _ hI_4.symm
  refine wp_aload_n rfl rfl rfl ?_
  refine wp_getR (v := .ref 71) rfl (by decide) (kd_68 _) rfl (kr_68_4 _) ?_
  refine wp_iconst (v := (0 : Int32)) rfl (by decide) ?_
  refine wp_aload_n rfl rfl rfl ?_
  refine wp_getR (v := .ref 103) rfl (by decide) (kd_100 _) rfl (kr_100_4 _) ?_
  refine wp_iconst (v := (0 : Int32)) rfl (by decide) ?_
  refine wp_bipush (v := (100 : Int32)) rfl (by decide) ?_
  refine s_copy rfl rfl (kd_71 _) (kd_103 _) (by decide) (by decide) (by decide) (by decide) (fun h => absurd h (by decide)) (Nat.le_of_ble_eq_true rfl) (by omega) ?_
  generalize hI_5 : x_cp I_4 71 103 (100 : Int32).toNatClampNeg = I_5
  replace H := H _ hI_5.symm
  refine wp_aload_n rfl rfl rfl ?_
  refine wp_aload_n rfl rfl rfl ?_
  refine s_getI rfl (by decide) (kd_68 _) rfl ?_
  refine s_putI rfl (by decide) (kd_100 _) rfl rfl (x_fit_int _) ?_
  generalize hI_6 : x_up I_5 100 5 (I_5 68 5) = I_6
  replace H := H _ hI_6.symm
  exact s_vret rfl rfl H
set_option maxRecDepth 20000 in
theorem r_Town_copyFromu_0 {E : XE} {d : Nat} {I : Nat → Nat → Int32} {Q : Option Value → (Nat → Nat → Int32) → Prop} (hd : 1 ≤ d) 
    (H : (∀ I_1, I_1 = x_up I 68 0 (I 100 0) → (∀ I_2, I_2 = x_up I_1 68 1 (I_1 100 1) → (∀ I_3, I_3 = x_cp I_2 101 69 (10 : Int32).toNatClampNeg → (∀ I_4, I_4 = x_cp I_3 102 70 (10 : Int32).toNatClampNeg → (∀ I_5, I_5 = x_cp I_4 103 71 (100 : Int32).toNatClampNeg → (∀ I_6, I_6 = x_up I_5 68 5 (I_5 100 5) → Q none I_6))))))) :
    x_P E d 50 0 [.ref 68, .ref 100] [] I Q := by
  refine wp_aload_n rfl rfl rfl ?_
  refine wp_aload_n rfl rfl rfl ?_
  refine s_getI rfl (by decide) (kd_100 _) rfl ?_
  refine s_putI rfl (by decide) (kd_68 _) rfl rfl (x_fit_int _) ?_
  generalize hI_1 : x_up I 68 0 (I 100 0) = I_1
  replace H := H _ hI_1.symm
  refine wp_aload_n rfl rfl rfl ?_
  refine wp_aload_n rfl rfl rfl ?_
  refine s_getI rfl (by decide) (kd_100 _) rfl ?_
  refine s_putI rfl (by decide) (kd_68 _) rfl rfl (x_fit_int _) ?_
  generalize hI_2 : x_up I_1 68 1 (I_1 100 1) = I_2
  replace H := H _ hI_2.symm
  refine wp_aload_n rfl rfl rfl ?_
  refine wp_getR (v := .ref 101) rfl (by decide) (kd_100 _) rfl (kr_100_2 _) ?_
  refine wp_iconst (v := (0 : Int32)) rfl (by decide) ?_
  refine wp_aload_n rfl rfl rfl ?_
  refine wp_getR (v := .ref 69) rfl (by decide) (kd_68 _) rfl (kr_68_2 _) ?_
  refine wp_iconst (v := (0 : Int32)) rfl (by decide) ?_
  refine wp_bipush (v := (10 : Int32)) rfl (by decide) ?_
  refine s_copy rfl rfl (kd_101 _) (kd_69 _) (by decide) (by decide) (by decide) (by decide) (fun h => absurd h (by decide)) (Nat.le_of_ble_eq_true rfl) (by omega) ?_
  generalize hI_3 : x_cp I_2 101 69 (10 : Int32).toNatClampNeg = I_3
  replace H := H _ hI_3.symm
  refine wp_aload_n rfl rfl rfl ?_
  refine wp_getR (v := .ref 102) rfl (by decide) (kd_100 _) rfl (kr_100_3 _) ?_
  refine wp_iconst (v := (0 : Int32)) rfl (by decide) ?_
  refine wp_aload_n rfl rfl rfl ?_
  refine wp_getR (v := .ref 70) rfl (by decide) (kd_68 _) rfl (kr_68_3 _) ?_
  refine wp_iconst (v := (0 : Int32)) rfl (by decide) ?_
  refine wp_bipush (v := (10 : Int32)) rfl (by decide) ?_
  refine s_copy rfl rfl (kd_102 _) (kd_70 _) (by decide) (by decide) (by decide) (by decide) (fun h => absurd h (by decide)) (Nat.le_of_ble_eq_true rfl) (by omega) ?_
  generalize hI_4 : x_cp I_3 102 70 (10 : Int32).toNatClampNeg = I_4
  replace H := H _ hI_4.symm
  refine wp_aload_n rfl rfl rfl ?_
  refine wp_getR (v := .ref 103) rfl (by decide) (kd_100 _) rfl (kr_100_4 _) ?_
  refine wp_iconst (v := (0 : Int32)) rfl (by decide) ?_
  refine wp_aload_n rfl rfl rfl ?_
  refine wp_getR (v := .ref 71) rfl (by decide) (kd_68 _) rfl (kr_68_4 _) ?_
  refine wp_iconst (v := (0 : Int32)) rfl (by decide) ?_
  refine wp_bipush (v := (100 : Int32)) rfl (by decide) ?_
  refine s_copy rfl rfl (kd_103 _) (kd_71 _) (by decide) (by decide) (by decide) (by decide) (fun h => absurd h (by decide)) (Nat.le_of_ble_eq_true rfl) (by omega) ?_
  generalize hI_5 : x_cp I_4 103 71 (100 : Int32).toNatClampNeg = I_5
  replace H := H _ hI_5.symm
  refine wp_aload_n rfl rfl rfl ?_
  refine wp_aload_n rfl rfl rfl ?_
  refine s_getI rfl (by decide) (kd_100 _) rfl ?_
  refine s_putI rfl (by decide) (kd_68 _) rfl rfl (x_fit_int _) ?_
  generalize hI_6 : x_up I_5 68 5 (I_5 100 5) = I_6
  replace H := H _ hI_6.symm
  exact s_vret rfl rfl H
set_option maxRecDepth 20000 in
theorem r_Town_copyFromt_0 {E : XE} {d : Nat} {I : Nat → Nat → Int32} {Q : Option Value → (Nat → Nat → Int32) → Prop} (hd : 1 ≤ d) 
    (H : (∀ I_1, I_1 = x_up I 68 0 (I 132 0) → (∀ I_2, I_2 = x_up I_1 68 1 (I_1 132 1) → (∀ I_3, I_3 = x_cp I_2 133 69 (10 : Int32).toNatClampNeg → (∀ I_4, I_4 = x_cp I_3 134 70 (10 : Int32).toNatClampNeg → (∀ I_5, I_5 = x_cp I_4 135 71 (100 : Int32).toNatClampNeg → (∀ I_6, I_6 = x_up I_5 68 5 (I_5 132 5) → Q none I_6))))))) :
    x_P E d 50 0 [.ref 68, .ref 132] [] I Q := by
  refine wp_aload_n rfl rfl rfl ?_
  refine wp_aload_n rfl rfl rfl ?_
  refine s_getI rfl (by decide) (kd_132 _) rfl ?_
  refine s_putI rfl (by decide) (kd_68 _) rfl rfl (x_fit_int _) ?_
  generalize hI_1 : x_up I 68 0 (I 132 0) = I_1
  replace H := H _ hI_1.symm
  refine wp_aload_n rfl rfl rfl ?_
  refine wp_aload_n rfl rfl rfl ?_
  refine s_getI rfl (by decide) (kd_132 _) rfl ?_
  refine s_putI rfl (by decide) (kd_68 _) rfl rfl (x_fit_int _) ?_
  generalize hI_2 : x_up I_1 68 1 (I_1 132 1) = I_2
  replace H := H _ hI_2.symm
  refine wp_aload_n rfl rfl rfl ?_
  refine wp_getR (v := .ref 133) rfl (by decide) (kd_132 _) rfl (kr_132_2 _) ?_
  refine wp_iconst (v := (0 : Int32)) rfl (by decide) ?_
  refine wp_aload_n rfl rfl rfl ?_
  refine wp_getR (v := .ref 69) rfl (by decide) (kd_68 _) rfl (kr_68_2 _) ?_
  refine wp_iconst (v := (0 : Int32)) rfl (by decide) ?_
  refine wp_bipush (v := (10 : Int32)) rfl (by decide) ?_
  refine s_copy rfl rfl (kd_133 _) (kd_69 _) (by decide) (by decide) (by decide) (by decide) (fun h => absurd h (by decide)) (Nat.le_of_ble_eq_true rfl) (by omega) ?_
  generalize hI_3 : x_cp I_2 133 69 (10 : Int32).toNatClampNeg = I_3
  replace H := H _ hI_3.symm
  refine wp_aload_n rfl rfl rfl ?_
  refine wp_getR (v := .ref 134) rfl (by decide) (kd_132 _) rfl (kr_132_3 _) ?_
  refine wp_iconst (v := (0 : Int32)) rfl (by decide) ?_
  refine wp_aload_n rfl rfl rfl ?_
  refine wp_getR (v := .ref 70) rfl (by decide) (kd_68 _) rfl (kr_68_3 _) ?_
  refine wp_iconst (v := (0 : Int32)) rfl (by decide) ?_
  refine wp_bipush (v := (10 : Int32)) rfl (by decide) ?_
  refine s_copy rfl rfl (kd_134 _) (kd_70 _) (by decide) (by decide) (by decide) (by decide) (fun h => absurd h (by decide)) (Nat.le_of_ble_eq_true rfl) (by omega) ?_
  generalize hI_4 : x_cp I_3 134 70 (10 : Int32).toNatClampNeg = I_4
  replace H := H _ hI_4.symm
  refine wp_aload_n rfl rfl rfl ?_
  refine wp_getR (v := .ref 135) rfl (by decide) (kd_132 _) rfl (kr_132_4 _) ?_
  refine wp_iconst (v := (0 : Int32)) rfl (by decide) ?_
  refine wp_aload_n rfl rfl rfl ?_
  refine wp_getR (v := .ref 71) rfl (by decide) (kd_68 _) rfl (kr_68_4 _) ?_
  refine wp_iconst (v := (0 : Int32)) rfl (by decide) ?_
  refine wp_bipush (v := (100 : Int32)) rfl (by decide) ?_
  refine s_copy rfl rfl (kd_135 _) (kd_71 _) (by decide) (by decide) (by decide) (by decide) (fun h => absurd h (by decide)) (Nat.le_of_ble_eq_true rfl) (by omega) ?_
  generalize hI_5 : x_cp I_4 135 71 (100 : Int32).toNatClampNeg = I_5
  replace H := H _ hI_5.symm
  refine wp_aload_n rfl rfl rfl ?_
  refine wp_aload_n rfl rfl rfl ?_
  refine s_getI rfl (by decide) (kd_132 _) rfl ?_
  refine s_putI rfl (by decide) (kd_68 _) rfl rfl (x_fit_int _) ?_
  generalize hI_6 : x_up I_5 68 5 (I_5 132 5) = I_6
  replace H := H _ hI_6.symm
  exact s_vret rfl rfl H
set_option maxRecDepth 20000 in
theorem r_C_apart_9X {E : XE} {d : Nat} {I : Nat → Nat → Int32} {Q : Option Value → (Nat → Nat → Int32) → Prop} (hd : 1 ≤ d) (v1 : Int32) (v2 : Int32) (w : Nat) (hw : x_man w)
    (H : Q (some (.int (-1 : Int32))) I) :
    x_P E d 71 9 [x_jk, .int v1, .int v2, .null, x_jk] [.ref w] I Q := by
  refine wp_astore (L' := [x_jk, .int v1, .int v2, .null, .ref w]) rfl (by decide) rfl rfl ?_
  refine wp_aload_nN rfl rfl rfl ?_
  refine wp_ifnullN rfl ?_
  refine wp_iconst (v := (-1 : Int32)) rfl (by decide) ?_
  exact s_iret rfl rfl rfl H
set_option maxRecDepth 20000 in
theorem r_C_apart_9NX {E : XE} {d : Nat} {I : Nat → Nat → Int32} {Q : Option Value → (Nat → Nat → Int32) → Prop} (hd : 1 ≤ d) (v1 : Int32) (v2 : Int32)
    (H : Q (some (.int (-1 : Int32))) I) :
    x_P E d 71 9 [x_jk, .int v1, .int v2, .null, x_jk] [.null] I Q := by
  refine wp_astoreN (L' := [x_jk, .int v1, .int v2, .null, .null]) rfl (by decide) rfl rfl ?_
  refine wp_aload_nN rfl rfl rfl ?_
  refine wp_ifnullN rfl ?_
  refine wp_iconst (v := (-1 : Int32)) rfl (by decide) ?_
  exact s_iret rfl rfl rfl H
