set_option maxRecDepth 20000 in
theorem r_C_feed_0 {E : XE} {d : Nat} {I : Nat → Nat → Int32} {Q : Option Value → (Nat → Nat → Int32) → Prop} (hd : 2 ≤ d) (a1 : Int32)
    (H : ((0 ≤ a1 ∧ a1 ≤ (127 : Int32) → (((I 65 4) < (100 : Int32) → (vp_in (I 65 4) 100) ∧ (∀ I_4, I_4 = x_up I 67 (I 65 4).toNatClampNeg (a1.toInt8.toInt32).toInt8.toInt32 → (∀ I_5, I_5 = x_up I_4 65 4 ((I_4 65 4) + (1 : Int32)) → Q (some (.int (I_5 65 4))) I_5))) ∧ (¬ ((I 65 4) < (100 : Int32)) → Q (some (.int (-4 : Int32))) I))) ∧ (¬ (0 ≤ a1 ∧ a1 ≤ (127 : Int32)) → Q (some (.int (-2 : Int32))) I))) :
    x_P E d 63 0 [.ref 64, .int a1] [] I Q := by
  refine wp_iload_n rfl rfl rfl ?_
  refine wp_bipush (v := (127 : Int32)) rfl (by decide) ?_
  refine s_invStP (As := [.int a1, .int (127 : Int32)]) (d1 := d - 1) rfl ⟨by decide, by decide⟩ rfl rfl rfl (Nat.le_of_ble_eq_true rfl) (by omega) (p_isUpTo (by omega)) ?_
  refine s_bi_ne rfl (fun c_1 => ?_) (fun c_1 => ?_)
  · replace H := H.1 c_1
    refine wp_aload_n rfl rfl rfl ?_
    refine wp_getR (v := .ref 65) rfl (by decide) (kd_64 _) rfl (kr_64_0 _) ?_
    refine s_getI rfl (by decide) (kd_65 _) rfl ?_
    refine wp_bipush (v := (100 : Int32)) rfl (by decide) ?_
    refine wp_icmp_lt rfl (fun c_2 => ?_) (fun c_2 => ?_)
    · replace H := H.1 c_2
      refine wp_aload_n rfl rfl rfl ?_
      refine wp_getR (v := .ref 65) rfl (by decide) (kd_64 _) rfl (kr_64_0 _) ?_
      refine wp_getR (v := .ref 67) rfl (by decide) (kd_65 _) rfl (kr_65_3 _) ?_
      refine wp_aload_n rfl rfl rfl ?_
      refine wp_getR (v := .ref 65) rfl (by decide) (kd_64 _) rfl (kr_64_0 _) ?_
      refine s_getI rfl (by decide) (kd_65 _) rfl ?_
      refine wp_iload_n rfl rfl rfl ?_
      refine wp_i2b rfl ?_
      obtain ⟨o_3, H⟩ := H
      refine s_bast rfl (kd_67 _) o_3 ?_
      generalize hI_4 : x_up I 67 (I 65 4).toNatClampNeg (a1.toInt8.toInt32).toInt8.toInt32 = I_4
      replace H := H _ hI_4.symm
      refine wp_aload_n rfl rfl rfl ?_
      refine wp_getR (v := .ref 65) rfl (by decide) (kd_64 _) rfl (kr_64_0 _) ?_
      refine wp_dup rfl rfl ?_
      refine s_getI rfl (by decide) (kd_65 _) rfl ?_
      refine wp_iconst (v := (1 : Int32)) rfl (by decide) ?_
      refine wp_iadd rfl ?_
      refine s_putI rfl (by decide) (kd_65 _) rfl rfl (x_fit_int _) ?_
      generalize hI_5 : x_up I_4 65 4 ((I_4 65 4) + (1 : Int32)) = I_5
      replace H := H _ hI_5.symm
      refine wp_aload_n rfl rfl rfl ?_
      refine wp_getR (v := .ref 65) rfl (by decide) (kd_64 _) rfl (kr_64_0 _) ?_
      refine s_getI rfl (by decide) (kd_65 _) rfl ?_
      exact s_iret rfl rfl rfl H
    · replace H := H.2 c_2
      refine wp_bipush (v := (-4 : Int32)) rfl (by decide) ?_
      exact s_iret rfl rfl rfl H
  · replace H := H.2 c_1
    refine wp_bipush (v := (-2 : Int32)) rfl (by decide) ?_
    exact s_iret rfl rfl rfl H
set_option maxRecDepth 20000 in
theorem r_C_town_0 {E : XE} {d : Nat} {I : Nat → Nat → Int32} {Q : Option Value → (Nat → Nat → Int32) → Prop} (hd : 1 ≤ d) 
    (H : (((I 65 6) < (5 : Int32) → x_K E (d - 1) 35 [.ref 131, .ref 67, .int (I 65 4)] I (fun v I2 => x_P E d 64 16 [.ref 64, x_jk] (v.toList ++ []) I2 Q)) ∧ (¬ ((I 65 6) < (5 : Int32)) → Q (some (.int (-4 : Int32))) I))) :
    x_P E d 64 0 [.ref 64, x_jk] [] I Q := by
  refine wp_aload_n rfl rfl rfl ?_
  refine wp_getR (v := .ref 65) rfl (by decide) (kd_64 _) rfl (kr_64_0 _) ?_
  refine s_getI rfl (by decide) (kd_65 _) rfl ?_
  refine wp_iconst (v := (5 : Int32)) rfl (by decide) ?_
  refine wp_icmp_lt rfl (fun c_1 => ?_) (fun c_1 => ?_)
  · replace H := H.1 c_1
    refine wp_aload_n rfl rfl rfl ?_
    refine wp_getR (v := .ref 131) rfl (by decide) (kd_64 _) rfl (kr_64_4 _) ?_
    refine wp_aload_n rfl rfl rfl ?_
    refine wp_getR (v := .ref 65) rfl (by decide) (kd_64 _) rfl (kr_64_0 _) ?_
    refine wp_getR (v := .ref 67) rfl (by decide) (kd_65 _) rfl (kr_65_3 _) ?_
    refine wp_aload_n rfl rfl rfl ?_
    refine wp_getR (v := .ref 65) rfl (by decide) (kd_64 _) rfl (kr_64_0 _) ?_
    refine s_getI rfl (by decide) (kd_65 _) rfl ?_
    refine s_invV (As := [.ref 67, .int (I 65 4)]) (d1 := d - 1) rfl ⟨by decide, by decide⟩ rfl rfl rfl (Nat.le_of_ble_eq_true rfl) (by omega) (kd_131 _) (by decide) rfl rfl H ?_
    intro v I2 h2
    exact h2
  · replace H := H.2 c_1
    refine wp_bipush (v := (-4 : Int32)) rfl (by decide) ?_
    exact s_iret rfl rfl rfl H
set_option maxRecDepth 20000 in
theorem r_C_town_16 {E : XE} {d : Nat} {I : Nat → Nat → Int32} {Q : Option Value → (Nat → Nat → Int32) → Prop} (hd : 1 ≤ d) (w : Int32)
    (H : (∀ I_1, I_1 = x_up I 65 4 (0 : Int32) → ((w = 0 → Q (some (.int ((-10 : Int32) - (I_1 131 3)))) I_1) ∧ (¬ (w = 0) → x_K E (d - 1) 50 [.ref 68, .ref 132] I_1 (fun v I2 => x_P E d 64 36 [.ref 64, x_jk] (v.toList ++ []) I2 Q))))) :
    x_P E d 64 16 [.ref 64, x_jk] [.int w] I Q := by
  refine wp_istore_n (L' := [.ref 64, .int w]) rfl rfl (by decide) rfl rfl ?_
  refine wp_aload_n rfl rfl rfl ?_
  refine wp_getR (v := .ref 65) rfl (by decide) (kd_64 _) rfl (kr_64_0 _) ?_
  refine wp_iconst (v := (0 : Int32)) rfl (by decide) ?_
  refine s_putI rfl (by decide) (kd_65 _) rfl rfl (x_fit_int _) ?_
  generalize hI_1 : x_up I 65 4 (0 : Int32) = I_1
  replace H := H _ hI_1.symm
  refine wp_iload_n rfl rfl rfl ?_
  refine wp_if_ne rfl (fun c_2 => ?_) (fun c_2 => ?_)
  · replace H := H.2 c_2
    refine wp_aload_n rfl rfl rfl ?_
    refine wp_getR (v := .ref 65) rfl (by decide) (kd_64 _) rfl (kr_64_0 _) ?_
    refine wp_getR (v := .ref 68) rfl (by decide) (kd_65 _) rfl (kr_65_5 _) ?_
    refine wp_aload_n rfl rfl rfl ?_
    refine wp_getR (v := .ref 131) rfl (by decide) (kd_64 _) rfl (kr_64_4 _) ?_
    refine wp_getR (v := .ref 132) rfl (by decide) (kd_131 _) rfl (kr_131_0 _) ?_
    refine s_invV (As := [.ref 132]) (d1 := d - 1) rfl ⟨by decide, by decide⟩ rfl rfl rfl (Nat.le_of_ble_eq_true rfl) (by omega) (kd_68 _) (by decide) rfl rfl H ?_
    intro v I2 h2
    exact x_P.weak (L := [.ref 64, x_jk]) (by exact ⟨Or.inr rfl, ⟨Or.inl rfl, trivial⟩⟩) h2
  · replace H := H.1 c_2
    refine wp_bipush (v := (-10 : Int32)) rfl (by decide) ?_
    refine wp_aload_n rfl rfl rfl ?_
    refine wp_getR (v := .ref 131) rfl (by decide) (kd_64 _) rfl (kr_64_4 _) ?_
    refine s_getI rfl (by decide) (kd_131 _) rfl ?_
    refine wp_isub rfl ?_
    exact s_iret rfl rfl rfl H
set_option maxRecDepth 20000 in
theorem r_C_town_36 {E : XE} {d : Nat} {I : Nat → Nat → Int32} {Q : Option Value → (Nat → Nat → Int32) → Prop} (hd : 1 ≤ d) 
    (H : (∀ I_1, I_1 = x_up I 65 6 ((I 65 6) + (1 : Int32)) → Q (some (.int ((I_1 65 6) - (1 : Int32)))) I_1)) :
    x_P E d 64 36 [.ref 64, x_jk] [] I Q := by
  refine wp_aload_n rfl rfl rfl ?_
  refine wp_getR (v := .ref 65) rfl (by decide) (kd_64 _) rfl (kr_64_0 _) ?_
  refine wp_dup rfl rfl ?_
  refine s_getI rfl (by decide) (kd_65 _) rfl ?_
  refine wp_iconst (v := (1 : Int32)) rfl (by decide) ?_
  refine wp_iadd rfl ?_
  refine s_putI rfl (by decide) (kd_65 _) rfl rfl (x_fit_int _) ?_
  generalize hI_1 : x_up I 65 6 ((I 65 6) + (1 : Int32)) = I_1
  replace H := H _ hI_1.symm
  refine wp_aload_n rfl rfl rfl ?_
  refine wp_getR (v := .ref 65) rfl (by decide) (kd_64 _) rfl (kr_64_0 _) ?_
  refine s_getI rfl (by decide) (kd_65 _) rfl ?_
  refine wp_iconst (v := (1 : Int32)) rfl (by decide) ?_
  refine wp_isub rfl ?_
  exact s_iret rfl rfl rfl H
set_option maxRecDepth 20000 in
theorem r_C_man_0 {E : XE} {d : Nat} {I : Nat → Nat → Int32} {Q : Option Value → (Nat → Nat → Int32) → Prop} (hd : 2 ≤ d) (a1 : Int32) (a2 : Int32) (a3 : Int32) (a4 : Int32)
    (H : ((0 ≤ a1 ∧ a1 ≤ (6 : Int32) → ((0 ≤ a3 ∧ a3 ≤ (9 : Int32) → ((0 ≤ a2 ∧ a2 ≤ (9 : Int32) → ((0 ≤ a4 ∧ a4 ≤ (255 : Int32) → (((I 65 1) < (6 : Int32) → (vp_in (I 65 1) 6) ∧ x_K E (d - 1) 23 [.ref (85 + 2 * (I 65 1).toNatClampNeg), .int (I 65 1), .int a1, .int a2, .int a3, .int a4] I (fun v I2 => x_P E d 65 42 [.ref 64, x_jk, x_jk, x_jk, x_jk, .int (I 65 1)] (v.toList ++ []) I2 Q)) ∧ (¬ ((I 65 1) < (6 : Int32)) → Q (some (.int (-4 : Int32))) I))) ∧ (¬ (0 ≤ a4 ∧ a4 ≤ (255 : Int32)) → Q (some (.int (-2 : Int32))) I))) ∧ (¬ (0 ≤ a2 ∧ a2 ≤ (9 : Int32)) → Q (some (.int (-2 : Int32))) I))) ∧ (¬ (0 ≤ a3 ∧ a3 ≤ (9 : Int32)) → Q (some (.int (-1 : Int32))) I))) ∧ (¬ (0 ≤ a1 ∧ a1 ≤ (6 : Int32)) → Q (some (.int (-1 : Int32))) I))) :
    x_P E d 65 0 [.ref 64, .int a1, .int a2, .int a3, .int a4, x_jk] [] I Q := by
  refine wp_iload_n rfl rfl rfl ?_
  refine wp_bipush (v := (6 : Int32)) rfl (by decide) ?_
  refine s_invStP (As := [.int a1, .int (6 : Int32)]) (d1 := d - 1) rfl ⟨by decide, by decide⟩ rfl rfl rfl (Nat.le_of_ble_eq_true rfl) (by omega) (p_isUpTo (by omega)) ?_
  refine s_bi_eq rfl (fun c_1 => ?_) (fun c_1 => ?_)
  · replace H := H.2 c_1
    refine wp_iconst (v := (-1 : Int32)) rfl (by decide) ?_
    exact s_iret rfl rfl rfl H
  · replace H := H.1 c_1
    refine wp_iload_n rfl rfl rfl ?_
    refine wp_bipush (v := (9 : Int32)) rfl (by decide) ?_
    refine s_invStP (As := [.int a3, .int (9 : Int32)]) (d1 := d - 1) rfl ⟨by decide, by decide⟩ rfl rfl rfl (Nat.le_of_ble_eq_true rfl) (by omega) (p_isUpTo (by omega)) ?_
    refine s_bi_ne rfl (fun c_2 => ?_) (fun c_2 => ?_)
    · replace H := H.1 c_2
      refine wp_iload_n rfl rfl rfl ?_
      refine wp_bipush (v := (9 : Int32)) rfl (by decide) ?_
      refine s_invStP (As := [.int a2, .int (9 : Int32)]) (d1 := d - 1) rfl ⟨by decide, by decide⟩ rfl rfl rfl (Nat.le_of_ble_eq_true rfl) (by omega) (p_isUpTo (by omega)) ?_
      refine s_bi_eq rfl (fun c_3 => ?_) (fun c_3 => ?_)
      · replace H := H.2 c_3
        refine wp_bipush (v := (-2 : Int32)) rfl (by decide) ?_
        exact s_iret rfl rfl rfl H
      · replace H := H.1 c_3
        refine wp_iload rfl rfl ?_
        refine wp_sipush (v := (255 : Int32)) rfl (by decide) ?_
        refine s_invStP (As := [.int a4, .int (255 : Int32)]) (d1 := d - 1) rfl ⟨by decide, by decide⟩ rfl rfl rfl (Nat.le_of_ble_eq_true rfl) (by omega) (p_isUpTo (by omega)) ?_
        refine s_bi_ne rfl (fun c_4 => ?_) (fun c_4 => ?_)
        · replace H := H.1 c_4
          refine wp_aload_n rfl rfl rfl ?_
          refine wp_getR (v := .ref 65) rfl (by decide) (kd_64 _) rfl (kr_64_0 _) ?_
          refine s_getI rfl (by decide) (kd_65 _) rfl ?_
          refine wp_bipush (v := (6 : Int32)) rfl (by decide) ?_
          refine wp_icmp_lt rfl (fun c_5 => ?_) (fun c_5 => ?_)
          · replace H := H.1 c_5
            refine wp_aload_n rfl rfl rfl ?_
            refine wp_getR (v := .ref 65) rfl (by decide) (kd_64 _) rfl (kr_64_0 _) ?_
            refine s_getI rfl (by decide) (kd_65 _) rfl ?_
            refine wp_istore (L' := [.ref 64, .int a1, .int a2, .int a3, .int a4, .int (I 65 1)]) rfl (by decide) rfl rfl ?_
            refine wp_aload_n rfl rfl rfl ?_
            refine wp_getR (v := .ref 65) rfl (by decide) (kd_64 _) rfl (kr_64_0 _) ?_
            refine wp_getR (v := .ref 66) rfl (by decide) (kd_65 _) rfl (kr_65_0 _) ?_
            refine wp_iload rfl rfl ?_
            obtain ⟨o_6, H⟩ := H
            refine wp_aald (v := .ref (85 + 2 * (I 65 1).toNatClampNeg)) rfl (kd_66 _) o_6 (x_man_now (x_in_lt o_6)).2 ?_
            refine wp_iload rfl rfl ?_
            refine wp_iload_n rfl rfl rfl ?_
            refine wp_iload_n rfl rfl rfl ?_
            refine wp_iload_n rfl rfl rfl ?_
            refine wp_iload rfl rfl ?_
            refine s_invV (As := [.int (I 65 1), .int a1, .int a2, .int a3, .int a4]) (d1 := d - 1) rfl ⟨by decide, by decide⟩ rfl rfl rfl (Nat.le_of_ble_eq_true rfl) (by omega) ((x_man_now (x_in_lt o_6)).1.1 _) (by decide) rfl rfl H ?_
            intro v I2 h2
            exact x_P.weak (L := [.ref 64, x_jk, x_jk, x_jk, x_jk, .int (I 65 1)]) (by exact ⟨Or.inr rfl, ⟨Or.inl rfl, ⟨Or.inl rfl, ⟨Or.inl rfl, ⟨Or.inl rfl, ⟨Or.inr rfl, trivial⟩⟩⟩⟩⟩⟩) h2
          · replace H := H.2 c_5
            refine wp_bipush (v := (-4 : Int32)) rfl (by decide) ?_
            exact s_iret rfl rfl rfl H
        · replace H := H.2 c_4
          refine wp_bipush (v := (-2 : Int32)) rfl (by decide) ?_
          exact s_iret rfl rfl rfl H
    · replace H := H.2 c_2
      refine wp_iconst (v := (-1 : Int32)) rfl (by decide) ?_
      exact s_iret rfl rfl rfl H
set_option maxRecDepth 20000 in
theorem r_C_man_42 {E : XE} {d : Nat} {I : Nat → Nat → Int32} {Q : Option Value → (Nat → Nat → Int32) → Prop} (hd : 1 ≤ d) (v5 : Int32)
    (H : (∀ I_1, I_1 = x_up I 65 1 ((I 65 1) + (1 : Int32)) → Q (some (.int v5)) I_1)) :
    x_P E d 65 42 [.ref 64, x_jk, x_jk, x_jk, x_jk, .int v5] [] I Q := by
  refine wp_aload_n rfl rfl rfl ?_
  refine wp_getR (v := .ref 65) rfl (by decide) (kd_64 _) rfl (kr_64_0 _) ?_
  refine wp_dup rfl rfl ?_
  refine s_getI rfl (by decide) (kd_65 _) rfl ?_
  refine wp_iconst (v := (1 : Int32)) rfl (by decide) ?_
  refine wp_iadd rfl ?_
  refine s_putI rfl (by decide) (kd_65 _) rfl rfl (x_fit_int _) ?_
  generalize hI_1 : x_up I 65 1 ((I 65 1) + (1 : Int32)) = I_1
  replace H := H _ hI_1.symm
  refine wp_iload rfl rfl ?_
  exact s_iret rfl rfl rfl H
set_option maxRecDepth 20000 in
theorem r_C_of_0 {E : XE} {d : Nat} {I : Nat → Nat → Int32} {Q : Option Value → (Nat → Nat → Int32) → Prop} (hd : 1 ≤ d) (a1 : Int32) (a2 : Int32)
    (H : x_K E (d - 1) 59 [.ref 65, .int a1] I (fun v I2 => x_P E d 66 4 [.ref 64, x_jk, .int a2, x_jk] (v.toList ++ []) I2 Q)) :
    x_P E d 66 0 [.ref 64, .int a1, .int a2, x_jk] [] I Q := by
  refine wp_aload_n rfl rfl rfl ?_
  refine wp_getR (v := .ref 65) rfl (by decide) (kd_64 _) rfl (kr_64_0 _) ?_
  refine wp_iload_n rfl rfl rfl ?_
  refine s_invV (As := [.int a1]) (d1 := d - 1) rfl ⟨by decide, by decide⟩ rfl rfl rfl (Nat.le_of_ble_eq_true rfl) (by omega) (kd_65 _) (by decide) rfl rfl H ?_
  intro v I2 h2
  exact x_P.weak (L := [.ref 64, x_jk, .int a2, x_jk]) (by exact ⟨Or.inr rfl, ⟨Or.inl rfl, ⟨Or.inr rfl, ⟨Or.inr rfl, trivial⟩⟩⟩⟩) h2
set_option maxRecDepth 20000 in
theorem r_C_of_4 {E : XE} {d : Nat} {I : Nat → Nat → Int32} {Q : Option Value → (Nat → Nat → Int32) → Prop} (hd : 1 ≤ d) (v2 : Int32) (w : Nat) (hw : x_man w)
    (H : ((v2 = (0 : Int32) → Q (some (.int (I w 1))) I) ∧ (v2 = (1 : Int32) → Q (some (.int (I w 2))) I) ∧ (v2 = (2 : Int32) → Q (some (.int (I w 3))) I) ∧ (v2 = (3 : Int32) → Q (some (.int (I w 4))) I) ∧ (v2 = (4 : Int32) → Q (some (.int (I w 5))) I) ∧ (v2 = (5 : Int32) → Q (some (.int (x_bi (¬ ((I w 6) = 0))))) I) ∧ (v2 = (6 : Int32) → Q (some (.int (x_bi (¬ ((I w 7) = 0))))) I) ∧ (v2 = (7 : Int32) → x_K E (d - 1) 53 [.ref 68, .ref w, .int (I 65 2)] I (fun v I2 => x_P E d 66 49 [.ref 64, x_jk, x_jk, x_jk] (v.toList ++ [.ref w]) I2 Q)) ∧ (v2 = (8 : Int32) → x_K E (d - 1) 100 [.ref 64, .ref w, .int (I w 3)] I (fun v I2 => x_P E d 66 59 [x_jk, x_jk, x_jk, x_jk] (v.toList ++ []) I2 Q)) ∧ (v2 = (9 : Int32) → x_K E (d - 1) 101 [.ref 64, .ref w] I (fun v I2 => x_P E d 66 63 [x_jk, x_jk, x_jk, x_jk] (v.toList ++ []) I2 Q)) ∧ (¬ v2 = (0 : Int32) → ¬ v2 = (1 : Int32) → ¬ v2 = (2 : Int32) → ¬ v2 = (3 : Int32) → ¬ v2 = (4 : Int32) → ¬ v2 = (5 : Int32) → ¬ v2 = (6 : Int32) → ¬ v2 = (7 : Int32) → ¬ v2 = (8 : Int32) → ¬ v2 = (9 : Int32) → Q (some (.int (-999999 : Int32))) I))) :
    x_P E d 66 4 [.ref 64, x_jk, .int v2, x_jk] [.ref w] I Q := by
  refine wp_astore_n (L' := [.ref 64, x_jk, .int v2, .ref w]) rfl rfl (by decide) rfl rfl ?_
  refine wp_aload_n rfl rfl rfl ?_
  refine wp_ifnonnull rfl hw.2.2.2 ?_
  refine wp_iload_n rfl rfl rfl ?_
  by_cases c_1 : v2 = (0 : Int32)
  · replace H := H.1 c_1
    refine wp_tswIn (j := 0) rfl rfl (Eq.trans (congrArg Int32.toInt c_1) rfl) ?_
    refine wp_aload_n rfl rfl rfl ?_
    refine s_getI rfl (by decide) (hw.1 _) rfl ?_
    exact s_iret rfl rfl rfl H
  · by_cases c_2 : v2 = (1 : Int32)
    · replace H := H.2.1 c_2
      refine wp_tswIn (j := 1) rfl rfl (Eq.trans (congrArg Int32.toInt c_2) rfl) ?_
      refine wp_aload_n rfl rfl rfl ?_
      refine s_getI rfl (by decide) (hw.1 _) rfl ?_
      exact s_iret rfl rfl rfl H
    · by_cases c_3 : v2 = (2 : Int32)
      · replace H := H.2.2.1 c_3
        refine wp_tswIn (j := 2) rfl rfl (Eq.trans (congrArg Int32.toInt c_3) rfl) ?_
        refine wp_aload_n rfl rfl rfl ?_
        refine s_getI rfl (by decide) (hw.1 _) rfl ?_
        exact s_iret rfl rfl rfl H
      · by_cases c_4 : v2 = (3 : Int32)
        · replace H := H.2.2.2.1 c_4
          refine wp_tswIn (j := 3) rfl rfl (Eq.trans (congrArg Int32.toInt c_4) rfl) ?_
          refine wp_aload_n rfl rfl rfl ?_
          refine s_getI rfl (by decide) (hw.1 _) rfl ?_
          exact s_iret rfl rfl rfl H
        · by_cases c_5 : v2 = (4 : Int32)
          · replace H := H.2.2.2.2.1 c_5
            refine wp_tswIn (j := 4) rfl rfl (Eq.trans (congrArg Int32.toInt c_5) rfl) ?_
            refine wp_aload_n rfl rfl rfl ?_
            refine s_getI rfl (by decide) (hw.1 _) rfl ?_
            exact s_iret rfl rfl rfl H
          · by_cases c_6 : v2 = (5 : Int32)
            · replace H := H.2.2.2.2.2.1 c_6
              refine wp_tswIn (j := 5) rfl rfl (Eq.trans (congrArg Int32.toInt c_6) rfl) ?_
              refine wp_aload_n rfl rfl rfl ?_
              refine s_getI rfl (by decide) (hw.1 _) rfl ?_
              have J : x_P E d 66 32 [.ref 64, x_jk, .int v2, .ref w] [.int (x_bi (¬ ((I w 6) = 0)))] I Q := by
                exact s_iret rfl rfl rfl H
              refine wp_if_eq rfl (fun c_7 => ?_) (fun c_7 => ?_)
              · refine wp_iconst (v := (0 : Int32)) rfl (by decide) ?_
                exact x_P.cong rfl (by rw [show x_bi (¬ ((I w 6) = 0)) = (0 : Int32) from x_bi_f (fun h => h c_7)]) J
              · refine wp_iconst (v := (1 : Int32)) rfl (by decide) ?_
                refine wp_goto rfl ?_
                exact x_P.cong rfl (by rw [show x_bi (¬ ((I w 6) = 0)) = (1 : Int32) from x_bi_t c_7]) J
            · by_cases c_8 : v2 = (6 : Int32)
              · replace H := H.2.2.2.2.2.2.1 c_8
                refine wp_tswIn (j := 6) rfl rfl (Eq.trans (congrArg Int32.toInt c_8) rfl) ?_
                refine wp_aload_n rfl rfl rfl ?_
                refine s_getI rfl (by decide) (hw.1 _) rfl ?_
                have J : x_P E d 66 39 [.ref 64, x_jk, .int v2, .ref w] [.int (x_bi (¬ ((I w 7) = 0)))] I Q := by
                  exact s_iret rfl rfl rfl H
                refine wp_if_eq rfl (fun c_9 => ?_) (fun c_9 => ?_)
                · refine wp_iconst (v := (0 : Int32)) rfl (by decide) ?_
                  exact x_P.cong rfl (by rw [show x_bi (¬ ((I w 7) = 0)) = (0 : Int32) from x_bi_f (fun h => h c_9)]) J
                · refine wp_iconst (v := (1 : Int32)) rfl (by decide) ?_
                  refine wp_goto rfl ?_
                  exact x_P.cong rfl (by rw [show x_bi (¬ ((I w 7) = 0)) = (1 : Int32) from x_bi_t c_9]) J
              · by_cases c_10 : v2 = (7 : Int32)
                · replace H := H.2.2.2.2.2.2.2.1 c_10
                  refine wp_tswIn (j := 7) rfl rfl (Eq.trans (congrArg Int32.toInt c_10) rfl) ?_
                  refine wp_aload_n rfl rfl rfl ?_
                  refine wp_aload_n rfl rfl rfl ?_
                  refine wp_getR (v := .ref 65) rfl (by decide) (kd_64 _) rfl (kr_64_0 _) ?_
                  refine wp_getR (v := .ref 68) rfl (by decide) (kd_65 _) rfl (kr_65_5 _) ?_
                  refine wp_aload_n rfl rfl rfl ?_
                  refine wp_aload_n rfl rfl rfl ?_
                  refine wp_getR (v := .ref 65) rfl (by decide) (kd_64 _) rfl (kr_64_0 _) ?_
                  refine s_getI rfl (by decide) (kd_65 _) rfl ?_
                  refine s_invV (As := [.ref w, .int (I 65 2)]) (d1 := d - 1) rfl ⟨by decide, by decide⟩ rfl rfl rfl (Nat.le_of_ble_eq_true rfl) (by omega) (kd_68 _) (by decide) rfl rfl H ?_
                  intro v I2 h2
                  exact x_P.weak (L := [.ref 64, x_jk, x_jk, x_jk]) (by exact ⟨Or.inr rfl, ⟨Or.inr rfl, ⟨Or.inl rfl, ⟨Or.inl rfl, trivial⟩⟩⟩⟩) h2
                · by_cases c_11 : v2 = (8 : Int32)
                  · replace H := H.2.2.2.2.2.2.2.2.1 c_11
                    refine wp_tswIn (j := 8) rfl rfl (Eq.trans (congrArg Int32.toInt c_11) rfl) ?_
                    refine wp_aload_n rfl rfl rfl ?_
                    refine wp_aload_n rfl rfl rfl ?_
                    refine wp_aload_n rfl rfl rfl ?_
                    refine s_getI rfl (by decide) (hw.1 _) rfl ?_
                    refine s_invV (As := [.ref w, .int (I w 3)]) (d1 := d - 1) rfl ⟨by decide, by decide⟩ rfl rfl rfl (Nat.le_of_ble_eq_true rfl) (by omega) (kd_64 _) (by decide) rfl rfl H ?_
                    intro v I2 h2
                    exact x_P.weak (L := [x_jk, x_jk, x_jk, x_jk]) (by exact ⟨Or.inl rfl, ⟨Or.inr rfl, ⟨Or.inl rfl, ⟨Or.inl rfl, trivial⟩⟩⟩⟩) h2
                  · by_cases c_12 : v2 = (9 : Int32)
                    · replace H := H.2.2.2.2.2.2.2.2.2.1 c_12
                      refine wp_tswIn (j := 9) rfl rfl (Eq.trans (congrArg Int32.toInt c_12) rfl) ?_
                      refine wp_aload_n rfl rfl rfl ?_
                      refine wp_aload_n rfl rfl rfl ?_
                      refine s_invV (As := [.ref w]) (d1 := d - 1) rfl ⟨by decide, by decide⟩ rfl rfl rfl (Nat.le_of_ble_eq_true rfl) (by omega) (kd_64 _) (by decide) rfl rfl H ?_
                      intro v I2 h2
                      exact x_P.weak (L := [x_jk, x_jk, x_jk, x_jk]) (by exact ⟨Or.inl rfl, ⟨Or.inr rfl, ⟨Or.inl rfl, ⟨Or.inl rfl, trivial⟩⟩⟩⟩) h2
                    · replace H := H.2.2.2.2.2.2.2.2.2.2 c_1 c_2 c_3 c_4 c_5 c_6 c_8 c_10 c_11 c_12
                      have nc_1 := x_tne (z := 0) c_1 rfl
                      have nc_2 := x_tne (z := 1) c_2 rfl
                      have nc_3 := x_tne (z := 2) c_3 rfl
                      have nc_4 := x_tne (z := 3) c_4 rfl
                      have nc_5 := x_tne (z := 4) c_5 rfl
                      have nc_6 := x_tne (z := 5) c_6 rfl
                      have nc_8 := x_tne (z := 6) c_8 rfl
                      have nc_10 := x_tne (z := 7) c_10 rfl
                      have nc_11 := x_tne (z := 8) c_11 rfl
                      have nc_12 := x_tne (z := 9) c_12 rfl
                      have hout : (v2).toInt < 0 ∨ 9 < (v2).toInt := by omega
                      refine wp_tswOut rfl hout ?_
                      refine wp_ldc (v := (-999999, 0)) rfl rfl (by decide) rfl ?_
                      exact s_iret rfl rfl rfl H
set_option maxRecDepth 20000 in
theorem r_C_of_4N {E : XE} {d : Nat} {I : Nat → Nat → Int32} {Q : Option Value → (Nat → Nat → Int32) → Prop} (hd : 1 ≤ d) (v2 : Int32)
    (H : Q (some (.int (-999999 : Int32))) I) :
    x_P E d 66 4 [.ref 64, x_jk, .int v2, x_jk] [.null] I Q := by
  refine wp_astore_nN (L' := [.ref 64, x_jk, .int v2, .null]) rfl rfl (by decide) rfl rfl ?_
  refine wp_aload_nN rfl rfl rfl ?_
  refine wp_ifnonnullN rfl ?_
  refine wp_ldc (v := (-999999, 0)) rfl rfl (by decide) rfl ?_
  exact s_iret rfl rfl rfl H
set_option maxRecDepth 20000 in
theorem r_C_of_49 {E : XE} {d : Nat} {I : Nat → Nat → Int32} {Q : Option Value → (Nat → Nat → Int32) → Prop} (hd : 1 ≤ d) (rs0 : Nat) (hrs0 : x_man rs0) (w : Int32)
    (H : x_K E (d - 1) 27 [.ref rs0, .int w, .int (I 65 2)] I (fun v I2 => x_P E d 66 53 [x_jk, x_jk, x_jk, x_jk] (v.toList ++ []) I2 Q)) :
    x_P E d 66 49 [.ref 64, x_jk, x_jk, x_jk] [.int w, .ref rs0] I Q := by
  refine wp_aload_n rfl rfl rfl ?_
  refine wp_getR (v := .ref 65) rfl (by decide) (kd_64 _) rfl (kr_64_0 _) ?_
  refine s_getI rfl (by decide) (kd_65 _) rfl ?_
  refine s_invV (As := [.int w, .int (I 65 2)]) (d1 := d - 1) rfl ⟨by decide, by decide⟩ rfl rfl rfl (Nat.le_of_ble_eq_true rfl) (by omega) (hrs0.1 _) (by decide) rfl rfl H ?_
  intro v I2 h2
  exact x_P.weak (L := [x_jk, x_jk, x_jk, x_jk]) (by exact ⟨Or.inl rfl, ⟨Or.inr rfl, ⟨Or.inr rfl, ⟨Or.inr rfl, trivial⟩⟩⟩⟩) h2
set_option maxRecDepth 20000 in
theorem r_C_of_59 {E : XE} {d : Nat} {I : Nat → Nat → Int32} {Q : Option Value → (Nat → Nat → Int32) → Prop} (hd : 1 ≤ d) (w : Int32)
    (H : Q (some (.int w)) I) :
    x_P E d 66 59 [x_jk, x_jk, x_jk, x_jk] [.int w] I Q := by
  exact s_iret rfl rfl rfl H
set_option maxRecDepth 20000 in
theorem r_C_of_63 {E : XE} {d : Nat} {I : Nat → Nat → Int32} {Q : Option Value → (Nat → Nat → Int32) → Prop} (hd : 1 ≤ d) (w : Int32)
    (H : Q (some (.int w)) I) :
    x_P E d 66 63 [x_jk, x_jk, x_jk, x_jk] [.int w] I Q := by
  exact s_iret rfl rfl rfl H
set_option maxRecDepth 20000 in
theorem r_C_of_53 {E : XE} {d : Nat} {I : Nat → Nat → Int32} {Q : Option Value → (Nat → Nat → Int32) → Prop} (hd : 1 ≤ d) (w : Int32)
    (H : Q (some (.int w)) I) :
    x_P E d 66 53 [x_jk, x_jk, x_jk, x_jk] [.int w] I Q := by
  exact s_iret rfl rfl rfl H
set_option maxRecDepth 20000 in
theorem r_C_row_0 {E : XE} {d : Nat} {I : Nat → Nat → Int32} {Q : Option Value → (Nat → Nat → Int32) → Prop} (hd : 1 ≤ d) (a1 : Int32) (a2 : Int32) (a3 : Int32)
    (H : x_K E (d - 1) 59 [.ref 65, .int a1] I (fun v I2 => x_P E d 67 4 [x_jk, x_jk, .int a2, .int a3, x_jk, x_jk] (v.toList ++ []) I2 Q)) :
    x_P E d 67 0 [.ref 64, .int a1, .int a2, .int a3, x_jk, x_jk] [] I Q := by
  refine wp_aload_n rfl rfl rfl ?_
  refine wp_getR (v := .ref 65) rfl (by decide) (kd_64 _) rfl (kr_64_0 _) ?_
  refine wp_iload_n rfl rfl rfl ?_
  refine s_invV (As := [.int a1]) (d1 := d - 1) rfl ⟨by decide, by decide⟩ rfl rfl rfl (Nat.le_of_ble_eq_true rfl) (by omega) (kd_65 _) (by decide) rfl rfl H ?_
  intro v I2 h2
  exact x_P.weak (L := [x_jk, x_jk, .int a2, .int a3, x_jk, x_jk]) (by exact ⟨Or.inl rfl, ⟨Or.inl rfl, ⟨Or.inr rfl, ⟨Or.inr rfl, ⟨Or.inr rfl, ⟨Or.inr rfl, trivial⟩⟩⟩⟩⟩⟩) h2
set_option maxRecDepth 20000 in
theorem r_C_row_4 {E : XE} {d : Nat} {I : Nat → Nat → Int32} {Q : Option Value → (Nat → Nat → Int32) → Prop} (hd : 2 ≤ d) (v2 : Int32) (v3 : Int32) (w : Nat) (hw : x_man w)
    (H : ((v2 < 0 → Q (some (.int (-1 : Int32))) I) ∧ (¬ (v2 < 0) → ((v2 < (4 : Int32) → ((0 ≤ v3 ∧ v3 ≤ (9 : Int32) → (((I w 1) = (6 : Int32) → (vp_in v2 4) ∧ (vp_in v2 4) ∧ (∀ I_7, I_7 = x_up I (w + 1) v2.toNatClampNeg v3 → Q (some (.int (I (w + 1) v2.toNatClampNeg))) I_7)) ∧ (¬ ((I w 1) = (6 : Int32)) → Q (some (.int (-3 : Int32))) I))) ∧ (¬ (0 ≤ v3 ∧ v3 ≤ (9 : Int32)) → Q (some (.int (-2 : Int32))) I))) ∧ (¬ (v2 < (4 : Int32)) → Q (some (.int (-1 : Int32))) I))))) :
    x_P E d 67 4 [x_jk, x_jk, .int v2, .int v3, x_jk, x_jk] [.ref w] I Q := by
  refine wp_astore (L' := [x_jk, x_jk, .int v2, .int v3, .ref w, x_jk]) rfl (by decide) rfl rfl ?_
  refine wp_aload rfl rfl ?_
  refine wp_ifnull rfl hw.2.2.2 ?_
  refine wp_iload_n rfl rfl rfl ?_
  refine wp_if_lt rfl (fun c_1 => ?_) (fun c_1 => ?_)
  · replace H := H.1 c_1
    refine wp_iconst (v := (-1 : Int32)) rfl (by decide) ?_
    exact s_iret rfl rfl rfl H
  · replace H := H.2 c_1
    refine wp_iload_n rfl rfl rfl ?_
    refine wp_aload rfl rfl ?_
    refine wp_getR (v := .ref (w + 1)) rfl (by decide) (hw.1 _) rfl hw.2.1 ?_
    refine wp_alen (v := (4 : Int32)) rfl (hw.2.2.1 _) (by decide) rfl ?_
    refine wp_icmp_lt rfl (fun c_2 => ?_) (fun c_2 => ?_)
    · replace H := H.1 c_2
      refine wp_iload_n rfl rfl rfl ?_
      refine wp_bipush (v := (9 : Int32)) rfl (by decide) ?_
      refine s_invStP (As := [.int v3, .int (9 : Int32)]) (d1 := d - 1) rfl ⟨by decide, by decide⟩ rfl rfl rfl (Nat.le_of_ble_eq_true rfl) (by omega) (p_isUpTo (by omega)) ?_
      refine s_bi_ne rfl (fun c_3 => ?_) (fun c_3 => ?_)
      · replace H := H.1 c_3
        refine wp_aload rfl rfl ?_
        refine s_getI rfl (by decide) (hw.1 _) rfl ?_
        refine wp_bipush (v := (6 : Int32)) rfl (by decide) ?_
        refine wp_icmp_eq rfl (fun c_4 => ?_) (fun c_4 => ?_)
        · replace H := H.1 c_4
          refine wp_aload rfl rfl ?_
          refine wp_getR (v := .ref (w + 1)) rfl (by decide) (hw.1 _) rfl hw.2.1 ?_
          refine wp_iload_n rfl rfl rfl ?_
          obtain ⟨o_5, H⟩ := H
          refine s_iald rfl (hw.2.2.1 _) o_5 ?_
          refine wp_istore (L' := [x_jk, x_jk, .int v2, .int v3, .ref w, .int (I (w + 1) v2.toNatClampNeg)]) rfl (by decide) rfl rfl ?_
          refine wp_aload rfl rfl ?_
          refine wp_getR (v := .ref (w + 1)) rfl (by decide) (hw.1 _) rfl hw.2.1 ?_
          refine wp_iload_n rfl rfl rfl ?_
          refine wp_iload_n rfl rfl rfl ?_
          obtain ⟨o_6, H⟩ := H
          refine s_iast rfl (hw.2.2.1 _) o_6 ?_
          generalize hI_7 : x_up I (w + 1) v2.toNatClampNeg v3 = I_7
          replace H := H _ hI_7.symm
          refine wp_iload rfl rfl ?_
          exact s_iret rfl rfl rfl H
        · replace H := H.2 c_4
          refine wp_bipush (v := (-3 : Int32)) rfl (by decide) ?_
          exact s_iret rfl rfl rfl H
      · replace H := H.2 c_3
        refine wp_bipush (v := (-2 : Int32)) rfl (by decide) ?_
        exact s_iret rfl rfl rfl H
    · replace H := H.2 c_2
      refine wp_iconst (v := (-1 : Int32)) rfl (by decide) ?_
      exact s_iret rfl rfl rfl H
set_option maxRecDepth 20000 in
theorem r_C_row_4N {E : XE} {d : Nat} {I : Nat → Nat → Int32} {Q : Option Value → (Nat → Nat → Int32) → Prop} (hd : 1 ≤ d) (v2 : Int32) (v3 : Int32)
    (H : Q (some (.int (-1 : Int32))) I) :
    x_P E d 67 4 [x_jk, x_jk, .int v2, .int v3, x_jk, x_jk] [.null] I Q := by
  refine wp_astoreN (L' := [x_jk, x_jk, .int v2, .int v3, .null, x_jk]) rfl (by decide) rfl rfl ?_
  refine wp_aloadN rfl rfl ?_
  refine wp_ifnullN rfl ?_
  refine wp_iconst (v := (-1 : Int32)) rfl (by decide) ?_
  exact s_iret rfl rfl rfl H
set_option maxRecDepth 20000 in
theorem r_C_set_0 {E : XE} {d : Nat} {I : Nat → Nat → Int32} {Q : Option Value → (Nat → Nat → Int32) → Prop} (hd : 1 ≤ d) (a1 : Int32) (a2 : Int32) (a3 : Int32)
    (H : x_K E (d - 1) 59 [.ref 65, .int a1] I (fun v I2 => x_P E d 68 4 [x_jk, x_jk, .int a2, .int a3, x_jk, x_jk, x_jk] (v.toList ++ []) I2 Q)) :
    x_P E d 68 0 [.ref 64, .int a1, .int a2, .int a3, x_jk, x_jk, x_jk] [] I Q := by
  refine wp_aload_n rfl rfl rfl ?_
  refine wp_getR (v := .ref 65) rfl (by decide) (kd_64 _) rfl (kr_64_0 _) ?_
  refine wp_iload_n rfl rfl rfl ?_
  refine s_invV (As := [.int a1]) (d1 := d - 1) rfl ⟨by decide, by decide⟩ rfl rfl rfl (Nat.le_of_ble_eq_true rfl) (by omega) (kd_65 _) (by decide) rfl rfl H ?_
  intro v I2 h2
  exact x_P.weak (L := [x_jk, x_jk, .int a2, .int a3, x_jk, x_jk, x_jk]) (by exact ⟨Or.inl rfl, ⟨Or.inl rfl, ⟨Or.inr rfl, ⟨Or.inr rfl, ⟨Or.inr rfl, ⟨Or.inr rfl, ⟨Or.inr rfl, trivial⟩⟩⟩⟩⟩⟩⟩) h2
set_option maxRecDepth 20000 in
theorem r_C_set_4 {E : XE} {d : Nat} {I : Nat → Nat → Int32} {Q : Option Value → (Nat → Nat → Int32) → Prop} (hd : 2 ≤ d) (v2 : Int32) (v3 : Int32) (w : Nat) (hw : x_man w)
    (H : ((0 ≤ v2 ∧ v2 ≤ (2 : Int32) → (∀ z_4, z_4 = (if v2 = 0 then (9 : Int32) else (if v2 = (1 : Int32) then (255 : Int32) else (99 : Int32))) → ((0 ≤ v3 ∧ v3 ≤ z_4 → ((v2 = 0 → (∀ I_10, I_10 = x_up I w 3 v3 → Q (some (.int (I w 3))) I_10)) ∧ (¬ (v2 = 0) → ((v2 = (1 : Int32) → (∀ I_9, I_9 = x_up I w 4 v3 → Q (some (.int (I w 4))) I_9)) ∧ (¬ (v2 = (1 : Int32)) → (∀ I_8, I_8 = x_up I w 5 v3 → Q (some (.int (I w 5))) I_8)))))) ∧ (¬ (0 ≤ v3 ∧ v3 ≤ z_4) → Q (some (.int (-2 : Int32))) I)))) ∧ (¬ (0 ≤ v2 ∧ v2 ≤ (2 : Int32)) → Q (some (.int (-1 : Int32))) I))) :
    x_P E d 68 4 [x_jk, x_jk, .int v2, .int v3, x_jk, x_jk, x_jk] [.ref w] I Q := by
  refine wp_astore (L' := [x_jk, x_jk, .int v2, .int v3, .ref w, x_jk, x_jk]) rfl (by decide) rfl rfl ?_
  refine wp_aload rfl rfl ?_
  refine wp_ifnull rfl hw.2.2.2 ?_
  refine wp_iload_n rfl rfl rfl ?_
  refine wp_iconst (v := (2 : Int32)) rfl (by decide) ?_
  refine s_invStP (As := [.int v2, .int (2 : Int32)]) (d1 := d - 1) rfl ⟨by decide, by decide⟩ rfl rfl rfl (Nat.le_of_ble_eq_true rfl) (by omega) (p_isUpTo (by omega)) ?_
  refine s_bi_ne rfl (fun c_1 => ?_) (fun c_1 => ?_)
  · replace H := H.1 c_1
    refine wp_iload_n rfl rfl rfl ?_
    obtain ⟨z_4, hz_4⟩ : ∃ z : Int32, z = (if v2 = 0 then (9 : Int32) else (if v2 = (1 : Int32) then (255 : Int32) else (99 : Int32))) := ⟨_, rfl⟩
    replace H := H _ hz_4
    have J : x_P E d 68 23 [x_jk, x_jk, .int v2, .int v3, .ref w, x_jk, x_jk] [.int z_4] I Q := by
      refine wp_istore (L' := [x_jk, x_jk, .int v2, .int v3, .ref w, .int z_4, x_jk]) rfl (by decide) rfl rfl ?_
      refine wp_iload_n rfl rfl rfl ?_
      refine wp_iload rfl rfl ?_
      refine s_invStP (As := [.int v3, .int z_4]) (d1 := d - 1) rfl ⟨by decide, by decide⟩ rfl rfl rfl (Nat.le_of_ble_eq_true rfl) (by omega) (p_isUpTo (by omega)) ?_
      refine s_bi_ne rfl (fun c_5 => ?_) (fun c_5 => ?_)
      · replace H := H.1 c_5
        refine wp_iload_n rfl rfl rfl ?_
        refine wp_if_ne rfl (fun c_6 => ?_) (fun c_6 => ?_)
        · replace H := H.2 c_6
          refine wp_iload_n rfl rfl rfl ?_
          refine wp_iconst (v := (1 : Int32)) rfl (by decide) ?_
          refine wp_icmp_ne rfl (fun c_7 => ?_) (fun c_7 => ?_)
          · replace H := H.2 c_7
            refine wp_aload rfl rfl ?_
            refine s_getI rfl (by decide) (hw.1 _) rfl ?_
            refine wp_istore (L' := [x_jk, x_jk, .int v2, .int v3, .ref w, .int z_4, .int (I w 5)]) rfl (by decide) rfl rfl ?_
            refine wp_aload rfl rfl ?_
            refine wp_iload_n rfl rfl rfl ?_
            refine s_putI rfl (by decide) (hw.1 _) rfl rfl (x_fit_int _) ?_
            generalize hI_8 : x_up I w 5 v3 = I_8
            replace H := H _ hI_8.symm
            refine wp_iload rfl rfl ?_
            exact s_iret rfl rfl rfl H
          · replace H := H.1 c_7
            refine wp_aload rfl rfl ?_
            refine s_getI rfl (by decide) (hw.1 _) rfl ?_
            refine wp_istore (L' := [x_jk, x_jk, .int v2, .int v3, .ref w, .int z_4, .int (I w 4)]) rfl (by decide) rfl rfl ?_
            refine wp_aload rfl rfl ?_
            refine wp_iload_n rfl rfl rfl ?_
            refine s_putI rfl (by decide) (hw.1 _) rfl rfl (x_fit_int _) ?_
            generalize hI_9 : x_up I w 4 v3 = I_9
            replace H := H _ hI_9.symm
            refine wp_goto rfl ?_
            refine wp_iload rfl rfl ?_
            exact s_iret rfl rfl rfl H
        · replace H := H.1 c_6
          refine wp_aload rfl rfl ?_
          refine s_getI rfl (by decide) (hw.1 _) rfl ?_
          refine wp_istore (L' := [x_jk, x_jk, .int v2, .int v3, .ref w, .int z_4, .int (I w 3)]) rfl (by decide) rfl rfl ?_
          refine wp_aload rfl rfl ?_
          refine wp_iload_n rfl rfl rfl ?_
          refine s_putI rfl (by decide) (hw.1 _) rfl rfl (x_fit_int _) ?_
          generalize hI_10 : x_up I w 3 v3 = I_10
          replace H := H _ hI_10.symm
          refine wp_goto rfl ?_
          refine wp_iload rfl rfl ?_
          exact s_iret rfl rfl rfl H
      · replace H := H.2 c_5
        refine wp_bipush (v := (-2 : Int32)) rfl (by decide) ?_
        exact s_iret rfl rfl rfl H
    refine wp_if_ne rfl (fun c_2 => ?_) (fun c_2 => ?_)
    · refine wp_iload_n rfl rfl rfl ?_
      refine wp_iconst (v := (1 : Int32)) rfl (by decide) ?_
      refine wp_icmp_ne rfl (fun c_3 => ?_) (fun c_3 => ?_)
      · refine wp_bipush (v := (99 : Int32)) rfl (by decide) ?_
        exact x_P.cong rfl (by rw [show z_4 = (99 : Int32) from by rw [hz_4]; simp only [if_neg c_2, if_neg c_3]]) J
      · refine wp_sipush (v := (255 : Int32)) rfl (by decide) ?_
        refine wp_goto rfl ?_
        exact x_P.cong rfl (by rw [show z_4 = (255 : Int32) from by rw [hz_4]; simp only [if_neg c_2, if_pos c_3]]) J
    · refine wp_bipush (v := (9 : Int32)) rfl (by decide) ?_
      refine wp_goto rfl ?_
      exact x_P.cong rfl (by rw [show z_4 = (9 : Int32) from by rw [hz_4]; simp only [if_pos c_2]]) J
  · replace H := H.2 c_1
    refine wp_iconst (v := (-1 : Int32)) rfl (by decide) ?_
    exact s_iret rfl rfl rfl H
set_option maxRecDepth 20000 in
theorem r_C_set_4N {E : XE} {d : Nat} {I : Nat → Nat → Int32} {Q : Option Value → (Nat → Nat → Int32) → Prop} (hd : 1 ≤ d) (v2 : Int32) (v3 : Int32)
    (H : Q (some (.int (-1 : Int32))) I) :
    x_P E d 68 4 [x_jk, x_jk, .int v2, .int v3, x_jk, x_jk, x_jk] [.null] I Q := by
  refine wp_astoreN (L' := [x_jk, x_jk, .int v2, .int v3, .null, x_jk, x_jk]) rfl (by decide) rfl rfl ?_
  refine wp_aloadN rfl rfl ?_
  refine wp_ifnullN rfl ?_
  refine wp_iconst (v := (-1 : Int32)) rfl (by decide) ?_
  exact s_iret rfl rfl rfl H
set_option maxRecDepth 20000 in
theorem r_C_stud_0 {E : XE} {d : Nat} {I : Nat → Nat → Int32} {Q : Option Value → (Nat → Nat → Int32) → Prop} (hd : 1 ≤ d) (a1 : Int32) (a2 : Int32)
    (H : x_K E (d - 1) 59 [.ref 65, .int a1] I (fun v I2 => x_P E d 69 4 [x_jk, x_jk, .int a2, x_jk, x_jk] (v.toList ++ []) I2 Q)) :
    x_P E d 69 0 [.ref 64, .int a1, .int a2, x_jk, x_jk] [] I Q := by
  refine wp_aload_n rfl rfl rfl ?_
  refine wp_getR (v := .ref 65) rfl (by decide) (kd_64 _) rfl (kr_64_0 _) ?_
  refine wp_iload_n rfl rfl rfl ?_
  refine s_invV (As := [.int a1]) (d1 := d - 1) rfl ⟨by decide, by decide⟩ rfl rfl rfl (Nat.le_of_ble_eq_true rfl) (by omega) (kd_65 _) (by decide) rfl rfl H ?_
  intro v I2 h2
  exact x_P.weak (L := [x_jk, x_jk, .int a2, x_jk, x_jk]) (by exact ⟨Or.inl rfl, ⟨Or.inl rfl, ⟨Or.inr rfl, ⟨Or.inr rfl, ⟨Or.inr rfl, trivial⟩⟩⟩⟩⟩) h2
set_option maxRecDepth 20000 in
theorem r_C_stud_4 {E : XE} {d : Nat} {I : Nat → Nat → Int32} {Q : Option Value → (Nat → Nat → Int32) → Prop} (hd : 1 ≤ d) (v2 : Int32) (w : Nat) (hw : x_man w)
    (H : (x_fit .boolean v2) ∧ (∀ I_3, I_3 = x_up I w 6 v2 → Q (some (.int (x_bi (¬ ((I w 6) = 0))))) I_3)) :
    x_P E d 69 4 [x_jk, x_jk, .int v2, x_jk, x_jk] [.ref w] I Q := by
  refine wp_astore_n (L' := [x_jk, x_jk, .int v2, .ref w, x_jk]) rfl rfl (by decide) rfl rfl ?_
  refine wp_aload_n rfl rfl rfl ?_
  refine wp_ifnonnull rfl hw.2.2.2 ?_
  refine wp_aload_n rfl rfl rfl ?_
  refine s_getI rfl (by decide) (hw.1 _) rfl ?_
  have J : x_P E d 69 15 [x_jk, x_jk, .int v2, .ref w, x_jk] [.int (x_bi (¬ ((I w 6) = 0)))] I Q := by
    refine wp_istore (L' := [x_jk, x_jk, .int v2, .ref w, .int (x_bi (¬ ((I w 6) = 0)))]) rfl (by decide) rfl rfl ?_
    refine wp_aload_n rfl rfl rfl ?_
    refine wp_iload_n rfl rfl rfl ?_
    obtain ⟨o_2, H⟩ := H
    refine s_putI rfl (by decide) (hw.1 _) rfl rfl o_2 ?_
    generalize hI_3 : x_up I w 6 v2 = I_3
    replace H := H _ hI_3.symm
    refine wp_iload rfl rfl ?_
    exact s_iret rfl rfl rfl H
  refine wp_if_eq rfl (fun c_1 => ?_) (fun c_1 => ?_)
  · refine wp_iconst (v := (0 : Int32)) rfl (by decide) ?_
    exact x_P.cong rfl (by rw [show x_bi (¬ ((I w 6) = 0)) = (0 : Int32) from x_bi_f (fun h => h c_1)]) J
  · refine wp_iconst (v := (1 : Int32)) rfl (by decide) ?_
    refine wp_goto rfl ?_
    exact x_P.cong rfl (by rw [show x_bi (¬ ((I w 6) = 0)) = (1 : Int32) from x_bi_t c_1]) J
set_option maxRecDepth 20000 in
theorem r_C_stud_4N {E : XE} {d : Nat} {I : Nat → Nat → Int32} {Q : Option Value → (Nat → Nat → Int32) → Prop} (hd : 1 ≤ d) (v2 : Int32)
    (H : Q (some (.int (-1 : Int32))) I) :
    x_P E d 69 4 [x_jk, x_jk, .int v2, x_jk, x_jk] [.null] I Q := by
  refine wp_astore_nN (L' := [x_jk, x_jk, .int v2, .null, x_jk]) rfl rfl (by decide) rfl rfl ?_
  refine wp_aload_nN rfl rfl rfl ?_
  refine wp_ifnonnullN rfl ?_
  refine wp_iconst (v := (-1 : Int32)) rfl (by decide) ?_
  exact s_iret rfl rfl rfl H
set_option maxRecDepth 20000 in
theorem r_C_away_0 {E : XE} {d : Nat} {I : Nat → Nat → Int32} {Q : Option Value → (Nat → Nat → Int32) → Prop} (hd : 1 ≤ d) (a1 : Int32) (a2 : Int32)
    (H : x_K E (d - 1) 59 [.ref 65, .int a1] I (fun v I2 => x_P E d 70 4 [x_jk, x_jk, .int a2, x_jk, x_jk] (v.toList ++ []) I2 Q)) :
    x_P E d 70 0 [.ref 64, .int a1, .int a2, x_jk, x_jk] [] I Q := by
  refine wp_aload_n rfl rfl rfl ?_
  refine wp_getR (v := .ref 65) rfl (by decide) (kd_64 _) rfl (kr_64_0 _) ?_
  refine wp_iload_n rfl rfl rfl ?_
  refine s_invV (As := [.int a1]) (d1 := d - 1) rfl ⟨by decide, by decide⟩ rfl rfl rfl (Nat.le_of_ble_eq_true rfl) (by omega) (kd_65 _) (by decide) rfl rfl H ?_
  intro v I2 h2
  exact x_P.weak (L := [x_jk, x_jk, .int a2, x_jk, x_jk]) (by exact ⟨Or.inl rfl, ⟨Or.inl rfl, ⟨Or.inr rfl, ⟨Or.inr rfl, ⟨Or.inr rfl, trivial⟩⟩⟩⟩⟩) h2
set_option maxRecDepth 20000 in
theorem r_C_away_4 {E : XE} {d : Nat} {I : Nat → Nat → Int32} {Q : Option Value → (Nat → Nat → Int32) → Prop} (hd : 1 ≤ d) (v2 : Int32) (w : Nat) (hw : x_man w)
    (H : (x_fit .boolean v2) ∧ (∀ I_3, I_3 = x_up I w 7 v2 → Q (some (.int (x_bi (¬ ((I w 7) = 0))))) I_3)) :
    x_P E d 70 4 [x_jk, x_jk, .int v2, x_jk, x_jk] [.ref w] I Q := by
  refine wp_astore_n (L' := [x_jk, x_jk, .int v2, .ref w, x_jk]) rfl rfl (by decide) rfl rfl ?_
  refine wp_aload_n rfl rfl rfl ?_
  refine wp_ifnonnull rfl hw.2.2.2 ?_
  refine wp_aload_n rfl rfl rfl ?_
  refine s_getI rfl (by decide) (hw.1 _) rfl ?_
  have J : x_P E d 70 15 [x_jk, x_jk, .int v2, .ref w, x_jk] [.int (x_bi (¬ ((I w 7) = 0)))] I Q := by
    refine wp_istore (L' := [x_jk, x_jk, .int v2, .ref w, .int (x_bi (¬ ((I w 7) = 0)))]) rfl (by decide) rfl rfl ?_
    refine wp_aload_n rfl rfl rfl ?_
    refine wp_iload_n rfl rfl rfl ?_
    obtain ⟨o_2, H⟩ := H
    refine s_putI rfl (by decide) (hw.1 _) rfl rfl o_2 ?_
    generalize hI_3 : x_up I w 7 v2 = I_3
    replace H := H _ hI_3.symm
    refine wp_iload rfl rfl ?_
    exact s_iret rfl rfl rfl H
  refine wp_if_eq rfl (fun c_1 => ?_) (fun c_1 => ?_)
  · refine wp_iconst (v := (0 : Int32)) rfl (by decide) ?_
    exact x_P.cong rfl (by rw [show x_bi (¬ ((I w 7) = 0)) = (0 : Int32) from x_bi_f (fun h => h c_1)]) J
  · refine wp_iconst (v := (1 : Int32)) rfl (by decide) ?_
    refine wp_goto rfl ?_
    exact x_P.cong rfl (by rw [show x_bi (¬ ((I w 7) = 0)) = (1 : Int32) from x_bi_t c_1]) J
set_option maxRecDepth 20000 in
theorem r_C_away_4N {E : XE} {d : Nat} {I : Nat → Nat → Int32} {Q : Option Value → (Nat → Nat → Int32) → Prop} (hd : 1 ≤ d) (v2 : Int32)
    (H : Q (some (.int (-1 : Int32))) I) :
    x_P E d 70 4 [x_jk, x_jk, .int v2, x_jk, x_jk] [.null] I Q := by
  refine wp_astore_nN (L' := [x_jk, x_jk, .int v2, .null, x_jk]) rfl rfl (by decide) rfl rfl ?_
  refine wp_aload_nN rfl rfl rfl ?_
  refine wp_ifnonnullN rfl ?_
  refine wp_iconst (v := (-1 : Int32)) rfl (by decide) ?_
  exact s_iret rfl rfl rfl H
set_option maxRecDepth 20000 in
theorem r_C_apart_0 {E : XE} {d : Nat} {I : Nat → Nat → Int32} {Q : Option Value → (Nat → Nat → Int32) → Prop} (hd : 1 ≤ d) (a1 : Int32) (a2 : Int32)
    (H : x_K E (d - 1) 59 [.ref 65, .int a1] I (fun v I2 => x_P E d 71 4 [.ref 64, .int a1, .int a2, x_jk, x_jk] (v.toList ++ []) I2 Q)) :
    x_P E d 71 0 [.ref 64, .int a1, .int a2, x_jk, x_jk] [] I Q := by
  refine wp_aload_n rfl rfl rfl ?_
  refine wp_getR (v := .ref 65) rfl (by decide) (kd_64 _) rfl (kr_64_0 _) ?_
  refine wp_iload_n rfl rfl rfl ?_
  refine s_invV (As := [.int a1]) (d1 := d - 1) rfl ⟨by decide, by decide⟩ rfl rfl rfl (Nat.le_of_ble_eq_true rfl) (by omega) (kd_65 _) (by decide) rfl rfl H ?_
  intro v I2 h2
  exact h2
set_option maxRecDepth 20000 in
theorem r_C_apart_4 {E : XE} {d : Nat} {I : Nat → Nat → Int32} {Q : Option Value → (Nat → Nat → Int32) → Prop} (hd : 1 ≤ d) (v1 : Int32) (v2 : Int32) (w : Nat) (hw : x_man w)
    (H : x_K E (d - 1) 59 [.ref 65, .int v2] I (fun v I2 => x_P E d 71 9 [x_jk, .int v1, .int v2, .ref w, x_jk] (v.toList ++ []) I2 Q)) :
    x_P E d 71 4 [.ref 64, .int v1, .int v2, x_jk, x_jk] [.ref w] I Q := by
  refine wp_astore_n (L' := [.ref 64, .int v1, .int v2, .ref w, x_jk]) rfl rfl (by decide) rfl rfl ?_
  refine wp_aload_n rfl rfl rfl ?_
  refine wp_getR (v := .ref 65) rfl (by decide) (kd_64 _) rfl (kr_64_0 _) ?_
  refine wp_iload_n rfl rfl rfl ?_
  refine s_invV (As := [.int v2]) (d1 := d - 1) rfl ⟨by decide, by decide⟩ rfl rfl rfl (Nat.le_of_ble_eq_true rfl) (by omega) (kd_65 _) (by decide) rfl rfl H ?_
  intro v I2 h2
  exact x_P.weak (L := [x_jk, .int v1, .int v2, .ref w, x_jk]) (by exact ⟨Or.inl rfl, ⟨Or.inr rfl, ⟨Or.inr rfl, ⟨Or.inr rfl, ⟨Or.inr rfl, trivial⟩⟩⟩⟩⟩) h2
set_option maxRecDepth 20000 in
theorem r_C_apart_4N {E : XE} {d : Nat} {I : Nat → Nat → Int32} {Q : Option Value → (Nat → Nat → Int32) → Prop} (hd : 1 ≤ d) (v1 : Int32) (v2 : Int32)
    (H : x_K E (d - 1) 59 [.ref 65, .int v2] I (fun v I2 => x_P E d 71 9 [x_jk, .int v1, .int v2, .null, x_jk] (v.toList ++ []) I2 Q)) :
    x_P E d 71 4 [.ref 64, .int v1, .int v2, x_jk, x_jk] [.null] I Q := by
  refine wp_astore_nN (L' := [.ref 64, .int v1, .int v2, .null, x_jk]) rfl rfl (by decide) rfl rfl ?_
  refine wp_aload_n rfl rfl rfl ?_
  refine wp_getR (v := .ref 65) rfl (by decide) (kd_64 _) rfl (kr_64_0 _) ?_
  refine wp_iload_n rfl rfl rfl ?_
  refine s_invV (As := [.int v2]) (d1 := d - 1) rfl ⟨by decide, by decide⟩ rfl rfl rfl (Nat.le_of_ble_eq_true rfl) (by omega) (kd_65 _) (by decide) rfl rfl H ?_
  intro v I2 h2
  exact x_P.weak (L := [x_jk, .int v1, .int v2, .null, x_jk]) (by exact ⟨Or.inl rfl, ⟨Or.inr rfl, ⟨Or.inr rfl, ⟨Or.inr rfl, ⟨Or.inr rfl, trivial⟩⟩⟩⟩⟩) h2
set_option maxRecDepth 20000 in
theorem r_C_apart_9 {E : XE} {d : Nat} {I : Nat → Nat → Int32} {Q : Option Value → (Nat → Nat → Int32) → Prop} (hd : 1 ≤ d) (v1 : Int32) (v2 : Int32) (rv3 : Nat) (hrv3 : x_man rv3) (w : Nat) (hw : x_man w)
    (H : ((v1 = v2 → Q (some (.int (-2 : Int32))) I) ∧ (¬ (v1 = v2) → x_K E (d - 1) 26 [.ref rv3, .ref w] I (fun v I2 => x_P E d 71 24 [x_jk, x_jk, x_jk, x_jk, x_jk] (v.toList ++ []) I2 Q)))) :
    x_P E d 71 9 [x_jk, .int v1, .int v2, .ref rv3, x_jk] [.ref w] I Q := by
  refine wp_astore (L' := [x_jk, .int v1, .int v2, .ref rv3, .ref w]) rfl (by decide) rfl rfl ?_
  refine wp_aload_n rfl rfl rfl ?_
  refine wp_ifnull rfl hrv3.2.2.2 ?_
  refine wp_aload rfl rfl ?_
  refine wp_ifnonnull rfl hw.2.2.2 ?_
  refine wp_iload_n rfl rfl rfl ?_
  refine wp_iload_n rfl rfl rfl ?_
  refine wp_icmp_ne rfl (fun c_1 => ?_) (fun c_1 => ?_)
  · replace H := H.2 c_1
    refine wp_aload_n rfl rfl rfl ?_
    refine wp_aload rfl rfl ?_
    refine s_invV (As := [.ref w]) (d1 := d - 1) rfl ⟨by decide, by decide⟩ rfl rfl rfl (Nat.le_of_ble_eq_true rfl) (by omega) (hrv3.1 _) (by decide) rfl rfl H ?_
    intro v I2 h2
    exact x_P.weak (L := [x_jk, x_jk, x_jk, x_jk, x_jk]) (by exact ⟨Or.inr rfl, ⟨Or.inl rfl, ⟨Or.inl rfl, ⟨Or.inl rfl, ⟨Or.inl rfl, trivial⟩⟩⟩⟩⟩) h2
  · replace H := H.1 c_1
    refine wp_bipush (v := (-2 : Int32)) rfl (by decide) ?_
    refine wp_goto rfl ?_
    exact s_iret rfl rfl rfl H
set_option maxRecDepth 20000 in
theorem r_C_apart_9N {E : XE} {d : Nat} {I : Nat → Nat → Int32} {Q : Option Value → (Nat → Nat → Int32) → Prop} (hd : 1 ≤ d) (v1 : Int32) (v2 : Int32) (rv3 : Nat) (hrv3 : x_man rv3)
    (H : Q (some (.int (-1 : Int32))) I) :
    x_P E d 71 9 [x_jk, .int v1, .int v2, .ref rv3, x_jk] [.null] I Q := by
  refine wp_astoreN (L' := [x_jk, .int v1, .int v2, .ref rv3, .null]) rfl (by decide) rfl rfl ?_
  refine wp_aload_n rfl rfl rfl ?_
  refine wp_ifnull rfl hrv3.2.2.2 ?_
  refine wp_aloadN rfl rfl ?_
  refine wp_ifnonnullN rfl ?_
  refine wp_iconst (v := (-1 : Int32)) rfl (by decide) ?_
  exact s_iret rfl rfl rfl H
set_option maxRecDepth 20000 in
theorem r_C_apart_24 {E : XE} {d : Nat} {I : Nat → Nat → Int32} {Q : Option Value → (Nat → Nat → Int32) → Prop} (hd : 1 ≤ d) (w : Int32)
    (H : Q (some (.int w)) I) :
    x_P E d 71 24 [x_jk, x_jk, x_jk, x_jk, x_jk] [.int w] I Q := by
  exact s_iret rfl rfl rfl H
set_option maxRecDepth 20000 in
theorem r_C_told_0 {E : XE} {d : Nat} {I : Nat → Nat → Int32} {Q : Option Value → (Nat → Nat → Int32) → Prop} (hd : 1 ≤ d) (a1 : Int32)
    (H : ((a1 = (0 : Int32) → Q (some (.int (I 65 2))) I) ∧ (a1 = (1 : Int32) → Q (some (.int (I 68 0))) I) ∧ (a1 = (2 : Int32) → x_K E (d - 1) 97 [.ref 64, .int (0 : Int32)] I (fun v I2 => x_P E d 72 14 [x_jk, x_jk] (v.toList ++ []) I2 Q)) ∧ (a1 = (3 : Int32) → x_K E (d - 1) 60 [.ref 65] I (fun v I2 => x_P E d 72 18 [.ref 64, x_jk] (v.toList ++ []) I2 Q)) ∧ (a1 = (4 : Int32) → x_K E (d - 1) 99 [.ref 64] I (fun v I2 => x_P E d 72 27 [x_jk, x_jk] (v.toList ++ []) I2 Q)) ∧ (¬ a1 = (0 : Int32) → ¬ a1 = (1 : Int32) → ¬ a1 = (2 : Int32) → ¬ a1 = (3 : Int32) → ¬ a1 = (4 : Int32) → Q (some (.int (-1 : Int32))) I))) :
    x_P E d 72 0 [.ref 64, .int a1] [] I Q := by
  refine wp_iload_n rfl rfl rfl ?_
  by_cases c_1 : a1 = (0 : Int32)
  · replace H := H.1 c_1
    refine wp_tswIn (j := 0) rfl rfl (Eq.trans (congrArg Int32.toInt c_1) rfl) ?_
    refine wp_aload_n rfl rfl rfl ?_
    refine wp_getR (v := .ref 65) rfl (by decide) (kd_64 _) rfl (kr_64_0 _) ?_
    refine s_getI rfl (by decide) (kd_65 _) rfl ?_
    exact s_iret rfl rfl rfl H
  · by_cases c_2 : a1 = (1 : Int32)
    · replace H := H.2.1 c_2
      refine wp_tswIn (j := 1) rfl rfl (Eq.trans (congrArg Int32.toInt c_2) rfl) ?_
      refine wp_aload_n rfl rfl rfl ?_
      refine wp_getR (v := .ref 65) rfl (by decide) (kd_64 _) rfl (kr_64_0 _) ?_
      refine wp_getR (v := .ref 68) rfl (by decide) (kd_65 _) rfl (kr_65_5 _) ?_
      refine s_getI rfl (by decide) (kd_68 _) rfl ?_
      exact s_iret rfl rfl rfl H
    · by_cases c_3 : a1 = (2 : Int32)
      · replace H := H.2.2.1 c_3
        refine wp_tswIn (j := 2) rfl rfl (Eq.trans (congrArg Int32.toInt c_3) rfl) ?_
        refine wp_aload_n rfl rfl rfl ?_
        refine wp_iconst (v := (0 : Int32)) rfl (by decide) ?_
        refine s_invV (As := [.int (0 : Int32)]) (d1 := d - 1) rfl ⟨by decide, by decide⟩ rfl rfl rfl (Nat.le_of_ble_eq_true rfl) (by omega) (kd_64 _) (by decide) rfl rfl H ?_
        intro v I2 h2
        exact x_P.weak (L := [x_jk, x_jk]) (by exact ⟨Or.inl rfl, ⟨Or.inl rfl, trivial⟩⟩) h2
      · by_cases c_4 : a1 = (3 : Int32)
        · replace H := H.2.2.2.1 c_4
          refine wp_tswIn (j := 3) rfl rfl (Eq.trans (congrArg Int32.toInt c_4) rfl) ?_
          refine wp_aload_n rfl rfl rfl ?_
          refine wp_getR (v := .ref 65) rfl (by decide) (kd_64 _) rfl (kr_64_0 _) ?_
          refine s_invV (As := []) (d1 := d - 1) rfl ⟨by decide, by decide⟩ rfl rfl rfl (Nat.le_of_ble_eq_true rfl) (by omega) (kd_65 _) (by decide) rfl rfl H ?_
          intro v I2 h2
          exact x_P.weak (L := [.ref 64, x_jk]) (by exact ⟨Or.inr rfl, ⟨Or.inl rfl, trivial⟩⟩) h2
        · by_cases c_5 : a1 = (4 : Int32)
          · replace H := H.2.2.2.2.1 c_5
            refine wp_tswIn (j := 4) rfl rfl (Eq.trans (congrArg Int32.toInt c_5) rfl) ?_
            refine wp_aload_n rfl rfl rfl ?_
            refine s_invV (As := []) (d1 := d - 1) rfl ⟨by decide, by decide⟩ rfl rfl rfl (Nat.le_of_ble_eq_true rfl) (by omega) (kd_64 _) (by decide) rfl rfl H ?_
            intro v I2 h2
            exact x_P.weak (L := [x_jk, x_jk]) (by exact ⟨Or.inl rfl, ⟨Or.inl rfl, trivial⟩⟩) h2
          · replace H := H.2.2.2.2.2 c_1 c_2 c_3 c_4 c_5
            have nc_1 := x_tne (z := 0) c_1 rfl
            have nc_2 := x_tne (z := 1) c_2 rfl
            have nc_3 := x_tne (z := 2) c_3 rfl
            have nc_4 := x_tne (z := 3) c_4 rfl
            have nc_5 := x_tne (z := 4) c_5 rfl
            have hout : (a1).toInt < 0 ∨ 4 < (a1).toInt := by omega
            refine wp_tswOut rfl hout ?_
            refine wp_iconst (v := (-1 : Int32)) rfl (by decide) ?_
            exact s_iret rfl rfl rfl H
set_option maxRecDepth 20000 in
theorem r_C_told_14 {E : XE} {d : Nat} {I : Nat → Nat → Int32} {Q : Option Value → (Nat → Nat → Int32) → Prop} (hd : 1 ≤ d) (w : Int32)
    (H : Q (some (.int w)) I) :
    x_P E d 72 14 [x_jk, x_jk] [.int w] I Q := by
  exact s_iret rfl rfl rfl H
set_option maxRecDepth 20000 in
theorem r_C_told_18 {E : XE} {d : Nat} {I : Nat → Nat → Int32} {Q : Option Value → (Nat → Nat → Int32) → Prop} (hd : 1 ≤ d) (w : Int32)
    (H : x_K E (d - 1) 61 [.ref 65] I (fun v I2 => x_P E d 72 21 [x_jk, x_jk] (v.toList ++ [.int w]) I2 Q)) :
    x_P E d 72 18 [.ref 64, x_jk] [.int w] I Q := by
  refine wp_aload_n rfl rfl rfl ?_
  refine wp_getR (v := .ref 65) rfl (by decide) (kd_64 _) rfl (kr_64_0 _) ?_
  refine s_invV (As := []) (d1 := d - 1) rfl ⟨by decide, by decide⟩ rfl rfl rfl (Nat.le_of_ble_eq_true rfl) (by omega) (kd_65 _) (by decide) rfl rfl H ?_
  intro v I2 h2
  exact x_P.weak (L := [x_jk, x_jk]) (by exact ⟨Or.inl rfl, ⟨Or.inr rfl, trivial⟩⟩) h2
set_option maxRecDepth 20000 in
theorem r_C_told_27 {E : XE} {d : Nat} {I : Nat → Nat → Int32} {Q : Option Value → (Nat → Nat → Int32) → Prop} (hd : 1 ≤ d) (w : Int32)
    (H : Q (some (.int w)) I) :
    x_P E d 72 27 [x_jk, x_jk] [.int w] I Q := by
  exact s_iret rfl rfl rfl H
set_option maxRecDepth 20000 in
theorem r_C_told_21 {E : XE} {d : Nat} {I : Nat → Nat → Int32} {Q : Option Value → (Nat → Nat → Int32) → Prop} (hd : 1 ≤ d) (s0 : Int32) (w : Int32)
    (H : Q (some (.int (s0 &&& (w ^^^ (-1 : Int32))))) I) :
    x_P E d 72 21 [x_jk, x_jk] [.int w, .int s0] I Q := by
  refine wp_iconst (v := (-1 : Int32)) rfl (by decide) ?_
  refine wp_ixor rfl ?_
  refine wp_iand rfl ?_
  exact s_iret rfl rfl rfl H
set_option maxRecDepth 20000 in
theorem r_C_pass_0 {E : XE} {d : Nat} {I : Nat → Nat → Int32} {Q : Option Value → (Nat → Nat → Int32) → Prop} (hd : 2 ≤ d) (a1 : Int32)
    (H : ((0 ≤ a1 ∧ a1 ≤ (60 : Int32) → ((((I 65 2) + a1) ≤ (9999 : Int32) → x_P E d 73 17 [.ref 64, .int a1, .int (0 : Int32)] [] I Q) ∧ (¬ (((I 65 2) + a1) ≤ (9999 : Int32)) → Q (some (.int (-3 : Int32))) I))) ∧ (¬ (0 ≤ a1 ∧ a1 ≤ (60 : Int32)) → Q (some (.int (-2 : Int32))) I))) :
    x_P E d 73 0 [.ref 64, .int a1, x_jk] [] I Q := by
  refine wp_iload_n rfl rfl rfl ?_
  refine wp_bipush (v := (60 : Int32)) rfl (by decide) ?_
  refine s_invStP (As := [.int a1, .int (60 : Int32)]) (d1 := d - 1) rfl ⟨by decide, by decide⟩ rfl rfl rfl (Nat.le_of_ble_eq_true rfl) (by omega) (p_isUpTo (by omega)) ?_
  refine s_bi_ne rfl (fun c_1 => ?_) (fun c_1 => ?_)
  · replace H := H.1 c_1
    refine wp_aload_n rfl rfl rfl ?_
    refine wp_getR (v := .ref 65) rfl (by decide) (kd_64 _) rfl (kr_64_0 _) ?_
    refine s_getI rfl (by decide) (kd_65 _) rfl ?_
    refine wp_iload_n rfl rfl rfl ?_
    refine wp_iadd rfl ?_
    refine wp_sipush (v := (9999 : Int32)) rfl (by decide) ?_
    refine wp_icmp_le rfl (fun c_2 => ?_) (fun c_2 => ?_)
    · replace H := H.1 c_2
      refine wp_iconst (v := (0 : Int32)) rfl (by decide) ?_
      refine wp_istore_n (L' := [.ref 64, .int a1, .int (0 : Int32)]) rfl rfl (by decide) rfl rfl ?_
      exact H
    · replace H := H.2 c_2
      refine wp_bipush (v := (-3 : Int32)) rfl (by decide) ?_
      exact s_iret rfl rfl rfl H
  · replace H := H.2 c_1
    refine wp_bipush (v := (-2 : Int32)) rfl (by decide) ?_
    exact s_iret rfl rfl rfl H
set_option maxRecDepth 20000 in
theorem r_C_pass_17 {E : XE} {d : Nat} {I : Nat → Nat → Int32} {Q : Option Value → (Nat → Nat → Int32) → Prop} (hd : 1 ≤ d) (v1 : Int32) (v2 : Int32)
    (H : (((I 65 1) ≤ v2 → (∀ I_2, I_2 = x_up I 65 2 ((I 65 2) + v1) → Q (some (.int (I_2 65 2))) I_2)) ∧ (¬ ((I 65 1) ≤ v2) → (vp_in v2 6) ∧ x_K E (d - 1) 96 [.ref 64, .ref (85 + 2 * v2.toNatClampNeg), .int v1] I (fun v I2 => x_P E d 73 30 [.ref 64, .int v1, .int v2] (v.toList ++ []) I2 Q)))) :
    x_P E d 73 17 [.ref 64, .int v1, .int v2] [] I Q := by
  refine wp_iload_n rfl rfl rfl ?_
  refine wp_aload_n rfl rfl rfl ?_
  refine wp_getR (v := .ref 65) rfl (by decide) (kd_64 _) rfl (kr_64_0 _) ?_
  refine s_getI rfl (by decide) (kd_65 _) rfl ?_
  refine wp_icmp_ge rfl (fun c_1 => ?_) (fun c_1 => ?_)
  · replace H := H.1 c_1
    refine wp_aload_n rfl rfl rfl ?_
    refine wp_getR (v := .ref 65) rfl (by decide) (kd_64 _) rfl (kr_64_0 _) ?_
    refine wp_dup rfl rfl ?_
    refine s_getI rfl (by decide) (kd_65 _) rfl ?_
    refine wp_iload_n rfl rfl rfl ?_
    refine wp_iadd rfl ?_
    refine s_putI rfl (by decide) (kd_65 _) rfl rfl (x_fit_int _) ?_
    generalize hI_2 : x_up I 65 2 ((I 65 2) + v1) = I_2
    replace H := H _ hI_2.symm
    refine wp_aload_n rfl rfl rfl ?_
    refine wp_getR (v := .ref 65) rfl (by decide) (kd_64 _) rfl (kr_64_0 _) ?_
    refine s_getI rfl (by decide) (kd_65 _) rfl ?_
    exact s_iret rfl rfl rfl H
  · replace H := H.2 c_1
    refine wp_aload_n rfl rfl rfl ?_
    refine wp_aload_n rfl rfl rfl ?_
    refine wp_getR (v := .ref 65) rfl (by decide) (kd_64 _) rfl (kr_64_0 _) ?_
    refine wp_getR (v := .ref 66) rfl (by decide) (kd_65 _) rfl (kr_65_0 _) ?_
    refine wp_iload_n rfl rfl rfl ?_
    obtain ⟨o_3, H⟩ := H
    refine wp_aald (v := .ref (85 + 2 * v2.toNatClampNeg)) rfl (kd_66 _) o_3 (x_man_now (x_in_lt o_3)).2 ?_
    refine wp_iload_n rfl rfl rfl ?_
    refine s_invV (As := [.ref (85 + 2 * v2.toNatClampNeg), .int v1]) (d1 := d - 1) rfl ⟨by decide, by decide⟩ rfl rfl rfl (Nat.le_of_ble_eq_true rfl) (by omega) (kd_64 _) (by decide) rfl rfl H ?_
    intro v I2 h2
    exact h2
set_option maxRecDepth 20000 in
theorem r_C_pass_30 {E : XE} {d : Nat} {I : Nat → Nat → Int32} {Q : Option Value → (Nat → Nat → Int32) → Prop} (hd : 1 ≤ d) (v1 : Int32) (v2 : Int32)
    (H : x_P E d 73 17 [.ref 64, .int v1, .int (v2 + 1)] [] I Q) :
    x_P E d 73 30 [.ref 64, .int v1, .int v2] [] I Q := by
  refine wp_iinc (v := v2 + 1) (L' := [.ref 64, .int v1, .int (v2 + 1)]) rfl rfl rfl rfl rfl ?_
  refine wp_goto rfl ?_
  exact H
set_option maxRecDepth 20000 in
theorem r_C_on_0 {E : XE} {d : Nat} {I : Nat → Nat → Int32} {Q : Option Value → (Nat → Nat → Int32) → Prop} (hd : 1 ≤ d) (a1 : Int32) (a2 : Int32)
    (H : (∀ z_3, z_3 = (if ¬ (a2 < (20 : Int32)) then (20 : Int32) else (10 : Int32)) → x_K E (d - 1) 59 [.ref 65, .int (a2 - z_3)] I (fun v I2 => x_P E d 74 17 [.ref 64, .int a1, .int a2, .int (x_bi (¬ (a2 < (20 : Int32)))), x_jk] (v.toList ++ []) I2 Q))) :
    x_P E d 74 0 [.ref 64, .int a1, .int a2, x_jk, x_jk] [] I Q := by
  refine wp_iload_n rfl rfl rfl ?_
  refine wp_bipush (v := (20 : Int32)) rfl (by decide) ?_
  have J : x_P E d 74 6 [.ref 64, .int a1, .int a2, x_jk, x_jk] [.int (x_bi (¬ (a2 < (20 : Int32))))] I Q := by
    refine wp_istore_n (L' := [.ref 64, .int a1, .int a2, .int (x_bi (¬ (a2 < (20 : Int32)))), x_jk]) rfl rfl (by decide) rfl rfl ?_
    refine wp_aload_n rfl rfl rfl ?_
    refine wp_getR (v := .ref 65) rfl (by decide) (kd_64 _) rfl (kr_64_0 _) ?_
    refine wp_iload_n rfl rfl rfl ?_
    refine wp_iload_n rfl rfl rfl ?_
    obtain ⟨z_3, hz_3⟩ : ∃ z : Int32, z = (if ¬ (a2 < (20 : Int32)) then (20 : Int32) else (10 : Int32)) := ⟨_, rfl⟩
    replace H := H _ hz_3
    have J : x_P E d 74 15 [.ref 64, .int a1, .int a2, .int (x_bi (¬ (a2 < (20 : Int32)))), x_jk] [.int z_3, .int a2, .ref 65] I Q := by
      refine wp_isub rfl ?_
      refine s_invV (As := [.int (a2 - z_3)]) (d1 := d - 1) rfl ⟨by decide, by decide⟩ rfl rfl rfl (Nat.le_of_ble_eq_true rfl) (by omega) (kd_65 _) (by decide) rfl rfl H ?_
      intro v I2 h2
      exact h2
    refine s_bi_eq rfl (fun c_2 => ?_) (fun c_2 => ?_)
    · refine wp_bipush (v := (10 : Int32)) rfl (by decide) ?_
      exact x_P.cong rfl (by rw [show z_3 = (10 : Int32) from by rw [hz_3]; simp only [if_neg c_2]]) J
    · refine wp_bipush (v := (20 : Int32)) rfl (by decide) ?_
      refine wp_goto rfl ?_
      exact x_P.cong rfl (by rw [show z_3 = (20 : Int32) from by rw [hz_3]; simp only [if_pos c_2]]) J
  refine wp_icmp_lt rfl (fun c_1 => ?_) (fun c_1 => ?_)
  · refine wp_iconst (v := (0 : Int32)) rfl (by decide) ?_
    exact x_P.cong rfl (by rw [show x_bi (¬ (a2 < (20 : Int32))) = (0 : Int32) from x_bi_f (fun h => h c_1)]) J
  · refine wp_iconst (v := (1 : Int32)) rfl (by decide) ?_
    refine wp_goto rfl ?_
    exact x_P.cong rfl (by rw [show x_bi (¬ (a2 < (20 : Int32))) = (1 : Int32) from x_bi_t c_1]) J
set_option maxRecDepth 20000 in
theorem r_C_on_17 {E : XE} {d : Nat} {I : Nat → Nat → Int32} {Q : Option Value → (Nat → Nat → Int32) → Prop} (hd : 2 ≤ d) (v1 : Int32) (v2 : Int32) (v3 : Int32) (w : Nat) (hw : x_man w)
    (H : ((0 ≤ v1 ∧ v1 ≤ (60 : Int32) → x_K E (d - 1) 24 [.ref 129, .ref w] I (fun v I2 => x_P E d 74 40 [.ref 64, .int v1, x_jk, .int v3, x_jk] (v.toList ++ []) I2 Q)) ∧ (¬ (0 ≤ v1 ∧ v1 ≤ (60 : Int32)) → Q (some (.int (-2 : Int32))) I))) :
    x_P E d 74 17 [.ref 64, .int v1, .int v2, .int v3, x_jk] [.ref w] I Q := by
  refine wp_astore (L' := [.ref 64, .int v1, .int v2, .int v3, .ref w]) rfl (by decide) rfl rfl ?_
  refine wp_aload rfl rfl ?_
  refine wp_ifnonnull rfl hw.2.2.2 ?_
  refine wp_iload_n rfl rfl rfl ?_
  refine wp_bipush (v := (60 : Int32)) rfl (by decide) ?_
  refine s_invStP (As := [.int v1, .int (60 : Int32)]) (d1 := d - 1) rfl ⟨by decide, by decide⟩ rfl rfl rfl (Nat.le_of_ble_eq_true rfl) (by omega) (p_isUpTo (by omega)) ?_
  refine s_bi_ne rfl (fun c_1 => ?_) (fun c_1 => ?_)
  · replace H := H.1 c_1
    refine wp_aload rfl rfl ?_
    refine wp_ifnonnull rfl hw.2.2.2 ?_
    refine wp_aload_n rfl rfl rfl ?_
    refine wp_getR (v := .ref 129) rfl (by decide) (kd_64 _) rfl (kr_64_3 _) ?_
    refine wp_aload rfl rfl ?_
    refine s_invV (As := [.ref w]) (d1 := d - 1) rfl ⟨by decide, by decide⟩ rfl rfl rfl (Nat.le_of_ble_eq_true rfl) (by omega) (kd_129 _) (by decide) rfl rfl H ?_
    intro v I2 h2
    exact x_P.weak (L := [.ref 64, .int v1, x_jk, .int v3, x_jk]) (by exact ⟨Or.inr rfl, ⟨Or.inr rfl, ⟨Or.inl rfl, ⟨Or.inr rfl, ⟨Or.inl rfl, trivial⟩⟩⟩⟩⟩) h2
  · replace H := H.2 c_1
    refine wp_bipush (v := (-2 : Int32)) rfl (by decide) ?_
    exact s_iret rfl rfl rfl H
set_option maxRecDepth 20000 in
theorem r_C_on_17N {E : XE} {d : Nat} {I : Nat → Nat → Int32} {Q : Option Value → (Nat → Nat → Int32) → Prop} (hd : 2 ≤ d) (v1 : Int32) (v2 : Int32) (v3 : Int32)
    (H : ((v2 = 0 → ((0 ≤ v1 ∧ v1 ≤ (60 : Int32) → x_K E (d - 1) 97 [.ref 64, .int v1] I (fun v I2 => x_P E d 74 35 [x_jk, x_jk, x_jk, x_jk, x_jk] (v.toList ++ []) I2 Q)) ∧ (¬ (0 ≤ v1 ∧ v1 ≤ (60 : Int32)) → Q (some (.int (-2 : Int32))) I))) ∧ (¬ (v2 = 0) → Q (some (.int (-1 : Int32))) I))) :
    x_P E d 74 17 [.ref 64, .int v1, .int v2, .int v3, x_jk] [.null] I Q := by
  refine wp_astoreN (L' := [.ref 64, .int v1, .int v2, .int v3, .null]) rfl (by decide) rfl rfl ?_
  refine wp_aloadN rfl rfl ?_
  refine wp_ifnonnullN rfl ?_
  refine wp_iload_n rfl rfl rfl ?_
  refine wp_if_eq rfl (fun c_1 => ?_) (fun c_1 => ?_)
  · replace H := H.1 c_1
    refine wp_iload_n rfl rfl rfl ?_
    refine wp_bipush (v := (60 : Int32)) rfl (by decide) ?_
    refine s_invStP (As := [.int v1, .int (60 : Int32)]) (d1 := d - 1) rfl ⟨by decide, by decide⟩ rfl rfl rfl (Nat.le_of_ble_eq_true rfl) (by omega) (p_isUpTo (by omega)) ?_
    refine s_bi_ne rfl (fun c_2 => ?_) (fun c_2 => ?_)
    · replace H := H.1 c_2
      refine wp_aloadN rfl rfl ?_
      refine wp_ifnonnullN rfl ?_
      refine wp_aload_n rfl rfl rfl ?_
      refine wp_iload_n rfl rfl rfl ?_
      refine s_invV (As := [.int v1]) (d1 := d - 1) rfl ⟨by decide, by decide⟩ rfl rfl rfl (Nat.le_of_ble_eq_true rfl) (by omega) (kd_64 _) (by decide) rfl rfl H ?_
      intro v I2 h2
      exact x_P.weak (L := [x_jk, x_jk, x_jk, x_jk, x_jk]) (by exact ⟨Or.inl rfl, ⟨Or.inl rfl, ⟨Or.inl rfl, ⟨Or.inl rfl, ⟨Or.inl rfl, trivial⟩⟩⟩⟩⟩) h2
    · replace H := H.2 c_2
      refine wp_bipush (v := (-2 : Int32)) rfl (by decide) ?_
      exact s_iret rfl rfl rfl H
  · replace H := H.2 c_1
    refine wp_iconst (v := (-1 : Int32)) rfl (by decide) ?_
    exact s_iret rfl rfl rfl H
set_option maxRecDepth 20000 in
theorem r_C_on_35 {E : XE} {d : Nat} {I : Nat → Nat → Int32} {Q : Option Value → (Nat → Nat → Int32) → Prop} (hd : 1 ≤ d) (w : Int32)
    (H : Q (some (.int w)) I) :
    x_P E d 74 35 [x_jk, x_jk, x_jk, x_jk, x_jk] [.int w] I Q := by
  exact s_iret rfl rfl rfl H
set_option maxRecDepth 20000 in
theorem r_C_on_40 {E : XE} {d : Nat} {I : Nat → Nat → Int32} {Q : Option Value → (Nat → Nat → Int32) → Prop} (hd : 1 ≤ d) (v1 : Int32) (v3 : Int32)
    (H : x_K E (d - 1) 96 [.ref 64, .ref 129, .int v1] I (fun v I2 => x_P E d 74 45 [.ref 64, x_jk, x_jk, .int v3, x_jk] (v.toList ++ []) I2 Q)) :
    x_P E d 74 40 [.ref 64, .int v1, x_jk, .int v3, x_jk] [] I Q := by
  refine wp_aload_n rfl rfl rfl ?_
  refine wp_aload_n rfl rfl rfl ?_
  refine wp_getR (v := .ref 129) rfl (by decide) (kd_64 _) rfl (kr_64_3 _) ?_
  refine wp_iload_n rfl rfl rfl ?_
  refine s_invV (As := [.ref 129, .int v1]) (d1 := d - 1) rfl ⟨by decide, by decide⟩ rfl rfl rfl (Nat.le_of_ble_eq_true rfl) (by omega) (kd_64 _) (by decide) rfl rfl H ?_
  intro v I2 h2
  exact x_P.weak (L := [.ref 64, x_jk, x_jk, .int v3, x_jk]) (by exact ⟨Or.inr rfl, ⟨Or.inl rfl, ⟨Or.inr rfl, ⟨Or.inr rfl, ⟨Or.inr rfl, trivial⟩⟩⟩⟩⟩) h2
set_option maxRecDepth 20000 in
theorem r_C_on_45 {E : XE} {d : Nat} {I : Nat → Nat → Int32} {Q : Option Value → (Nat → Nat → Int32) → Prop} (hd : 1 ≤ d) (v3 : Int32)
    (H : (∀ z_2, z_2 = (if v3 = 0 then (I 129 5) else (I 129 4)) → Q (some (.int z_2)) I)) :
    x_P E d 74 45 [.ref 64, x_jk, x_jk, .int v3, x_jk] [] I Q := by
  refine wp_iload_n rfl rfl rfl ?_
  obtain ⟨z_2, hz_2⟩ : ∃ z : Int32, z = (if v3 = 0 then (I 129 5) else (I 129 4)) := ⟨_, rfl⟩
  replace H := H _ hz_2
  have J : x_P E d 74 54 [.ref 64, x_jk, x_jk, .int v3, x_jk] [.int z_2] I Q := by
    exact s_iret rfl rfl rfl H
  refine wp_if_eq rfl (fun c_1 => ?_) (fun c_1 => ?_)
  · refine wp_aload_n rfl rfl rfl ?_
    refine wp_getR (v := .ref 129) rfl (by decide) (kd_64 _) rfl (kr_64_3 _) ?_
    refine s_getI rfl (by decide) (kd_129 _) rfl ?_
    exact x_P.cong rfl (by rw [show z_2 = (I 129 5) from by rw [hz_2]; simp only [if_pos c_1]]) J
  · refine wp_aload_n rfl rfl rfl ?_
    refine wp_getR (v := .ref 129) rfl (by decide) (kd_64 _) rfl (kr_64_3 _) ?_
    refine s_getI rfl (by decide) (kd_129 _) rfl ?_
    refine wp_goto rfl ?_
    exact x_P.cong rfl (by rw [show z_2 = (I 129 4) from by rw [hz_2]; simp only [if_neg c_1]]) J
set_option maxRecDepth 20000 in
theorem r_C_when_0 {E : XE} {d : Nat} {I : Nat → Nat → Int32} {Q : Option Value → (Nat → Nat → Int32) → Prop} (hd : 1 ≤ d) (a1 : Int32)
    (H : x_K E (d - 1) 59 [.ref 65, .int a1] I (fun v I2 => x_P E d 75 4 [.ref 64, x_jk, x_jk, x_jk] (v.toList ++ []) I2 Q)) :
    x_P E d 75 0 [.ref 64, .int a1, x_jk, x_jk] [] I Q := by
  refine wp_aload_n rfl rfl rfl ?_
  refine wp_getR (v := .ref 65) rfl (by decide) (kd_64 _) rfl (kr_64_0 _) ?_
  refine wp_iload_n rfl rfl rfl ?_
  refine s_invV (As := [.int a1]) (d1 := d - 1) rfl ⟨by decide, by decide⟩ rfl rfl rfl (Nat.le_of_ble_eq_true rfl) (by omega) (kd_65 _) (by decide) rfl rfl H ?_
  intro v I2 h2
  exact x_P.weak (L := [.ref 64, x_jk, x_jk, x_jk]) (by exact ⟨Or.inr rfl, ⟨Or.inl rfl, ⟨Or.inr rfl, ⟨Or.inr rfl, trivial⟩⟩⟩⟩) h2
set_option maxRecDepth 20000 in
theorem r_C_when_4 {E : XE} {d : Nat} {I : Nat → Nat → Int32} {Q : Option Value → (Nat → Nat → Int32) → Prop} (hd : 1 ≤ d) (w : Nat) (hw : x_man w)
    (H : x_K E (d - 1) 24 [.ref 129, .ref w] I (fun v I2 => x_P E d 75 13 [.ref 64, x_jk, x_jk, x_jk] (v.toList ++ []) I2 Q)) :
    x_P E d 75 4 [.ref 64, x_jk, x_jk, x_jk] [.ref w] I Q := by
  refine wp_astore_n (L' := [.ref 64, x_jk, .ref w, x_jk]) rfl rfl (by decide) rfl rfl ?_
  refine wp_aload_n rfl rfl rfl ?_
  refine wp_ifnonnull rfl hw.2.2.2 ?_
  refine wp_aload_n rfl rfl rfl ?_
  refine wp_getR (v := .ref 129) rfl (by decide) (kd_64 _) rfl (kr_64_3 _) ?_
  refine wp_aload_n rfl rfl rfl ?_
  refine s_invV (As := [.ref w]) (d1 := d - 1) rfl ⟨by decide, by decide⟩ rfl rfl rfl (Nat.le_of_ble_eq_true rfl) (by omega) (kd_129 _) (by decide) rfl rfl H ?_
  intro v I2 h2
  exact x_P.weak (L := [.ref 64, x_jk, x_jk, x_jk]) (by exact ⟨Or.inr rfl, ⟨Or.inr rfl, ⟨Or.inl rfl, ⟨Or.inr rfl, trivial⟩⟩⟩⟩) h2
set_option maxRecDepth 20000 in
theorem r_C_when_4N {E : XE} {d : Nat} {I : Nat → Nat → Int32} {Q : Option Value → (Nat → Nat → Int32) → Prop} (hd : 1 ≤ d) 
    (H : Q (some (.int (-1 : Int32))) I) :
    x_P E d 75 4 [.ref 64, x_jk, x_jk, x_jk] [.null] I Q := by
  refine wp_astore_nN (L' := [.ref 64, x_jk, .null, x_jk]) rfl rfl (by decide) rfl rfl ?_
  refine wp_aload_nN rfl rfl rfl ?_
  refine wp_ifnonnullN rfl ?_
  refine wp_iconst (v := (-1 : Int32)) rfl (by decide) ?_
  exact s_iret rfl rfl rfl H
set_option maxRecDepth 20000 in
theorem r_C_when_13 {E : XE} {d : Nat} {I : Nat → Nat → Int32} {Q : Option Value → (Nat → Nat → Int32) → Prop} (hd : 1 ≤ d) 
    (H : x_P E d 75 15 [.ref 64, x_jk, x_jk, .int (0 : Int32)] [] I Q) :
    x_P E d 75 13 [.ref 64, x_jk, x_jk, x_jk] [] I Q := by
  refine wp_iconst (v := (0 : Int32)) rfl (by decide) ?_
  refine wp_istore_n (L' := [.ref 64, x_jk, x_jk, .int (0 : Int32)]) rfl rfl (by decide) rfl rfl ?_
  exact H
set_option maxRecDepth 20000 in
theorem r_C_when_15 {E : XE} {d : Nat} {I : Nat → Nat → Int32} {Q : Option Value → (Nat → Nat → Int32) → Prop} (hd : 1 ≤ d) (v3 : Int32)
    (H : (((60 : Int32) < v3 → Q (some (.int (-5 : Int32))) I) ∧ (¬ ((60 : Int32) < v3) → (((I 129 6) = 0 → x_K E (d - 1) 28 [.ref 129, .ref 68, .int ((I 65 2) + v3)] I (fun v I2 => x_P E d 75 35 [.ref 64, x_jk, x_jk, .int v3] (v.toList ++ []) I2 Q)) ∧ (¬ ((I 129 6) = 0) → Q (some (.int v3)) I))))) :
    x_P E d 75 15 [.ref 64, x_jk, x_jk, .int v3] [] I Q := by
  refine wp_iload_n rfl rfl rfl ?_
  refine wp_bipush (v := (60 : Int32)) rfl (by decide) ?_
  refine wp_icmp_gt rfl (fun c_1 => ?_) (fun c_1 => ?_)
  · replace H := H.1 c_1
    refine wp_bipush (v := (-5 : Int32)) rfl (by decide) ?_
    exact s_iret rfl rfl rfl H
  · replace H := H.2 c_1
    refine wp_aload_n rfl rfl rfl ?_
    refine wp_getR (v := .ref 129) rfl (by decide) (kd_64 _) rfl (kr_64_3 _) ?_
    refine s_getI rfl (by decide) (kd_129 _) rfl ?_
    refine wp_if_eq rfl (fun c_2 => ?_) (fun c_2 => ?_)
    · replace H := H.1 c_2
      refine wp_aload_n rfl rfl rfl ?_
      refine wp_getR (v := .ref 129) rfl (by decide) (kd_64 _) rfl (kr_64_3 _) ?_
      refine wp_aload_n rfl rfl rfl ?_
      refine wp_getR (v := .ref 65) rfl (by decide) (kd_64 _) rfl (kr_64_0 _) ?_
      refine wp_getR (v := .ref 68) rfl (by decide) (kd_65 _) rfl (kr_65_5 _) ?_
      refine wp_aload_n rfl rfl rfl ?_
      refine wp_getR (v := .ref 65) rfl (by decide) (kd_64 _) rfl (kr_64_0 _) ?_
      refine s_getI rfl (by decide) (kd_65 _) rfl ?_
      refine wp_iload_n rfl rfl rfl ?_
      refine wp_iadd rfl ?_
      refine s_invV (As := [.ref 68, .int ((I 65 2) + v3)]) (d1 := d - 1) rfl ⟨by decide, by decide⟩ rfl rfl rfl (Nat.le_of_ble_eq_true rfl) (by omega) (kd_129 _) (by decide) rfl rfl H ?_
      intro v I2 h2
      exact h2
    · replace H := H.2 c_2
      refine wp_iload_n rfl rfl rfl ?_
      exact s_iret rfl rfl rfl H
set_option maxRecDepth 20000 in
theorem r_C_when_35 {E : XE} {d : Nat} {I : Nat → Nat → Int32} {Q : Option Value → (Nat → Nat → Int32) → Prop} (hd : 1 ≤ d) (v3 : Int32)
    (H : x_P E d 75 15 [.ref 64, x_jk, x_jk, .int (v3 + 1)] [] I Q) :
    x_P E d 75 35 [.ref 64, x_jk, x_jk, .int v3] [] I Q := by
  refine wp_iinc (v := v3 + 1) (L' := [.ref 64, x_jk, x_jk, .int (v3 + 1)]) rfl rfl rfl rfl rfl ?_
  refine wp_goto rfl ?_
  exact H
set_option maxRecDepth 20000 in
theorem r_C_walk_0 {E : XE} {d : Nat} {I : Nat → Nat → Int32} {Q : Option Value → (Nat → Nat → Int32) → Prop} (hd : 1 ≤ d) (a1 : Int32)
    (H : ((a1 < (-1 : Int32) → Q (some (.int (-1 : Int32))) I) ∧ (¬ (a1 < (-1 : Int32)) → ((a1 < (I 65 1) → x_K E (d - 1) 61 [.ref 65] I (fun v I2 => x_P E d 76 13 [.ref 64, .int a1, x_jk] (v.toList ++ []) I2 Q)) ∧ (¬ (a1 < (I 65 1)) → Q (some (.int (-1 : Int32))) I))))) :
    x_P E d 76 0 [.ref 64, .int a1, x_jk] [] I Q := by
  refine wp_iload_n rfl rfl rfl ?_
  refine wp_iconst (v := (-1 : Int32)) rfl (by decide) ?_
  refine wp_icmp_lt rfl (fun c_1 => ?_) (fun c_1 => ?_)
  · replace H := H.1 c_1
    refine wp_iconst (v := (-1 : Int32)) rfl (by decide) ?_
    exact s_iret rfl rfl rfl H
  · replace H := H.2 c_1
    refine wp_iload_n rfl rfl rfl ?_
    refine wp_aload_n rfl rfl rfl ?_
    refine wp_getR (v := .ref 65) rfl (by decide) (kd_64 _) rfl (kr_64_0 _) ?_
    refine s_getI rfl (by decide) (kd_65 _) rfl ?_
    refine wp_icmp_lt rfl (fun c_2 => ?_) (fun c_2 => ?_)
    · replace H := H.1 c_2
      refine wp_aload_n rfl rfl rfl ?_
      refine wp_getR (v := .ref 65) rfl (by decide) (kd_64 _) rfl (kr_64_0 _) ?_
      refine s_invV (As := []) (d1 := d - 1) rfl ⟨by decide, by decide⟩ rfl rfl rfl (Nat.le_of_ble_eq_true rfl) (by omega) (kd_65 _) (by decide) rfl rfl H ?_
      intro v I2 h2
      exact h2
    · replace H := H.2 c_2
      refine wp_iconst (v := (-1 : Int32)) rfl (by decide) ?_
      exact s_iret rfl rfl rfl H
set_option maxRecDepth 20000 in
theorem r_C_walk_13 {E : XE} {d : Nat} {I : Nat → Nat → Int32} {Q : Option Value → (Nat → Nat → Int32) → Prop} (hd : 1 ≤ d) (v1 : Int32) (w : Int32)
    (H : x_K E (d - 1) 30 [.ref 140, .ref 65, .int w] I (fun v I2 => x_P E d 76 20 [.ref 64, .int v1, .int w] (v.toList ++ []) I2 Q)) :
    x_P E d 76 13 [.ref 64, .int v1, x_jk] [.int w] I Q := by
  refine wp_istore_n (L' := [.ref 64, .int v1, .int w]) rfl rfl (by decide) rfl rfl ?_
  refine wp_aload_n rfl rfl rfl ?_
  refine wp_getR (v := .ref 140) rfl (by decide) (kd_64 _) rfl (kr_64_6 _) ?_
  refine wp_aload_n rfl rfl rfl ?_
  refine wp_getR (v := .ref 65) rfl (by decide) (kd_64 _) rfl (kr_64_0 _) ?_
  refine wp_iload_n rfl rfl rfl ?_
  refine s_invV (As := [.ref 65, .int w]) (d1 := d - 1) rfl ⟨by decide, by decide⟩ rfl rfl rfl (Nat.le_of_ble_eq_true rfl) (by omega) (kd_140 _) (by decide) rfl rfl H ?_
  intro v I2 h2
  exact h2
set_option maxRecDepth 20000 in
theorem r_C_walk_20 {E : XE} {d : Nat} {I : Nat → Nat → Int32} {Q : Option Value → (Nat → Nat → Int32) → Prop} (hd : 1 ≤ d) (v1 : Int32) (v2 : Int32)
    (H : ((v1 = (-1 : Int32) → (vp_in v2 64) ∧ Q (some (.int (I 141 v2.toNatClampNeg))) I) ∧ (¬ (v1 = (-1 : Int32)) → x_K E (d - 1) 32 [.ref 140, .ref 65, .int v2, .int v1] I (fun v I2 => x_P E d 76 36 [x_jk, x_jk, x_jk] (v.toList ++ []) I2 Q)))) :
    x_P E d 76 20 [.ref 64, .int v1, .int v2] [] I Q := by
  refine wp_iload_n rfl rfl rfl ?_
  refine wp_iconst (v := (-1 : Int32)) rfl (by decide) ?_
  refine wp_icmp_ne rfl (fun c_1 => ?_) (fun c_1 => ?_)
  · replace H := H.2 c_1
    refine wp_aload_n rfl rfl rfl ?_
    refine wp_getR (v := .ref 140) rfl (by decide) (kd_64 _) rfl (kr_64_6 _) ?_
    refine wp_aload_n rfl rfl rfl ?_
    refine wp_getR (v := .ref 65) rfl (by decide) (kd_64 _) rfl (kr_64_0 _) ?_
    refine wp_iload_n rfl rfl rfl ?_
    refine wp_iload_n rfl rfl rfl ?_
    refine s_invV (As := [.ref 65, .int v2, .int v1]) (d1 := d - 1) rfl ⟨by decide, by decide⟩ rfl rfl rfl (Nat.le_of_ble_eq_true rfl) (by omega) (kd_140 _) (by decide) rfl rfl H ?_
    intro v I2 h2
    exact x_P.weak (L := [x_jk, x_jk, x_jk]) (by exact ⟨Or.inl rfl, ⟨Or.inl rfl, ⟨Or.inl rfl, trivial⟩⟩⟩) h2
  · replace H := H.1 c_1
    refine wp_aload_n rfl rfl rfl ?_
    refine wp_getR (v := .ref 140) rfl (by decide) (kd_64 _) rfl (kr_64_6 _) ?_
    refine wp_getR (v := .ref 141) rfl (by decide) (kd_140 _) rfl (kr_140_0 _) ?_
    refine wp_iload_n rfl rfl rfl ?_
    obtain ⟨o_2, H⟩ := H
    refine s_iald rfl (kd_141 _) o_2 ?_
    exact s_iret rfl rfl rfl H
set_option maxRecDepth 20000 in
theorem r_C_walk_36 {E : XE} {d : Nat} {I : Nat → Nat → Int32} {Q : Option Value → (Nat → Nat → Int32) → Prop} (hd : 1 ≤ d) (w : Int32)
    (H : Q (some (.int w)) I) :
    x_P E d 76 36 [x_jk, x_jk, x_jk] [.int w] I Q := by
  exact s_iret rfl rfl rfl H
set_option maxRecDepth 20000 in
theorem r_C_table_0 {E : XE} {d : Nat} {I : Nat → Nat → Int32} {Q : Option Value → (Nat → Nat → Int32) → Prop} (hd : 2 ≤ d) (a1 : Int32)
    (H : ((0 ≤ a1 ∧ a1 ≤ (8 : Int32) → x_K E (d - 1) 61 [.ref 65] I (fun v I2 => x_P E d 77 9 [.ref 64, .int a1, x_jk, x_jk, x_jk, x_jk] (v.toList ++ []) I2 Q)) ∧ (¬ (0 ≤ a1 ∧ a1 ≤ (8 : Int32)) → Q (some (.int (-2 : Int32))) I))) :
    x_P E d 77 0 [.ref 64, .int a1, x_jk, x_jk, x_jk, x_jk] [] I Q := by
  refine wp_iload_n rfl rfl rfl ?_
  refine wp_bipush (v := (8 : Int32)) rfl (by decide) ?_
  refine s_invStP (As := [.int a1, .int (8 : Int32)]) (d1 := d - 1) rfl ⟨by decide, by decide⟩ rfl rfl rfl (Nat.le_of_ble_eq_true rfl) (by omega) (p_isUpTo (by omega)) ?_
  refine s_bi_ne rfl (fun c_1 => ?_) (fun c_1 => ?_)
  · replace H := H.1 c_1
    refine wp_aload_n rfl rfl rfl ?_
    refine wp_getR (v := .ref 65) rfl (by decide) (kd_64 _) rfl (kr_64_0 _) ?_
    refine s_invV (As := []) (d1 := d - 1) rfl ⟨by decide, by decide⟩ rfl rfl rfl (Nat.le_of_ble_eq_true rfl) (by omega) (kd_65 _) (by decide) rfl rfl H ?_
    intro v I2 h2
    exact h2
  · replace H := H.2 c_1
    refine wp_bipush (v := (-2 : Int32)) rfl (by decide) ?_
    exact s_iret rfl rfl rfl H
set_option maxRecDepth 20000 in
theorem r_C_table_9 {E : XE} {d : Nat} {I : Nat → Nat → Int32} {Q : Option Value → (Nat → Nat → Int32) → Prop} (hd : 1 ≤ d) (v1 : Int32) (w : Int32)
    (H : x_P E d 77 14 [.ref 64, .int v1, .int w, .int (0 : Int32), .int (1 : Int32), x_jk] [] I Q) :
    x_P E d 77 9 [.ref 64, .int v1, x_jk, x_jk, x_jk, x_jk] [.int w] I Q := by
  refine wp_istore_n (L' := [.ref 64, .int v1, .int w, x_jk, x_jk, x_jk]) rfl rfl (by decide) rfl rfl ?_
  refine wp_iconst (v := (0 : Int32)) rfl (by decide) ?_
  refine wp_istore_n (L' := [.ref 64, .int v1, .int w, .int (0 : Int32), x_jk, x_jk]) rfl rfl (by decide) rfl rfl ?_
  refine wp_iconst (v := (1 : Int32)) rfl (by decide) ?_
  refine wp_istore (L' := [.ref 64, .int v1, .int w, .int (0 : Int32), .int (1 : Int32), x_jk]) rfl (by decide) rfl rfl ?_
  exact H
set_option maxRecDepth 20000 in
theorem r_C_table_14 {E : XE} {d : Nat} {I : Nat → Nat → Int32} {Q : Option Value → (Nat → Nat → Int32) → Prop} (hd : 1 ≤ d) (v1 : Int32) (v2 : Int32) (v3 : Int32) (v4 : Int32)
    (H : ((v2 < v4 → Q (some (.int v3)) I) ∧ (¬ (v2 < v4) → x_K E (d - 1) 1 [.int v4] I (fun v I2 => x_P E d 77 19 [.ref 64, .int v1, .int v2, .int v3, .int v4, x_jk] (v.toList ++ []) I2 Q)))) :
    x_P E d 77 14 [.ref 64, .int v1, .int v2, .int v3, .int v4, x_jk] [] I Q := by
  refine wp_iload rfl rfl ?_
  refine wp_iload_n rfl rfl rfl ?_
  refine wp_icmp_gt rfl (fun c_1 => ?_) (fun c_1 => ?_)
  · replace H := H.1 c_1
    refine wp_iload_n rfl rfl rfl ?_
    exact s_iret rfl rfl rfl H
  · replace H := H.2 c_1
    refine wp_iload rfl rfl ?_
    refine s_invSt (As := [.int v4]) (d1 := d - 1) rfl ⟨by decide, by decide⟩ rfl rfl rfl (Nat.le_of_ble_eq_true rfl) (by omega) H ?_
    intro v I2 h2
    exact h2
set_option maxRecDepth 20000 in
theorem r_C_table_19 {E : XE} {d : Nat} {I : Nat → Nat → Int32} {Q : Option Value → (Nat → Nat → Int32) → Prop} (hd : 1 ≤ d) (v1 : Int32) (v2 : Int32) (v3 : Int32) (v4 : Int32) (w : Int32)
    (H : x_K E (d - 1) 1 [.int v3] I (fun v I2 => x_P E d 77 21 [.ref 64, .int v1, .int v2, .int v3, .int v4, x_jk] (v.toList ++ [.int w]) I2 Q)) :
    x_P E d 77 19 [.ref 64, .int v1, .int v2, .int v3, .int v4, x_jk] [.int w] I Q := by
  refine wp_iload_n rfl rfl rfl ?_
  refine s_invSt (As := [.int v3]) (d1 := d - 1) rfl ⟨by decide, by decide⟩ rfl rfl rfl (Nat.le_of_ble_eq_true rfl) (by omega) H ?_
  intro v I2 h2
  exact h2
set_option maxRecDepth 20000 in
theorem r_C_table_21 {E : XE} {d : Nat} {I : Nat → Nat → Int32} {Q : Option Value → (Nat → Nat → Int32) → Prop} (hd : 1 ≤ d) (v1 : Int32) (v2 : Int32) (v3 : Int32) (v4 : Int32) (s0 : Int32) (w : Int32)
    (H : ((¬ (s0 ≤ w) → (((v4 &&& (v2 ^^^ (-1 : Int32))) = 0 → x_K E (d - 1) 102 [.ref 64, .int v4, .int v1] I (fun v I2 => x_P E d 77 38 [.ref 64, .int v1, .int v2, .int v3, .int v4, x_jk] (v.toList ++ []) I2 Q)) ∧ (¬ ((v4 &&& (v2 ^^^ (-1 : Int32))) = 0) → x_P E d 77 14 [.ref 64, .int v1, .int v2, .int v3, .int (v4 + 1), x_jk] [] I Q))) ∧ (¬ (¬ (s0 ≤ w)) → x_P E d 77 14 [.ref 64, .int v1, .int v2, .int v3, .int (v4 + 1), x_jk] [] I Q))) :
    x_P E d 77 21 [.ref 64, .int v1, .int v2, .int v3, .int v4, x_jk] [.int w, .int s0] I Q := by
  have J : x_P E d 77 25 [.ref 64, .int v1, .int v2, .int v3, .int v4, x_jk] [.int (x_bi (¬ (s0 ≤ w)))] I Q := by
    refine wp_istore (L' := [.ref 64, .int v1, .int v2, .int v3, .int v4, .int (x_bi (¬ (s0 ≤ w)))]) rfl (by decide) rfl rfl ?_
    refine wp_iload rfl rfl ?_
    refine s_bi_eq rfl (fun c_2 => ?_) (fun c_2 => ?_)
    · replace H := H.2 c_2
      refine wp_iinc (v := v4 + 1) (L' := [.ref 64, .int v1, .int v2, .int v3, .int (v4 + 1), .int (x_bi (¬ (s0 ≤ w)))]) rfl rfl rfl rfl rfl ?_
      refine wp_goto rfl ?_
      exact x_P.weak (L := [.ref 64, .int v1, .int v2, .int v3, .int (v4 + 1), x_jk]) (by exact ⟨Or.inr rfl, ⟨Or.inr rfl, ⟨Or.inr rfl, ⟨Or.inr rfl, ⟨Or.inr rfl, ⟨Or.inl rfl, trivial⟩⟩⟩⟩⟩⟩) H
    · replace H := H.1 c_2
      refine wp_iload rfl rfl ?_
      refine wp_iload_n rfl rfl rfl ?_
      refine wp_iconst (v := (-1 : Int32)) rfl (by decide) ?_
      refine wp_ixor rfl ?_
      refine wp_iand rfl ?_
      refine wp_if_ne rfl (fun c_3 => ?_) (fun c_3 => ?_)
      · replace H := H.2 c_3
        refine wp_iinc (v := v4 + 1) (L' := [.ref 64, .int v1, .int v2, .int v3, .int (v4 + 1), .int (x_bi (¬ (s0 ≤ w)))]) rfl rfl rfl rfl rfl ?_
        refine wp_goto rfl ?_
        exact x_P.weak (L := [.ref 64, .int v1, .int v2, .int v3, .int (v4 + 1), x_jk]) (by exact ⟨Or.inr rfl, ⟨Or.inr rfl, ⟨Or.inr rfl, ⟨Or.inr rfl, ⟨Or.inr rfl, ⟨Or.inl rfl, trivial⟩⟩⟩⟩⟩⟩) H
      · replace H := H.1 c_3
        refine wp_aload_n rfl rfl rfl ?_
        refine wp_iload rfl rfl ?_
        refine wp_iload_n rfl rfl rfl ?_
        refine s_invV (As := [.int v4, .int v1]) (d1 := d - 1) rfl ⟨by decide, by decide⟩ rfl rfl rfl (Nat.le_of_ble_eq_true rfl) (by omega) (kd_64 _) (by decide) rfl rfl H ?_
        intro v I2 h2
        exact x_P.weak (L := [.ref 64, .int v1, .int v2, .int v3, .int v4, x_jk]) (by exact ⟨Or.inr rfl, ⟨Or.inr rfl, ⟨Or.inr rfl, ⟨Or.inr rfl, ⟨Or.inr rfl, ⟨Or.inl rfl, trivial⟩⟩⟩⟩⟩⟩) h2
  refine wp_icmp_le rfl (fun c_1 => ?_) (fun c_1 => ?_)
  · refine wp_iconst (v := (0 : Int32)) rfl (by decide) ?_
    exact x_P.cong rfl (by rw [show x_bi (¬ (s0 ≤ w)) = (0 : Int32) from x_bi_f (fun h => h c_1)]) J
  · refine wp_iconst (v := (1 : Int32)) rfl (by decide) ?_
    refine wp_goto rfl ?_
    exact x_P.cong rfl (by rw [show x_bi (¬ (s0 ≤ w)) = (1 : Int32) from x_bi_t c_1]) J
set_option maxRecDepth 20000 in
theorem r_C_table_38 {E : XE} {d : Nat} {I : Nat → Nat → Int32} {Q : Option Value → (Nat → Nat → Int32) → Prop} (hd : 1 ≤ d) (v1 : Int32) (v2 : Int32) (v3 : Int32) (v4 : Int32) (w : Int32)
    (H : ((w = 0 → x_P E d 77 14 [.ref 64, .int v1, .int v2, .int v3, .int (v4 + 1), x_jk] [] I Q) ∧ (¬ (w = 0) → x_P E d 77 14 [.ref 64, .int v1, .int v2, .int v4, .int (v4 + 1), x_jk] [] I Q))) :
    x_P E d 77 38 [.ref 64, .int v1, .int v2, .int v3, .int v4, x_jk] [.int w] I Q := by
  refine wp_if_eq rfl (fun c_1 => ?_) (fun c_1 => ?_)
  · replace H := H.1 c_1
    refine wp_iinc (v := v4 + 1) (L' := [.ref 64, .int v1, .int v2, .int v3, .int (v4 + 1), x_jk]) rfl rfl rfl rfl rfl ?_
    refine wp_goto rfl ?_
    exact H
  · replace H := H.2 c_1
    refine wp_iload rfl rfl ?_
    refine wp_istore_n (L' := [.ref 64, .int v1, .int v2, .int v4, .int v4, x_jk]) rfl rfl (by decide) rfl rfl ?_
    refine wp_iinc (v := v4 + 1) (L' := [.ref 64, .int v1, .int v2, .int v4, .int (v4 + 1), x_jk]) rfl rfl rfl rfl rfl ?_
    refine wp_goto rfl ?_
    exact H
set_option maxRecDepth 20000 in
theorem r_C_wash_0 {E : XE} {d : Nat} {I : Nat → Nat → Int32} {Q : Option Value → (Nat → Nat → Int32) → Prop} (hd : 2 ≤ d) (a1 : Int32)
    (H : ((0 ≤ a1 ∧ a1 ≤ (6 : Int32) → x_P E d 78 12 [.ref 64, .int a1, .int (0 : Int32), .int (0 : Int32), .int (0 : Int32), x_jk, x_jk, x_jk, x_jk, x_jk, x_jk] [] I Q) ∧ (¬ (0 ≤ a1 ∧ a1 ≤ (6 : Int32)) → Q (some (.int (-2 : Int32))) I))) :
    x_P E d 78 0 [.ref 64, .int a1, x_jk, x_jk, x_jk, x_jk, x_jk, x_jk, x_jk, x_jk, x_jk] [] I Q := by
  refine wp_iload_n rfl rfl rfl ?_
  refine wp_bipush (v := (6 : Int32)) rfl (by decide) ?_
  refine s_invStP (As := [.int a1, .int (6 : Int32)]) (d1 := d - 1) rfl ⟨by decide, by decide⟩ rfl rfl rfl (Nat.le_of_ble_eq_true rfl) (by omega) (p_isUpTo (by omega)) ?_
  refine s_bi_ne rfl (fun c_1 => ?_) (fun c_1 => ?_)
  · replace H := H.1 c_1
    refine wp_iconst (v := (0 : Int32)) rfl (by decide) ?_
    refine wp_istore_n (L' := [.ref 64, .int a1, .int (0 : Int32), x_jk, x_jk, x_jk, x_jk, x_jk, x_jk, x_jk, x_jk]) rfl rfl (by decide) rfl rfl ?_
    refine wp_iconst (v := (0 : Int32)) rfl (by decide) ?_
    refine wp_istore_n (L' := [.ref 64, .int a1, .int (0 : Int32), .int (0 : Int32), x_jk, x_jk, x_jk, x_jk, x_jk, x_jk, x_jk]) rfl rfl (by decide) rfl rfl ?_
    refine wp_iconst (v := (0 : Int32)) rfl (by decide) ?_
    refine wp_istore (L' := [.ref 64, .int a1, .int (0 : Int32), .int (0 : Int32), .int (0 : Int32), x_jk, x_jk, x_jk, x_jk, x_jk, x_jk]) rfl (by decide) rfl rfl ?_
    exact H
  · replace H := H.2 c_1
    refine wp_bipush (v := (-2 : Int32)) rfl (by decide) ?_
    exact s_iret rfl rfl rfl H
set_option maxRecDepth 20000 in
theorem r_C_wash_12 {E : XE} {d : Nat} {I : Nat → Nat → Int32} {Q : Option Value → (Nat → Nat → Int32) → Prop} (hd : 1 ≤ d) (v1 : Int32) (v2 : Int32) (v3 : Int32) (v4 : Int32)
    (H : (((I 65 1) ≤ v4 → x_K E (d - 1) 1 [.int v2] I (fun v I2 => x_P E d 78 59 [.ref 64, .int v1, .int v2, .int v3, .int (7 : Int32), .int (0 : Int32), x_jk, x_jk, x_jk, x_jk, x_jk] (v.toList ++ []) I2 Q)) ∧ (¬ ((I 65 1) ≤ v4) → (vp_in v4 6) ∧ x_K E (d - 1) 98 [.ref 64, .ref (85 + 2 * v4.toNatClampNeg), .int (0 : Int32)] I (fun v I2 => x_P E d 78 26 [.ref 64, .int v1, x_jk, .int v3, .int v4, x_jk, x_jk, x_jk, x_jk, x_jk, x_jk] (v.toList ++ [.int v2]) I2 Q)))) :
    x_P E d 78 12 [.ref 64, .int v1, .int v2, .int v3, .int v4, x_jk, x_jk, x_jk, x_jk, x_jk, x_jk] [] I Q := by
  refine wp_iload rfl rfl ?_
  refine wp_aload_n rfl rfl rfl ?_
  refine wp_getR (v := .ref 65) rfl (by decide) (kd_64 _) rfl (kr_64_0 _) ?_
  refine s_getI rfl (by decide) (kd_65 _) rfl ?_
  refine wp_icmp_ge rfl (fun c_1 => ?_) (fun c_1 => ?_)
  · replace H := H.1 c_1
    refine wp_bipush (v := (7 : Int32)) rfl (by decide) ?_
    refine wp_istore (L' := [.ref 64, .int v1, .int v2, .int v3, .int (7 : Int32), x_jk, x_jk, x_jk, x_jk, x_jk, x_jk]) rfl (by decide) rfl rfl ?_
    refine wp_iconst (v := (0 : Int32)) rfl (by decide) ?_
    refine wp_istore (L' := [.ref 64, .int v1, .int v2, .int v3, .int (7 : Int32), .int (0 : Int32), x_jk, x_jk, x_jk, x_jk, x_jk]) rfl (by decide) rfl rfl ?_
    refine wp_iload_n rfl rfl rfl ?_
    refine s_invSt (As := [.int v2]) (d1 := d - 1) rfl ⟨by decide, by decide⟩ rfl rfl rfl (Nat.le_of_ble_eq_true rfl) (by omega) H ?_
    intro v I2 h2
    exact h2
  · replace H := H.2 c_1
    refine wp_iload_n rfl rfl rfl ?_
    refine wp_aload_n rfl rfl rfl ?_
    refine wp_aload_n rfl rfl rfl ?_
    refine wp_getR (v := .ref 65) rfl (by decide) (kd_64 _) rfl (kr_64_0 _) ?_
    refine wp_getR (v := .ref 66) rfl (by decide) (kd_65 _) rfl (kr_65_0 _) ?_
    refine wp_iload rfl rfl ?_
    obtain ⟨o_2, H⟩ := H
    refine wp_aald (v := .ref (85 + 2 * v4.toNatClampNeg)) rfl (kd_66 _) o_2 (x_man_now (x_in_lt o_2)).2 ?_
    refine wp_iconst (v := (0 : Int32)) rfl (by decide) ?_
    refine s_invV (As := [.ref (85 + 2 * v4.toNatClampNeg), .int (0 : Int32)]) (d1 := d - 1) rfl ⟨by decide, by decide⟩ rfl rfl rfl (Nat.le_of_ble_eq_true rfl) (by omega) (kd_64 _) (by decide) rfl rfl H ?_
    intro v I2 h2
    exact x_P.weak (L := [.ref 64, .int v1, x_jk, .int v3, .int v4, x_jk, x_jk, x_jk, x_jk, x_jk, x_jk]) (by exact ⟨Or.inr rfl, ⟨Or.inr rfl, ⟨Or.inl rfl, ⟨Or.inr rfl, ⟨Or.inr rfl, ⟨Or.inr rfl, ⟨Or.inr rfl, ⟨Or.inr rfl, ⟨Or.inr rfl, ⟨Or.inr rfl, ⟨Or.inr rfl, trivial⟩⟩⟩⟩⟩⟩⟩⟩⟩⟩⟩) h2
set_option maxRecDepth 20000 in
theorem r_C_wash_26 {E : XE} {d : Nat} {I : Nat → Nat → Int32} {Q : Option Value → (Nat → Nat → Int32) → Prop} (hd : 1 ≤ d) (v1 : Int32) (v3 : Int32) (v4 : Int32) (s0 : Int32) (w : Int32)
    (H : (∀ z_2, z_2 = (if w = 0 then (0 : Int32) else ((1 : Int32) <<< (v4 &&& 31))) → (vp_in v4 6) ∧ x_K E (d - 1) 98 [.ref 64, .ref (85 + 2 * v4.toNatClampNeg), .int (1 : Int32)] I (fun v I2 => x_P E d 78 43 [.ref 64, .int v1, .int (s0 ||| z_2), x_jk, .int v4, x_jk, x_jk, x_jk, x_jk, x_jk, x_jk] (v.toList ++ [.int v3]) I2 Q))) :
    x_P E d 78 26 [.ref 64, .int v1, x_jk, .int v3, .int v4, x_jk, x_jk, x_jk, x_jk, x_jk, x_jk] [.int w, .int s0] I Q := by
  obtain ⟨z_2, hz_2⟩ : ∃ z : Int32, z = (if w = 0 then (0 : Int32) else ((1 : Int32) <<< (v4 &&& 31))) := ⟨_, rfl⟩
  replace H := H _ hz_2
  have J : x_P E d 78 32 [.ref 64, .int v1, x_jk, .int v3, .int v4, x_jk, x_jk, x_jk, x_jk, x_jk, x_jk] [.int z_2, .int s0] I Q := by
    refine wp_ior rfl ?_
    refine wp_istore_n (L' := [.ref 64, .int v1, .int (s0 ||| z_2), .int v3, .int v4, x_jk, x_jk, x_jk, x_jk, x_jk, x_jk]) rfl rfl (by decide) rfl rfl ?_
    refine wp_iload_n rfl rfl rfl ?_
    refine wp_aload_n rfl rfl rfl ?_
    refine wp_aload_n rfl rfl rfl ?_
    refine wp_getR (v := .ref 65) rfl (by decide) (kd_64 _) rfl (kr_64_0 _) ?_
    refine wp_getR (v := .ref 66) rfl (by decide) (kd_65 _) rfl (kr_65_0 _) ?_
    refine wp_iload rfl rfl ?_
    obtain ⟨o_3, H⟩ := H
    refine wp_aald (v := .ref (85 + 2 * v4.toNatClampNeg)) rfl (kd_66 _) o_3 (x_man_now (x_in_lt o_3)).2 ?_
    refine wp_iconst (v := (1 : Int32)) rfl (by decide) ?_
    refine s_invV (As := [.ref (85 + 2 * v4.toNatClampNeg), .int (1 : Int32)]) (d1 := d - 1) rfl ⟨by decide, by decide⟩ rfl rfl rfl (Nat.le_of_ble_eq_true rfl) (by omega) (kd_64 _) (by decide) rfl rfl H ?_
    intro v I2 h2
    exact x_P.weak (L := [.ref 64, .int v1, .int (s0 ||| z_2), x_jk, .int v4, x_jk, x_jk, x_jk, x_jk, x_jk, x_jk]) (by exact ⟨Or.inr rfl, ⟨Or.inr rfl, ⟨Or.inr rfl, ⟨Or.inl rfl, ⟨Or.inr rfl, ⟨Or.inr rfl, ⟨Or.inr rfl, ⟨Or.inr rfl, ⟨Or.inr rfl, ⟨Or.inr rfl, ⟨Or.inr rfl, trivial⟩⟩⟩⟩⟩⟩⟩⟩⟩⟩⟩) h2
  refine wp_if_eq rfl (fun c_1 => ?_) (fun c_1 => ?_)
  · refine wp_iconst (v := (0 : Int32)) rfl (by decide) ?_
    exact x_P.cong rfl (by rw [show z_2 = (0 : Int32) from by rw [hz_2]; simp only [if_pos c_1]]) J
  · refine wp_iconst (v := (1 : Int32)) rfl (by decide) ?_
    refine wp_iload rfl rfl ?_
    refine wp_ishl rfl ?_
    refine wp_goto rfl ?_
    exact x_P.cong rfl (by rw [show z_2 = ((1 : Int32) <<< (v4 &&& 31)) from by rw [hz_2]; simp only [if_neg c_1]]) J
set_option maxRecDepth 20000 in
theorem r_C_wash_59 {E : XE} {d : Nat} {I : Nat → Nat → Int32} {Q : Option Value → (Nat → Nat → Int32) → Prop} (hd : 1 ≤ d) (v1 : Int32) (v2 : Int32) (v3 : Int32) (v4 : Int32) (v5 : Int32) (w : Int32)
    (H : x_K E (d - 1) 60 [.ref 65] I (fun v I2 => x_P E d 78 65 [x_jk, .int v1, .int v2, .int v3, .int v4, .int v5, .int (w * v4), x_jk, x_jk, x_jk, x_jk] (v.toList ++ []) I2 Q)) :
    x_P E d 78 59 [.ref 64, .int v1, .int v2, .int v3, .int v4, .int v5, x_jk, x_jk, x_jk, x_jk, x_jk] [.int w] I Q := by
  refine wp_iload rfl rfl ?_
  refine wp_imul rfl ?_
  refine wp_istore (L' := [.ref 64, .int v1, .int v2, .int v3, .int v4, .int v5, .int (w * v4), x_jk, x_jk, x_jk, x_jk]) rfl (by decide) rfl rfl ?_
  refine wp_aload_n rfl rfl rfl ?_
  refine wp_getR (v := .ref 65) rfl (by decide) (kd_64 _) rfl (kr_64_0 _) ?_
  refine s_invV (As := []) (d1 := d - 1) rfl ⟨by decide, by decide⟩ rfl rfl rfl (Nat.le_of_ble_eq_true rfl) (by omega) (kd_65 _) (by decide) rfl rfl H ?_
  intro v I2 h2
  exact x_P.weak (L := [x_jk, .int v1, .int v2, .int v3, .int v4, .int v5, .int (w * v4), x_jk, x_jk, x_jk, x_jk]) (by exact ⟨Or.inl rfl, ⟨Or.inr rfl, ⟨Or.inr rfl, ⟨Or.inr rfl, ⟨Or.inr rfl, ⟨Or.inr rfl, ⟨Or.inr rfl, ⟨Or.inr rfl, ⟨Or.inr rfl, ⟨Or.inr rfl, ⟨Or.inr rfl, trivial⟩⟩⟩⟩⟩⟩⟩⟩⟩⟩⟩) h2
set_option maxRecDepth 20000 in
theorem r_C_wash_43 {E : XE} {d : Nat} {I : Nat → Nat → Int32} {Q : Option Value → (Nat → Nat → Int32) → Prop} (hd : 1 ≤ d) (v1 : Int32) (v2 : Int32) (v4 : Int32) (s0 : Int32) (w : Int32)
    (H : (∀ z_2, z_2 = (if w = 0 then (0 : Int32) else ((1 : Int32) <<< (v4 &&& 31))) → x_P E d 78 12 [.ref 64, .int v1, .int v2, .int (s0 ||| z_2), .int (v4 + 1), x_jk, x_jk, x_jk, x_jk, x_jk, x_jk] [] I Q)) :
    x_P E d 78 43 [.ref 64, .int v1, .int v2, x_jk, .int v4, x_jk, x_jk, x_jk, x_jk, x_jk, x_jk] [.int w, .int s0] I Q := by
  obtain ⟨z_2, hz_2⟩ : ∃ z : Int32, z = (if w = 0 then (0 : Int32) else ((1 : Int32) <<< (v4 &&& 31))) := ⟨_, rfl⟩
  replace H := H _ hz_2
  have J : x_P E d 78 49 [.ref 64, .int v1, .int v2, x_jk, .int v4, x_jk, x_jk, x_jk, x_jk, x_jk, x_jk] [.int z_2, .int s0] I Q := by
    refine wp_ior rfl ?_
    refine wp_istore_n (L' := [.ref 64, .int v1, .int v2, .int (s0 ||| z_2), .int v4, x_jk, x_jk, x_jk, x_jk, x_jk, x_jk]) rfl rfl (by decide) rfl rfl ?_
    refine wp_iinc (v := v4 + 1) (L' := [.ref 64, .int v1, .int v2, .int (s0 ||| z_2), .int (v4 + 1), x_jk, x_jk, x_jk, x_jk, x_jk, x_jk]) rfl rfl rfl rfl rfl ?_
    refine wp_goto rfl ?_
    exact H
  refine wp_if_eq rfl (fun c_1 => ?_) (fun c_1 => ?_)
  · refine wp_iconst (v := (0 : Int32)) rfl (by decide) ?_
    exact x_P.cong rfl (by rw [show z_2 = (0 : Int32) from by rw [hz_2]; simp only [if_pos c_1]]) J
  · refine wp_iconst (v := (1 : Int32)) rfl (by decide) ?_
    refine wp_iload rfl rfl ?_
    refine wp_ishl rfl ?_
    refine wp_goto rfl ?_
    exact x_P.cong rfl (by rw [show z_2 = ((1 : Int32) <<< (v4 &&& 31)) from by rw [hz_2]; simp only [if_neg c_1]]) J
set_option maxRecDepth 20000 in
theorem r_C_wash_65 {E : XE} {d : Nat} {I : Nat → Nat → Int32} {Q : Option Value → (Nat → Nat → Int32) → Prop} (hd : 1 ≤ d) (v1 : Int32) (v2 : Int32) (v3 : Int32) (v4 : Int32) (v5 : Int32) (v6 : Int32) (w : Int32)
    (H : x_P E d 78 68 [x_jk, .int v1, .int v2, .int v3, .int v4, .int v5, .int v6, .int w, .int (1 : Int32), x_jk, x_jk] [] I Q) :
    x_P E d 78 65 [x_jk, .int v1, .int v2, .int v3, .int v4, .int v5, .int v6, x_jk, x_jk, x_jk, x_jk] [.int w] I Q := by
  refine wp_istore (L' := [x_jk, .int v1, .int v2, .int v3, .int v4, .int v5, .int v6, .int w, x_jk, x_jk, x_jk]) rfl (by decide) rfl rfl ?_
  refine wp_iconst (v := (1 : Int32)) rfl (by decide) ?_
  refine wp_istore (L' := [x_jk, .int v1, .int v2, .int v3, .int v4, .int v5, .int v6, .int w, .int (1 : Int32), x_jk, x_jk]) rfl (by decide) rfl rfl ?_
  exact H
set_option maxRecDepth 20000 in
theorem r_C_wash_68 {E : XE} {d : Nat} {I : Nat → Nat → Int32} {Q : Option Value → (Nat → Nat → Int32) → Prop} (hd : 1 ≤ d) (v1 : Int32) (v2 : Int32) (v3 : Int32) (v4 : Int32) (v5 : Int32) (v6 : Int32) (v7 : Int32) (v8 : Int32)
    (H : ((v7 < v8 → Q (some (.int v5)) I) ∧ (¬ (v7 < v8) → x_K E (d - 1) 1 [.int ((v2 &&& (v8 ^^^ (-1 : Int32))) ||| (v3 &&& v8))] I (fun v I2 => x_P E d 78 83 [x_jk, .int v1, .int v2, .int v3, .int v4, .int v5, .int v6, .int v7, .int v8, x_jk, x_jk] (v.toList ++ []) I2 Q)))) :
    x_P E d 78 68 [x_jk, .int v1, .int v2, .int v3, .int v4, .int v5, .int v6, .int v7, .int v8, x_jk, x_jk] [] I Q := by
  refine wp_iload rfl rfl ?_
  refine wp_iload rfl rfl ?_
  refine wp_icmp_gt rfl (fun c_1 => ?_) (fun c_1 => ?_)
  · replace H := H.1 c_1
    refine wp_iload rfl rfl ?_
    exact s_iret rfl rfl rfl H
  · replace H := H.2 c_1
    refine wp_iload_n rfl rfl rfl ?_
    refine wp_iload rfl rfl ?_
    refine wp_iconst (v := (-1 : Int32)) rfl (by decide) ?_
    refine wp_ixor rfl ?_
    refine wp_iand rfl ?_
    refine wp_iload_n rfl rfl rfl ?_
    refine wp_iload rfl rfl ?_
    refine wp_iand rfl ?_
    refine wp_ior rfl ?_
    refine wp_istore (L' := [x_jk, .int v1, .int v2, .int v3, .int v4, .int v5, .int v6, .int v7, .int v8, .int ((v2 &&& (v8 ^^^ (-1 : Int32))) ||| (v3 &&& v8)), x_jk]) rfl (by decide) rfl rfl ?_
    refine wp_iload rfl rfl ?_
    refine s_invSt (As := [.int ((v2 &&& (v8 ^^^ (-1 : Int32))) ||| (v3 &&& v8))]) (d1 := d - 1) rfl ⟨by decide, by decide⟩ rfl rfl rfl (Nat.le_of_ble_eq_true rfl) (by omega) H ?_
    intro v I2 h2
    exact x_P.weak (L := [x_jk, .int v1, .int v2, .int v3, .int v4, .int v5, .int v6, .int v7, .int v8, x_jk, x_jk]) (by exact ⟨Or.inr rfl, ⟨Or.inr rfl, ⟨Or.inr rfl, ⟨Or.inr rfl, ⟨Or.inr rfl, ⟨Or.inr rfl, ⟨Or.inr rfl, ⟨Or.inr rfl, ⟨Or.inr rfl, ⟨Or.inl rfl, ⟨Or.inr rfl, trivial⟩⟩⟩⟩⟩⟩⟩⟩⟩⟩⟩) h2
set_option maxRecDepth 20000 in
theorem r_C_wash_83 {E : XE} {d : Nat} {I : Nat → Nat → Int32} {Q : Option Value → (Nat → Nat → Int32) → Prop} (hd : 1 ≤ d) (v1 : Int32) (v2 : Int32) (v3 : Int32) (v4 : Int32) (v5 : Int32) (v6 : Int32) (v7 : Int32) (v8 : Int32) (w : Int32)
    (H : x_K E (d - 1) 1 [.int v8] I (fun v I2 => x_P E d 78 87 [x_jk, .int v1, .int v2, .int v3, .int v4, .int v5, .int v6, .int v7, .int v8, x_jk, x_jk] (v.toList ++ [.int (w * v4)]) I2 Q)) :
    x_P E d 78 83 [x_jk, .int v1, .int v2, .int v3, .int v4, .int v5, .int v6, .int v7, .int v8, x_jk, x_jk] [.int w] I Q := by
  refine wp_iload rfl rfl ?_
  refine wp_imul rfl ?_
  refine wp_iload rfl rfl ?_
  refine s_invSt (As := [.int v8]) (d1 := d - 1) rfl ⟨by decide, by decide⟩ rfl rfl rfl (Nat.le_of_ble_eq_true rfl) (by omega) H ?_
  intro v I2 h2
  exact h2
set_option maxRecDepth 20000 in
theorem r_C_wash_87 {E : XE} {d : Nat} {I : Nat → Nat → Int32} {Q : Option Value → (Nat → Nat → Int32) → Prop} (hd : 1 ≤ d) (v1 : Int32) (v2 : Int32) (v3 : Int32) (v4 : Int32) (v5 : Int32) (v6 : Int32) (v7 : Int32) (v8 : Int32) (s0 : Int32) (w : Int32)
    (H : x_K E (d - 1) 1 [.int v8] I (fun v I2 => x_P E d 78 91 [x_jk, .int v1, .int v2, .int v3, .int v4, .int v5, .int v6, .int v7, .int v8, x_jk, .int (s0 + w)] (v.toList ++ []) I2 Q)) :
    x_P E d 78 87 [x_jk, .int v1, .int v2, .int v3, .int v4, .int v5, .int v6, .int v7, .int v8, x_jk, x_jk] [.int w, .int s0] I Q := by
  refine wp_iadd rfl ?_
  refine wp_istore (L' := [x_jk, .int v1, .int v2, .int v3, .int v4, .int v5, .int v6, .int v7, .int v8, x_jk, .int (s0 + w)]) rfl (by decide) rfl rfl ?_
  refine wp_iload rfl rfl ?_
  refine s_invSt (As := [.int v8]) (d1 := d - 1) rfl ⟨by decide, by decide⟩ rfl rfl rfl (Nat.le_of_ble_eq_true rfl) (by omega) H ?_
  intro v I2 h2
  exact h2
set_option maxRecDepth 20000 in
theorem r_C_wash_91 {E : XE} {d : Nat} {I : Nat → Nat → Int32} {Q : Option Value → (Nat → Nat → Int32) → Prop} (hd : 1 ≤ d) (v1 : Int32) (v2 : Int32) (v3 : Int32) (v4 : Int32) (v5 : Int32) (v6 : Int32) (v7 : Int32) (v8 : Int32) (v10 : Int32) (w : Int32)
    (H : ((v1 < w → x_P E d 78 68 [x_jk, .int v1, .int v2, .int v3, .int v4, .int v5, .int v6, .int v7, .int (v8 + 1), x_jk, x_jk] [] I Q) ∧ (¬ (v1 < w) → ((v6 ≤ v10 → x_P E d 78 68 [x_jk, .int v1, .int v2, .int v3, .int v4, .int v5, .int v6, .int v7, .int (v8 + 1), x_jk, x_jk] [] I Q) ∧ (¬ (v6 ≤ v10) → x_P E d 78 68 [x_jk, .int v1, .int v2, .int v3, .int v4, .int v8, .int v10, .int v7, .int (v8 + 1), x_jk, x_jk] [] I Q))))) :
    x_P E d 78 91 [x_jk, .int v1, .int v2, .int v3, .int v4, .int v5, .int v6, .int v7, .int v8, x_jk, .int v10] [.int w] I Q := by
  refine wp_iload_n rfl rfl rfl ?_
  refine wp_icmp_gt rfl (fun c_1 => ?_) (fun c_1 => ?_)
  · replace H := H.1 c_1
    refine wp_iinc (v := v8 + 1) (L' := [x_jk, .int v1, .int v2, .int v3, .int v4, .int v5, .int v6, .int v7, .int (v8 + 1), x_jk, .int v10]) rfl rfl rfl rfl rfl ?_
    refine wp_goto rfl ?_
    exact x_P.weak (L := [x_jk, .int v1, .int v2, .int v3, .int v4, .int v5, .int v6, .int v7, .int (v8 + 1), x_jk, x_jk]) (by exact ⟨Or.inr rfl, ⟨Or.inr rfl, ⟨Or.inr rfl, ⟨Or.inr rfl, ⟨Or.inr rfl, ⟨Or.inr rfl, ⟨Or.inr rfl, ⟨Or.inr rfl, ⟨Or.inr rfl, ⟨Or.inr rfl, ⟨Or.inl rfl, trivial⟩⟩⟩⟩⟩⟩⟩⟩⟩⟩⟩) H
  · replace H := H.2 c_1
    refine wp_iload rfl rfl ?_
    refine wp_iload rfl rfl ?_
    refine wp_icmp_ge rfl (fun c_2 => ?_) (fun c_2 => ?_)
    · replace H := H.1 c_2
      refine wp_iinc (v := v8 + 1) (L' := [x_jk, .int v1, .int v2, .int v3, .int v4, .int v5, .int v6, .int v7, .int (v8 + 1), x_jk, .int v10]) rfl rfl rfl rfl rfl ?_
      refine wp_goto rfl ?_
      exact x_P.weak (L := [x_jk, .int v1, .int v2, .int v3, .int v4, .int v5, .int v6, .int v7, .int (v8 + 1), x_jk, x_jk]) (by exact ⟨Or.inr rfl, ⟨Or.inr rfl, ⟨Or.inr rfl, ⟨Or.inr rfl, ⟨Or.inr rfl, ⟨Or.inr rfl, ⟨Or.inr rfl, ⟨Or.inr rfl, ⟨Or.inr rfl, ⟨Or.inr rfl, ⟨Or.inl rfl, trivial⟩⟩⟩⟩⟩⟩⟩⟩⟩⟩⟩) H
    · replace H := H.2 c_2
      refine wp_iload rfl rfl ?_
      refine wp_istore (L' := [x_jk, .int v1, .int v2, .int v3, .int v4, .int v5, .int v10, .int v7, .int v8, x_jk, .int v10]) rfl (by decide) rfl rfl ?_
      refine wp_iload rfl rfl ?_
      refine wp_istore (L' := [x_jk, .int v1, .int v2, .int v3, .int v4, .int v8, .int v10, .int v7, .int v8, x_jk, .int v10]) rfl (by decide) rfl rfl ?_
      refine wp_iinc (v := v8 + 1) (L' := [x_jk, .int v1, .int v2, .int v3, .int v4, .int v8, .int v10, .int v7, .int (v8 + 1), x_jk, .int v10]) rfl rfl rfl rfl rfl ?_
      refine wp_goto rfl ?_
      exact x_P.weak (L := [x_jk, .int v1, .int v2, .int v3, .int v4, .int v8, .int v10, .int v7, .int (v8 + 1), x_jk, x_jk]) (by exact ⟨Or.inr rfl, ⟨Or.inr rfl, ⟨Or.inr rfl, ⟨Or.inr rfl, ⟨Or.inr rfl, ⟨Or.inr rfl, ⟨Or.inr rfl, ⟨Or.inr rfl, ⟨Or.inr rfl, ⟨Or.inr rfl, ⟨Or.inl rfl, trivial⟩⟩⟩⟩⟩⟩⟩⟩⟩⟩⟩) H
set_option maxRecDepth 20000 in
theorem r_C_see_0 {E : XE} {d : Nat} {I : Nat → Nat → Int32} {Q : Option Value → (Nat → Nat → Int32) → Prop} (hd : 1 ≤ d) (a1 : Int32) (a2 : Int32) (a3 : Int32)
    (H : ((a1 = (-1 : Int32) → x_K E (d - 1) 46 [.ref 73] I (fun v I2 => x_P E d 79 7 [x_jk, x_jk, x_jk, x_jk] (v.toList ++ []) I2 Q)) ∧ (¬ (a1 = (-1 : Int32)) → x_K E (d - 1) 59 [.ref 65, .int a1] I (fun v I2 => x_P E d 79 12 [.ref 64, .int a1, .int a2, .int a3] (v.toList ++ []) I2 Q)))) :
    x_P E d 79 0 [.ref 64, .int a1, .int a2, .int a3] [] I Q := by
  refine wp_iload_n rfl rfl rfl ?_
  refine wp_iconst (v := (-1 : Int32)) rfl (by decide) ?_
  refine wp_icmp_ne rfl (fun c_1 => ?_) (fun c_1 => ?_)
  · replace H := H.2 c_1
    refine wp_aload_n rfl rfl rfl ?_
    refine wp_getR (v := .ref 65) rfl (by decide) (kd_64 _) rfl (kr_64_0 _) ?_
    refine wp_iload_n rfl rfl rfl ?_
    refine s_invV (As := [.int a1]) (d1 := d - 1) rfl ⟨by decide, by decide⟩ rfl rfl rfl (Nat.le_of_ble_eq_true rfl) (by omega) (kd_65 _) (by decide) rfl rfl H ?_
    intro v I2 h2
    exact h2
  · replace H := H.1 c_1
    refine wp_aload_n rfl rfl rfl ?_
    refine wp_getR (v := .ref 65) rfl (by decide) (kd_64 _) rfl (kr_64_0 _) ?_
    refine wp_getR (v := .ref 73) rfl (by decide) (kd_65 _) rfl (kr_65_7 _) ?_
    refine s_invV (As := []) (d1 := d - 1) rfl ⟨by decide, by decide⟩ rfl rfl rfl (Nat.le_of_ble_eq_true rfl) (by omega) (kd_73 _) (by decide) rfl rfl H ?_
    intro v I2 h2
    exact x_P.weak (L := [x_jk, x_jk, x_jk, x_jk]) (by exact ⟨Or.inl rfl, ⟨Or.inl rfl, ⟨Or.inl rfl, ⟨Or.inl rfl, trivial⟩⟩⟩⟩) h2
set_option maxRecDepth 20000 in
theorem r_C_see_7 {E : XE} {d : Nat} {I : Nat → Nat → Int32} {Q : Option Value → (Nat → Nat → Int32) → Prop} (hd : 1 ≤ d) (w : Int32)
    (H : Q (some (.int w)) I) :
    x_P E d 79 7 [x_jk, x_jk, x_jk, x_jk] [.int w] I Q := by
  exact s_iret rfl rfl rfl H
set_option maxRecDepth 20000 in
theorem r_C_see_12 {E : XE} {d : Nat} {I : Nat → Nat → Int32} {Q : Option Value → (Nat → Nat → Int32) → Prop} (hd : 2 ≤ d) (v1 : Int32) (v2 : Int32) (v3 : Int32) (w : Nat) (hw : x_man w)
    (H : ((0 ≤ v2 ∧ v2 ≤ (20 : Int32) → ((0 ≤ v3 ∧ v3 ≤ (99 : Int32) → (((I 73 3) < (5 : Int32) → x_K E (d - 1) 45 [.ref 73, .int v1, .int v2, .int v3] I (fun v I2 => x_P E d 79 40 [x_jk, x_jk, x_jk, x_jk] (v.toList ++ []) I2 Q)) ∧ (¬ ((I 73 3) < (5 : Int32)) → Q (some (.int (-4 : Int32))) I))) ∧ (¬ (0 ≤ v3 ∧ v3 ≤ (99 : Int32)) → Q (some (.int (-2 : Int32))) I))) ∧ (¬ (0 ≤ v2 ∧ v2 ≤ (20 : Int32)) → Q (some (.int (-2 : Int32))) I))) :
    x_P E d 79 12 [.ref 64, .int v1, .int v2, .int v3] [.ref w] I Q := by
  refine wp_ifnonnull rfl hw.2.2.2 ?_
  refine wp_iload_n rfl rfl rfl ?_
  refine wp_bipush (v := (20 : Int32)) rfl (by decide) ?_
  refine s_invStP (As := [.int v2, .int (20 : Int32)]) (d1 := d - 1) rfl ⟨by decide, by decide⟩ rfl rfl rfl (Nat.le_of_ble_eq_true rfl) (by omega) (p_isUpTo (by omega)) ?_
  refine s_bi_eq rfl (fun c_1 => ?_) (fun c_1 => ?_)
  · replace H := H.2 c_1
    refine wp_bipush (v := (-2 : Int32)) rfl (by decide) ?_
    exact s_iret rfl rfl rfl H
  · replace H := H.1 c_1
    refine wp_iload_n rfl rfl rfl ?_
    refine wp_bipush (v := (99 : Int32)) rfl (by decide) ?_
    refine s_invStP (As := [.int v3, .int (99 : Int32)]) (d1 := d - 1) rfl ⟨by decide, by decide⟩ rfl rfl rfl (Nat.le_of_ble_eq_true rfl) (by omega) (p_isUpTo (by omega)) ?_
    refine s_bi_ne rfl (fun c_2 => ?_) (fun c_2 => ?_)
    · replace H := H.1 c_2
      refine wp_aload_n rfl rfl rfl ?_
      refine wp_getR (v := .ref 65) rfl (by decide) (kd_64 _) rfl (kr_64_0 _) ?_
      refine wp_getR (v := .ref 73) rfl (by decide) (kd_65 _) rfl (kr_65_7 _) ?_
      refine s_getI rfl (by decide) (kd_73 _) rfl ?_
      refine wp_iconst (v := (5 : Int32)) rfl (by decide) ?_
      refine wp_icmp_lt rfl (fun c_3 => ?_) (fun c_3 => ?_)
      · replace H := H.1 c_3
        refine wp_aload_n rfl rfl rfl ?_
        refine wp_getR (v := .ref 65) rfl (by decide) (kd_64 _) rfl (kr_64_0 _) ?_
        refine wp_getR (v := .ref 73) rfl (by decide) (kd_65 _) rfl (kr_65_7 _) ?_
        refine wp_iload_n rfl rfl rfl ?_
        refine wp_iload_n rfl rfl rfl ?_
        refine wp_iload_n rfl rfl rfl ?_
        refine s_invV (As := [.int v1, .int v2, .int v3]) (d1 := d - 1) rfl ⟨by decide, by decide⟩ rfl rfl rfl (Nat.le_of_ble_eq_true rfl) (by omega) (kd_73 _) (by decide) rfl rfl H ?_
        intro v I2 h2
        exact x_P.weak (L := [x_jk, x_jk, x_jk, x_jk]) (by exact ⟨Or.inl rfl, ⟨Or.inl rfl, ⟨Or.inl rfl, ⟨Or.inl rfl, trivial⟩⟩⟩⟩) h2
      · replace H := H.2 c_3
        refine wp_bipush (v := (-4 : Int32)) rfl (by decide) ?_
        refine wp_goto rfl ?_
        exact s_iret rfl rfl rfl H
    · replace H := H.2 c_2
      refine wp_bipush (v := (-2 : Int32)) rfl (by decide) ?_
      exact s_iret rfl rfl rfl H
set_option maxRecDepth 20000 in
theorem r_C_see_12N {E : XE} {d : Nat} {I : Nat → Nat → Int32} {Q : Option Value → (Nat → Nat → Int32) → Prop} (hd : 1 ≤ d) (v1 : Int32) (v2 : Int32) (v3 : Int32)
    (H : Q (some (.int (-1 : Int32))) I) :
    x_P E d 79 12 [.ref 64, .int v1, .int v2, .int v3] [.null] I Q := by
  refine wp_ifnonnullN rfl ?_
  refine wp_iconst (v := (-1 : Int32)) rfl (by decide) ?_
  exact s_iret rfl rfl rfl H
set_option maxRecDepth 20000 in
theorem r_C_see_40 {E : XE} {d : Nat} {I : Nat → Nat → Int32} {Q : Option Value → (Nat → Nat → Int32) → Prop} (hd : 1 ≤ d) (w : Int32)
    (H : Q (some (.int w)) I) :
    x_P E d 79 40 [x_jk, x_jk, x_jk, x_jk] [.int w] I Q := by
  exact s_iret rfl rfl rfl H
set_option maxRecDepth 20000 in
theorem r_C_highs_0 {E : XE} {d : Nat} {I : Nat → Nat → Int32} {Q : Option Value → (Nat → Nat → Int32) → Prop} (hd : 1 ≤ d) (a1 : Int32) (a2 : Int32)
    (H : x_K E (d - 1) 59 [.ref 65, .int a1] I (fun v I2 => x_P E d 80 5 [x_jk, x_jk, .int a2] (v.toList ++ [.ref 64]) I2 Q)) :
    x_P E d 80 0 [.ref 64, .int a1, .int a2] [] I Q := by
  refine wp_aload_n rfl rfl rfl ?_
  refine wp_aload_n rfl rfl rfl ?_
  refine wp_getR (v := .ref 65) rfl (by decide) (kd_64 _) rfl (kr_64_0 _) ?_
  refine wp_iload_n rfl rfl rfl ?_
  refine s_invV (As := [.int a1]) (d1 := d - 1) rfl ⟨by decide, by decide⟩ rfl rfl rfl (Nat.le_of_ble_eq_true rfl) (by omega) (kd_65 _) (by decide) rfl rfl H ?_
  intro v I2 h2
  exact x_P.weak (L := [x_jk, x_jk, .int a2]) (by exact ⟨Or.inl rfl, ⟨Or.inl rfl, ⟨Or.inr rfl, trivial⟩⟩⟩) h2
set_option maxRecDepth 20000 in
theorem r_C_highs_5 {E : XE} {d : Nat} {I : Nat → Nat → Int32} {Q : Option Value → (Nat → Nat → Int32) → Prop} (hd : 1 ≤ d) (v2 : Int32) (w : Nat) (hw : x_man w)
    (H : x_K E (d - 1) 103 [.ref 64, .ref w, .int v2, .int (1 : Int32)] I (fun v I2 => x_P E d 80 8 [x_jk, x_jk, x_jk] (v.toList ++ []) I2 Q)) :
    x_P E d 80 5 [x_jk, x_jk, .int v2] [.ref w, .ref 64] I Q := by
  refine wp_iload_n rfl rfl rfl ?_
  refine wp_iconst (v := (1 : Int32)) rfl (by decide) ?_
  refine s_invV (As := [.ref w, .int v2, .int (1 : Int32)]) (d1 := d - 1) rfl ⟨by decide, by decide⟩ rfl rfl rfl (Nat.le_of_ble_eq_true rfl) (by omega) (kd_64 _) (by decide) rfl rfl H ?_
  intro v I2 h2
  exact x_P.weak (L := [x_jk, x_jk, x_jk]) (by exact ⟨Or.inr rfl, ⟨Or.inr rfl, ⟨Or.inl rfl, trivial⟩⟩⟩) h2
set_option maxRecDepth 20000 in
theorem r_C_highs_5N {E : XE} {d : Nat} {I : Nat → Nat → Int32} {Q : Option Value → (Nat → Nat → Int32) → Prop} (hd : 1 ≤ d) (v2 : Int32)
    (H : x_K E (d - 1) 103 [.ref 64, .null, .int v2, .int (1 : Int32)] I (fun v I2 => x_P E d 80 8 [x_jk, x_jk, x_jk] (v.toList ++ []) I2 Q)) :
    x_P E d 80 5 [x_jk, x_jk, .int v2] [.null, .ref 64] I Q := by
  refine wp_iload_n rfl rfl rfl ?_
  refine wp_iconst (v := (1 : Int32)) rfl (by decide) ?_
  refine s_invV (As := [.null, .int v2, .int (1 : Int32)]) (d1 := d - 1) rfl ⟨by decide, by decide⟩ rfl rfl rfl (Nat.le_of_ble_eq_true rfl) (by omega) (kd_64 _) (by decide) rfl rfl H ?_
  intro v I2 h2
  exact x_P.weak (L := [x_jk, x_jk, x_jk]) (by exact ⟨Or.inr rfl, ⟨Or.inr rfl, ⟨Or.inl rfl, trivial⟩⟩⟩) h2
set_option maxRecDepth 20000 in
theorem r_C_highs_8 {E : XE} {d : Nat} {I : Nat → Nat → Int32} {Q : Option Value → (Nat → Nat → Int32) → Prop} (hd : 1 ≤ d) (w : Int32)
    (H : Q (some (.int w)) I) :
    x_P E d 80 8 [x_jk, x_jk, x_jk] [.int w] I Q := by
  exact s_iret rfl rfl rfl H
set_option maxRecDepth 20000 in
theorem r_C_firm_0 {E : XE} {d : Nat} {I : Nat → Nat → Int32} {Q : Option Value → (Nat → Nat → Int32) → Prop} (hd : 1 ≤ d) (a1 : Int32) (a2 : Int32)
    (H : x_K E (d - 1) 59 [.ref 65, .int a1] I (fun v I2 => x_P E d 81 5 [x_jk, x_jk, .int a2] (v.toList ++ [.ref 64]) I2 Q)) :
    x_P E d 81 0 [.ref 64, .int a1, .int a2] [] I Q := by
  refine wp_aload_n rfl rfl rfl ?_
  refine wp_aload_n rfl rfl rfl ?_
  refine wp_getR (v := .ref 65) rfl (by decide) (kd_64 _) rfl (kr_64_0 _) ?_
  refine wp_iload_n rfl rfl rfl ?_
  refine s_invV (As := [.int a1]) (d1 := d - 1) rfl ⟨by decide, by decide⟩ rfl rfl rfl (Nat.le_of_ble_eq_true rfl) (by omega) (kd_65 _) (by decide) rfl rfl H ?_
  intro v I2 h2
  exact x_P.weak (L := [x_jk, x_jk, .int a2]) (by exact ⟨Or.inl rfl, ⟨Or.inl rfl, ⟨Or.inr rfl, trivial⟩⟩⟩) h2
set_option maxRecDepth 20000 in
theorem r_C_firm_5 {E : XE} {d : Nat} {I : Nat → Nat → Int32} {Q : Option Value → (Nat → Nat → Int32) → Prop} (hd : 1 ≤ d) (v2 : Int32) (w : Nat) (hw : x_man w)
    (H : x_K E (d - 1) 103 [.ref 64, .ref w, .int v2, .int (0 : Int32)] I (fun v I2 => x_P E d 81 8 [x_jk, x_jk, x_jk] (v.toList ++ []) I2 Q)) :
    x_P E d 81 5 [x_jk, x_jk, .int v2] [.ref w, .ref 64] I Q := by
  refine wp_iload_n rfl rfl rfl ?_
  refine wp_iconst (v := (0 : Int32)) rfl (by decide) ?_
  refine s_invV (As := [.ref w, .int v2, .int (0 : Int32)]) (d1 := d - 1) rfl ⟨by decide, by decide⟩ rfl rfl rfl (Nat.le_of_ble_eq_true rfl) (by omega) (kd_64 _) (by decide) rfl rfl H ?_
  intro v I2 h2
  exact x_P.weak (L := [x_jk, x_jk, x_jk]) (by exact ⟨Or.inr rfl, ⟨Or.inr rfl, ⟨Or.inl rfl, trivial⟩⟩⟩) h2
set_option maxRecDepth 20000 in
theorem r_C_firm_5N {E : XE} {d : Nat} {I : Nat → Nat → Int32} {Q : Option Value → (Nat → Nat → Int32) → Prop} (hd : 1 ≤ d) (v2 : Int32)
    (H : x_K E (d - 1) 103 [.ref 64, .null, .int v2, .int (0 : Int32)] I (fun v I2 => x_P E d 81 8 [x_jk, x_jk, x_jk] (v.toList ++ []) I2 Q)) :
    x_P E d 81 5 [x_jk, x_jk, .int v2] [.null, .ref 64] I Q := by
  refine wp_iload_n rfl rfl rfl ?_
  refine wp_iconst (v := (0 : Int32)) rfl (by decide) ?_
  refine s_invV (As := [.null, .int v2, .int (0 : Int32)]) (d1 := d - 1) rfl ⟨by decide, by decide⟩ rfl rfl rfl (Nat.le_of_ble_eq_true rfl) (by omega) (kd_64 _) (by decide) rfl rfl H ?_
  intro v I2 h2
  exact x_P.weak (L := [x_jk, x_jk, x_jk]) (by exact ⟨Or.inr rfl, ⟨Or.inr rfl, ⟨Or.inl rfl, trivial⟩⟩⟩) h2
set_option maxRecDepth 20000 in
theorem r_C_firm_8 {E : XE} {d : Nat} {I : Nat → Nat → Int32} {Q : Option Value → (Nat → Nat → Int32) → Prop} (hd : 1 ≤ d) (w : Int32)
    (H : Q (some (.int w)) I) :
    x_P E d 81 8 [x_jk, x_jk, x_jk] [.int w] I Q := by
  exact s_iret rfl rfl rfl H
set_option maxRecDepth 20000 in
theorem r_C_odds_0 {E : XE} {d : Nat} {I : Nat → Nat → Int32} {Q : Option Value → (Nat → Nat → Int32) → Prop} (hd : 1 ≤ d) (a1 : Int32) (a2 : Int32) (a3 : Int32)
    (H : x_K E (d - 1) 59 [.ref 65, .int a1] I (fun v I2 => x_P E d 82 4 [.ref 64, x_jk, .int a2, .int a3, x_jk, x_jk, x_jk] (v.toList ++ []) I2 Q)) :
    x_P E d 82 0 [.ref 64, .int a1, .int a2, .int a3, x_jk, x_jk, x_jk] [] I Q := by
  refine wp_aload_n rfl rfl rfl ?_
  refine wp_getR (v := .ref 65) rfl (by decide) (kd_64 _) rfl (kr_64_0 _) ?_
  refine wp_iload_n rfl rfl rfl ?_
  refine s_invV (As := [.int a1]) (d1 := d - 1) rfl ⟨by decide, by decide⟩ rfl rfl rfl (Nat.le_of_ble_eq_true rfl) (by omega) (kd_65 _) (by decide) rfl rfl H ?_
  intro v I2 h2
  exact x_P.weak (L := [.ref 64, x_jk, .int a2, .int a3, x_jk, x_jk, x_jk]) (by exact ⟨Or.inr rfl, ⟨Or.inl rfl, ⟨Or.inr rfl, ⟨Or.inr rfl, ⟨Or.inr rfl, ⟨Or.inr rfl, ⟨Or.inr rfl, trivial⟩⟩⟩⟩⟩⟩⟩) h2
set_option maxRecDepth 20000 in
theorem r_C_odds_4 {E : XE} {d : Nat} {I : Nat → Nat → Int32} {Q : Option Value → (Nat → Nat → Int32) → Prop} (hd : 2 ≤ d) (v2 : Int32) (v3 : Int32) (w : Nat) (hw : x_man w)
    (H : ((0 ≤ v2 ∧ v2 ≤ (60 : Int32) → ((0 ≤ v3 ∧ v3 ≤ (1 : Int32) → x_P E d 82 21 [.ref 64, x_jk, .int v2, .int v3, .ref w, .int (0 : Int32), .int (0 : Int32)] [] I Q) ∧ (¬ (0 ≤ v3 ∧ v3 ≤ (1 : Int32)) → Q (some (.long (-9223372036854775808 : Int64))) I))) ∧ (¬ (0 ≤ v2 ∧ v2 ≤ (60 : Int32)) → Q (some (.long (-9223372036854775808 : Int64))) I))) :
    x_P E d 82 4 [.ref 64, x_jk, .int v2, .int v3, x_jk, x_jk, x_jk] [.ref w] I Q := by
  refine wp_astore (L' := [.ref 64, x_jk, .int v2, .int v3, .ref w, x_jk, x_jk]) rfl (by decide) rfl rfl ?_
  refine wp_aload rfl rfl ?_
  refine wp_ifnull rfl hw.2.2.2 ?_
  refine wp_iload_n rfl rfl rfl ?_
  refine wp_bipush (v := (60 : Int32)) rfl (by decide) ?_
  refine s_invStP (As := [.int v2, .int (60 : Int32)]) (d1 := d - 1) rfl ⟨by decide, by decide⟩ rfl rfl rfl (Nat.le_of_ble_eq_true rfl) (by omega) (p_isUpTo (by omega)) ?_
  refine s_bi_eq rfl (fun c_1 => ?_) (fun c_1 => ?_)
  · replace H := H.2 c_1
    refine wp_ldc2 (v := (0, -9223372036854775808)) rfl rfl rfl ?_
    exact s_lret rfl rfl H
  · replace H := H.1 c_1
    refine wp_iload_n rfl rfl rfl ?_
    refine wp_iconst (v := (1 : Int32)) rfl (by decide) ?_
    refine s_invStP (As := [.int v3, .int (1 : Int32)]) (d1 := d - 1) rfl ⟨by decide, by decide⟩ rfl rfl rfl (Nat.le_of_ble_eq_true rfl) (by omega) (p_isUpTo (by omega)) ?_
    refine s_bi_ne rfl (fun c_2 => ?_) (fun c_2 => ?_)
    · replace H := H.1 c_2
      refine wp_iconst (v := (0 : Int32)) rfl (by decide) ?_
      refine wp_istore (L' := [.ref 64, x_jk, .int v2, .int v3, .ref w, .int (0 : Int32), x_jk]) rfl (by decide) rfl rfl ?_
      refine wp_iconst (v := (0 : Int32)) rfl (by decide) ?_
      refine wp_istore (L' := [.ref 64, x_jk, .int v2, .int v3, .ref w, .int (0 : Int32), .int (0 : Int32)]) rfl (by decide) rfl rfl ?_
      exact H
    · replace H := H.2 c_2
      refine wp_ldc2 (v := (0, -9223372036854775808)) rfl rfl rfl ?_
      exact s_lret rfl rfl H
set_option maxRecDepth 20000 in
theorem r_C_odds_4N {E : XE} {d : Nat} {I : Nat → Nat → Int32} {Q : Option Value → (Nat → Nat → Int32) → Prop} (hd : 1 ≤ d) (v2 : Int32) (v3 : Int32)
    (H : Q (some (.long (-9223372036854775808 : Int64))) I) :
    x_P E d 82 4 [.ref 64, x_jk, .int v2, .int v3, x_jk, x_jk, x_jk] [.null] I Q := by
  refine wp_astoreN (L' := [.ref 64, x_jk, .int v2, .int v3, .null, x_jk, x_jk]) rfl (by decide) rfl rfl ?_
  refine wp_aloadN rfl rfl ?_
  refine wp_ifnullN rfl ?_
  refine wp_ldc2 (v := (0, -9223372036854775808)) rfl rfl rfl ?_
  exact s_lret rfl rfl H
set_option maxRecDepth 20000 in
theorem r_C_odds_21 {E : XE} {d : Nat} {I : Nat → Nat → Int32} {Q : Option Value → (Nat → Nat → Int32) → Prop} (hd : 1 ≤ d) (v2 : Int32) (v3 : Int32) (rv4 : Nat) (hrv4 : x_man rv4) (v5 : Int32) (v6 : Int32)
    (H : (((8 : Int32) ≤ v6 → x_K E (d - 1) 95 [.int v5, .int (8 : Int32), .int v3] I (fun v I2 => x_P E d 82 58 [x_jk, x_jk, x_jk, x_jk, x_jk, x_jk, x_jk] (v.toList ++ []) I2 Q)) ∧ (¬ ((8 : Int32) ≤ v6) → x_K E (d - 1) 24 [.ref 129, .ref rv4] I (fun v I2 => x_P E d 82 28 [.ref 64, x_jk, .int v2, .int v3, .ref rv4, .int v5, .int v6] (v.toList ++ []) I2 Q)))) :
    x_P E d 82 21 [.ref 64, x_jk, .int v2, .int v3, .ref rv4, .int v5, .int v6] [] I Q := by
  refine wp_iload rfl rfl ?_
  refine wp_bipush (v := (8 : Int32)) rfl (by decide) ?_
  refine wp_icmp_ge rfl (fun c_1 => ?_) (fun c_1 => ?_)
  · replace H := H.1 c_1
    refine wp_iload rfl rfl ?_
    refine wp_bipush (v := (8 : Int32)) rfl (by decide) ?_
    refine wp_iload_n rfl rfl rfl ?_
    refine s_invSt (As := [.int v5, .int (8 : Int32), .int v3]) (d1 := d - 1) rfl ⟨by decide, by decide⟩ rfl rfl rfl (Nat.le_of_ble_eq_true rfl) (by omega) H ?_
    intro v I2 h2
    exact x_P.weak (L := [x_jk, x_jk, x_jk, x_jk, x_jk, x_jk, x_jk]) (by exact ⟨Or.inl rfl, ⟨Or.inr rfl, ⟨Or.inl rfl, ⟨Or.inl rfl, ⟨Or.inl rfl, ⟨Or.inl rfl, ⟨Or.inl rfl, trivial⟩⟩⟩⟩⟩⟩⟩) h2
  · replace H := H.2 c_1
    refine wp_aload_n rfl rfl rfl ?_
    refine wp_getR (v := .ref 129) rfl (by decide) (kd_64 _) rfl (kr_64_3 _) ?_
    refine wp_aload rfl rfl ?_
    refine s_invV (As := [.ref rv4]) (d1 := d - 1) rfl ⟨by decide, by decide⟩ rfl rfl rfl (Nat.le_of_ble_eq_true rfl) (by omega) (kd_129 _) (by decide) rfl rfl H ?_
    intro v I2 h2
    exact h2
set_option maxRecDepth 20000 in
theorem r_C_odds_28 {E : XE} {d : Nat} {I : Nat → Nat → Int32} {Q : Option Value → (Nat → Nat → Int32) → Prop} (hd : 1 ≤ d) (v2 : Int32) (v3 : Int32) (rv4 : Nat) (hrv4 : x_man rv4) (v5 : Int32) (v6 : Int32)
    (H : (∀ I_1, I_1 = x_up I 129 4 ((I 129 4) ^^^ ((1 : Int32) <<< (v6 &&& 31))) → x_K E (d - 1) 96 [.ref 64, .ref 129, .int v2] I_1 (fun v I2 => x_P E d 82 42 [.ref 64, x_jk, .int v2, .int v3, .ref rv4, .int v5, .int v6] (v.toList ++ []) I2 Q))) :
    x_P E d 82 28 [.ref 64, x_jk, .int v2, .int v3, .ref rv4, .int v5, .int v6] [] I Q := by
  refine wp_aload_n rfl rfl rfl ?_
  refine wp_getR (v := .ref 129) rfl (by decide) (kd_64 _) rfl (kr_64_3 _) ?_
  refine wp_dup rfl rfl ?_
  refine s_getI rfl (by decide) (kd_129 _) rfl ?_
  refine wp_iconst (v := (1 : Int32)) rfl (by decide) ?_
  refine wp_iload rfl rfl ?_
  refine wp_ishl rfl ?_
  refine wp_ixor rfl ?_
  refine s_putI rfl (by decide) (kd_129 _) rfl rfl (x_fit_int _) ?_
  generalize hI_1 : x_up I 129 4 ((I 129 4) ^^^ ((1 : Int32) <<< (v6 &&& 31))) = I_1
  replace H := H _ hI_1.symm
  refine wp_aload_n rfl rfl rfl ?_
  refine wp_aload_n rfl rfl rfl ?_
  refine wp_getR (v := .ref 129) rfl (by decide) (kd_64 _) rfl (kr_64_3 _) ?_
  refine wp_iload_n rfl rfl rfl ?_
  refine s_invV (As := [.ref 129, .int v2]) (d1 := d - 1) rfl ⟨by decide, by decide⟩ rfl rfl rfl (Nat.le_of_ble_eq_true rfl) (by omega) (kd_64 _) (by decide) rfl rfl H ?_
  intro v I2 h2
  exact h2
set_option maxRecDepth 20000 in
theorem r_C_odds_58 {E : XE} {d : Nat} {I : Nat → Nat → Int32} {Q : Option Value → (Nat → Nat → Int32) → Prop} (hd : 1 ≤ d) (w : Int32)
    (H : Q (some (.long (w.toInt64))) I) :
    x_P E d 82 58 [x_jk, x_jk, x_jk, x_jk, x_jk, x_jk, x_jk] [.int w] I Q := by
  refine wp_i2l rfl ?_
  exact s_lret rfl rfl H
set_option maxRecDepth 20000 in
theorem r_C_odds_42 {E : XE} {d : Nat} {I : Nat → Nat → Int32} {Q : Option Value → (Nat → Nat → Int32) → Prop} (hd : 1 ≤ d) (v2 : Int32) (v3 : Int32) (rv4 : Nat) (hrv4 : x_man rv4) (v5 : Int32) (v6 : Int32)
    (H : x_P E d 82 21 [.ref 64, x_jk, .int v2, .int v3, .ref rv4, .int (v5 + (x_bi (¬ ((I 129 6) = 0)))), .int (v6 + 1)] [] I Q) :
    x_P E d 82 42 [.ref 64, x_jk, .int v2, .int v3, .ref rv4, .int v5, .int v6] [] I Q := by
  refine wp_iload rfl rfl ?_
  refine wp_aload_n rfl rfl rfl ?_
  refine wp_getR (v := .ref 129) rfl (by decide) (kd_64 _) rfl (kr_64_3 _) ?_
  refine s_getI rfl (by decide) (kd_129 _) rfl ?_
  have J : x_P E d 82 50 [.ref 64, x_jk, .int v2, .int v3, .ref rv4, .int v5, .int v6] [.int (x_bi (¬ ((I 129 6) = 0))), .int v5] I Q := by
    refine wp_iadd rfl ?_
    refine wp_istore (L' := [.ref 64, x_jk, .int v2, .int v3, .ref rv4, .int (v5 + (x_bi (¬ ((I 129 6) = 0)))), .int v6]) rfl (by decide) rfl rfl ?_
    refine wp_iinc (v := v6 + 1) (L' := [.ref 64, x_jk, .int v2, .int v3, .ref rv4, .int (v5 + (x_bi (¬ ((I 129 6) = 0)))), .int (v6 + 1)]) rfl rfl rfl rfl rfl ?_
    refine wp_goto rfl ?_
    exact H
  refine wp_if_eq rfl (fun c_1 => ?_) (fun c_1 => ?_)
  · refine wp_iconst (v := (0 : Int32)) rfl (by decide) ?_
    exact x_P.cong rfl (by rw [show x_bi (¬ ((I 129 6) = 0)) = (0 : Int32) from x_bi_f (fun h => h c_1)]) J
  · refine wp_iconst (v := (1 : Int32)) rfl (by decide) ?_
    refine wp_goto rfl ?_
    exact x_P.cong rfl (by rw [show x_bi (¬ ((I 129 6) = 0)) = (1 : Int32) from x_bi_t c_1]) J
