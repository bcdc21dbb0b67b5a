set_option maxRecDepth 20000 in
theorem r_M_tellsOf_0 {E : XE} {d : Nat} {I : Nat → Nat → Int32} {Q : Option Value → (Nat → Nat → Int32) → Prop} (hd : 1 ≤ d) (a1 : Int32) (a2 : Int32)
    (H : ((¬ ((I 143 37) = (-1 : Int32)) → vp_in (a1 + (I 143 37)) 931)) ∧ (∀ z_3, z_3 = (if (I 143 37) = (-1 : Int32) then a2 else (I 143 (a1 + (I 143 37)).toNatClampNeg)) → Q (some (.int z_3)) I)) :
    x_P E d 129 0 [.ref 142, .int a1, .int a2] [] I Q := by
  refine wp_aload_n rfl rfl rfl ?_
  refine wp_getR (v := .ref 143) rfl (by decide) (kd_142 _) rfl (kr_142_1 _) ?_
  refine wp_bipush (v := (37 : Int32)) rfl (by decide) ?_
  refine s_ialdc (k0 := 37) rfl (kd_143 _) rfl ?_
  refine wp_iconst (v := (-1 : Int32)) rfl (by decide) ?_
  obtain ⟨o_2, H⟩ := H
  obtain ⟨z_3, hz_3⟩ : ∃ z : Int32, z = (if (I 143 37) = (-1 : Int32) then a2 else (I 143 (a1 + (I 143 37)).toNatClampNeg)) := ⟨_, rfl⟩
  replace H := H _ hz_3
  have J : x_P E d 129 17 [.ref 142, .int a1, .int a2] [.int z_3] I Q := by
    exact s_iret rfl rfl rfl H
  refine wp_icmp_ne rfl (fun c_1 => ?_) (fun c_1 => ?_)
  · refine wp_aload_n rfl rfl rfl ?_
    refine wp_getR (v := .ref 143) rfl (by decide) (kd_142 _) rfl (kr_142_1 _) ?_
    refine wp_iload_n rfl rfl rfl ?_
    refine wp_aload_n rfl rfl rfl ?_
    refine wp_getR (v := .ref 143) rfl (by decide) (kd_142 _) rfl (kr_142_1 _) ?_
    refine wp_bipush (v := (37 : Int32)) rfl (by decide) ?_
    refine s_ialdc (k0 := 37) rfl (kd_143 _) rfl ?_
    refine wp_iadd rfl ?_
    refine s_iald rfl (kd_143 _) (o_2 c_1) ?_
    exact x_P.cong rfl (by rw [show z_3 = (I 143 (a1 + (I 143 37)).toNatClampNeg) from by rw [hz_3]; simp only [if_neg c_1]]) J
  · refine wp_iload_n rfl rfl rfl ?_
    refine wp_goto rfl ?_
    exact x_P.cong rfl (by rw [show z_3 = a2 from by rw [hz_3]; simp only [if_pos c_1]]) J
set_option maxRecDepth 20000 in
theorem r_M_countOf_0 {E : XE} {d : Nat} {I : Nat → Nat → Int32} {Q : Option Value → (Nat → Nat → Int32) → Prop} (hd : 1 ≤ d) (a0 : Int32)
    (H : x_P E d 130 4 [.int a0, .int (0 : Int32), .int (0 : Int32)] [] I Q) :
    x_P E d 130 0 [.int a0, x_jk, x_jk] [] I Q := by
  refine wp_iconst (v := (0 : Int32)) rfl (by decide) ?_
  refine wp_istore_n (L' := [.int a0, .int (0 : Int32), x_jk]) rfl rfl (by decide) rfl rfl ?_
  refine wp_iconst (v := (0 : Int32)) rfl (by decide) ?_
  refine wp_istore_n (L' := [.int a0, .int (0 : Int32), .int (0 : Int32)]) rfl rfl (by decide) rfl rfl ?_
  exact H
set_option maxRecDepth 20000 in
theorem r_M_countOf_4 {E : XE} {d : Nat} {I : Nat → Nat → Int32} {Q : Option Value → (Nat → Nat → Int32) → Prop} (hd : 1 ≤ d) (v0 : Int32) (v1 : Int32) (v2 : Int32)
    (H : (((8 : Int32) ≤ v2 → Q (some (.int v1)) I) ∧ (¬ ((8 : Int32) ≤ v2) → x_P E d 130 4 [.int v0, .int (v1 + ((v0 >>> (v2 &&& 31)) &&& (1 : Int32))), .int (v2 + 1)] [] I Q))) :
    x_P E d 130 4 [.int v0, .int v1, .int v2] [] I Q := by
  refine wp_iload_n rfl rfl rfl ?_
  refine wp_bipush (v := (8 : Int32)) rfl (by decide) ?_
  refine wp_icmp_ge rfl (fun c_1 => ?_) (fun c_1 => ?_)
  · replace H := H.1 c_1
    refine wp_iload_n rfl rfl rfl ?_
    exact s_iret rfl rfl rfl H
  · replace H := H.2 c_1
    refine wp_iload_n rfl rfl rfl ?_
    refine wp_iload_n rfl rfl rfl ?_
    refine wp_iload_n rfl rfl rfl ?_
    refine wp_ishr rfl ?_
    refine wp_iconst (v := (1 : Int32)) rfl (by decide) ?_
    refine wp_iand rfl ?_
    refine wp_iadd rfl ?_
    refine wp_istore_n (L' := [.int v0, .int (v1 + ((v0 >>> (v2 &&& 31)) &&& (1 : Int32))), .int v2]) rfl rfl (by decide) rfl rfl ?_
    refine wp_iinc (v := v2 + 1) (L' := [.int v0, .int (v1 + ((v0 >>> (v2 &&& 31)) &&& (1 : Int32))), .int (v2 + 1)]) rfl rfl rfl rfl rfl ?_
    refine wp_goto rfl ?_
    exact H
set_option maxRecDepth 20000 in
theorem r_M_sumOf_0 {E : XE} {d : Nat} {I : Nat → Nat → Int32} {Q : Option Value → (Nat → Nat → Int32) → Prop} (hd : 1 ≤ d) (a1 : Int32)
    (H : (∀ I_1, I_1 = x_up I 146 0 a1 → (vp_in ((38 : Int32) + a1) 931) ∧ (∀ I_3, I_3 = x_up I_1 146 1 (I_1 143 ((38 : Int32) + a1).toNatClampNeg) → (vp_in ((44 : Int32) + a1) 931) ∧ (∀ I_5, I_5 = x_up I_3 146 2 (I_3 143 ((44 : Int32) + a1).toNatClampNeg) → (vp_in ((1 : Int32) + a1) 931) ∧ x_K E (d - 1) 130 [.int (I_5 143 ((1 : Int32) + a1).toNatClampNeg)] I_5 (fun v I2 => x_P E d 131 35 [.ref 142, .int a1, x_jk, x_jk, x_jk, x_jk, x_jk, x_jk, x_jk, x_jk, x_jk] (v.toList ++ [.int (3 : Int32), .ref 146]) I2 Q))))) :
    x_P E d 131 0 [.ref 142, .int a1, x_jk, x_jk, x_jk, x_jk, x_jk, x_jk, x_jk, x_jk, x_jk] [] I Q := by
  refine wp_aload_n rfl rfl rfl ?_
  refine wp_getR (v := .ref 146) rfl (by decide) (kd_142 _) rfl (kr_142_10 _) ?_
  refine wp_iconst (v := (0 : Int32)) rfl (by decide) ?_
  refine wp_iload_n rfl rfl rfl ?_
  refine s_iastc (k0 := 0) rfl (kd_146 _) rfl ?_
  generalize hI_1 : x_up I 146 0 a1 = I_1
  replace H := H _ hI_1.symm
  refine wp_aload_n rfl rfl rfl ?_
  refine wp_getR (v := .ref 146) rfl (by decide) (kd_142 _) rfl (kr_142_10 _) ?_
  refine wp_iconst (v := (1 : Int32)) rfl (by decide) ?_
  refine wp_aload_n rfl rfl rfl ?_
  refine wp_getR (v := .ref 143) rfl (by decide) (kd_142 _) rfl (kr_142_1 _) ?_
  refine wp_bipush (v := (38 : Int32)) rfl (by decide) ?_
  refine wp_iload_n rfl rfl rfl ?_
  refine wp_iadd rfl ?_
  obtain ⟨o_2, H⟩ := H
  refine s_iald rfl (kd_143 _) o_2 ?_
  refine s_iastc (k0 := 1) rfl (kd_146 _) rfl ?_
  generalize hI_3 : x_up I_1 146 1 (I_1 143 ((38 : Int32) + a1).toNatClampNeg) = I_3
  replace H := H _ hI_3.symm
  refine wp_aload_n rfl rfl rfl ?_
  refine wp_getR (v := .ref 146) rfl (by decide) (kd_142 _) rfl (kr_142_10 _) ?_
  refine wp_iconst (v := (2 : Int32)) rfl (by decide) ?_
  refine wp_aload_n rfl rfl rfl ?_
  refine wp_getR (v := .ref 143) rfl (by decide) (kd_142 _) rfl (kr_142_1 _) ?_
  refine wp_bipush (v := (44 : Int32)) rfl (by decide) ?_
  refine wp_iload_n rfl rfl rfl ?_
  refine wp_iadd rfl ?_
  obtain ⟨o_4, H⟩ := H
  refine s_iald rfl (kd_143 _) o_4 ?_
  refine s_iastc (k0 := 2) rfl (kd_146 _) rfl ?_
  generalize hI_5 : x_up I_3 146 2 (I_3 143 ((44 : Int32) + a1).toNatClampNeg) = I_5
  replace H := H _ hI_5.symm
  refine wp_aload_n rfl rfl rfl ?_
  refine wp_getR (v := .ref 146) rfl (by decide) (kd_142 _) rfl (kr_142_10 _) ?_
  refine wp_iconst (v := (3 : Int32)) rfl (by decide) ?_
  refine wp_aload_n rfl rfl rfl ?_
  refine wp_getR (v := .ref 143) rfl (by decide) (kd_142 _) rfl (kr_142_1 _) ?_
  refine wp_iconst (v := (1 : Int32)) rfl (by decide) ?_
  refine wp_iload_n rfl rfl rfl ?_
  refine wp_iadd rfl ?_
  obtain ⟨o_6, H⟩ := H
  refine s_iald rfl (kd_143 _) o_6 ?_
  refine s_invSt (As := [.int (I_5 143 ((1 : Int32) + a1).toNatClampNeg)]) (d1 := d - 1) rfl ⟨by decide, by decide⟩ rfl rfl rfl (Nat.le_of_ble_eq_true rfl) (by omega) H ?_
  intro v I2 h2
  exact h2
set_option maxRecDepth 20000 in
theorem r_M_sumOf_35 {E : XE} {d : Nat} {I : Nat → Nat → Int32} {Q : Option Value → (Nat → Nat → Int32) → Prop} (hd : 1 ≤ d) (v1 : Int32) (s0 : Int32) (w : Int32)
    (H : (vp_in s0 6) ∧ (∀ I_2, I_2 = x_up I 146 s0.toNatClampNeg w → (vp_in ((7 : Int32) + v1) 931) ∧ (∀ I_4, I_4 = x_up I_2 146 4 ((I_2 143 ((7 : Int32) + v1).toNatClampNeg) / (10 : Int32)) → (∀ I_5, I_5 = x_up I_4 146 5 ((I_4 143 0) - (I_4 143 0) / (10 : Int32) * (10 : Int32)) → x_K E (d - 1) 129 [.ref 142, .int (226 : Int32), .int (0 : Int32)] I_5 (fun v I2 => x_P E d 131 64 [.ref 142, x_jk, .int (3 : Int32), x_jk, x_jk, x_jk, x_jk, x_jk, x_jk, x_jk, x_jk] (v.toList ++ []) I2 Q))))) :
    x_P E d 131 35 [.ref 142, .int v1, x_jk, x_jk, x_jk, x_jk, x_jk, x_jk, x_jk, x_jk, x_jk] [.int w, .int s0, .ref 146] I Q := by
  obtain ⟨o_1, H⟩ := H
  refine s_iast rfl (kd_146 _) o_1 ?_
  generalize hI_2 : x_up I 146 s0.toNatClampNeg w = I_2
  replace H := H _ hI_2.symm
  refine wp_aload_n rfl rfl rfl ?_
  refine wp_getR (v := .ref 146) rfl (by decide) (kd_142 _) rfl (kr_142_10 _) ?_
  refine wp_iconst (v := (4 : Int32)) rfl (by decide) ?_
  refine wp_aload_n rfl rfl rfl ?_
  refine wp_getR (v := .ref 143) rfl (by decide) (kd_142 _) rfl (kr_142_1 _) ?_
  refine wp_bipush (v := (7 : Int32)) rfl (by decide) ?_
  refine wp_iload_n rfl rfl rfl ?_
  refine wp_iadd rfl ?_
  obtain ⟨o_3, H⟩ := H
  refine s_iald rfl (kd_143 _) o_3 ?_
  refine wp_bipush (v := (10 : Int32)) rfl (by decide) ?_
  refine wp_idiv rfl (by decide) ?_
  refine s_iastc (k0 := 4) rfl (kd_146 _) rfl ?_
  generalize hI_4 : x_up I_2 146 4 ((I_2 143 ((7 : Int32) + v1).toNatClampNeg) / (10 : Int32)) = I_4
  replace H := H _ hI_4.symm
  refine wp_aload_n rfl rfl rfl ?_
  refine wp_getR (v := .ref 146) rfl (by decide) (kd_142 _) rfl (kr_142_10 _) ?_
  refine wp_iconst (v := (5 : Int32)) rfl (by decide) ?_
  refine wp_aload_n rfl rfl rfl ?_
  refine wp_getR (v := .ref 143) rfl (by decide) (kd_142 _) rfl (kr_142_1 _) ?_
  refine wp_iconst (v := (0 : Int32)) rfl (by decide) ?_
  refine s_ialdc (k0 := 0) rfl (kd_143 _) rfl ?_
  refine wp_bipush (v := (10 : Int32)) rfl (by decide) ?_
  refine wp_irem rfl (by decide) ?_
  refine s_iastc (k0 := 5) rfl (kd_146 _) rfl ?_
  generalize hI_5 : x_up I_4 146 5 ((I_4 143 0) - (I_4 143 0) / (10 : Int32) * (10 : Int32)) = I_5
  replace H := H _ hI_5.symm
  refine wp_iconst (v := (3 : Int32)) rfl (by decide) ?_
  refine wp_istore_n (L' := [.ref 142, .int v1, .int (3 : Int32), x_jk, x_jk, x_jk, x_jk, x_jk, x_jk, x_jk, x_jk]) rfl rfl (by decide) rfl rfl ?_
  refine wp_aload_n rfl rfl rfl ?_
  refine wp_sipush (v := (226 : Int32)) rfl (by decide) ?_
  refine wp_iconst (v := (0 : Int32)) rfl (by decide) ?_
  refine s_invV (As := [.int (226 : Int32), .int (0 : Int32)]) (d1 := d - 1) rfl ⟨by decide, by decide⟩ rfl rfl rfl (Nat.le_of_ble_eq_true rfl) (by omega) (kd_142 _) (by decide) rfl rfl H ?_
  intro v I2 h2
  exact x_P.weak (L := [.ref 142, x_jk, .int (3 : Int32), x_jk, x_jk, x_jk, x_jk, x_jk, x_jk, x_jk, x_jk]) (by exact ⟨Or.inr rfl, ⟨Or.inl rfl, ⟨Or.inr rfl, ⟨Or.inr rfl, ⟨Or.inr rfl, ⟨Or.inr rfl, ⟨Or.inr rfl, ⟨Or.inr rfl, ⟨Or.inr rfl, ⟨Or.inr rfl, ⟨Or.inr rfl, trivial⟩⟩⟩⟩⟩⟩⟩⟩⟩⟩⟩) h2
set_option maxRecDepth 20000 in
theorem r_M_sumOf_64 {E : XE} {d : Nat} {I : Nat → Nat → Int32} {Q : Option Value → (Nat → Nat → Int32) → Prop} (hd : 1 ≤ d) (v2 : Int32) (w : Int32)
    (H : x_P E d 131 78 [.ref 142, x_jk, .int v2, .int w, .int ((231 : Int32) + ((140 : Int32) * (I 143 37))), .int (0 : Int32), .int ((231 : Int32) + ((140 : Int32) * (I 143 37))), x_jk, x_jk, x_jk, x_jk] [] I Q) :
    x_P E d 131 64 [.ref 142, x_jk, .int v2, x_jk, x_jk, x_jk, x_jk, x_jk, x_jk, x_jk, x_jk] [.int w] I Q := by
  refine wp_istore_n (L' := [.ref 142, x_jk, .int v2, .int w, x_jk, x_jk, x_jk, x_jk, x_jk, x_jk, x_jk]) rfl rfl (by decide) rfl rfl ?_
  refine wp_sipush (v := (231 : Int32)) rfl (by decide) ?_
  refine wp_sipush (v := (140 : Int32)) rfl (by decide) ?_
  refine wp_aload_n rfl rfl rfl ?_
  refine wp_getR (v := .ref 143) rfl (by decide) (kd_142 _) rfl (kr_142_1 _) ?_
  refine wp_bipush (v := (37 : Int32)) rfl (by decide) ?_
  refine s_ialdc (k0 := 37) rfl (kd_143 _) rfl ?_
  refine wp_imul rfl ?_
  refine wp_iadd rfl ?_
  refine wp_istore (L' := [.ref 142, x_jk, .int v2, .int w, .int ((231 : Int32) + ((140 : Int32) * (I 143 37))), x_jk, x_jk, x_jk, x_jk, x_jk, x_jk]) rfl (by decide) rfl rfl ?_
  refine wp_iconst (v := (0 : Int32)) rfl (by decide) ?_
  refine wp_istore (L' := [.ref 142, x_jk, .int v2, .int w, .int ((231 : Int32) + ((140 : Int32) * (I 143 37))), .int (0 : Int32), x_jk, x_jk, x_jk, x_jk, x_jk]) rfl (by decide) rfl rfl ?_
  refine wp_iload rfl rfl ?_
  refine wp_istore (L' := [.ref 142, x_jk, .int v2, .int w, .int ((231 : Int32) + ((140 : Int32) * (I 143 37))), .int (0 : Int32), .int ((231 : Int32) + ((140 : Int32) * (I 143 37))), x_jk, x_jk, x_jk, x_jk]) rfl (by decide) rfl rfl ?_
  exact H
set_option maxRecDepth 20000 in
theorem r_M_sumOf_78 {E : XE} {d : Nat} {I : Nat → Nat → Int32} {Q : Option Value → (Nat → Nat → Int32) → Prop} (hd : 1 ≤ d) (v2 : Int32) (v3 : Int32) (v4 : Int32) (v5 : Int32) (v6 : Int32)
    (H : (((v4 + v3) ≤ v6 → Q (some (.int v2)) I) ∧ (¬ ((v4 + v3) ≤ v6) → (vp_in v6 931) ∧ (((I 143 v6.toNatClampNeg) < 0 → (((I 143 v6.toNatClampNeg) = (-1 : Int32) → (vp_in (v5 - (1 : Int32)) 64) ∧ (vp_in (v5 - (1 : Int32)) 64) ∧ (∀ I_26, I_26 = x_up I 147 (v5 - (1 : Int32)).toNatClampNeg (x_bi ((I 147 (v5 - (1 : Int32)).toNatClampNeg) = 0)) → x_P E d 131 78 [.ref 142, x_jk, .int v2, .int v3, .int v4, .int v5, .int (v6 + 1), x_jk, x_jk, x_jk, x_jk] [] I_26 Q)) ∧ (¬ ((I 143 v6.toNatClampNeg) = (-1 : Int32)) → (((I 143 v6.toNatClampNeg) ≤ (-10 : Int32) → (∀ z_8, z_8 = (if (I 147 0) = 0 then (0 : Int32) else (if (I 143 v6.toNatClampNeg) ≤ (-200 : Int32) then (0 : Int32) else ((-10 : Int32) - (I 143 v6.toNatClampNeg)))) → (∀ z_11, z_11 = (if (I 147 0) = 0 then (0 : Int32) else (if (-200 : Int32) < (I 143 v6.toNatClampNeg) then (0 : Int32) else ((-200 : Int32) - (I 143 v6.toNatClampNeg)))) → x_P E d 131 78 [.ref 142, x_jk, .int ((v2 + z_8) - z_11), .int v3, .int v4, .int (0 : Int32), .int (v6 + 1), x_jk, x_jk, x_jk, x_jk] [] I Q))) ∧ (¬ ((I 143 v6.toNatClampNeg) ≤ (-10 : Int32)) → ((¬ ((I 143 v6.toNatClampNeg) = (-2 : Int32)) → vp_in ((v5 + (-1)) - (1 : Int32)) 64)) ∧ ((¬ ((I 143 v6.toNatClampNeg) = (-2 : Int32)) → ((I 147 ((v5 + (-1)) - (1 : Int32)).toNatClampNeg) = 0 → vp_in (v5 + (-1)) 64))) ∧ (((I 143 v6.toNatClampNeg) = (-2 : Int32) → vp_in ((v5 + (-1)) - (1 : Int32)) 64)) ∧ (((I 143 v6.toNatClampNeg) = (-2 : Int32) → (¬ ((I 147 ((v5 + (-1)) - (1 : Int32)).toNatClampNeg) = 0) → vp_in (v5 + (-1)) 64))) ∧ (vp_in ((v5 + (-1)) - (1 : Int32)) 64) ∧ (∀ I_22, I_22 = x_up I 147 ((v5 + (-1)) - (1 : Int32)).toNatClampNeg (x_bi ((((I 143 v6.toNatClampNeg) = (-2 : Int32)) ∧ (¬ ((I 147 ((v5 + (-1)) - (1 : Int32)).toNatClampNeg) = 0) ∧ (¬ ((I 147 (v5 + (-1)).toNatClampNeg) = 0)))) ∨ (¬ ((I 143 v6.toNatClampNeg) = (-2 : Int32)) ∧ (¬ ((I 147 ((v5 + (-1)) - (1 : Int32)).toNatClampNeg) = 0) ∨ (¬ ((I 147 (v5 + (-1)).toNatClampNeg) = 0)))))) → x_P E d 131 78 [.ref 142, x_jk, .int v2, .int v3, .int v4, .int (v5 + (-1)), .int (v6 + 1), x_jk, x_jk, x_jk, x_jk] [] I_22 Q)))))) ∧ (¬ ((I 143 v6.toNatClampNeg) < 0) → (vp_in ((I 143 v6.toNatClampNeg) - (I 143 v6.toNatClampNeg) / (8 : Int32) * (8 : Int32)) 6) ∧ (vp_in v5 64) ∧ (∀ I_34, I_34 = x_up I 147 v5.toNatClampNeg (x_bi ((((((I 143 v6.toNatClampNeg) / (8 : Int32)) - ((I 143 v6.toNatClampNeg) / (8 : Int32)) / (4 : Int32) * (4 : Int32)) = 0) ∧ (¬ (((I 143 v6.toNatClampNeg) / (32 : Int32)) ≤ (I 146 ((I 143 v6.toNatClampNeg) - (I 143 v6.toNatClampNeg) / (8 : Int32) * (8 : Int32)).toNatClampNeg)))) ∨ (¬ ((((I 143 v6.toNatClampNeg) / (8 : Int32)) - ((I 143 v6.toNatClampNeg) / (8 : Int32)) / (4 : Int32) * (4 : Int32)) = 0) ∧ ((((((I 143 v6.toNatClampNeg) / (8 : Int32)) - ((I 143 v6.toNatClampNeg) / (8 : Int32)) / (4 : Int32) * (4 : Int32)) = (1 : Int32)) ∧ ((I 146 ((I 143 v6.toNatClampNeg) - (I 143 v6.toNatClampNeg) / (8 : Int32) * (8 : Int32)).toNatClampNeg) = ((I 143 v6.toNatClampNeg) / (32 : Int32)))) ∨ (¬ ((((I 143 v6.toNatClampNeg) / (8 : Int32)) - ((I 143 v6.toNatClampNeg) / (8 : Int32)) / (4 : Int32) * (4 : Int32)) = (1 : Int32)) ∧ (¬ ((I 146 ((I 143 v6.toNatClampNeg) - (I 143 v6.toNatClampNeg) / (8 : Int32) * (8 : Int32)).toNatClampNeg) ≤ ((I 143 v6.toNatClampNeg) / (32 : Int32))))))))) → x_P E d 131 78 [.ref 142, x_jk, .int v2, .int v3, .int v4, .int (v5 + 1), .int (v6 + 1), x_jk, x_jk, x_jk, x_jk] [] I_34 Q)))))) :
    x_P E d 131 78 [.ref 142, x_jk, .int v2, .int v3, .int v4, .int v5, .int v6, x_jk, x_jk, x_jk, x_jk] [] I Q := by
  refine wp_iload rfl rfl ?_
  refine wp_iload rfl rfl ?_
  refine wp_iload_n rfl rfl rfl ?_
  refine wp_iadd rfl ?_
  refine wp_icmp_ge rfl (fun c_1 => ?_) (fun c_1 => ?_)
  · replace H := H.1 c_1
    refine wp_iload_n rfl rfl rfl ?_
    exact s_iret rfl rfl rfl H
  · replace H := H.2 c_1
    refine wp_aload_n rfl rfl rfl ?_
    refine wp_getR (v := .ref 143) rfl (by decide) (kd_142 _) rfl (kr_142_1 _) ?_
    refine wp_iload rfl rfl ?_
    obtain ⟨o_2, H⟩ := H
    refine s_iald rfl (kd_143 _) o_2 ?_
    refine wp_istore (L' := [.ref 142, x_jk, .int v2, .int v3, .int v4, .int v5, .int v6, .int (I 143 v6.toNatClampNeg), x_jk, x_jk, x_jk]) rfl (by decide) rfl rfl ?_
    refine wp_iload rfl rfl ?_
    refine wp_if_lt rfl (fun c_3 => ?_) (fun c_3 => ?_)
    · replace H := H.1 c_3
      refine wp_iload rfl rfl ?_
      refine wp_iconst (v := (-1 : Int32)) rfl (by decide) ?_
      refine wp_icmp_ne rfl (fun c_4 => ?_) (fun c_4 => ?_)
      · replace H := H.2 c_4
        refine wp_iload rfl rfl ?_
        refine wp_bipush (v := (-10 : Int32)) rfl (by decide) ?_
        refine wp_icmp_le rfl (fun c_5 => ?_) (fun c_5 => ?_)
        · replace H := H.1 c_5
          refine wp_iconst (v := (0 : Int32)) rfl (by decide) ?_
          refine wp_istore (L' := [.ref 142, x_jk, .int v2, .int v3, .int v4, .int (0 : Int32), .int v6, .int (I 143 v6.toNatClampNeg), x_jk, x_jk, x_jk]) rfl (by decide) rfl rfl ?_
          refine wp_aload_n rfl rfl rfl ?_
          refine wp_getR (v := .ref 147) rfl (by decide) (kd_142 _) rfl (kr_142_11 _) ?_
          refine wp_iconst (v := (0 : Int32)) rfl (by decide) ?_
          refine s_zald rfl (kd_147 _) (x_vic rfl) ?_
          refine wp_istore (L' := [.ref 142, x_jk, .int v2, .int v3, .int v4, .int (0 : Int32), .int v6, .int (I 143 v6.toNatClampNeg), .int (I 147 0), x_jk, x_jk]) rfl (by decide) rfl rfl ?_
          refine wp_iload_n rfl rfl rfl ?_
          refine wp_iload rfl rfl ?_
          obtain ⟨z_8, hz_8⟩ : ∃ z : Int32, z = (if (I 147 0) = 0 then (0 : Int32) else (if (I 143 v6.toNatClampNeg) ≤ (-200 : Int32) then (0 : Int32) else ((-10 : Int32) - (I 143 v6.toNatClampNeg)))) := ⟨_, rfl⟩
          replace H := H _ hz_8
          have J : x_P E d 131 221 [.ref 142, x_jk, .int v2, .int v3, .int v4, .int (0 : Int32), .int v6, .int (I 143 v6.toNatClampNeg), .int (I 147 0), x_jk, x_jk] [.int z_8, .int v2] I Q := by
            refine wp_iadd rfl ?_
            refine wp_istore_n (L' := [.ref 142, x_jk, .int (v2 + z_8), .int v3, .int v4, .int (0 : Int32), .int v6, .int (I 143 v6.toNatClampNeg), .int (I 147 0), x_jk, x_jk]) rfl rfl (by decide) rfl rfl ?_
            refine wp_iload_n rfl rfl rfl ?_
            refine wp_iload rfl rfl ?_
            obtain ⟨z_11, hz_11⟩ : ∃ z : Int32, z = (if (I 147 0) = 0 then (0 : Int32) else (if (-200 : Int32) < (I 143 v6.toNatClampNeg) then (0 : Int32) else ((-200 : Int32) - (I 143 v6.toNatClampNeg)))) := ⟨_, rfl⟩
            replace H := H _ hz_11
            have J : x_P E d 131 234 [.ref 142, x_jk, .int (v2 + z_8), .int v3, .int v4, .int (0 : Int32), .int v6, .int (I 143 v6.toNatClampNeg), .int (I 147 0), x_jk, x_jk] [.int z_11, .int (v2 + z_8)] I Q := by
              refine wp_isub rfl ?_
              refine wp_istore_n (L' := [.ref 142, x_jk, .int ((v2 + z_8) - z_11), .int v3, .int v4, .int (0 : Int32), .int v6, .int (I 143 v6.toNatClampNeg), .int (I 147 0), x_jk, x_jk]) rfl rfl (by decide) rfl rfl ?_
              refine wp_iinc (v := v6 + 1) (L' := [.ref 142, x_jk, .int ((v2 + z_8) - z_11), .int v3, .int v4, .int (0 : Int32), .int (v6 + 1), .int (I 143 v6.toNatClampNeg), .int (I 147 0), x_jk, x_jk]) rfl rfl rfl rfl rfl ?_
              refine wp_goto rfl ?_
              exact x_P.weak (L := [.ref 142, x_jk, .int ((v2 + z_8) - z_11), .int v3, .int v4, .int (0 : Int32), .int (v6 + 1), x_jk, x_jk, x_jk, x_jk]) (by exact ⟨Or.inr rfl, ⟨Or.inr rfl, ⟨Or.inr rfl, ⟨Or.inr rfl, ⟨Or.inr rfl, ⟨Or.inr rfl, ⟨Or.inr rfl, ⟨Or.inl rfl, ⟨Or.inl rfl, ⟨Or.inr rfl, ⟨Or.inr rfl, trivial⟩⟩⟩⟩⟩⟩⟩⟩⟩⟩⟩) H
            refine wp_if_eq rfl (fun c_9 => ?_) (fun c_9 => ?_)
            · refine wp_iconst (v := (0 : Int32)) rfl (by decide) ?_
              exact x_P.cong rfl (by rw [show z_11 = (0 : Int32) from by rw [hz_11]; simp only [if_pos c_9]]) J
            · refine wp_iload rfl rfl ?_
              refine wp_sipush (v := (-200 : Int32)) rfl (by decide) ?_
              refine wp_icmp_gt rfl (fun c_10 => ?_) (fun c_10 => ?_)
              · refine wp_iconst (v := (0 : Int32)) rfl (by decide) ?_
                exact x_P.cong rfl (by rw [show z_11 = (0 : Int32) from by rw [hz_11]; simp only [if_neg c_9, if_pos c_10]]) J
              · refine wp_sipush (v := (-200 : Int32)) rfl (by decide) ?_
                refine wp_iload rfl rfl ?_
                refine wp_isub rfl ?_
                refine wp_goto rfl ?_
                exact x_P.cong rfl (by rw [show z_11 = ((-200 : Int32) - (I 143 v6.toNatClampNeg)) from by rw [hz_11]; simp only [if_neg c_9, if_neg c_10]]) J
          refine wp_if_eq rfl (fun c_6 => ?_) (fun c_6 => ?_)
          · refine wp_iconst (v := (0 : Int32)) rfl (by decide) ?_
            exact x_P.cong rfl (by rw [show z_8 = (0 : Int32) from by rw [hz_8]; simp only [if_pos c_6]]) J
          · refine wp_iload rfl rfl ?_
            refine wp_sipush (v := (-200 : Int32)) rfl (by decide) ?_
            refine wp_icmp_le rfl (fun c_7 => ?_) (fun c_7 => ?_)
            · refine wp_iconst (v := (0 : Int32)) rfl (by decide) ?_
              exact x_P.cong rfl (by rw [show z_8 = (0 : Int32) from by rw [hz_8]; simp only [if_neg c_6, if_pos c_7]]) J
            · refine wp_bipush (v := (-10 : Int32)) rfl (by decide) ?_
              refine wp_iload rfl rfl ?_
              refine wp_isub rfl ?_
              refine wp_goto rfl ?_
              exact x_P.cong rfl (by rw [show z_8 = ((-10 : Int32) - (I 143 v6.toNatClampNeg)) from by rw [hz_8]; simp only [if_neg c_6, if_neg c_7]]) J
        · replace H := H.2 c_5
          refine wp_iinc (v := v5 + (-1)) (L' := [.ref 142, x_jk, .int v2, .int v3, .int v4, .int (v5 + (-1)), .int v6, .int (I 143 v6.toNatClampNeg), x_jk, x_jk, x_jk]) rfl rfl rfl rfl rfl ?_
          refine wp_aload_n rfl rfl rfl ?_
          refine wp_getR (v := .ref 147) rfl (by decide) (kd_142 _) rfl (kr_142_11 _) ?_
          refine wp_iload rfl rfl ?_
          refine wp_iconst (v := (1 : Int32)) rfl (by decide) ?_
          refine wp_isub rfl ?_
          refine wp_iload rfl rfl ?_
          refine wp_bipush (v := (-2 : Int32)) rfl (by decide) ?_
          obtain ⟨o_13, H⟩ := H
          obtain ⟨o_15, H⟩ := H
          obtain ⟨o_17, H⟩ := H
          obtain ⟨o_19, H⟩ := H
          have J : x_P E d 131 201 [.ref 142, x_jk, .int v2, .int v3, .int v4, .int (v5 + (-1)), .int v6, .int (I 143 v6.toNatClampNeg), x_jk, x_jk, x_jk] [.int (x_bi ((((I 143 v6.toNatClampNeg) = (-2 : Int32)) ∧ (¬ ((I 147 ((v5 + (-1)) - (1 : Int32)).toNatClampNeg) = 0) ∧ (¬ ((I 147 (v5 + (-1)).toNatClampNeg) = 0)))) ∨ (¬ ((I 143 v6.toNatClampNeg) = (-2 : Int32)) ∧ (¬ ((I 147 ((v5 + (-1)) - (1 : Int32)).toNatClampNeg) = 0) ∨ (¬ ((I 147 (v5 + (-1)).toNatClampNeg) = 0)))))), .int ((v5 + (-1)) - (1 : Int32)), .ref 147] I Q := by
            obtain ⟨o_21, H⟩ := H
            refine s_zast rfl (kd_147 _) o_21 x_bi_nar ?_
            generalize hI_22 : x_up I 147 ((v5 + (-1)) - (1 : Int32)).toNatClampNeg (x_bi ((((I 143 v6.toNatClampNeg) = (-2 : Int32)) ∧ (¬ ((I 147 ((v5 + (-1)) - (1 : Int32)).toNatClampNeg) = 0) ∧ (¬ ((I 147 (v5 + (-1)).toNatClampNeg) = 0)))) ∨ (¬ ((I 143 v6.toNatClampNeg) = (-2 : Int32)) ∧ (¬ ((I 147 ((v5 + (-1)) - (1 : Int32)).toNatClampNeg) = 0) ∨ (¬ ((I 147 (v5 + (-1)).toNatClampNeg) = 0)))))) = I_22
            replace H := H _ hI_22.symm
            refine wp_goto rfl ?_
            refine wp_iinc (v := v6 + 1) (L' := [.ref 142, x_jk, .int v2, .int v3, .int v4, .int (v5 + (-1)), .int (v6 + 1), .int (I 143 v6.toNatClampNeg), x_jk, x_jk, x_jk]) rfl rfl rfl rfl rfl ?_
            refine wp_goto rfl ?_
            exact x_P.weak (L := [.ref 142, x_jk, .int v2, .int v3, .int v4, .int (v5 + (-1)), .int (v6 + 1), x_jk, x_jk, x_jk, x_jk]) (by exact ⟨Or.inr rfl, ⟨Or.inr rfl, ⟨Or.inr rfl, ⟨Or.inr rfl, ⟨Or.inr rfl, ⟨Or.inr rfl, ⟨Or.inr rfl, ⟨Or.inl rfl, ⟨Or.inr rfl, ⟨Or.inr rfl, ⟨Or.inr rfl, trivial⟩⟩⟩⟩⟩⟩⟩⟩⟩⟩⟩) H
          refine wp_icmp_ne rfl (fun c_12 => ?_) (fun c_12 => ?_)
          · refine wp_aload_n rfl rfl rfl ?_
            refine wp_getR (v := .ref 147) rfl (by decide) (kd_142 _) rfl (kr_142_11 _) ?_
            refine wp_iload rfl rfl ?_
            refine wp_iconst (v := (1 : Int32)) rfl (by decide) ?_
            refine wp_isub rfl ?_
            refine s_zald rfl (kd_147 _) (o_13 c_12) ?_
            refine wp_if_ne rfl (fun c_14 => ?_) (fun c_14 => ?_)
            · refine wp_iconst (v := (1 : Int32)) rfl (by decide) ?_
              refine wp_goto rfl ?_
              exact x_P.cong rfl (by rw [show x_bi ((((I 143 v6.toNatClampNeg) = (-2 : Int32)) ∧ (¬ ((I 147 ((v5 + (-1)) - (1 : Int32)).toNatClampNeg) = 0) ∧ (¬ ((I 147 (v5 + (-1)).toNatClampNeg) = 0)))) ∨ (¬ ((I 143 v6.toNatClampNeg) = (-2 : Int32)) ∧ (¬ ((I 147 ((v5 + (-1)) - (1 : Int32)).toNatClampNeg) = 0) ∨ (¬ ((I 147 (v5 + (-1)).toNatClampNeg) = 0))))) = (1 : Int32) from x_bi_t (Or.inr ⟨c_12, (Or.inl c_14)⟩)]) J
            · refine wp_aload_n rfl rfl rfl ?_
              refine wp_getR (v := .ref 147) rfl (by decide) (kd_142 _) rfl (kr_142_11 _) ?_
              refine wp_iload rfl rfl ?_
              refine s_zald rfl (kd_147 _) (o_15 c_12 c_14) ?_
              refine wp_if_eq rfl (fun c_16 => ?_) (fun c_16 => ?_)
              · refine wp_iconst (v := (0 : Int32)) rfl (by decide) ?_
                exact x_P.cong rfl (by rw [show x_bi ((((I 143 v6.toNatClampNeg) = (-2 : Int32)) ∧ (¬ ((I 147 ((v5 + (-1)) - (1 : Int32)).toNatClampNeg) = 0) ∧ (¬ ((I 147 (v5 + (-1)).toNatClampNeg) = 0)))) ∨ (¬ ((I 143 v6.toNatClampNeg) = (-2 : Int32)) ∧ (¬ ((I 147 ((v5 + (-1)) - (1 : Int32)).toNatClampNeg) = 0) ∨ (¬ ((I 147 (v5 + (-1)).toNatClampNeg) = 0))))) = (0 : Int32) from x_bi_f (fun h => h.elim (fun g => c_12 g.1) (fun g => (fun h => h.elim (fun g => g c_14) (fun h => h c_16)) g.2))]) J
              · refine wp_iconst (v := (1 : Int32)) rfl (by decide) ?_
                refine wp_goto rfl ?_
                exact x_P.cong rfl (by rw [show x_bi ((((I 143 v6.toNatClampNeg) = (-2 : Int32)) ∧ (¬ ((I 147 ((v5 + (-1)) - (1 : Int32)).toNatClampNeg) = 0) ∧ (¬ ((I 147 (v5 + (-1)).toNatClampNeg) = 0)))) ∨ (¬ ((I 143 v6.toNatClampNeg) = (-2 : Int32)) ∧ (¬ ((I 147 ((v5 + (-1)) - (1 : Int32)).toNatClampNeg) = 0) ∨ (¬ ((I 147 (v5 + (-1)).toNatClampNeg) = 0))))) = (1 : Int32) from x_bi_t (Or.inr ⟨c_12, (Or.inr c_16)⟩)]) J
          · refine wp_aload_n rfl rfl rfl ?_
            refine wp_getR (v := .ref 147) rfl (by decide) (kd_142 _) rfl (kr_142_11 _) ?_
            refine wp_iload rfl rfl ?_
            refine wp_iconst (v := (1 : Int32)) rfl (by decide) ?_
            refine wp_isub rfl ?_
            refine s_zald rfl (kd_147 _) (o_17 c_12) ?_
            refine wp_if_eq rfl (fun c_18 => ?_) (fun c_18 => ?_)
            · refine wp_iconst (v := (0 : Int32)) rfl (by decide) ?_
              refine wp_goto rfl ?_
              exact x_P.cong rfl (by rw [show x_bi ((((I 143 v6.toNatClampNeg) = (-2 : Int32)) ∧ (¬ ((I 147 ((v5 + (-1)) - (1 : Int32)).toNatClampNeg) = 0) ∧ (¬ ((I 147 (v5 + (-1)).toNatClampNeg) = 0)))) ∨ (¬ ((I 143 v6.toNatClampNeg) = (-2 : Int32)) ∧ (¬ ((I 147 ((v5 + (-1)) - (1 : Int32)).toNatClampNeg) = 0) ∨ (¬ ((I 147 (v5 + (-1)).toNatClampNeg) = 0))))) = (0 : Int32) from x_bi_f (fun h => h.elim (fun g => (fun h => h.1 c_18) g.2) (fun g => g.1 c_12))]) J
            · refine wp_aload_n rfl rfl rfl ?_
              refine wp_getR (v := .ref 147) rfl (by decide) (kd_142 _) rfl (kr_142_11 _) ?_
              refine wp_iload rfl rfl ?_
              refine s_zald rfl (kd_147 _) (o_19 c_12 c_18) ?_
              refine wp_if_eq rfl (fun c_20 => ?_) (fun c_20 => ?_)
              · refine wp_iconst (v := (0 : Int32)) rfl (by decide) ?_
                refine wp_goto rfl ?_
                exact x_P.cong rfl (by rw [show x_bi ((((I 143 v6.toNatClampNeg) = (-2 : Int32)) ∧ (¬ ((I 147 ((v5 + (-1)) - (1 : Int32)).toNatClampNeg) = 0) ∧ (¬ ((I 147 (v5 + (-1)).toNatClampNeg) = 0)))) ∨ (¬ ((I 143 v6.toNatClampNeg) = (-2 : Int32)) ∧ (¬ ((I 147 ((v5 + (-1)) - (1 : Int32)).toNatClampNeg) = 0) ∨ (¬ ((I 147 (v5 + (-1)).toNatClampNeg) = 0))))) = (0 : Int32) from x_bi_f (fun h => h.elim (fun g => (fun h => (fun h => h c_20) h.2) g.2) (fun g => g.1 c_12))]) J
              · refine wp_iconst (v := (1 : Int32)) rfl (by decide) ?_
                refine wp_goto rfl ?_
                exact x_P.cong rfl (by rw [show x_bi ((((I 143 v6.toNatClampNeg) = (-2 : Int32)) ∧ (¬ ((I 147 ((v5 + (-1)) - (1 : Int32)).toNatClampNeg) = 0) ∧ (¬ ((I 147 (v5 + (-1)).toNatClampNeg) = 0)))) ∨ (¬ ((I 143 v6.toNatClampNeg) = (-2 : Int32)) ∧ (¬ ((I 147 ((v5 + (-1)) - (1 : Int32)).toNatClampNeg) = 0) ∨ (¬ ((I 147 (v5 + (-1)).toNatClampNeg) = 0))))) = (1 : Int32) from x_bi_t (Or.inl ⟨c_12, ⟨c_18, c_20⟩⟩)]) J
      · replace H := H.1 c_4
        refine wp_aload_n rfl rfl rfl ?_
        refine wp_getR (v := .ref 147) rfl (by decide) (kd_142 _) rfl (kr_142_11 _) ?_
        refine wp_iload rfl rfl ?_
        refine wp_iconst (v := (1 : Int32)) rfl (by decide) ?_
        refine wp_isub rfl ?_
        refine wp_aload_n rfl rfl rfl ?_
        refine wp_getR (v := .ref 147) rfl (by decide) (kd_142 _) rfl (kr_142_11 _) ?_
        refine wp_iload rfl rfl ?_
        refine wp_iconst (v := (1 : Int32)) rfl (by decide) ?_
        refine wp_isub rfl ?_
        obtain ⟨o_23, H⟩ := H
        refine s_zald rfl (kd_147 _) o_23 ?_
        have J : x_P E d 131 156 [.ref 142, x_jk, .int v2, .int v3, .int v4, .int v5, .int v6, .int (I 143 v6.toNatClampNeg), x_jk, x_jk, x_jk] [.int (x_bi ((I 147 (v5 - (1 : Int32)).toNatClampNeg) = 0)), .int (v5 - (1 : Int32)), .ref 147] I Q := by
          obtain ⟨o_25, H⟩ := H
          refine s_zast rfl (kd_147 _) o_25 x_bi_nar ?_
          generalize hI_26 : x_up I 147 (v5 - (1 : Int32)).toNatClampNeg (x_bi ((I 147 (v5 - (1 : Int32)).toNatClampNeg) = 0)) = I_26
          replace H := H _ hI_26.symm
          refine wp_goto rfl ?_
          refine wp_iinc (v := v6 + 1) (L' := [.ref 142, x_jk, .int v2, .int v3, .int v4, .int v5, .int (v6 + 1), .int (I 143 v6.toNatClampNeg), x_jk, x_jk, x_jk]) rfl rfl rfl rfl rfl ?_
          refine wp_goto rfl ?_
          exact x_P.weak (L := [.ref 142, x_jk, .int v2, .int v3, .int v4, .int v5, .int (v6 + 1), x_jk, x_jk, x_jk, x_jk]) (by exact ⟨Or.inr rfl, ⟨Or.inr rfl, ⟨Or.inr rfl, ⟨Or.inr rfl, ⟨Or.inr rfl, ⟨Or.inr rfl, ⟨Or.inr rfl, ⟨Or.inl rfl, ⟨Or.inr rfl, ⟨Or.inr rfl, ⟨Or.inr rfl, trivial⟩⟩⟩⟩⟩⟩⟩⟩⟩⟩⟩) H
        refine wp_if_ne rfl (fun c_24 => ?_) (fun c_24 => ?_)
        · refine wp_iconst (v := (0 : Int32)) rfl (by decide) ?_
          exact x_P.cong rfl (by rw [show x_bi ((I 147 (v5 - (1 : Int32)).toNatClampNeg) = 0) = (0 : Int32) from x_bi_f c_24]) J
        · refine wp_iconst (v := (1 : Int32)) rfl (by decide) ?_
          refine wp_goto rfl ?_
          exact x_P.cong rfl (by rw [show x_bi ((I 147 (v5 - (1 : Int32)).toNatClampNeg) = 0) = (1 : Int32) from x_bi_t c_24]) J
    · replace H := H.2 c_3
      refine wp_aload_n rfl rfl rfl ?_
      refine wp_getR (v := .ref 146) rfl (by decide) (kd_142 _) rfl (kr_142_10 _) ?_
      refine wp_iload rfl rfl ?_
      refine wp_bipush (v := (8 : Int32)) rfl (by decide) ?_
      refine wp_irem rfl (by decide) ?_
      obtain ⟨o_27, H⟩ := H
      refine s_iald rfl (kd_146 _) o_27 ?_
      refine wp_istore (L' := [.ref 142, x_jk, .int v2, .int v3, .int v4, .int v5, .int v6, .int (I 143 v6.toNatClampNeg), .int (I 146 ((I 143 v6.toNatClampNeg) - (I 143 v6.toNatClampNeg) / (8 : Int32) * (8 : Int32)).toNatClampNeg), x_jk, x_jk]) rfl (by decide) rfl rfl ?_
      refine wp_iload rfl rfl ?_
      refine wp_bipush (v := (8 : Int32)) rfl (by decide) ?_
      refine wp_idiv rfl (by decide) ?_
      refine wp_iconst (v := (4 : Int32)) rfl (by decide) ?_
      refine wp_irem rfl (by decide) ?_
      refine wp_istore (L' := [.ref 142, x_jk, .int v2, .int v3, .int v4, .int v5, .int v6, .int (I 143 v6.toNatClampNeg), .int (I 146 ((I 143 v6.toNatClampNeg) - (I 143 v6.toNatClampNeg) / (8 : Int32) * (8 : Int32)).toNatClampNeg), .int (((I 143 v6.toNatClampNeg) / (8 : Int32)) - ((I 143 v6.toNatClampNeg) / (8 : Int32)) / (4 : Int32) * (4 : Int32)), x_jk]) rfl (by decide) rfl rfl ?_
      refine wp_iload rfl rfl ?_
      refine wp_bipush (v := (32 : Int32)) rfl (by decide) ?_
      refine wp_idiv rfl (by decide) ?_
      refine wp_istore (L' := [.ref 142, x_jk, .int v2, .int v3, .int v4, .int v5, .int v6, .int (I 143 v6.toNatClampNeg), .int (I 146 ((I 143 v6.toNatClampNeg) - (I 143 v6.toNatClampNeg) / (8 : Int32) * (8 : Int32)).toNatClampNeg), .int (((I 143 v6.toNatClampNeg) / (8 : Int32)) - ((I 143 v6.toNatClampNeg) / (8 : Int32)) / (4 : Int32) * (4 : Int32)), .int ((I 143 v6.toNatClampNeg) / (32 : Int32))]) rfl (by decide) rfl rfl ?_
      refine wp_aload_n rfl rfl rfl ?_
      refine wp_getR (v := .ref 147) rfl (by decide) (kd_142 _) rfl (kr_142_11 _) ?_
      refine wp_iload rfl rfl ?_
      refine wp_iload rfl rfl ?_
      have J : x_P E d 131 135 [.ref 142, x_jk, .int v2, .int v3, .int v4, .int v5, .int v6, .int (I 143 v6.toNatClampNeg), .int (I 146 ((I 143 v6.toNatClampNeg) - (I 143 v6.toNatClampNeg) / (8 : Int32) * (8 : Int32)).toNatClampNeg), .int (((I 143 v6.toNatClampNeg) / (8 : Int32)) - ((I 143 v6.toNatClampNeg) / (8 : Int32)) / (4 : Int32) * (4 : Int32)), .int ((I 143 v6.toNatClampNeg) / (32 : Int32))] [.int (x_bi ((((((I 143 v6.toNatClampNeg) / (8 : Int32)) - ((I 143 v6.toNatClampNeg) / (8 : Int32)) / (4 : Int32) * (4 : Int32)) = 0) ∧ (¬ (((I 143 v6.toNatClampNeg) / (32 : Int32)) ≤ (I 146 ((I 143 v6.toNatClampNeg) - (I 143 v6.toNatClampNeg) / (8 : Int32) * (8 : Int32)).toNatClampNeg)))) ∨ (¬ ((((I 143 v6.toNatClampNeg) / (8 : Int32)) - ((I 143 v6.toNatClampNeg) / (8 : Int32)) / (4 : Int32) * (4 : Int32)) = 0) ∧ ((((((I 143 v6.toNatClampNeg) / (8 : Int32)) - ((I 143 v6.toNatClampNeg) / (8 : Int32)) / (4 : Int32) * (4 : Int32)) = (1 : Int32)) ∧ ((I 146 ((I 143 v6.toNatClampNeg) - (I 143 v6.toNatClampNeg) / (8 : Int32) * (8 : Int32)).toNatClampNeg) = ((I 143 v6.toNatClampNeg) / (32 : Int32)))) ∨ (¬ ((((I 143 v6.toNatClampNeg) / (8 : Int32)) - ((I 143 v6.toNatClampNeg) / (8 : Int32)) / (4 : Int32) * (4 : Int32)) = (1 : Int32)) ∧ (¬ ((I 146 ((I 143 v6.toNatClampNeg) - (I 143 v6.toNatClampNeg) / (8 : Int32) * (8 : Int32)).toNatClampNeg) ≤ ((I 143 v6.toNatClampNeg) / (32 : Int32))))))))), .int v5, .ref 147] I Q := by
        obtain ⟨o_33, H⟩ := H
        refine s_zast rfl (kd_147 _) o_33 x_bi_nar ?_
        generalize hI_34 : x_up I 147 v5.toNatClampNeg (x_bi ((((((I 143 v6.toNatClampNeg) / (8 : Int32)) - ((I 143 v6.toNatClampNeg) / (8 : Int32)) / (4 : Int32) * (4 : Int32)) = 0) ∧ (¬ (((I 143 v6.toNatClampNeg) / (32 : Int32)) ≤ (I 146 ((I 143 v6.toNatClampNeg) - (I 143 v6.toNatClampNeg) / (8 : Int32) * (8 : Int32)).toNatClampNeg)))) ∨ (¬ ((((I 143 v6.toNatClampNeg) / (8 : Int32)) - ((I 143 v6.toNatClampNeg) / (8 : Int32)) / (4 : Int32) * (4 : Int32)) = 0) ∧ ((((((I 143 v6.toNatClampNeg) / (8 : Int32)) - ((I 143 v6.toNatClampNeg) / (8 : Int32)) / (4 : Int32) * (4 : Int32)) = (1 : Int32)) ∧ ((I 146 ((I 143 v6.toNatClampNeg) - (I 143 v6.toNatClampNeg) / (8 : Int32) * (8 : Int32)).toNatClampNeg) = ((I 143 v6.toNatClampNeg) / (32 : Int32)))) ∨ (¬ ((((I 143 v6.toNatClampNeg) / (8 : Int32)) - ((I 143 v6.toNatClampNeg) / (8 : Int32)) / (4 : Int32) * (4 : Int32)) = (1 : Int32)) ∧ (¬ ((I 146 ((I 143 v6.toNatClampNeg) - (I 143 v6.toNatClampNeg) / (8 : Int32) * (8 : Int32)).toNatClampNeg) ≤ ((I 143 v6.toNatClampNeg) / (32 : Int32))))))))) = I_34
        replace H := H _ hI_34.symm
        refine wp_iinc (v := v5 + 1) (L' := [.ref 142, x_jk, .int v2, .int v3, .int v4, .int (v5 + 1), .int v6, .int (I 143 v6.toNatClampNeg), .int (I 146 ((I 143 v6.toNatClampNeg) - (I 143 v6.toNatClampNeg) / (8 : Int32) * (8 : Int32)).toNatClampNeg), .int (((I 143 v6.toNatClampNeg) / (8 : Int32)) - ((I 143 v6.toNatClampNeg) / (8 : Int32)) / (4 : Int32) * (4 : Int32)), .int ((I 143 v6.toNatClampNeg) / (32 : Int32))]) rfl rfl rfl rfl rfl ?_
        refine wp_goto rfl ?_
        refine wp_iinc (v := v6 + 1) (L' := [.ref 142, x_jk, .int v2, .int v3, .int v4, .int (v5 + 1), .int (v6 + 1), .int (I 143 v6.toNatClampNeg), .int (I 146 ((I 143 v6.toNatClampNeg) - (I 143 v6.toNatClampNeg) / (8 : Int32) * (8 : Int32)).toNatClampNeg), .int (((I 143 v6.toNatClampNeg) / (8 : Int32)) - ((I 143 v6.toNatClampNeg) / (8 : Int32)) / (4 : Int32) * (4 : Int32)), .int ((I 143 v6.toNatClampNeg) / (32 : Int32))]) rfl rfl rfl rfl rfl ?_
        refine wp_goto rfl ?_
        exact x_P.weak (L := [.ref 142, x_jk, .int v2, .int v3, .int v4, .int (v5 + 1), .int (v6 + 1), x_jk, x_jk, x_jk, x_jk]) (by exact ⟨Or.inr rfl, ⟨Or.inr rfl, ⟨Or.inr rfl, ⟨Or.inr rfl, ⟨Or.inr rfl, ⟨Or.inr rfl, ⟨Or.inr rfl, ⟨Or.inl rfl, ⟨Or.inl rfl, ⟨Or.inl rfl, ⟨Or.inl rfl, trivial⟩⟩⟩⟩⟩⟩⟩⟩⟩⟩⟩) H
      refine wp_if_ne rfl (fun c_28 => ?_) (fun c_28 => ?_)
      · refine wp_iload rfl rfl ?_
        refine wp_iconst (v := (1 : Int32)) rfl (by decide) ?_
        refine wp_icmp_ne rfl (fun c_29 => ?_) (fun c_29 => ?_)
        · refine wp_iload rfl rfl ?_
          refine wp_iload rfl rfl ?_
          refine wp_icmp_le rfl (fun c_30 => ?_) (fun c_30 => ?_)
          · refine wp_iconst (v := (0 : Int32)) rfl (by decide) ?_
            exact x_P.cong rfl (by rw [show x_bi ((((((I 143 v6.toNatClampNeg) / (8 : Int32)) - ((I 143 v6.toNatClampNeg) / (8 : Int32)) / (4 : Int32) * (4 : Int32)) = 0) ∧ (¬ (((I 143 v6.toNatClampNeg) / (32 : Int32)) ≤ (I 146 ((I 143 v6.toNatClampNeg) - (I 143 v6.toNatClampNeg) / (8 : Int32) * (8 : Int32)).toNatClampNeg)))) ∨ (¬ ((((I 143 v6.toNatClampNeg) / (8 : Int32)) - ((I 143 v6.toNatClampNeg) / (8 : Int32)) / (4 : Int32) * (4 : Int32)) = 0) ∧ ((((((I 143 v6.toNatClampNeg) / (8 : Int32)) - ((I 143 v6.toNatClampNeg) / (8 : Int32)) / (4 : Int32) * (4 : Int32)) = (1 : Int32)) ∧ ((I 146 ((I 143 v6.toNatClampNeg) - (I 143 v6.toNatClampNeg) / (8 : Int32) * (8 : Int32)).toNatClampNeg) = ((I 143 v6.toNatClampNeg) / (32 : Int32)))) ∨ (¬ ((((I 143 v6.toNatClampNeg) / (8 : Int32)) - ((I 143 v6.toNatClampNeg) / (8 : Int32)) / (4 : Int32) * (4 : Int32)) = (1 : Int32)) ∧ (¬ ((I 146 ((I 143 v6.toNatClampNeg) - (I 143 v6.toNatClampNeg) / (8 : Int32) * (8 : Int32)).toNatClampNeg) ≤ ((I 143 v6.toNatClampNeg) / (32 : Int32)))))))) = (0 : Int32) from x_bi_f (fun h => h.elim (fun g => c_28 g.1) (fun g => (fun h => h.elim (fun g => c_29 g.1) (fun g => (fun h => h c_30) g.2)) g.2))]) J
          · refine wp_iconst (v := (1 : Int32)) rfl (by decide) ?_
            refine wp_goto rfl ?_
            exact x_P.cong rfl (by rw [show x_bi ((((((I 143 v6.toNatClampNeg) / (8 : Int32)) - ((I 143 v6.toNatClampNeg) / (8 : Int32)) / (4 : Int32) * (4 : Int32)) = 0) ∧ (¬ (((I 143 v6.toNatClampNeg) / (32 : Int32)) ≤ (I 146 ((I 143 v6.toNatClampNeg) - (I 143 v6.toNatClampNeg) / (8 : Int32) * (8 : Int32)).toNatClampNeg)))) ∨ (¬ ((((I 143 v6.toNatClampNeg) / (8 : Int32)) - ((I 143 v6.toNatClampNeg) / (8 : Int32)) / (4 : Int32) * (4 : Int32)) = 0) ∧ ((((((I 143 v6.toNatClampNeg) / (8 : Int32)) - ((I 143 v6.toNatClampNeg) / (8 : Int32)) / (4 : Int32) * (4 : Int32)) = (1 : Int32)) ∧ ((I 146 ((I 143 v6.toNatClampNeg) - (I 143 v6.toNatClampNeg) / (8 : Int32) * (8 : Int32)).toNatClampNeg) = ((I 143 v6.toNatClampNeg) / (32 : Int32)))) ∨ (¬ ((((I 143 v6.toNatClampNeg) / (8 : Int32)) - ((I 143 v6.toNatClampNeg) / (8 : Int32)) / (4 : Int32) * (4 : Int32)) = (1 : Int32)) ∧ (¬ ((I 146 ((I 143 v6.toNatClampNeg) - (I 143 v6.toNatClampNeg) / (8 : Int32) * (8 : Int32)).toNatClampNeg) ≤ ((I 143 v6.toNatClampNeg) / (32 : Int32)))))))) = (1 : Int32) from x_bi_t (Or.inr ⟨c_28, (Or.inr ⟨c_29, c_30⟩)⟩)]) J
        · refine wp_iload rfl rfl ?_
          refine wp_iload rfl rfl ?_
          refine wp_icmp_ne rfl (fun c_31 => ?_) (fun c_31 => ?_)
          · refine wp_iconst (v := (0 : Int32)) rfl (by decide) ?_
            refine wp_goto rfl ?_
            exact x_P.cong rfl (by rw [show x_bi ((((((I 143 v6.toNatClampNeg) / (8 : Int32)) - ((I 143 v6.toNatClampNeg) / (8 : Int32)) / (4 : Int32) * (4 : Int32)) = 0) ∧ (¬ (((I 143 v6.toNatClampNeg) / (32 : Int32)) ≤ (I 146 ((I 143 v6.toNatClampNeg) - (I 143 v6.toNatClampNeg) / (8 : Int32) * (8 : Int32)).toNatClampNeg)))) ∨ (¬ ((((I 143 v6.toNatClampNeg) / (8 : Int32)) - ((I 143 v6.toNatClampNeg) / (8 : Int32)) / (4 : Int32) * (4 : Int32)) = 0) ∧ ((((((I 143 v6.toNatClampNeg) / (8 : Int32)) - ((I 143 v6.toNatClampNeg) / (8 : Int32)) / (4 : Int32) * (4 : Int32)) = (1 : Int32)) ∧ ((I 146 ((I 143 v6.toNatClampNeg) - (I 143 v6.toNatClampNeg) / (8 : Int32) * (8 : Int32)).toNatClampNeg) = ((I 143 v6.toNatClampNeg) / (32 : Int32)))) ∨ (¬ ((((I 143 v6.toNatClampNeg) / (8 : Int32)) - ((I 143 v6.toNatClampNeg) / (8 : Int32)) / (4 : Int32) * (4 : Int32)) = (1 : Int32)) ∧ (¬ ((I 146 ((I 143 v6.toNatClampNeg) - (I 143 v6.toNatClampNeg) / (8 : Int32) * (8 : Int32)).toNatClampNeg) ≤ ((I 143 v6.toNatClampNeg) / (32 : Int32)))))))) = (0 : Int32) from x_bi_f (fun h => h.elim (fun g => c_28 g.1) (fun g => (fun h => h.elim (fun g => c_31 g.2) (fun g => g.1 c_29)) g.2))]) J
          · refine wp_iconst (v := (1 : Int32)) rfl (by decide) ?_
            refine wp_goto rfl ?_
            exact x_P.cong rfl (by rw [show x_bi ((((((I 143 v6.toNatClampNeg) / (8 : Int32)) - ((I 143 v6.toNatClampNeg) / (8 : Int32)) / (4 : Int32) * (4 : Int32)) = 0) ∧ (¬ (((I 143 v6.toNatClampNeg) / (32 : Int32)) ≤ (I 146 ((I 143 v6.toNatClampNeg) - (I 143 v6.toNatClampNeg) / (8 : Int32) * (8 : Int32)).toNatClampNeg)))) ∨ (¬ ((((I 143 v6.toNatClampNeg) / (8 : Int32)) - ((I 143 v6.toNatClampNeg) / (8 : Int32)) / (4 : Int32) * (4 : Int32)) = 0) ∧ ((((((I 143 v6.toNatClampNeg) / (8 : Int32)) - ((I 143 v6.toNatClampNeg) / (8 : Int32)) / (4 : Int32) * (4 : Int32)) = (1 : Int32)) ∧ ((I 146 ((I 143 v6.toNatClampNeg) - (I 143 v6.toNatClampNeg) / (8 : Int32) * (8 : Int32)).toNatClampNeg) = ((I 143 v6.toNatClampNeg) / (32 : Int32)))) ∨ (¬ ((((I 143 v6.toNatClampNeg) / (8 : Int32)) - ((I 143 v6.toNatClampNeg) / (8 : Int32)) / (4 : Int32) * (4 : Int32)) = (1 : Int32)) ∧ (¬ ((I 146 ((I 143 v6.toNatClampNeg) - (I 143 v6.toNatClampNeg) / (8 : Int32) * (8 : Int32)).toNatClampNeg) ≤ ((I 143 v6.toNatClampNeg) / (32 : Int32)))))))) = (1 : Int32) from x_bi_t (Or.inr ⟨c_28, (Or.inl ⟨c_29, c_31⟩)⟩)]) J
      · refine wp_iload rfl rfl ?_
        refine wp_iload rfl rfl ?_
        refine wp_icmp_ge rfl (fun c_32 => ?_) (fun c_32 => ?_)
        · refine wp_iconst (v := (0 : Int32)) rfl (by decide) ?_
          refine wp_goto rfl ?_
          exact x_P.cong rfl (by rw [show x_bi ((((((I 143 v6.toNatClampNeg) / (8 : Int32)) - ((I 143 v6.toNatClampNeg) / (8 : Int32)) / (4 : Int32) * (4 : Int32)) = 0) ∧ (¬ (((I 143 v6.toNatClampNeg) / (32 : Int32)) ≤ (I 146 ((I 143 v6.toNatClampNeg) - (I 143 v6.toNatClampNeg) / (8 : Int32) * (8 : Int32)).toNatClampNeg)))) ∨ (¬ ((((I 143 v6.toNatClampNeg) / (8 : Int32)) - ((I 143 v6.toNatClampNeg) / (8 : Int32)) / (4 : Int32) * (4 : Int32)) = 0) ∧ ((((((I 143 v6.toNatClampNeg) / (8 : Int32)) - ((I 143 v6.toNatClampNeg) / (8 : Int32)) / (4 : Int32) * (4 : Int32)) = (1 : Int32)) ∧ ((I 146 ((I 143 v6.toNatClampNeg) - (I 143 v6.toNatClampNeg) / (8 : Int32) * (8 : Int32)).toNatClampNeg) = ((I 143 v6.toNatClampNeg) / (32 : Int32)))) ∨ (¬ ((((I 143 v6.toNatClampNeg) / (8 : Int32)) - ((I 143 v6.toNatClampNeg) / (8 : Int32)) / (4 : Int32) * (4 : Int32)) = (1 : Int32)) ∧ (¬ ((I 146 ((I 143 v6.toNatClampNeg) - (I 143 v6.toNatClampNeg) / (8 : Int32) * (8 : Int32)).toNatClampNeg) ≤ ((I 143 v6.toNatClampNeg) / (32 : Int32)))))))) = (0 : Int32) from x_bi_f (fun h => h.elim (fun g => (fun h => h c_32) g.2) (fun g => g.1 c_28))]) J
        · refine wp_iconst (v := (1 : Int32)) rfl (by decide) ?_
          refine wp_goto rfl ?_
          exact x_P.cong rfl (by rw [show x_bi ((((((I 143 v6.toNatClampNeg) / (8 : Int32)) - ((I 143 v6.toNatClampNeg) / (8 : Int32)) / (4 : Int32) * (4 : Int32)) = 0) ∧ (¬ (((I 143 v6.toNatClampNeg) / (32 : Int32)) ≤ (I 146 ((I 143 v6.toNatClampNeg) - (I 143 v6.toNatClampNeg) / (8 : Int32) * (8 : Int32)).toNatClampNeg)))) ∨ (¬ ((((I 143 v6.toNatClampNeg) / (8 : Int32)) - ((I 143 v6.toNatClampNeg) / (8 : Int32)) / (4 : Int32) * (4 : Int32)) = 0) ∧ ((((((I 143 v6.toNatClampNeg) / (8 : Int32)) - ((I 143 v6.toNatClampNeg) / (8 : Int32)) / (4 : Int32) * (4 : Int32)) = (1 : Int32)) ∧ ((I 146 ((I 143 v6.toNatClampNeg) - (I 143 v6.toNatClampNeg) / (8 : Int32) * (8 : Int32)).toNatClampNeg) = ((I 143 v6.toNatClampNeg) / (32 : Int32)))) ∨ (¬ ((((I 143 v6.toNatClampNeg) / (8 : Int32)) - ((I 143 v6.toNatClampNeg) / (8 : Int32)) / (4 : Int32) * (4 : Int32)) = (1 : Int32)) ∧ (¬ ((I 146 ((I 143 v6.toNatClampNeg) - (I 143 v6.toNatClampNeg) / (8 : Int32) * (8 : Int32)).toNatClampNeg) ≤ ((I 143 v6.toNatClampNeg) / (32 : Int32)))))))) = (1 : Int32) from x_bi_t (Or.inl ⟨c_28, c_32⟩)]) J
set_option maxRecDepth 20000 in
theorem r_M_riseOf_0 {E : XE} {d : Nat} {I : Nat → Nat → Int32} {Q : Option Value → (Nat → Nat → Int32) → Prop} (hd : 1 ≤ d) (a1 : Int32)
    (H : x_K E (d - 1) 131 [.ref 142, .int a1] I (fun v I2 => x_P E d 132 3 [.ref 142, .int a1, x_jk, x_jk] (v.toList ++ []) I2 Q)) :
    x_P E d 132 0 [.ref 142, .int a1, x_jk, x_jk] [] I Q := by
  refine wp_aload_n rfl rfl rfl ?_
  refine wp_iload_n rfl rfl rfl ?_
  refine s_invV (As := [.int a1]) (d1 := d - 1) rfl ⟨by decide, by decide⟩ rfl rfl rfl (Nat.le_of_ble_eq_true rfl) (by omega) (kd_142 _) (by decide) rfl rfl H ?_
  intro v I2 h2
  exact h2
set_option maxRecDepth 20000 in
theorem r_M_riseOf_3 {E : XE} {d : Nat} {I : Nat → Nat → Int32} {Q : Option Value → (Nat → Nat → Int32) → Prop} (hd : 1 ≤ d) (v1 : Int32) (w : Int32)
    (H : (vp_in ((1 : Int32) + v1) 931) ∧ x_K E (d - 1) 130 [.int (I 143 ((1 : Int32) + v1).toNatClampNeg)] I (fun v I2 => x_P E d 132 12 [.ref 142, .int v1, .int w, x_jk] (v.toList ++ [.int w]) I2 Q)) :
    x_P E d 132 3 [.ref 142, .int v1, x_jk, x_jk] [.int w] I Q := by
  refine wp_istore_n (L' := [.ref 142, .int v1, .int w, x_jk]) rfl rfl (by decide) rfl rfl ?_
  refine wp_iload_n rfl rfl rfl ?_
  refine wp_aload_n rfl rfl rfl ?_
  refine wp_getR (v := .ref 143) rfl (by decide) (kd_142 _) rfl (kr_142_1 _) ?_
  refine wp_iconst (v := (1 : Int32)) rfl (by decide) ?_
  refine wp_iload_n rfl rfl rfl ?_
  refine wp_iadd rfl ?_
  obtain ⟨o_1, H⟩ := H
  refine s_iald rfl (kd_143 _) o_1 ?_
  refine s_invSt (As := [.int (I 143 ((1 : Int32) + v1).toNatClampNeg)]) (d1 := d - 1) rfl ⟨by decide, by decide⟩ rfl rfl rfl (Nat.le_of_ble_eq_true rfl) (by omega) H ?_
  intro v I2 h2
  exact h2
set_option maxRecDepth 20000 in
theorem r_M_riseOf_12 {E : XE} {d : Nat} {I : Nat → Nat → Int32} {Q : Option Value → (Nat → Nat → Int32) → Prop} (hd : 1 ≤ d) (v1 : Int32) (v2 : Int32) (s0 : Int32) (w : Int32)
    (H : (vp_in ((38 : Int32) + v1) 931) ∧ (((I 143 ((38 : Int32) + v1).toNatClampNeg) = (1 : Int32) → (vp_in ((44 : Int32) + v1) 931) ∧ Q (some (.int (v2 + (I 143 ((44 : Int32) + v1).toNatClampNeg)))) I) ∧ ((I 143 ((38 : Int32) + v1).toNatClampNeg) = (2 : Int32) → Q (some (.int (v2 / (2 : Int32)))) I) ∧ ((I 143 ((38 : Int32) + v1).toNatClampNeg) = (3 : Int32) → Q (some (.int (s0 + w))) I) ∧ ((I 143 ((38 : Int32) + v1).toNatClampNeg) = (4 : Int32) → (vp_in ((7 : Int32) + v1) 931) ∧ (((I 143 ((7 : Int32) + v1).toNatClampNeg) < (60 : Int32) → vp_in ((44 : Int32) + v1) 931)) ∧ (∀ z_10, z_10 = (if (I 143 ((7 : Int32) + v1).toNatClampNeg) < (60 : Int32) then (v2 + (I 143 ((44 : Int32) + v1).toNatClampNeg)) else (0 : Int32)) → Q (some (.int z_10)) I)) ∧ ((I 143 ((38 : Int32) + v1).toNatClampNeg) = (5 : Int32) → (vp_in ((44 : Int32) + v1) 931) ∧ Q (some (.int ((v2 / (2 : Int32)) - (I 143 ((44 : Int32) + v1).toNatClampNeg)))) I) ∧ ((I 143 ((38 : Int32) + v1).toNatClampNeg) = (6 : Int32) → (vp_in (((50 : Int32) + ((4 : Int32) * v1)) + ((I 143 0) - (I 143 0) / (4 : Int32) * (4 : Int32))) 931) ∧ Q (some (.int (((s0 + w) + (I 143 (((50 : Int32) + ((4 : Int32) * v1)) + ((I 143 0) - (I 143 0) / (4 : Int32) * (4 : Int32))).toNatClampNeg)) - (4 : Int32)))) I) ∧ (¬ (I 143 ((38 : Int32) + v1).toNatClampNeg) = (1 : Int32) → ¬ (I 143 ((38 : Int32) + v1).toNatClampNeg) = (2 : Int32) → ¬ (I 143 ((38 : Int32) + v1).toNatClampNeg) = (3 : Int32) → ¬ (I 143 ((38 : Int32) + v1).toNatClampNeg) = (4 : Int32) → ¬ (I 143 ((38 : Int32) + v1).toNatClampNeg) = (5 : Int32) → ¬ (I 143 ((38 : Int32) + v1).toNatClampNeg) = (6 : Int32) → Q (some (.int v2)) I))) :
    x_P E d 132 12 [.ref 142, .int v1, .int v2, x_jk] [.int w, .int s0] I Q := by
  refine wp_iadd rfl ?_
  refine wp_istore_n (L' := [.ref 142, .int v1, .int v2, .int (s0 + w)]) rfl rfl (by decide) rfl rfl ?_
  refine wp_aload_n rfl rfl rfl ?_
  refine wp_getR (v := .ref 143) rfl (by decide) (kd_142 _) rfl (kr_142_1 _) ?_
  refine wp_bipush (v := (38 : Int32)) rfl (by decide) ?_
  refine wp_iload_n rfl rfl rfl ?_
  refine wp_iadd rfl ?_
  obtain ⟨o_1, H⟩ := H
  refine s_iald rfl (kd_143 _) o_1 ?_
  by_cases c_2 : (I 143 ((38 : Int32) + v1).toNatClampNeg) = (1 : Int32)
  · replace H := H.1 c_2
    refine wp_tswIn (j := 0) rfl rfl (Eq.trans (congrArg Int32.toInt c_2) rfl) ?_
    refine wp_iload_n rfl rfl rfl ?_
    refine wp_aload_n rfl rfl rfl ?_
    refine wp_getR (v := .ref 143) rfl (by decide) (kd_142 _) rfl (kr_142_1 _) ?_
    refine wp_bipush (v := (44 : Int32)) rfl (by decide) ?_
    refine wp_iload_n rfl rfl rfl ?_
    refine wp_iadd rfl ?_
    obtain ⟨o_3, H⟩ := H
    refine s_iald rfl (kd_143 _) o_3 ?_
    refine wp_iadd rfl ?_
    exact s_iret rfl rfl rfl H
  · by_cases c_4 : (I 143 ((38 : Int32) + v1).toNatClampNeg) = (2 : Int32)
    · replace H := H.2.1 c_4
      refine wp_tswIn (j := 1) rfl rfl (Eq.trans (congrArg Int32.toInt c_4) rfl) ?_
      refine wp_iload_n rfl rfl rfl ?_
      refine wp_iconst (v := (2 : Int32)) rfl (by decide) ?_
      refine wp_idiv rfl (by decide) ?_
      exact s_iret rfl rfl rfl H
    · by_cases c_5 : (I 143 ((38 : Int32) + v1).toNatClampNeg) = (3 : Int32)
      · replace H := H.2.2.1 c_5
        refine wp_tswIn (j := 2) rfl rfl (Eq.trans (congrArg Int32.toInt c_5) rfl) ?_
        refine wp_iload_n rfl rfl rfl ?_
        exact s_iret rfl rfl rfl H
      · by_cases c_6 : (I 143 ((38 : Int32) + v1).toNatClampNeg) = (4 : Int32)
        · replace H := H.2.2.2.1 c_6
          refine wp_tswIn (j := 3) rfl rfl (Eq.trans (congrArg Int32.toInt c_6) rfl) ?_
          refine wp_aload_n rfl rfl rfl ?_
          refine wp_getR (v := .ref 143) rfl (by decide) (kd_142 _) rfl (kr_142_1 _) ?_
          refine wp_bipush (v := (7 : Int32)) rfl (by decide) ?_
          refine wp_iload_n rfl rfl rfl ?_
          refine wp_iadd rfl ?_
          obtain ⟨o_7, H⟩ := H
          refine s_iald rfl (kd_143 _) o_7 ?_
          refine wp_bipush (v := (60 : Int32)) rfl (by decide) ?_
          obtain ⟨o_9, H⟩ := H
          obtain ⟨z_10, hz_10⟩ : ∃ z : Int32, z = (if (I 143 ((7 : Int32) + v1).toNatClampNeg) < (60 : Int32) then (v2 + (I 143 ((44 : Int32) + v1).toNatClampNeg)) else (0 : Int32)) := ⟨_, rfl⟩
          replace H := H _ hz_10
          have J : x_P E d 132 54 [.ref 142, .int v1, .int v2, .int (s0 + w)] [.int z_10] I Q := by
            exact s_iret rfl rfl rfl H
          refine wp_icmp_lt rfl (fun c_8 => ?_) (fun c_8 => ?_)
          · refine wp_iload_n rfl rfl rfl ?_
            refine wp_aload_n rfl rfl rfl ?_
            refine wp_getR (v := .ref 143) rfl (by decide) (kd_142 _) rfl (kr_142_1 _) ?_
            refine wp_bipush (v := (44 : Int32)) rfl (by decide) ?_
            refine wp_iload_n rfl rfl rfl ?_
            refine wp_iadd rfl ?_
            refine s_iald rfl (kd_143 _) (o_9 c_8) ?_
            refine wp_iadd rfl ?_
            exact x_P.cong rfl (by rw [show z_10 = (v2 + (I 143 ((44 : Int32) + v1).toNatClampNeg)) from by rw [hz_10]; simp only [if_pos c_8]]) J
          · refine wp_iconst (v := (0 : Int32)) rfl (by decide) ?_
            refine wp_goto rfl ?_
            exact x_P.cong rfl (by rw [show z_10 = (0 : Int32) from by rw [hz_10]; simp only [if_neg c_8]]) J
        · by_cases c_11 : (I 143 ((38 : Int32) + v1).toNatClampNeg) = (5 : Int32)
          · replace H := H.2.2.2.2.1 c_11
            refine wp_tswIn (j := 4) rfl rfl (Eq.trans (congrArg Int32.toInt c_11) rfl) ?_
            refine wp_iload_n rfl rfl rfl ?_
            refine wp_iconst (v := (2 : Int32)) rfl (by decide) ?_
            refine wp_idiv rfl (by decide) ?_
            refine wp_aload_n rfl rfl rfl ?_
            refine wp_getR (v := .ref 143) rfl (by decide) (kd_142 _) rfl (kr_142_1 _) ?_
            refine wp_bipush (v := (44 : Int32)) rfl (by decide) ?_
            refine wp_iload_n rfl rfl rfl ?_
            refine wp_iadd rfl ?_
            obtain ⟨o_12, H⟩ := H
            refine s_iald rfl (kd_143 _) o_12 ?_
            refine wp_isub rfl ?_
            exact s_iret rfl rfl rfl H
          · by_cases c_13 : (I 143 ((38 : Int32) + v1).toNatClampNeg) = (6 : Int32)
            · replace H := H.2.2.2.2.2.1 c_13
              refine wp_tswIn (j := 5) rfl rfl (Eq.trans (congrArg Int32.toInt c_13) rfl) ?_
              refine wp_iload_n rfl rfl rfl ?_
              refine wp_aload_n rfl rfl rfl ?_
              refine wp_getR (v := .ref 143) rfl (by decide) (kd_142 _) rfl (kr_142_1 _) ?_
              refine wp_bipush (v := (50 : Int32)) rfl (by decide) ?_
              refine wp_iconst (v := (4 : Int32)) rfl (by decide) ?_
              refine wp_iload_n rfl rfl rfl ?_
              refine wp_imul rfl ?_
              refine wp_iadd rfl ?_
              refine wp_aload_n rfl rfl rfl ?_
              refine wp_getR (v := .ref 143) rfl (by decide) (kd_142 _) rfl (kr_142_1 _) ?_
              refine wp_iconst (v := (0 : Int32)) rfl (by decide) ?_
              refine s_ialdc (k0 := 0) rfl (kd_143 _) rfl ?_
              refine wp_iconst (v := (4 : Int32)) rfl (by decide) ?_
              refine wp_irem rfl (by decide) ?_
              refine wp_iadd rfl ?_
              obtain ⟨o_14, H⟩ := H
              refine s_iald rfl (kd_143 _) o_14 ?_
              refine wp_iadd rfl ?_
              refine wp_iconst (v := (4 : Int32)) rfl (by decide) ?_
              refine wp_isub rfl ?_
              exact s_iret rfl rfl rfl H
            · replace H := H.2.2.2.2.2.2 c_2 c_4 c_5 c_6 c_11 c_13
              have nc_2 := x_tne (z := 1) c_2 rfl
              have nc_4 := x_tne (z := 2) c_4 rfl
              have nc_5 := x_tne (z := 3) c_5 rfl
              have nc_6 := x_tne (z := 4) c_6 rfl
              have nc_11 := x_tne (z := 5) c_11 rfl
              have nc_13 := x_tne (z := 6) c_13 rfl
              have hout : ((I 143 ((38 : Int32) + v1).toNatClampNeg)).toInt < 1 ∨ 6 < ((I 143 ((38 : Int32) + v1).toNatClampNeg)).toInt := by omega
              refine wp_tswOut rfl hout ?_
              refine wp_iload_n rfl rfl rfl ?_
              exact s_iret rfl rfl rfl H
set_option maxRecDepth 20000 in
theorem r_M_apartOf_0 {E : XE} {d : Nat} {I : Nat → Nat → Int32} {Q : Option Value → (Nat → Nat → Int32) → Prop} (hd : 1 ≤ d) (a1 : Int32) (a2 : Int32)
    (H : (vp_in ((1 : Int32) + a1) 931) ∧ (vp_in ((1 : Int32) + a2) 931) ∧ x_K E (d - 1) 130 [.int ((I 143 ((1 : Int32) + a1).toNatClampNeg) ^^^ (I 143 ((1 : Int32) + a2).toNatClampNeg))] I (fun v I2 => x_P E d 133 14 [x_jk, x_jk, x_jk] (v.toList ++ []) I2 Q)) :
    x_P E d 133 0 [.ref 142, .int a1, .int a2] [] I Q := by
  refine wp_aload_n rfl rfl rfl ?_
  refine wp_getR (v := .ref 143) rfl (by decide) (kd_142 _) rfl (kr_142_1 _) ?_
  refine wp_iconst (v := (1 : Int32)) rfl (by decide) ?_
  refine wp_iload_n rfl rfl rfl ?_
  refine wp_iadd rfl ?_
  obtain ⟨o_1, H⟩ := H
  refine s_iald rfl (kd_143 _) o_1 ?_
  refine wp_aload_n rfl rfl rfl ?_
  refine wp_getR (v := .ref 143) rfl (by decide) (kd_142 _) rfl (kr_142_1 _) ?_
  refine wp_iconst (v := (1 : Int32)) rfl (by decide) ?_
  refine wp_iload_n rfl rfl rfl ?_
  refine wp_iadd rfl ?_
  obtain ⟨o_2, H⟩ := H
  refine s_iald rfl (kd_143 _) o_2 ?_
  refine wp_ixor rfl ?_
  refine s_invSt (As := [.int ((I 143 ((1 : Int32) + a1).toNatClampNeg) ^^^ (I 143 ((1 : Int32) + a2).toNatClampNeg))]) (d1 := d - 1) rfl ⟨by decide, by decide⟩ rfl rfl rfl (Nat.le_of_ble_eq_true rfl) (by omega) H ?_
  intro v I2 h2
  exact x_P.weak (L := [x_jk, x_jk, x_jk]) (by exact ⟨Or.inl rfl, ⟨Or.inl rfl, ⟨Or.inl rfl, trivial⟩⟩⟩) h2
set_option maxRecDepth 20000 in
theorem r_M_apartOf_14 {E : XE} {d : Nat} {I : Nat → Nat → Int32} {Q : Option Value → (Nat → Nat → Int32) → Prop} (hd : 1 ≤ d) (w : Int32)
    (H : Q (some (.int w)) I) :
    x_P E d 133 14 [x_jk, x_jk, x_jk] [.int w] I Q := by
  exact s_iret rfl rfl rfl H
set_option maxRecDepth 20000 in
theorem r_M_doesSee_0 {E : XE} {d : Nat} {I : Nat → Nat → Int32} {Q : Option Value → (Nat → Nat → Int32) → Prop} (hd : 1 ≤ d) (a1 : Int32) (a2 : Int32)
    (H : (vp_in ((25 : Int32) + a1) 931) ∧ (vp_in ((25 : Int32) + a2) 931) ∧ (vp_in ((7 : Int32) + a1) 931) ∧ ((¬ (a1 = a2) → vp_in ((19 : Int32) + a1) 931)) ∧ ((¬ (a1 = a2) → ((I 143 ((19 : Int32) + a1).toNatClampNeg) = 0 → vp_in ((19 : Int32) + a2) 931))) ∧ Q (some (.int (x_bi (¬ (a1 = a2) ∧ (((I 143 ((19 : Int32) + a1).toNatClampNeg) = 0) ∧ (((I 143 ((19 : Int32) + a2).toNatClampNeg) = 0) ∧ (¬ (((9 : Int32) - ((I 143 ((7 : Int32) + a1).toNatClampNeg) / (10 : Int32))) < ((I 143 ((25 : Int32) + a1).toNatClampNeg) - (I 143 ((25 : Int32) + a2).toNatClampNeg))) ∧ (¬ (((9 : Int32) - ((I 143 ((7 : Int32) + a1).toNatClampNeg) / (10 : Int32))) < (-((I 143 ((25 : Int32) + a1).toNatClampNeg) - (I 143 ((25 : Int32) + a2).toNatClampNeg)))))))))))) I) :
    x_P E d 134 0 [.ref 142, .int a1, .int a2, x_jk, x_jk] [] I Q := by
  refine wp_aload_n rfl rfl rfl ?_
  refine wp_getR (v := .ref 143) rfl (by decide) (kd_142 _) rfl (kr_142_1 _) ?_
  refine wp_bipush (v := (25 : Int32)) rfl (by decide) ?_
  refine wp_iload_n rfl rfl rfl ?_
  refine wp_iadd rfl ?_
  obtain ⟨o_1, H⟩ := H
  refine s_iald rfl (kd_143 _) o_1 ?_
  refine wp_aload_n rfl rfl rfl ?_
  refine wp_getR (v := .ref 143) rfl (by decide) (kd_142 _) rfl (kr_142_1 _) ?_
  refine wp_bipush (v := (25 : Int32)) rfl (by decide) ?_
  refine wp_iload_n rfl rfl rfl ?_
  refine wp_iadd rfl ?_
  obtain ⟨o_2, H⟩ := H
  refine s_iald rfl (kd_143 _) o_2 ?_
  refine wp_isub rfl ?_
  refine wp_istore_n (L' := [.ref 142, .int a1, .int a2, .int ((I 143 ((25 : Int32) + a1).toNatClampNeg) - (I 143 ((25 : Int32) + a2).toNatClampNeg)), x_jk]) rfl rfl (by decide) rfl rfl ?_
  refine wp_bipush (v := (9 : Int32)) rfl (by decide) ?_
  refine wp_aload_n rfl rfl rfl ?_
  refine wp_getR (v := .ref 143) rfl (by decide) (kd_142 _) rfl (kr_142_1 _) ?_
  refine wp_bipush (v := (7 : Int32)) rfl (by decide) ?_
  refine wp_iload_n rfl rfl rfl ?_
  refine wp_iadd rfl ?_
  obtain ⟨o_3, H⟩ := H
  refine s_iald rfl (kd_143 _) o_3 ?_
  refine wp_bipush (v := (10 : Int32)) rfl (by decide) ?_
  refine wp_idiv rfl (by decide) ?_
  refine wp_isub rfl ?_
  refine wp_istore (L' := [.ref 142, .int a1, .int a2, .int ((I 143 ((25 : Int32) + a1).toNatClampNeg) - (I 143 ((25 : Int32) + a2).toNatClampNeg)), .int ((9 : Int32) - ((I 143 ((7 : Int32) + a1).toNatClampNeg) / (10 : Int32)))]) rfl (by decide) rfl rfl ?_
  refine wp_iload_n rfl rfl rfl ?_
  refine wp_iload_n rfl rfl rfl ?_
  obtain ⟨o_5, H⟩ := H
  obtain ⟨o_7, H⟩ := H
  have J : x_P E d 134 52 [.ref 142, .int a1, .int a2, .int ((I 143 ((25 : Int32) + a1).toNatClampNeg) - (I 143 ((25 : Int32) + a2).toNatClampNeg)), .int ((9 : Int32) - ((I 143 ((7 : Int32) + a1).toNatClampNeg) / (10 : Int32)))] [.int (x_bi (¬ (a1 = a2) ∧ (((I 143 ((19 : Int32) + a1).toNatClampNeg) = 0) ∧ (((I 143 ((19 : Int32) + a2).toNatClampNeg) = 0) ∧ (¬ (((9 : Int32) - ((I 143 ((7 : Int32) + a1).toNatClampNeg) / (10 : Int32))) < ((I 143 ((25 : Int32) + a1).toNatClampNeg) - (I 143 ((25 : Int32) + a2).toNatClampNeg))) ∧ (¬ (((9 : Int32) - ((I 143 ((7 : Int32) + a1).toNatClampNeg) / (10 : Int32))) < (-((I 143 ((25 : Int32) + a1).toNatClampNeg) - (I 143 ((25 : Int32) + a2).toNatClampNeg))))))))))] I Q := by
    exact s_iret rfl rfl x_bi_nar H
  refine wp_icmp_eq rfl (fun c_4 => ?_) (fun c_4 => ?_)
  · refine wp_iconst (v := (0 : Int32)) rfl (by decide) ?_
    exact x_P.cong rfl (by rw [show x_bi (¬ (a1 = a2) ∧ (((I 143 ((19 : Int32) + a1).toNatClampNeg) = 0) ∧ (((I 143 ((19 : Int32) + a2).toNatClampNeg) = 0) ∧ (¬ (((9 : Int32) - ((I 143 ((7 : Int32) + a1).toNatClampNeg) / (10 : Int32))) < ((I 143 ((25 : Int32) + a1).toNatClampNeg) - (I 143 ((25 : Int32) + a2).toNatClampNeg))) ∧ (¬ (((9 : Int32) - ((I 143 ((7 : Int32) + a1).toNatClampNeg) / (10 : Int32))) < (-((I 143 ((25 : Int32) + a1).toNatClampNeg) - (I 143 ((25 : Int32) + a2).toNatClampNeg))))))))) = (0 : Int32) from x_bi_f (fun h => h.1 c_4)]) J
  · refine wp_aload_n rfl rfl rfl ?_
    refine wp_getR (v := .ref 143) rfl (by decide) (kd_142 _) rfl (kr_142_1 _) ?_
    refine wp_bipush (v := (19 : Int32)) rfl (by decide) ?_
    refine wp_iload_n rfl rfl rfl ?_
    refine wp_iadd rfl ?_
    refine s_iald rfl (kd_143 _) (o_5 c_4) ?_
    refine wp_if_ne rfl (fun c_6 => ?_) (fun c_6 => ?_)
    · refine wp_iconst (v := (0 : Int32)) rfl (by decide) ?_
      exact x_P.cong rfl (by rw [show x_bi (¬ (a1 = a2) ∧ (((I 143 ((19 : Int32) + a1).toNatClampNeg) = 0) ∧ (((I 143 ((19 : Int32) + a2).toNatClampNeg) = 0) ∧ (¬ (((9 : Int32) - ((I 143 ((7 : Int32) + a1).toNatClampNeg) / (10 : Int32))) < ((I 143 ((25 : Int32) + a1).toNatClampNeg) - (I 143 ((25 : Int32) + a2).toNatClampNeg))) ∧ (¬ (((9 : Int32) - ((I 143 ((7 : Int32) + a1).toNatClampNeg) / (10 : Int32))) < (-((I 143 ((25 : Int32) + a1).toNatClampNeg) - (I 143 ((25 : Int32) + a2).toNatClampNeg))))))))) = (0 : Int32) from x_bi_f (fun h => (fun h => c_6 h.1) h.2)]) J
    · refine wp_aload_n rfl rfl rfl ?_
      refine wp_getR (v := .ref 143) rfl (by decide) (kd_142 _) rfl (kr_142_1 _) ?_
      refine wp_bipush (v := (19 : Int32)) rfl (by decide) ?_
      refine wp_iload_n rfl rfl rfl ?_
      refine wp_iadd rfl ?_
      refine s_iald rfl (kd_143 _) (o_7 c_4 c_6) ?_
      refine wp_if_ne rfl (fun c_8 => ?_) (fun c_8 => ?_)
      · refine wp_iconst (v := (0 : Int32)) rfl (by decide) ?_
        exact x_P.cong rfl (by rw [show x_bi (¬ (a1 = a2) ∧ (((I 143 ((19 : Int32) + a1).toNatClampNeg) = 0) ∧ (((I 143 ((19 : Int32) + a2).toNatClampNeg) = 0) ∧ (¬ (((9 : Int32) - ((I 143 ((7 : Int32) + a1).toNatClampNeg) / (10 : Int32))) < ((I 143 ((25 : Int32) + a1).toNatClampNeg) - (I 143 ((25 : Int32) + a2).toNatClampNeg))) ∧ (¬ (((9 : Int32) - ((I 143 ((7 : Int32) + a1).toNatClampNeg) / (10 : Int32))) < (-((I 143 ((25 : Int32) + a1).toNatClampNeg) - (I 143 ((25 : Int32) + a2).toNatClampNeg))))))))) = (0 : Int32) from x_bi_f (fun h => (fun h => (fun h => c_8 h.1) h.2) h.2)]) J
      · refine wp_iload_n rfl rfl rfl ?_
        refine wp_iload rfl rfl ?_
        refine wp_icmp_gt rfl (fun c_9 => ?_) (fun c_9 => ?_)
        · refine wp_iconst (v := (0 : Int32)) rfl (by decide) ?_
          exact x_P.cong rfl (by rw [show x_bi (¬ (a1 = a2) ∧ (((I 143 ((19 : Int32) + a1).toNatClampNeg) = 0) ∧ (((I 143 ((19 : Int32) + a2).toNatClampNeg) = 0) ∧ (¬ (((9 : Int32) - ((I 143 ((7 : Int32) + a1).toNatClampNeg) / (10 : Int32))) < ((I 143 ((25 : Int32) + a1).toNatClampNeg) - (I 143 ((25 : Int32) + a2).toNatClampNeg))) ∧ (¬ (((9 : Int32) - ((I 143 ((7 : Int32) + a1).toNatClampNeg) / (10 : Int32))) < (-((I 143 ((25 : Int32) + a1).toNatClampNeg) - (I 143 ((25 : Int32) + a2).toNatClampNeg))))))))) = (0 : Int32) from x_bi_f (fun h => (fun h => (fun h => (fun h => h.1 c_9) h.2) h.2) h.2)]) J
        · refine wp_iload_n rfl rfl rfl ?_
          refine wp_ineg rfl ?_
          refine wp_iload rfl rfl ?_
          refine wp_icmp_gt rfl (fun c_10 => ?_) (fun c_10 => ?_)
          · refine wp_iconst (v := (0 : Int32)) rfl (by decide) ?_
            exact x_P.cong rfl (by rw [show x_bi (¬ (a1 = a2) ∧ (((I 143 ((19 : Int32) + a1).toNatClampNeg) = 0) ∧ (((I 143 ((19 : Int32) + a2).toNatClampNeg) = 0) ∧ (¬ (((9 : Int32) - ((I 143 ((7 : Int32) + a1).toNatClampNeg) / (10 : Int32))) < ((I 143 ((25 : Int32) + a1).toNatClampNeg) - (I 143 ((25 : Int32) + a2).toNatClampNeg))) ∧ (¬ (((9 : Int32) - ((I 143 ((7 : Int32) + a1).toNatClampNeg) / (10 : Int32))) < (-((I 143 ((25 : Int32) + a1).toNatClampNeg) - (I 143 ((25 : Int32) + a2).toNatClampNeg))))))))) = (0 : Int32) from x_bi_f (fun h => (fun h => (fun h => (fun h => (fun h => h c_10) h.2) h.2) h.2) h.2)]) J
          · refine wp_iconst (v := (1 : Int32)) rfl (by decide) ?_
            refine wp_goto rfl ?_
            exact x_P.cong rfl (by rw [show x_bi (¬ (a1 = a2) ∧ (((I 143 ((19 : Int32) + a1).toNatClampNeg) = 0) ∧ (((I 143 ((19 : Int32) + a2).toNatClampNeg) = 0) ∧ (¬ (((9 : Int32) - ((I 143 ((7 : Int32) + a1).toNatClampNeg) / (10 : Int32))) < ((I 143 ((25 : Int32) + a1).toNatClampNeg) - (I 143 ((25 : Int32) + a2).toNatClampNeg))) ∧ (¬ (((9 : Int32) - ((I 143 ((7 : Int32) + a1).toNatClampNeg) / (10 : Int32))) < (-((I 143 ((25 : Int32) + a1).toNatClampNeg) - (I 143 ((25 : Int32) + a2).toNatClampNeg))))))))) = (1 : Int32) from x_bi_t ⟨c_4, ⟨c_6, ⟨c_8, ⟨c_9, c_10⟩⟩⟩⟩]) J
set_option maxRecDepth 20000 in
theorem r_M_seenBy_0 {E : XE} {d : Nat} {I : Nat → Nat → Int32} {Q : Option Value → (Nat → Nat → Int32) → Prop} (hd : 1 ≤ d) (a1 : Int32)
    (H : x_P E d 135 4 [.ref 142, .int a1, .int (0 : Int32), .int (0 : Int32)] [] I Q) :
    x_P E d 135 0 [.ref 142, .int a1, x_jk, x_jk] [] I Q := by
  refine wp_iconst (v := (0 : Int32)) rfl (by decide) ?_
  refine wp_istore_n (L' := [.ref 142, .int a1, .int (0 : Int32), x_jk]) rfl rfl (by decide) rfl rfl ?_
  refine wp_iconst (v := (0 : Int32)) rfl (by decide) ?_
  refine wp_istore_n (L' := [.ref 142, .int a1, .int (0 : Int32), .int (0 : Int32)]) rfl rfl (by decide) rfl rfl ?_
  exact H
set_option maxRecDepth 20000 in
theorem r_M_seenBy_4 {E : XE} {d : Nat} {I : Nat → Nat → Int32} {Q : Option Value → (Nat → Nat → Int32) → Prop} (hd : 1 ≤ d) (v1 : Int32) (v2 : Int32) (v3 : Int32)
    (H : (((I 143 31) ≤ v3 → Q (some (.int v2)) I) ∧ (¬ ((I 143 31) ≤ v3) → x_K E (d - 1) 134 [.ref 142, .int v1, .int v3] I (fun v I2 => x_P E d 135 15 [.ref 142, .int v1, x_jk, .int v3] (v.toList ++ [.int v2]) I2 Q)))) :
    x_P E d 135 4 [.ref 142, .int v1, .int v2, .int v3] [] I Q := by
  refine wp_iload_n rfl rfl rfl ?_
  refine wp_aload_n rfl rfl rfl ?_
  refine wp_getR (v := .ref 143) rfl (by decide) (kd_142 _) rfl (kr_142_1 _) ?_
  refine wp_bipush (v := (31 : Int32)) rfl (by decide) ?_
  refine s_ialdc (k0 := 31) rfl (kd_143 _) rfl ?_
  refine wp_icmp_ge rfl (fun c_1 => ?_) (fun c_1 => ?_)
  · replace H := H.1 c_1
    refine wp_iload_n rfl rfl rfl ?_
    exact s_iret rfl rfl rfl H
  · replace H := H.2 c_1
    refine wp_iload_n rfl rfl rfl ?_
    refine wp_aload_n rfl rfl rfl ?_
    refine wp_iload_n rfl rfl rfl ?_
    refine wp_iload_n rfl rfl rfl ?_
    refine s_invV (As := [.int v1, .int v3]) (d1 := d - 1) rfl ⟨by decide, by decide⟩ rfl rfl rfl (Nat.le_of_ble_eq_true rfl) (by omega) (kd_142 _) (by decide) rfl rfl H ?_
    intro v I2 h2
    exact x_P.weak (L := [.ref 142, .int v1, x_jk, .int v3]) (by exact ⟨Or.inr rfl, ⟨Or.inr rfl, ⟨Or.inl rfl, ⟨Or.inr rfl, trivial⟩⟩⟩⟩) h2
set_option maxRecDepth 20000 in
theorem r_M_seenBy_15 {E : XE} {d : Nat} {I : Nat → Nat → Int32} {Q : Option Value → (Nat → Nat → Int32) → Prop} (hd : 1 ≤ d) (v1 : Int32) (v3 : Int32) (s0 : Int32) (w : Int32)
    (H : (∀ z_2, z_2 = (if w = 0 then (0 : Int32) else ((1 : Int32) <<< (v3 &&& 31))) → x_P E d 135 4 [.ref 142, .int v1, .int (s0 ||| z_2), .int (v3 + 1)] [] I Q)) :
    x_P E d 135 15 [.ref 142, .int v1, x_jk, .int v3] [.int w, .int s0] I Q := by
  obtain ⟨z_2, hz_2⟩ : ∃ z : Int32, z = (if w = 0 then (0 : Int32) else ((1 : Int32) <<< (v3 &&& 31))) := ⟨_, rfl⟩
  replace H := H _ hz_2
  have J : x_P E d 135 21 [.ref 142, .int v1, x_jk, .int v3] [.int z_2, .int s0] I Q := by
    refine wp_ior rfl ?_
    refine wp_istore_n (L' := [.ref 142, .int v1, .int (s0 ||| z_2), .int v3]) rfl rfl (by decide) rfl rfl ?_
    refine wp_iinc (v := v3 + 1) (L' := [.ref 142, .int v1, .int (s0 ||| z_2), .int (v3 + 1)]) rfl rfl rfl rfl rfl ?_
    refine wp_goto rfl ?_
    exact H
  refine wp_if_eq rfl (fun c_1 => ?_) (fun c_1 => ?_)
  · refine wp_iconst (v := (0 : Int32)) rfl (by decide) ?_
    exact x_P.cong rfl (by rw [show z_2 = (0 : Int32) from by rw [hz_2]; simp only [if_pos c_1]]) J
  · refine wp_iconst (v := (1 : Int32)) rfl (by decide) ?_
    refine wp_iload_n rfl rfl rfl ?_
    refine wp_ishl rfl ?_
    refine wp_goto rfl ?_
    exact x_P.cong rfl (by rw [show z_2 = ((1 : Int32) <<< (v3 &&& 31)) from by rw [hz_2]; simp only [if_neg c_1]]) J
set_option maxRecDepth 20000 in
theorem r_M_benchOf_0 {E : XE} {d : Nat} {I : Nat → Nat → Int32} {Q : Option Value → (Nat → Nat → Int32) → Prop} (hd : 1 ≤ d) (a1 : Int32)
    (H : x_K E (d - 1) 112 [.ref 142] I (fun v I2 => x_P E d 136 2 [.ref 142, .int a1, x_jk, x_jk, x_jk, x_jk] (v.toList ++ []) I2 Q)) :
    x_P E d 136 0 [.ref 142, .int a1, x_jk, x_jk, x_jk, x_jk] [] I Q := by
  refine wp_aload_n rfl rfl rfl ?_
  refine s_invV (As := []) (d1 := d - 1) rfl ⟨by decide, by decide⟩ rfl rfl rfl (Nat.le_of_ble_eq_true rfl) (by omega) (kd_142 _) (by decide) rfl rfl H ?_
  intro v I2 h2
  exact h2
set_option maxRecDepth 20000 in
theorem r_M_benchOf_2 {E : XE} {d : Nat} {I : Nat → Nat → Int32} {Q : Option Value → (Nat → Nat → Int32) → Prop} (hd : 1 ≤ d) (v1 : Int32)
    (H : x_P E d 136 8 [.ref 142, .int v1, .int (0 : Int32), .int (-1 : Int32), .int (0 : Int32), x_jk] [] I Q) :
    x_P E d 136 2 [.ref 142, .int v1, x_jk, x_jk, x_jk, x_jk] [] I Q := by
  refine wp_iconst (v := (0 : Int32)) rfl (by decide) ?_
  refine wp_istore_n (L' := [.ref 142, .int v1, .int (0 : Int32), x_jk, x_jk, x_jk]) rfl rfl (by decide) rfl rfl ?_
  refine wp_iconst (v := (-1 : Int32)) rfl (by decide) ?_
  refine wp_istore_n (L' := [.ref 142, .int v1, .int (0 : Int32), .int (-1 : Int32), x_jk, x_jk]) rfl rfl (by decide) rfl rfl ?_
  refine wp_iconst (v := (0 : Int32)) rfl (by decide) ?_
  refine wp_istore (L' := [.ref 142, .int v1, .int (0 : Int32), .int (-1 : Int32), .int (0 : Int32), x_jk]) rfl (by decide) rfl rfl ?_
  exact H
set_option maxRecDepth 20000 in
theorem r_M_benchOf_8 {E : XE} {d : Nat} {I : Nat → Nat → Int32} {Q : Option Value → (Nat → Nat → Int32) → Prop} (hd : 1 ≤ d) (v1 : Int32) (v2 : Int32) (v3 : Int32) (v4 : Int32)
    (H : (((10 : Int32) ≤ v4 → x_K E (d - 1) 113 [.ref 142] I (fun v I2 => x_P E d 136 41 [x_jk, x_jk, .int v2, x_jk, x_jk, x_jk] (v.toList ++ []) I2 Q)) ∧ (¬ ((10 : Int32) ≤ v4) → (vp_in ((25 : Int32) + v1) 931) ∧ (∀ I_3, I_3 = x_up I 143 ((25 : Int32) + v1).toNatClampNeg v4 → x_K E (d - 1) 135 [.ref 142, .int v1] I_3 (fun v I2 => x_P E d 136 21 [.ref 142, .int v1, .int v2, .int v3, .int v4, x_jk] (v.toList ++ []) I2 Q))))) :
    x_P E d 136 8 [.ref 142, .int v1, .int v2, .int v3, .int v4, x_jk] [] I Q := by
  refine wp_iload rfl rfl ?_
  refine wp_bipush (v := (10 : Int32)) rfl (by decide) ?_
  refine wp_icmp_ge rfl (fun c_1 => ?_) (fun c_1 => ?_)
  · replace H := H.1 c_1
    refine wp_aload_n rfl rfl rfl ?_
    refine s_invV (As := []) (d1 := d - 1) rfl ⟨by decide, by decide⟩ rfl rfl rfl (Nat.le_of_ble_eq_true rfl) (by omega) (kd_142 _) (by decide) rfl rfl H ?_
    intro v I2 h2
    exact x_P.weak (L := [x_jk, x_jk, .int v2, x_jk, x_jk, x_jk]) (by exact ⟨Or.inl rfl, ⟨Or.inl rfl, ⟨Or.inr rfl, ⟨Or.inl rfl, ⟨Or.inl rfl, ⟨Or.inr rfl, trivial⟩⟩⟩⟩⟩⟩) h2
  · replace H := H.2 c_1
    refine wp_aload_n rfl rfl rfl ?_
    refine wp_getR (v := .ref 143) rfl (by decide) (kd_142 _) rfl (kr_142_1 _) ?_
    refine wp_bipush (v := (25 : Int32)) rfl (by decide) ?_
    refine wp_iload_n rfl rfl rfl ?_
    refine wp_iadd rfl ?_
    refine wp_iload rfl rfl ?_
    obtain ⟨o_2, H⟩ := H
    refine s_iast rfl (kd_143 _) o_2 ?_
    generalize hI_3 : x_up I 143 ((25 : Int32) + v1).toNatClampNeg v4 = I_3
    replace H := H _ hI_3.symm
    refine wp_aload_n rfl rfl rfl ?_
    refine wp_iload_n rfl rfl rfl ?_
    refine s_invV (As := [.int v1]) (d1 := d - 1) rfl ⟨by decide, by decide⟩ rfl rfl rfl (Nat.le_of_ble_eq_true rfl) (by omega) (kd_142 _) (by decide) rfl rfl H ?_
    intro v I2 h2
    exact h2
set_option maxRecDepth 20000 in
theorem r_M_benchOf_21 {E : XE} {d : Nat} {I : Nat → Nat → Int32} {Q : Option Value → (Nat → Nat → Int32) → Prop} (hd : 1 ≤ d) (v1 : Int32) (v2 : Int32) (v3 : Int32) (v4 : Int32) (w : Int32)
    (H : x_K E (d - 1) 130 [.int w] I (fun v I2 => x_P E d 136 22 [.ref 142, .int v1, .int v2, .int v3, .int v4, x_jk] (v.toList ++ []) I2 Q)) :
    x_P E d 136 21 [.ref 142, .int v1, .int v2, .int v3, .int v4, x_jk] [.int w] I Q := by
  refine s_invSt (As := [.int w]) (d1 := d - 1) rfl ⟨by decide, by decide⟩ rfl rfl rfl (Nat.le_of_ble_eq_true rfl) (by omega) H ?_
  intro v I2 h2
  exact h2
set_option maxRecDepth 20000 in
theorem r_M_benchOf_41 {E : XE} {d : Nat} {I : Nat → Nat → Int32} {Q : Option Value → (Nat → Nat → Int32) → Prop} (hd : 1 ≤ d) (v2 : Int32)
    (H : Q (some (.int v2)) I) :
    x_P E d 136 41 [x_jk, x_jk, .int v2, x_jk, x_jk, x_jk] [] I Q := by
  refine wp_iload_n rfl rfl rfl ?_
  exact s_iret rfl rfl rfl H
set_option maxRecDepth 20000 in
theorem r_M_benchOf_22 {E : XE} {d : Nat} {I : Nat → Nat → Int32} {Q : Option Value → (Nat → Nat → Int32) → Prop} (hd : 1 ≤ d) (v1 : Int32) (v2 : Int32) (v3 : Int32) (v4 : Int32) (w : Int32)
    (H : x_P E d 136 8 [.ref 142, .int v1, .int (if w ≤ v3 then v2 else v4), .int (if w ≤ v3 then v3 else w), .int (v4 + 1), x_jk] [] I Q) :
    x_P E d 136 22 [.ref 142, .int v1, .int v2, .int v3, .int v4, x_jk] [.int w] I Q := by
  refine wp_istore (L' := [.ref 142, .int v1, .int v2, .int v3, .int v4, .int w]) rfl (by decide) rfl rfl ?_
  refine wp_iload rfl rfl ?_
  refine wp_iload_n rfl rfl rfl ?_
  have J : x_P E d 136 29 [.ref 142, .int v1, .int v2, .int v3, .int v4, .int w] [.int (if w ≤ v3 then v2 else v4)] I Q := by
    refine wp_istore_n (L' := [.ref 142, .int v1, .int (if w ≤ v3 then v2 else v4), .int v3, .int v4, .int w]) rfl rfl (by decide) rfl rfl ?_
    refine wp_iload rfl rfl ?_
    refine wp_iload_n rfl rfl rfl ?_
    have J : x_P E d 136 36 [.ref 142, .int v1, .int (if w ≤ v3 then v2 else v4), .int v3, .int v4, .int w] [.int (if w ≤ v3 then v3 else w)] I Q := by
      refine wp_istore_n (L' := [.ref 142, .int v1, .int (if w ≤ v3 then v2 else v4), .int (if w ≤ v3 then v3 else w), .int v4, .int w]) rfl rfl (by decide) rfl rfl ?_
      refine wp_iinc (v := v4 + 1) (L' := [.ref 142, .int v1, .int (if w ≤ v3 then v2 else v4), .int (if w ≤ v3 then v3 else w), .int (v4 + 1), .int w]) rfl rfl rfl rfl rfl ?_
      refine wp_goto rfl ?_
      exact x_P.weak (L := [.ref 142, .int v1, .int (if w ≤ v3 then v2 else v4), .int (if w ≤ v3 then v3 else w), .int (v4 + 1), x_jk]) (by exact ⟨Or.inr rfl, ⟨Or.inr rfl, ⟨Or.inr rfl, ⟨Or.inr rfl, ⟨Or.inr rfl, ⟨Or.inl rfl, trivial⟩⟩⟩⟩⟩⟩) H
    refine wp_icmp_le rfl (fun c_2 => ?_) (fun c_2 => ?_)
    · refine wp_iload_n rfl rfl rfl ?_
      exact x_P.cong rfl (by rw [show (if w ≤ v3 then v3 else w) = v3 from by simp only [if_pos c_2]]) J
    · refine wp_iload rfl rfl ?_
      refine wp_goto rfl ?_
      exact x_P.cong rfl (by rw [show (if w ≤ v3 then v3 else w) = w from by simp only [if_neg c_2]]) J
  refine wp_icmp_le rfl (fun c_1 => ?_) (fun c_1 => ?_)
  · refine wp_iload_n rfl rfl rfl ?_
    exact x_P.cong rfl (by rw [show (if w ≤ v3 then v2 else v4) = v2 from by simp only [if_pos c_1]]) J
  · refine wp_iload rfl rfl ?_
    refine wp_goto rfl ?_
    exact x_P.cong rfl (by rw [show (if w ≤ v3 then v2 else v4) = v4 from by simp only [if_neg c_1]]) J
set_option maxRecDepth 20000 in
theorem r_M_becomes_0 {E : XE} {d : Nat} {I : Nat → Nat → Int32} {Q : Option Value → (Nat → Nat → Int32) → Prop} (hd : 1 ≤ d) (a1 : Int32) (a2 : Int32)
    (H : (vp_in a1 931) ∧ (vp_in a1 931) ∧ (∀ I_3, I_3 = x_up I 143 a1.toNatClampNeg a2 → Q (some (.int (I 143 a1.toNatClampNeg))) I_3)) :
    x_P E d 137 0 [.ref 142, .int a1, .int a2, x_jk] [] I Q := by
  refine wp_aload_n rfl rfl rfl ?_
  refine wp_getR (v := .ref 143) rfl (by decide) (kd_142 _) rfl (kr_142_1 _) ?_
  refine wp_iload_n rfl rfl rfl ?_
  obtain ⟨o_1, H⟩ := H
  refine s_iald rfl (kd_143 _) o_1 ?_
  refine wp_istore_n (L' := [.ref 142, .int a1, .int a2, .int (I 143 a1.toNatClampNeg)]) rfl rfl (by decide) rfl rfl ?_
  refine wp_aload_n rfl rfl rfl ?_
  refine wp_getR (v := .ref 143) rfl (by decide) (kd_142 _) rfl (kr_142_1 _) ?_
  refine wp_iload_n rfl rfl rfl ?_
  refine wp_iload_n rfl rfl rfl ?_
  obtain ⟨o_2, H⟩ := H
  refine s_iast rfl (kd_143 _) o_2 ?_
  generalize hI_3 : x_up I 143 a1.toNatClampNeg a2 = I_3
  replace H := H _ hI_3.symm
  refine wp_iload_n rfl rfl rfl ?_
  exact s_iret rfl rfl rfl H
set_option maxRecDepth 20000 in
theorem r_M_man_0 {E : XE} {d : Nat} {I : Nat → Nat → Int32} {Q : Option Value → (Nat → Nat → Int32) → Prop} (hd : 2 ≤ d) (a1 : Int32) (a2 : Int32) (a3 : Int32) (a4 : Int32)
    (H : (((0 : Int32) ≤ a1 ∧ a1 ≤ (6 : Int32) → (((0 : Int32) ≤ a3 ∧ a3 ≤ (9 : Int32) → (((0 : Int32) ≤ a2 ∧ a2 ≤ (9 : Int32) → (((0 : Int32) ≤ a4 ∧ a4 ≤ (255 : Int32) → (((I 143 31) = (6 : Int32) → Q (some (.int (-4 : Int32))) I) ∧ (¬ ((I 143 31) = (6 : Int32)) → (vp_in ((38 : Int32) + (I 143 31)) 931) ∧ (∀ I_7, I_7 = x_up I 143 ((38 : Int32) + (I 143 31)).toNatClampNeg a1 → (vp_in ((44 : Int32) + (I 143 31)) 931) ∧ (∀ I_9, I_9 = x_up I_7 143 ((44 : Int32) + (I 143 31)).toNatClampNeg a2 → (vp_in ((25 : Int32) + (I 143 31)) 931) ∧ (∀ I_11, I_11 = x_up I_9 143 ((25 : Int32) + (I 143 31)).toNatClampNeg a3 → (vp_in ((1 : Int32) + (I 143 31)) 931) ∧ (∀ I_13, I_13 = x_up I_11 143 ((1 : Int32) + (I 143 31)).toNatClampNeg a4 → (vp_in ((7 : Int32) + (I 143 31)) 931) ∧ (∀ I_15, I_15 = x_up I_13 143 ((7 : Int32) + (I 143 31)).toNatClampNeg (0 : Int32) → (vp_in ((13 : Int32) + (I 143 31)) 931) ∧ (∀ I_17, I_17 = x_up I_15 143 ((13 : Int32) + (I 143 31)).toNatClampNeg (0 : Int32) → (vp_in ((19 : Int32) + (I 143 31)) 931) ∧ (∀ I_19, I_19 = x_up I_17 143 ((19 : Int32) + (I 143 31)).toNatClampNeg (0 : Int32) → x_P E d 138 88 [.ref 142, x_jk, x_jk, x_jk, x_jk, .int (I 143 31), .int (0 : Int32)] [] I_19 Q)))))))))) ∧ (¬ ((0 : Int32) ≤ a4 ∧ a4 ≤ (255 : Int32)) → Q (some (.int (-2 : Int32))) I))) ∧ (¬ ((0 : Int32) ≤ a2 ∧ a2 ≤ (9 : Int32)) → Q (some (.int (-2 : Int32))) I))) ∧ (¬ ((0 : Int32) ≤ a3 ∧ a3 ≤ (9 : Int32)) → Q (some (.int (-1 : Int32))) I))) ∧ (¬ ((0 : Int32) ≤ a1 ∧ a1 ≤ (6 : Int32)) → Q (some (.int (-1 : Int32))) I))) :
    x_P E d 138 0 [.ref 142, .int a1, .int a2, .int a3, .int a4, x_jk, x_jk] [] I Q := by
  refine wp_iload_n rfl rfl rfl ?_
  refine wp_iconst (v := (0 : Int32)) rfl (by decide) ?_
  refine wp_bipush (v := (6 : Int32)) rfl (by decide) ?_
  refine s_invStP (As := [.int a1, .int (0 : Int32), .int (6 : Int32)]) (d1 := d - 1) rfl ⟨by decide, by decide⟩ rfl rfl rfl (Nat.le_of_ble_eq_true rfl) (by omega) (p_in (by omega)) ?_
  refine s_bi_eq rfl (fun c_1 => ?_) (fun c_1 => ?_)
  · replace H := H.2 c_1
    refine wp_iconst (v := (-1 : Int32)) rfl (by decide) ?_
    exact s_iret rfl rfl rfl H
  · replace H := H.1 c_1
    refine wp_iload_n rfl rfl rfl ?_
    refine wp_iconst (v := (0 : Int32)) rfl (by decide) ?_
    refine wp_bipush (v := (9 : Int32)) rfl (by decide) ?_
    refine s_invStP (As := [.int a3, .int (0 : Int32), .int (9 : Int32)]) (d1 := d - 1) rfl ⟨by decide, by decide⟩ rfl rfl rfl (Nat.le_of_ble_eq_true rfl) (by omega) (p_in (by omega)) ?_
    refine s_bi_ne rfl (fun c_2 => ?_) (fun c_2 => ?_)
    · replace H := H.1 c_2
      refine wp_iload_n rfl rfl rfl ?_
      refine wp_iconst (v := (0 : Int32)) rfl (by decide) ?_
      refine wp_bipush (v := (9 : Int32)) rfl (by decide) ?_
      refine s_invStP (As := [.int a2, .int (0 : Int32), .int (9 : Int32)]) (d1 := d - 1) rfl ⟨by decide, by decide⟩ rfl rfl rfl (Nat.le_of_ble_eq_true rfl) (by omega) (p_in (by omega)) ?_
      refine s_bi_eq rfl (fun c_3 => ?_) (fun c_3 => ?_)
      · replace H := H.2 c_3
        refine wp_bipush (v := (-2 : Int32)) rfl (by decide) ?_
        exact s_iret rfl rfl rfl H
      · replace H := H.1 c_3
        refine wp_iload rfl rfl ?_
        refine wp_iconst (v := (0 : Int32)) rfl (by decide) ?_
        refine wp_sipush (v := (255 : Int32)) rfl (by decide) ?_
        refine s_invStP (As := [.int a4, .int (0 : Int32), .int (255 : Int32)]) (d1 := d - 1) rfl ⟨by decide, by decide⟩ rfl rfl rfl (Nat.le_of_ble_eq_true rfl) (by omega) (p_in (by omega)) ?_
        refine s_bi_ne rfl (fun c_4 => ?_) (fun c_4 => ?_)
        · replace H := H.1 c_4
          refine wp_aload_n rfl rfl rfl ?_
          refine wp_getR (v := .ref 143) rfl (by decide) (kd_142 _) rfl (kr_142_1 _) ?_
          refine wp_bipush (v := (31 : Int32)) rfl (by decide) ?_
          refine s_ialdc (k0 := 31) rfl (kd_143 _) rfl ?_
          refine wp_bipush (v := (6 : Int32)) rfl (by decide) ?_
          refine wp_icmp_ne rfl (fun c_5 => ?_) (fun c_5 => ?_)
          · replace H := H.2 c_5
            refine wp_aload_n rfl rfl rfl ?_
            refine wp_getR (v := .ref 143) rfl (by decide) (kd_142 _) rfl (kr_142_1 _) ?_
            refine wp_bipush (v := (31 : Int32)) rfl (by decide) ?_
            refine s_ialdc (k0 := 31) rfl (kd_143 _) rfl ?_
            refine wp_istore (L' := [.ref 142, .int a1, .int a2, .int a3, .int a4, .int (I 143 31), x_jk]) rfl (by decide) rfl rfl ?_
            refine wp_aload_n rfl rfl rfl ?_
            refine wp_getR (v := .ref 143) rfl (by decide) (kd_142 _) rfl (kr_142_1 _) ?_
            refine wp_bipush (v := (38 : Int32)) rfl (by decide) ?_
            refine wp_iload rfl rfl ?_
            refine wp_iadd rfl ?_
            refine wp_iload_n rfl rfl rfl ?_
            obtain ⟨o_6, H⟩ := H
            refine s_iast rfl (kd_143 _) o_6 ?_
            generalize hI_7 : x_up I 143 ((38 : Int32) + (I 143 31)).toNatClampNeg a1 = I_7
            replace H := H _ hI_7.symm
            refine wp_aload_n rfl rfl rfl ?_
            refine wp_getR (v := .ref 143) rfl (by decide) (kd_142 _) rfl (kr_142_1 _) ?_
            refine wp_bipush (v := (44 : Int32)) rfl (by decide) ?_
            refine wp_iload rfl rfl ?_
            refine wp_iadd rfl ?_
            refine wp_iload_n rfl rfl rfl ?_
            obtain ⟨o_8, H⟩ := H
            refine s_iast rfl (kd_143 _) o_8 ?_
            generalize hI_9 : x_up I_7 143 ((44 : Int32) + (I 143 31)).toNatClampNeg a2 = I_9
            replace H := H _ hI_9.symm
            refine wp_aload_n rfl rfl rfl ?_
            refine wp_getR (v := .ref 143) rfl (by decide) (kd_142 _) rfl (kr_142_1 _) ?_
            refine wp_bipush (v := (25 : Int32)) rfl (by decide) ?_
            refine wp_iload rfl rfl ?_
            refine wp_iadd rfl ?_
            refine wp_iload_n rfl rfl rfl ?_
            obtain ⟨o_10, H⟩ := H
            refine s_iast rfl (kd_143 _) o_10 ?_
            generalize hI_11 : x_up I_9 143 ((25 : Int32) + (I 143 31)).toNatClampNeg a3 = I_11
            replace H := H _ hI_11.symm
            refine wp_aload_n rfl rfl rfl ?_
            refine wp_getR (v := .ref 143) rfl (by decide) (kd_142 _) rfl (kr_142_1 _) ?_
            refine wp_iconst (v := (1 : Int32)) rfl (by decide) ?_
            refine wp_iload rfl rfl ?_
            refine wp_iadd rfl ?_
            refine wp_iload rfl rfl ?_
            obtain ⟨o_12, H⟩ := H
            refine s_iast rfl (kd_143 _) o_12 ?_
            generalize hI_13 : x_up I_11 143 ((1 : Int32) + (I 143 31)).toNatClampNeg a4 = I_13
            replace H := H _ hI_13.symm
            refine wp_aload_n rfl rfl rfl ?_
            refine wp_getR (v := .ref 143) rfl (by decide) (kd_142 _) rfl (kr_142_1 _) ?_
            refine wp_bipush (v := (7 : Int32)) rfl (by decide) ?_
            refine wp_iload rfl rfl ?_
            refine wp_iadd rfl ?_
            refine wp_iconst (v := (0 : Int32)) rfl (by decide) ?_
            obtain ⟨o_14, H⟩ := H
            refine s_iast rfl (kd_143 _) o_14 ?_
            generalize hI_15 : x_up I_13 143 ((7 : Int32) + (I 143 31)).toNatClampNeg (0 : Int32) = I_15
            replace H := H _ hI_15.symm
            refine wp_aload_n rfl rfl rfl ?_
            refine wp_getR (v := .ref 143) rfl (by decide) (kd_142 _) rfl (kr_142_1 _) ?_
            refine wp_bipush (v := (13 : Int32)) rfl (by decide) ?_
            refine wp_iload rfl rfl ?_
            refine wp_iadd rfl ?_
            refine wp_iconst (v := (0 : Int32)) rfl (by decide) ?_
            obtain ⟨o_16, H⟩ := H
            refine s_iast rfl (kd_143 _) o_16 ?_
            generalize hI_17 : x_up I_15 143 ((13 : Int32) + (I 143 31)).toNatClampNeg (0 : Int32) = I_17
            replace H := H _ hI_17.symm
            refine wp_aload_n rfl rfl rfl ?_
            refine wp_getR (v := .ref 143) rfl (by decide) (kd_142 _) rfl (kr_142_1 _) ?_
            refine wp_bipush (v := (19 : Int32)) rfl (by decide) ?_
            refine wp_iload rfl rfl ?_
            refine wp_iadd rfl ?_
            refine wp_iconst (v := (0 : Int32)) rfl (by decide) ?_
            obtain ⟨o_18, H⟩ := H
            refine s_iast rfl (kd_143 _) o_18 ?_
            generalize hI_19 : x_up I_17 143 ((19 : Int32) + (I 143 31)).toNatClampNeg (0 : Int32) = I_19
            replace H := H _ hI_19.symm
            refine wp_iconst (v := (0 : Int32)) rfl (by decide) ?_
            refine wp_istore (L' := [.ref 142, .int a1, .int a2, .int a3, .int a4, .int (I 143 31), .int (0 : Int32)]) rfl (by decide) rfl rfl ?_
            exact x_P.weak (L := [.ref 142, x_jk, x_jk, x_jk, x_jk, .int (I 143 31), .int (0 : Int32)]) (by exact ⟨Or.inr rfl, ⟨Or.inl rfl, ⟨Or.inl rfl, ⟨Or.inl rfl, ⟨Or.inl rfl, ⟨Or.inr rfl, ⟨Or.inr rfl, trivial⟩⟩⟩⟩⟩⟩⟩) H
          · replace H := H.1 c_5
            refine wp_bipush (v := (-4 : Int32)) rfl (by decide) ?_
            exact s_iret rfl rfl rfl H
        · replace H := H.2 c_4
          refine wp_bipush (v := (-2 : Int32)) rfl (by decide) ?_
          exact s_iret rfl rfl rfl H
    · replace H := H.2 c_2
      refine wp_iconst (v := (-1 : Int32)) rfl (by decide) ?_
      exact s_iret rfl rfl rfl H
set_option maxRecDepth 20000 in
theorem r_M_man_88 {E : XE} {d : Nat} {I : Nat → Nat → Int32} {Q : Option Value → (Nat → Nat → Int32) → Prop} (hd : 1 ≤ d) (v5 : Int32) (v6 : Int32)
    (H : (((4 : Int32) ≤ v6 → (∀ I_2, I_2 = x_up I 143 31 ((I 143 31) + (1 : Int32)) → Q (some (.int v5)) I_2)) ∧ (¬ ((4 : Int32) ≤ v6) → (vp_in (((50 : Int32) + ((4 : Int32) * v5)) + v6) 931) ∧ (∀ I_4, I_4 = x_up I 143 (((50 : Int32) + ((4 : Int32) * v5)) + v6).toNatClampNeg (0 : Int32) → x_P E d 138 88 [.ref 142, x_jk, x_jk, x_jk, x_jk, .int v5, .int (v6 + 1)] [] I_4 Q)))) :
    x_P E d 138 88 [.ref 142, x_jk, x_jk, x_jk, x_jk, .int v5, .int v6] [] I Q := by
  refine wp_iload rfl rfl ?_
  refine wp_iconst (v := (4 : Int32)) rfl (by decide) ?_
  refine wp_icmp_ge rfl (fun c_1 => ?_) (fun c_1 => ?_)
  · replace H := H.1 c_1
    refine wp_aload_n rfl rfl rfl ?_
    refine wp_getR (v := .ref 143) rfl (by decide) (kd_142 _) rfl (kr_142_1 _) ?_
    refine wp_bipush (v := (31 : Int32)) rfl (by decide) ?_
    refine wp_dup2 rfl rfl rfl ?_
    refine s_ialdc (k0 := 31) rfl (kd_143 _) rfl ?_
    refine wp_iconst (v := (1 : Int32)) rfl (by decide) ?_
    refine wp_iadd rfl ?_
    refine s_iastc (k0 := 31) rfl (kd_143 _) rfl ?_
    generalize hI_2 : x_up I 143 31 ((I 143 31) + (1 : Int32)) = I_2
    replace H := H _ hI_2.symm
    refine wp_iload rfl rfl ?_
    exact s_iret rfl rfl rfl H
  · replace H := H.2 c_1
    refine wp_aload_n rfl rfl rfl ?_
    refine wp_getR (v := .ref 143) rfl (by decide) (kd_142 _) rfl (kr_142_1 _) ?_
    refine wp_bipush (v := (50 : Int32)) rfl (by decide) ?_
    refine wp_iconst (v := (4 : Int32)) rfl (by decide) ?_
    refine wp_iload rfl rfl ?_
    refine wp_imul rfl ?_
    refine wp_iadd rfl ?_
    refine wp_iload rfl rfl ?_
    refine wp_iadd rfl ?_
    refine wp_iconst (v := (0 : Int32)) rfl (by decide) ?_
    obtain ⟨o_3, H⟩ := H
    refine s_iast rfl (kd_143 _) o_3 ?_
    generalize hI_4 : x_up I 143 (((50 : Int32) + ((4 : Int32) * v5)) + v6).toNatClampNeg (0 : Int32) = I_4
    replace H := H _ hI_4.symm
    refine wp_iinc (v := v6 + 1) (L' := [.ref 142, x_jk, x_jk, x_jk, x_jk, .int v5, .int (v6 + 1)]) rfl rfl rfl rfl rfl ?_
    refine wp_goto rfl ?_
    exact H
set_option maxRecDepth 20000 in
theorem r_M_of_0 {E : XE} {d : Nat} {I : Nat → Nat → Int32} {Q : Option Value → (Nat → Nat → Int32) → Prop} (hd : 3 ≤ d) (a1 : Int32) (a2 : Int32)
    (H : ((0 ≤ a1 ∧ a1 ≤ (I 143 31) - 1 → ((a2 = (0 : Int32) → (vp_in ((38 : Int32) + a1) 931) ∧ Q (some (.int (I 143 ((38 : Int32) + a1).toNatClampNeg))) I) ∧ (a2 = (1 : Int32) → (vp_in ((44 : Int32) + a1) 931) ∧ Q (some (.int (I 143 ((44 : Int32) + a1).toNatClampNeg))) I) ∧ (a2 = (2 : Int32) → (vp_in ((25 : Int32) + a1) 931) ∧ Q (some (.int (I 143 ((25 : Int32) + a1).toNatClampNeg))) I) ∧ (a2 = (3 : Int32) → (vp_in ((1 : Int32) + a1) 931) ∧ Q (some (.int (I 143 ((1 : Int32) + a1).toNatClampNeg))) I) ∧ (a2 = (4 : Int32) → (vp_in ((7 : Int32) + a1) 931) ∧ Q (some (.int (I 143 ((7 : Int32) + a1).toNatClampNeg))) I) ∧ (a2 = (5 : Int32) → (vp_in ((13 : Int32) + a1) 931) ∧ Q (some (.int (I 143 ((13 : Int32) + a1).toNatClampNeg))) I) ∧ (a2 = (6 : Int32) → (vp_in ((19 : Int32) + a1) 931) ∧ Q (some (.int (I 143 ((19 : Int32) + a1).toNatClampNeg))) I) ∧ (a2 = (7 : Int32) → x_K E (d - 1) 132 [.ref 142, .int a1] I (fun v I2 => x_P E d 139 60 [x_jk, x_jk, x_jk] (v.toList ++ []) I2 Q)) ∧ (a2 = (8 : Int32) → x_K E (d - 1) 135 [.ref 142, .int a1] I (fun v I2 => x_P E d 139 64 [x_jk, x_jk, x_jk] (v.toList ++ []) I2 Q)) ∧ (a2 = (9 : Int32) → x_K E (d - 1) 136 [.ref 142, .int a1] I (fun v I2 => x_P E d 139 68 [x_jk, x_jk, x_jk] (v.toList ++ []) I2 Q)) ∧ (¬ a2 = (0 : Int32) → ¬ a2 = (1 : Int32) → ¬ a2 = (2 : Int32) → ¬ a2 = (3 : Int32) → ¬ a2 = (4 : Int32) → ¬ a2 = (5 : Int32) → ¬ a2 = (6 : Int32) → ¬ a2 = (7 : Int32) → ¬ a2 = (8 : Int32) → ¬ a2 = (9 : Int32) → Q (some (.int (-999999 : Int32))) I))) ∧ (¬ (0 ≤ a1 ∧ a1 ≤ (I 143 31) - 1) → Q (some (.int (-999999 : Int32))) I))) :
    x_P E d 139 0 [.ref 142, .int a1, .int a2] [] I Q := by
  refine wp_aload_n rfl rfl rfl ?_
  refine wp_iload_n rfl rfl rfl ?_
  refine s_invVP (As := [.int a1]) (d1 := d - 1) rfl ⟨by decide, by decide⟩ rfl rfl rfl (Nat.le_of_ble_eq_true rfl) (by omega) (kd_142 _) (by decide) rfl rfl (p_isMan (by omega)) ?_
  refine s_bi_ne rfl (fun c_1 => ?_) (fun c_1 => ?_)
  · replace H := H.1 c_1
    refine wp_iload_n rfl rfl rfl ?_
    by_cases c_2 : a2 = (0 : Int32)
    · replace H := H.1 c_2
      refine wp_tswIn (j := 0) rfl rfl (Eq.trans (congrArg Int32.toInt c_2) rfl) ?_
      refine wp_aload_n rfl rfl rfl ?_
      refine wp_getR (v := .ref 143) rfl (by decide) (kd_142 _) rfl (kr_142_1 _) ?_
      refine wp_bipush (v := (38 : Int32)) rfl (by decide) ?_
      refine wp_iload_n rfl rfl rfl ?_
      refine wp_iadd rfl ?_
      obtain ⟨o_3, H⟩ := H
      refine s_iald rfl (kd_143 _) o_3 ?_
      exact s_iret rfl rfl rfl H
    · by_cases c_4 : a2 = (1 : Int32)
      · replace H := H.2.1 c_4
        refine wp_tswIn (j := 1) rfl rfl (Eq.trans (congrArg Int32.toInt c_4) rfl) ?_
        refine wp_aload_n rfl rfl rfl ?_
        refine wp_getR (v := .ref 143) rfl (by decide) (kd_142 _) rfl (kr_142_1 _) ?_
        refine wp_bipush (v := (44 : Int32)) rfl (by decide) ?_
        refine wp_iload_n rfl rfl rfl ?_
        refine wp_iadd rfl ?_
        obtain ⟨o_5, H⟩ := H
        refine s_iald rfl (kd_143 _) o_5 ?_
        exact s_iret rfl rfl rfl H
      · by_cases c_6 : a2 = (2 : Int32)
        · replace H := H.2.2.1 c_6
          refine wp_tswIn (j := 2) rfl rfl (Eq.trans (congrArg Int32.toInt c_6) rfl) ?_
          refine wp_aload_n rfl rfl rfl ?_
          refine wp_getR (v := .ref 143) rfl (by decide) (kd_142 _) rfl (kr_142_1 _) ?_
          refine wp_bipush (v := (25 : Int32)) rfl (by decide) ?_
          refine wp_iload_n rfl rfl rfl ?_
          refine wp_iadd rfl ?_
          obtain ⟨o_7, H⟩ := H
          refine s_iald rfl (kd_143 _) o_7 ?_
          exact s_iret rfl rfl rfl H
        · by_cases c_8 : a2 = (3 : Int32)
          · replace H := H.2.2.2.1 c_8
            refine wp_tswIn (j := 3) rfl rfl (Eq.trans (congrArg Int32.toInt c_8) rfl) ?_
            refine wp_aload_n rfl rfl rfl ?_
            refine wp_getR (v := .ref 143) rfl (by decide) (kd_142 _) rfl (kr_142_1 _) ?_
            refine wp_iconst (v := (1 : Int32)) rfl (by decide) ?_
            refine wp_iload_n rfl rfl rfl ?_
            refine wp_iadd rfl ?_
            obtain ⟨o_9, H⟩ := H
            refine s_iald rfl (kd_143 _) o_9 ?_
            exact s_iret rfl rfl rfl H
          · by_cases c_10 : a2 = (4 : Int32)
            · replace H := H.2.2.2.2.1 c_10
              refine wp_tswIn (j := 4) rfl rfl (Eq.trans (congrArg Int32.toInt c_10) rfl) ?_
              refine wp_aload_n rfl rfl rfl ?_
              refine wp_getR (v := .ref 143) rfl (by decide) (kd_142 _) rfl (kr_142_1 _) ?_
              refine wp_bipush (v := (7 : Int32)) rfl (by decide) ?_
              refine wp_iload_n rfl rfl rfl ?_
              refine wp_iadd rfl ?_
              obtain ⟨o_11, H⟩ := H
              refine s_iald rfl (kd_143 _) o_11 ?_
              exact s_iret rfl rfl rfl H
            · by_cases c_12 : a2 = (5 : Int32)
              · replace H := H.2.2.2.2.2.1 c_12
                refine wp_tswIn (j := 5) rfl rfl (Eq.trans (congrArg Int32.toInt c_12) rfl) ?_
                refine wp_aload_n rfl rfl rfl ?_
                refine wp_getR (v := .ref 143) rfl (by decide) (kd_142 _) rfl (kr_142_1 _) ?_
                refine wp_bipush (v := (13 : Int32)) rfl (by decide) ?_
                refine wp_iload_n rfl rfl rfl ?_
                refine wp_iadd rfl ?_
                obtain ⟨o_13, H⟩ := H
                refine s_iald rfl (kd_143 _) o_13 ?_
                exact s_iret rfl rfl rfl H
              · by_cases c_14 : a2 = (6 : Int32)
                · replace H := H.2.2.2.2.2.2.1 c_14
                  refine wp_tswIn (j := 6) rfl rfl (Eq.trans (congrArg Int32.toInt c_14) rfl) ?_
                  refine wp_aload_n rfl rfl rfl ?_
                  refine wp_getR (v := .ref 143) rfl (by decide) (kd_142 _) rfl (kr_142_1 _) ?_
                  refine wp_bipush (v := (19 : Int32)) rfl (by decide) ?_
                  refine wp_iload_n rfl rfl rfl ?_
                  refine wp_iadd rfl ?_
                  obtain ⟨o_15, H⟩ := H
                  refine s_iald rfl (kd_143 _) o_15 ?_
                  exact s_iret rfl rfl rfl H
                · by_cases c_16 : a2 = (7 : Int32)
                  · replace H := H.2.2.2.2.2.2.2.1 c_16
                    refine wp_tswIn (j := 7) rfl rfl (Eq.trans (congrArg Int32.toInt c_16) rfl) ?_
                    refine wp_aload_n rfl rfl rfl ?_
                    refine wp_iload_n rfl rfl rfl ?_
                    refine s_invV (As := [.int a1]) (d1 := d - 1) rfl ⟨by decide, by decide⟩ rfl rfl rfl (Nat.le_of_ble_eq_true rfl) (by omega) (kd_142 _) (by decide) rfl rfl H ?_
                    intro v I2 h2
                    exact x_P.weak (L := [x_jk, x_jk, x_jk]) (by exact ⟨Or.inl rfl, ⟨Or.inl rfl, ⟨Or.inl rfl, trivial⟩⟩⟩) h2
                  · by_cases c_17 : a2 = (8 : Int32)
                    · replace H := H.2.2.2.2.2.2.2.2.1 c_17
                      refine wp_tswIn (j := 8) rfl rfl (Eq.trans (congrArg Int32.toInt c_17) rfl) ?_
                      refine wp_aload_n rfl rfl rfl ?_
                      refine wp_iload_n rfl rfl rfl ?_
                      refine s_invV (As := [.int a1]) (d1 := d - 1) rfl ⟨by decide, by decide⟩ rfl rfl rfl (Nat.le_of_ble_eq_true rfl) (by omega) (kd_142 _) (by decide) rfl rfl H ?_
                      intro v I2 h2
                      exact x_P.weak (L := [x_jk, x_jk, x_jk]) (by exact ⟨Or.inl rfl, ⟨Or.inl rfl, ⟨Or.inl rfl, trivial⟩⟩⟩) h2
                    · by_cases c_18 : a2 = (9 : Int32)
                      · replace H := H.2.2.2.2.2.2.2.2.2.1 c_18
                        refine wp_tswIn (j := 9) rfl rfl (Eq.trans (congrArg Int32.toInt c_18) rfl) ?_
                        refine wp_aload_n rfl rfl rfl ?_
                        refine wp_iload_n rfl rfl rfl ?_
                        refine s_invV (As := [.int a1]) (d1 := d - 1) rfl ⟨by decide, by decide⟩ rfl rfl rfl (Nat.le_of_ble_eq_true rfl) (by omega) (kd_142 _) (by decide) rfl rfl H ?_
                        intro v I2 h2
                        exact x_P.weak (L := [x_jk, x_jk, x_jk]) (by exact ⟨Or.inl rfl, ⟨Or.inl rfl, ⟨Or.inl rfl, trivial⟩⟩⟩) h2
                      · replace H := H.2.2.2.2.2.2.2.2.2.2 c_2 c_4 c_6 c_8 c_10 c_12 c_14 c_16 c_17 c_18
                        have nc_2 := x_tne (z := 0) c_2 rfl
                        have nc_4 := x_tne (z := 1) c_4 rfl
                        have nc_6 := x_tne (z := 2) c_6 rfl
                        have nc_8 := x_tne (z := 3) c_8 rfl
                        have nc_10 := x_tne (z := 4) c_10 rfl
                        have nc_12 := x_tne (z := 5) c_12 rfl
                        have nc_14 := x_tne (z := 6) c_14 rfl
                        have nc_16 := x_tne (z := 7) c_16 rfl
                        have nc_17 := x_tne (z := 8) c_17 rfl
                        have nc_18 := x_tne (z := 9) c_18 rfl
                        have hout : (a2).toInt < 0 ∨ 9 < (a2).toInt := by omega
                        refine wp_tswOut rfl hout ?_
                        refine wp_ldc (v := (-999999, 0)) rfl rfl (by decide) rfl ?_
                        exact s_iret rfl rfl rfl H
  · replace H := H.2 c_1
    refine wp_ldc (v := (-999999, 0)) rfl rfl (by decide) rfl ?_
    exact s_iret rfl rfl rfl H
set_option maxRecDepth 20000 in
theorem r_M_of_60 {E : XE} {d : Nat} {I : Nat → Nat → Int32} {Q : Option Value → (Nat → Nat → Int32) → Prop} (hd : 1 ≤ d) (w : Int32)
    (H : Q (some (.int w)) I) :
    x_P E d 139 60 [x_jk, x_jk, x_jk] [.int w] I Q := by
  exact s_iret rfl rfl rfl H
set_option maxRecDepth 20000 in
theorem r_M_of_64 {E : XE} {d : Nat} {I : Nat → Nat → Int32} {Q : Option Value → (Nat → Nat → Int32) → Prop} (hd : 1 ≤ d) (w : Int32)
    (H : Q (some (.int w)) I) :
    x_P E d 139 64 [x_jk, x_jk, x_jk] [.int w] I Q := by
  exact s_iret rfl rfl rfl H
set_option maxRecDepth 20000 in
theorem r_M_of_68 {E : XE} {d : Nat} {I : Nat → Nat → Int32} {Q : Option Value → (Nat → Nat → Int32) → Prop} (hd : 1 ≤ d) (w : Int32)
    (H : Q (some (.int w)) I) :
    x_P E d 139 68 [x_jk, x_jk, x_jk] [.int w] I Q := by
  exact s_iret rfl rfl rfl H
set_option maxRecDepth 20000 in
theorem r_M_row_0 {E : XE} {d : Nat} {I : Nat → Nat → Int32} {Q : Option Value → (Nat → Nat → Int32) → Prop} (hd : 3 ≤ d) (a1 : Int32) (a2 : Int32) (a3 : Int32)
    (H : ((0 ≤ a1 ∧ a1 ≤ (I 143 31) - 1 → (((0 : Int32) ≤ a2 ∧ a2 ≤ (3 : Int32) → (((0 : Int32) ≤ a3 ∧ a3 ≤ (9 : Int32) → (vp_in ((38 : Int32) + a1) 931) ∧ (((I 143 ((38 : Int32) + a1).toNatClampNeg) = (6 : Int32) → x_K E (d - 1) 137 [.ref 142, .int (((50 : Int32) + ((4 : Int32) * a1)) + a2), .int a3] I (fun v I2 => x_P E d 140 36 [x_jk, x_jk, x_jk, x_jk] (v.toList ++ []) I2 Q)) ∧ (¬ ((I 143 ((38 : Int32) + a1).toNatClampNeg) = (6 : Int32)) → Q (some (.int (-3 : Int32))) I))) ∧ (¬ ((0 : Int32) ≤ a3 ∧ a3 ≤ (9 : Int32)) → Q (some (.int (-2 : Int32))) I))) ∧ (¬ ((0 : Int32) ≤ a2 ∧ a2 ≤ (3 : Int32)) → Q (some (.int (-1 : Int32))) I))) ∧ (¬ (0 ≤ a1 ∧ a1 ≤ (I 143 31) - 1) → Q (some (.int (-1 : Int32))) I))) :
    x_P E d 140 0 [.ref 142, .int a1, .int a2, .int a3] [] I Q := by
  refine wp_aload_n rfl rfl rfl ?_
  refine wp_iload_n rfl rfl rfl ?_
  refine s_invVP (As := [.int a1]) (d1 := d - 1) rfl ⟨by decide, by decide⟩ rfl rfl rfl (Nat.le_of_ble_eq_true rfl) (by omega) (kd_142 _) (by decide) rfl rfl (p_isMan (by omega)) ?_
  refine s_bi_eq rfl (fun c_1 => ?_) (fun c_1 => ?_)
  · replace H := H.2 c_1
    refine wp_iconst (v := (-1 : Int32)) rfl (by decide) ?_
    exact s_iret rfl rfl rfl H
  · replace H := H.1 c_1
    refine wp_iload_n rfl rfl rfl ?_
    refine wp_iconst (v := (0 : Int32)) rfl (by decide) ?_
    refine wp_iconst (v := (3 : Int32)) rfl (by decide) ?_
    refine s_invStP (As := [.int a2, .int (0 : Int32), .int (3 : Int32)]) (d1 := d - 1) rfl ⟨by decide, by decide⟩ rfl rfl rfl (Nat.le_of_ble_eq_true rfl) (by omega) (p_in (by omega)) ?_
    refine s_bi_ne rfl (fun c_2 => ?_) (fun c_2 => ?_)
    · replace H := H.1 c_2
      refine wp_iload_n rfl rfl rfl ?_
      refine wp_iconst (v := (0 : Int32)) rfl (by decide) ?_
      refine wp_bipush (v := (9 : Int32)) rfl (by decide) ?_
      refine s_invStP (As := [.int a3, .int (0 : Int32), .int (9 : Int32)]) (d1 := d - 1) rfl ⟨by decide, by decide⟩ rfl rfl rfl (Nat.le_of_ble_eq_true rfl) (by omega) (p_in (by omega)) ?_
      refine s_bi_ne rfl (fun c_3 => ?_) (fun c_3 => ?_)
      · replace H := H.1 c_3
        refine wp_aload_n rfl rfl rfl ?_
        refine wp_getR (v := .ref 143) rfl (by decide) (kd_142 _) rfl (kr_142_1 _) ?_
        refine wp_bipush (v := (38 : Int32)) rfl (by decide) ?_
        refine wp_iload_n rfl rfl rfl ?_
        refine wp_iadd rfl ?_
        obtain ⟨o_4, H⟩ := H
        refine s_iald rfl (kd_143 _) o_4 ?_
        refine wp_bipush (v := (6 : Int32)) rfl (by decide) ?_
        refine wp_icmp_ne rfl (fun c_5 => ?_) (fun c_5 => ?_)
        · replace H := H.2 c_5
          refine wp_bipush (v := (-3 : Int32)) rfl (by decide) ?_
          exact s_iret rfl rfl rfl H
        · replace H := H.1 c_5
          refine wp_aload_n rfl rfl rfl ?_
          refine wp_bipush (v := (50 : Int32)) rfl (by decide) ?_
          refine wp_iconst (v := (4 : Int32)) rfl (by decide) ?_
          refine wp_iload_n rfl rfl rfl ?_
          refine wp_imul rfl ?_
          refine wp_iadd rfl ?_
          refine wp_iload_n rfl rfl rfl ?_
          refine wp_iadd rfl ?_
          refine wp_iload_n rfl rfl rfl ?_
          refine s_invV (As := [.int (((50 : Int32) + ((4 : Int32) * a1)) + a2), .int a3]) (d1 := d - 1) rfl ⟨by decide, by decide⟩ rfl rfl rfl (Nat.le_of_ble_eq_true rfl) (by omega) (kd_142 _) (by decide) rfl rfl H ?_
          intro v I2 h2
          exact x_P.weak (L := [x_jk, x_jk, x_jk, x_jk]) (by exact ⟨Or.inl rfl, ⟨Or.inl rfl, ⟨Or.inl rfl, ⟨Or.inl rfl, trivial⟩⟩⟩⟩) h2
      · replace H := H.2 c_3
        refine wp_bipush (v := (-2 : Int32)) rfl (by decide) ?_
        exact s_iret rfl rfl rfl H
    · replace H := H.2 c_2
      refine wp_iconst (v := (-1 : Int32)) rfl (by decide) ?_
      exact s_iret rfl rfl rfl H
set_option maxRecDepth 20000 in
theorem r_M_row_36 {E : XE} {d : Nat} {I : Nat → Nat → Int32} {Q : Option Value → (Nat → Nat → Int32) → Prop} (hd : 1 ≤ d) (w : Int32)
    (H : Q (some (.int w)) I) :
    x_P E d 140 36 [x_jk, x_jk, x_jk, x_jk] [.int w] I Q := by
  refine wp_goto rfl ?_
  exact s_iret rfl rfl rfl H
set_option maxRecDepth 20000 in
theorem r_M_set_0 {E : XE} {d : Nat} {I : Nat → Nat → Int32} {Q : Option Value → (Nat → Nat → Int32) → Prop} (hd : 3 ≤ d) (a1 : Int32) (a2 : Int32) (a3 : Int32)
    (H : ((0 ≤ a1 ∧ a1 ≤ (I 143 31) - 1 → (((0 : Int32) ≤ a2 ∧ a2 ≤ (2 : Int32) → (∀ z_5, z_5 = (if a2 = 0 then (9 : Int32) else (if a2 = (1 : Int32) then (255 : Int32) else (99 : Int32))) → (((0 : Int32) ≤ a3 ∧ a3 ≤ z_5 → (∀ z_9, z_9 = (if a2 = 0 then (25 : Int32) else (if a2 = (1 : Int32) then (1 : Int32) else (7 : Int32))) → x_K E (d - 1) 137 [.ref 142, .int (z_9 + a1), .int a3] I (fun v I2 => x_P E d 141 42 [x_jk, x_jk, x_jk, x_jk] (v.toList ++ []) I2 Q))) ∧ (¬ ((0 : Int32) ≤ a3 ∧ a3 ≤ z_5) → Q (some (.int (-2 : Int32))) I)))) ∧ (¬ ((0 : Int32) ≤ a2 ∧ a2 ≤ (2 : Int32)) → Q (some (.int (-1 : Int32))) I))) ∧ (¬ (0 ≤ a1 ∧ a1 ≤ (I 143 31) - 1) → Q (some (.int (-1 : Int32))) I))) :
    x_P E d 141 0 [.ref 142, .int a1, .int a2, .int a3] [] I Q := by
  refine wp_aload_n rfl rfl rfl ?_
  refine wp_iload_n rfl rfl rfl ?_
  refine s_invVP (As := [.int a1]) (d1 := d - 1) rfl ⟨by decide, by decide⟩ rfl rfl rfl (Nat.le_of_ble_eq_true rfl) (by omega) (kd_142 _) (by decide) rfl rfl (p_isMan (by omega)) ?_
  refine s_bi_eq rfl (fun c_1 => ?_) (fun c_1 => ?_)
  · replace H := H.2 c_1
    refine wp_iconst (v := (-1 : Int32)) rfl (by decide) ?_
    exact s_iret rfl rfl rfl H
  · replace H := H.1 c_1
    refine wp_iload_n rfl rfl rfl ?_
    refine wp_iconst (v := (0 : Int32)) rfl (by decide) ?_
    refine wp_iconst (v := (2 : Int32)) rfl (by decide) ?_
    refine s_invStP (As := [.int a2, .int (0 : Int32), .int (2 : Int32)]) (d1 := d - 1) rfl ⟨by decide, by decide⟩ rfl rfl rfl (Nat.le_of_ble_eq_true rfl) (by omega) (p_in (by omega)) ?_
    refine s_bi_ne rfl (fun c_2 => ?_) (fun c_2 => ?_)
    · replace H := H.1 c_2
      refine wp_iload_n rfl rfl rfl ?_
      refine wp_iconst (v := (0 : Int32)) rfl (by decide) ?_
      refine wp_iload_n rfl rfl rfl ?_
      obtain ⟨z_5, hz_5⟩ : ∃ z : Int32, z = (if a2 = 0 then (9 : Int32) else (if a2 = (1 : Int32) then (255 : Int32) else (99 : Int32))) := ⟨_, rfl⟩
      replace H := H _ hz_5
      have J : x_P E d 141 23 [.ref 142, .int a1, .int a2, .int a3] [.int z_5, .int (0 : Int32), .int a3] I Q := by
        refine s_invStP (As := [.int a3, .int (0 : Int32), .int z_5]) (d1 := d - 1) rfl ⟨by decide, by decide⟩ rfl rfl rfl (Nat.le_of_ble_eq_true rfl) (by omega) (p_in (by omega)) ?_
        refine s_bi_ne rfl (fun c_6 => ?_) (fun c_6 => ?_)
        · replace H := H.1 c_6
          refine wp_aload_n rfl rfl rfl ?_
          refine wp_iload_n rfl rfl rfl ?_
          obtain ⟨z_9, hz_9⟩ : ∃ z : Int32, z = (if a2 = 0 then (25 : Int32) else (if a2 = (1 : Int32) then (1 : Int32) else (7 : Int32))) := ⟨_, rfl⟩
          replace H := H _ hz_9
          have J : x_P E d 141 38 [.ref 142, .int a1, .int a2, .int a3] [.int z_9, .ref 142] I Q := by
            refine wp_iload_n rfl rfl rfl ?_
            refine wp_iadd rfl ?_
            refine wp_iload_n rfl rfl rfl ?_
            refine s_invV (As := [.int (z_9 + a1), .int a3]) (d1 := d - 1) rfl ⟨by decide, by decide⟩ rfl rfl rfl (Nat.le_of_ble_eq_true rfl) (by omega) (kd_142 _) (by decide) rfl rfl H ?_
            intro v I2 h2
            exact x_P.weak (L := [x_jk, x_jk, x_jk, x_jk]) (by exact ⟨Or.inl rfl, ⟨Or.inl rfl, ⟨Or.inl rfl, ⟨Or.inl rfl, trivial⟩⟩⟩⟩) h2
          refine wp_if_ne rfl (fun c_7 => ?_) (fun c_7 => ?_)
          · refine wp_iload_n rfl rfl rfl ?_
            refine wp_iconst (v := (1 : Int32)) rfl (by decide) ?_
            refine wp_icmp_ne rfl (fun c_8 => ?_) (fun c_8 => ?_)
            · refine wp_bipush (v := (7 : Int32)) rfl (by decide) ?_
              exact x_P.cong rfl (by rw [show z_9 = (7 : Int32) from by rw [hz_9]; simp only [if_neg c_7, if_neg c_8]]) J
            · refine wp_iconst (v := (1 : Int32)) rfl (by decide) ?_
              refine wp_goto rfl ?_
              exact x_P.cong rfl (by rw [show z_9 = (1 : Int32) from by rw [hz_9]; simp only [if_neg c_7, if_pos c_8]]) J
          · refine wp_bipush (v := (25 : Int32)) rfl (by decide) ?_
            refine wp_goto rfl ?_
            exact x_P.cong rfl (by rw [show z_9 = (25 : Int32) from by rw [hz_9]; simp only [if_pos c_7]]) J
        · replace H := H.2 c_6
          refine wp_bipush (v := (-2 : Int32)) rfl (by decide) ?_
          exact s_iret rfl rfl rfl H
      refine wp_if_ne rfl (fun c_3 => ?_) (fun c_3 => ?_)
      · refine wp_iload_n rfl rfl rfl ?_
        refine wp_iconst (v := (1 : Int32)) rfl (by decide) ?_
        refine wp_icmp_ne rfl (fun c_4 => ?_) (fun c_4 => ?_)
        · refine wp_bipush (v := (99 : Int32)) rfl (by decide) ?_
          exact x_P.cong rfl (by rw [show z_5 = (99 : Int32) from by rw [hz_5]; simp only [if_neg c_3, if_neg c_4]]) J
        · refine wp_sipush (v := (255 : Int32)) rfl (by decide) ?_
          refine wp_goto rfl ?_
          exact x_P.cong rfl (by rw [show z_5 = (255 : Int32) from by rw [hz_5]; simp only [if_neg c_3, if_pos c_4]]) J
      · refine wp_bipush (v := (9 : Int32)) rfl (by decide) ?_
        refine wp_goto rfl ?_
        exact x_P.cong rfl (by rw [show z_5 = (9 : Int32) from by rw [hz_5]; simp only [if_pos c_3]]) J
    · replace H := H.2 c_2
      refine wp_iconst (v := (-1 : Int32)) rfl (by decide) ?_
      exact s_iret rfl rfl rfl H
set_option maxRecDepth 20000 in
theorem r_M_set_42 {E : XE} {d : Nat} {I : Nat → Nat → Int32} {Q : Option Value → (Nat → Nat → Int32) → Prop} (hd : 1 ≤ d) (w : Int32)
    (H : Q (some (.int w)) I) :
    x_P E d 141 42 [x_jk, x_jk, x_jk, x_jk] [.int w] I Q := by
  exact s_iret rfl rfl rfl H
set_option maxRecDepth 20000 in
theorem r_M_stud_0 {E : XE} {d : Nat} {I : Nat → Nat → Int32} {Q : Option Value → (Nat → Nat → Int32) → Prop} (hd : 3 ≤ d) (a1 : Int32) (a2 : Int32)
    (H : ((0 ≤ a1 ∧ a1 ≤ (I 143 31) - 1 → x_K E (d - 1) 137 [.ref 142, .int ((13 : Int32) + a1), .int (x_bi (¬ (a2 = 0)))] I (fun v I2 => x_P E d 142 14 [x_jk, x_jk, x_jk] (v.toList ++ []) I2 Q)) ∧ (¬ (0 ≤ a1 ∧ a1 ≤ (I 143 31) - 1) → Q (some (.int (-1 : Int32))) I))) :
    x_P E d 142 0 [.ref 142, .int a1, .int a2] [] I Q := by
  refine wp_aload_n rfl rfl rfl ?_
  refine wp_iload_n rfl rfl rfl ?_
  refine s_invVP (As := [.int a1]) (d1 := d - 1) rfl ⟨by decide, by decide⟩ rfl rfl rfl (Nat.le_of_ble_eq_true rfl) (by omega) (kd_142 _) (by decide) rfl rfl (p_isMan (by omega)) ?_
  refine s_bi_eq rfl (fun c_1 => ?_) (fun c_1 => ?_)
  · replace H := H.2 c_1
    refine wp_iconst (v := (-1 : Int32)) rfl (by decide) ?_
    exact s_iret rfl rfl rfl H
  · replace H := H.1 c_1
    refine wp_aload_n rfl rfl rfl ?_
    refine wp_bipush (v := (13 : Int32)) rfl (by decide) ?_
    refine wp_iload_n rfl rfl rfl ?_
    refine wp_iadd rfl ?_
    refine wp_iload_n rfl rfl rfl ?_
    have J : x_P E d 142 13 [.ref 142, .int a1, .int a2] [.int (x_bi (¬ (a2 = 0))), .int ((13 : Int32) + a1), .ref 142] I Q := by
      refine s_invV (As := [.int ((13 : Int32) + a1), .int (x_bi (¬ (a2 = 0)))]) (d1 := d - 1) rfl ⟨by decide, by decide⟩ rfl rfl rfl (Nat.le_of_ble_eq_true rfl) (by omega) (kd_142 _) (by decide) rfl rfl H ?_
      intro v I2 h2
      exact x_P.weak (L := [x_jk, x_jk, x_jk]) (by exact ⟨Or.inl rfl, ⟨Or.inl rfl, ⟨Or.inl rfl, trivial⟩⟩⟩) h2
    refine wp_if_eq rfl (fun c_2 => ?_) (fun c_2 => ?_)
    · refine wp_iconst (v := (0 : Int32)) rfl (by decide) ?_
      exact x_P.cong rfl (by rw [show x_bi (¬ (a2 = 0)) = (0 : Int32) from x_bi_f (fun h => h c_2)]) J
    · refine wp_iconst (v := (1 : Int32)) rfl (by decide) ?_
      refine wp_goto rfl ?_
      exact x_P.cong rfl (by rw [show x_bi (¬ (a2 = 0)) = (1 : Int32) from x_bi_t c_2]) J
set_option maxRecDepth 20000 in
theorem r_M_stud_14 {E : XE} {d : Nat} {I : Nat → Nat → Int32} {Q : Option Value → (Nat → Nat → Int32) → Prop} (hd : 1 ≤ d) (w : Int32)
    (H : Q (some (.int w)) I) :
    x_P E d 142 14 [x_jk, x_jk, x_jk] [.int w] I Q := by
  refine wp_goto rfl ?_
  exact s_iret rfl rfl rfl H
set_option maxRecDepth 20000 in
theorem r_M_away_0 {E : XE} {d : Nat} {I : Nat → Nat → Int32} {Q : Option Value → (Nat → Nat → Int32) → Prop} (hd : 3 ≤ d) (a1 : Int32) (a2 : Int32)
    (H : ((0 ≤ a1 ∧ a1 ≤ (I 143 31) - 1 → x_K E (d - 1) 137 [.ref 142, .int ((19 : Int32) + a1), .int (x_bi (¬ (a2 = 0)))] I (fun v I2 => x_P E d 143 14 [x_jk, x_jk, x_jk] (v.toList ++ []) I2 Q)) ∧ (¬ (0 ≤ a1 ∧ a1 ≤ (I 143 31) - 1) → Q (some (.int (-1 : Int32))) I))) :
    x_P E d 143 0 [.ref 142, .int a1, .int a2] [] I Q := by
  refine wp_aload_n rfl rfl rfl ?_
  refine wp_iload_n rfl rfl rfl ?_
  refine s_invVP (As := [.int a1]) (d1 := d - 1) rfl ⟨by decide, by decide⟩ rfl rfl rfl (Nat.le_of_ble_eq_true rfl) (by omega) (kd_142 _) (by decide) rfl rfl (p_isMan (by omega)) ?_
  refine s_bi_eq rfl (fun c_1 => ?_) (fun c_1 => ?_)
  · replace H := H.2 c_1
    refine wp_iconst (v := (-1 : Int32)) rfl (by decide) ?_
    exact s_iret rfl rfl rfl H
  · replace H := H.1 c_1
    refine wp_aload_n rfl rfl rfl ?_
    refine wp_bipush (v := (19 : Int32)) rfl (by decide) ?_
    refine wp_iload_n rfl rfl rfl ?_
    refine wp_iadd rfl ?_
    refine wp_iload_n rfl rfl rfl ?_
    have J : x_P E d 143 13 [.ref 142, .int a1, .int a2] [.int (x_bi (¬ (a2 = 0))), .int ((19 : Int32) + a1), .ref 142] I Q := by
      refine s_invV (As := [.int ((19 : Int32) + a1), .int (x_bi (¬ (a2 = 0)))]) (d1 := d - 1) rfl ⟨by decide, by decide⟩ rfl rfl rfl (Nat.le_of_ble_eq_true rfl) (by omega) (kd_142 _) (by decide) rfl rfl H ?_
      intro v I2 h2
      exact x_P.weak (L := [x_jk, x_jk, x_jk]) (by exact ⟨Or.inl rfl, ⟨Or.inl rfl, ⟨Or.inl rfl, trivial⟩⟩⟩) h2
    refine wp_if_eq rfl (fun c_2 => ?_) (fun c_2 => ?_)
    · refine wp_iconst (v := (0 : Int32)) rfl (by decide) ?_
      exact x_P.cong rfl (by rw [show x_bi (¬ (a2 = 0)) = (0 : Int32) from x_bi_f (fun h => h c_2)]) J
    · refine wp_iconst (v := (1 : Int32)) rfl (by decide) ?_
      refine wp_goto rfl ?_
      exact x_P.cong rfl (by rw [show x_bi (¬ (a2 = 0)) = (1 : Int32) from x_bi_t c_2]) J
set_option maxRecDepth 20000 in
theorem r_M_away_14 {E : XE} {d : Nat} {I : Nat → Nat → Int32} {Q : Option Value → (Nat → Nat → Int32) → Prop} (hd : 1 ≤ d) (w : Int32)
    (H : Q (some (.int w)) I) :
    x_P E d 143 14 [x_jk, x_jk, x_jk] [.int w] I Q := by
  refine wp_goto rfl ?_
  exact s_iret rfl rfl rfl H
set_option maxRecDepth 20000 in
theorem r_M_apart_0 {E : XE} {d : Nat} {I : Nat → Nat → Int32} {Q : Option Value → (Nat → Nat → Int32) → Prop} (hd : 3 ≤ d) (a1 : Int32) (a2 : Int32)
    (H : ((0 ≤ a1 ∧ a1 ≤ (I 143 31) - 1 → ((0 ≤ a2 ∧ a2 ≤ (I 143 31) - 1 → ((a1 = a2 → Q (some (.int (-2 : Int32))) I) ∧ (¬ (a1 = a2) → x_K E (d - 1) 133 [.ref 142, .int a1, .int a2] I (fun v I2 => x_P E d 144 19 [x_jk, x_jk, x_jk] (v.toList ++ []) I2 Q)))) ∧ (¬ (0 ≤ a2 ∧ a2 ≤ (I 143 31) - 1) → Q (some (.int (-1 : Int32))) I))) ∧ (¬ (0 ≤ a1 ∧ a1 ≤ (I 143 31) - 1) → Q (some (.int (-1 : Int32))) I))) :
    x_P E d 144 0 [.ref 142, .int a1, .int a2] [] I Q := by
  refine wp_aload_n rfl rfl rfl ?_
  refine wp_iload_n rfl rfl rfl ?_
  refine s_invVP (As := [.int a1]) (d1 := d - 1) rfl ⟨by decide, by decide⟩ rfl rfl rfl (Nat.le_of_ble_eq_true rfl) (by omega) (kd_142 _) (by decide) rfl rfl (p_isMan (by omega)) ?_
  refine s_bi_eq rfl (fun c_1 => ?_) (fun c_1 => ?_)
  · replace H := H.2 c_1
    refine wp_iconst (v := (-1 : Int32)) rfl (by decide) ?_
    exact s_iret rfl rfl rfl H
  · replace H := H.1 c_1
    refine wp_aload_n rfl rfl rfl ?_
    refine wp_iload_n rfl rfl rfl ?_
    refine s_invVP (As := [.int a2]) (d1 := d - 1) rfl ⟨by decide, by decide⟩ rfl rfl rfl (Nat.le_of_ble_eq_true rfl) (by omega) (kd_142 _) (by decide) rfl rfl (p_isMan (by omega)) ?_
    refine s_bi_ne rfl (fun c_2 => ?_) (fun c_2 => ?_)
    · replace H := H.1 c_2
      refine wp_iload_n rfl rfl rfl ?_
      refine wp_iload_n rfl rfl rfl ?_
      refine wp_icmp_ne rfl (fun c_3 => ?_) (fun c_3 => ?_)
      · replace H := H.2 c_3
        refine wp_aload_n rfl rfl rfl ?_
        refine wp_iload_n rfl rfl rfl ?_
        refine wp_iload_n rfl rfl rfl ?_
        refine s_invV (As := [.int a1, .int a2]) (d1 := d - 1) rfl ⟨by decide, by decide⟩ rfl rfl rfl (Nat.le_of_ble_eq_true rfl) (by omega) (kd_142 _) (by decide) rfl rfl H ?_
        intro v I2 h2
        exact x_P.weak (L := [x_jk, x_jk, x_jk]) (by exact ⟨Or.inl rfl, ⟨Or.inl rfl, ⟨Or.inl rfl, trivial⟩⟩⟩) h2
      · replace H := H.1 c_3
        refine wp_bipush (v := (-2 : Int32)) rfl (by decide) ?_
        refine wp_goto rfl ?_
        exact s_iret rfl rfl rfl H
    · replace H := H.2 c_2
      refine wp_iconst (v := (-1 : Int32)) rfl (by decide) ?_
      exact s_iret rfl rfl rfl H
set_option maxRecDepth 20000 in
theorem r_M_apart_19 {E : XE} {d : Nat} {I : Nat → Nat → Int32} {Q : Option Value → (Nat → Nat → Int32) → Prop} (hd : 1 ≤ d) (w : Int32)
    (H : Q (some (.int w)) I) :
    x_P E d 144 19 [x_jk, x_jk, x_jk] [.int w] I Q := by
  exact s_iret rfl rfl rfl H
set_option maxRecDepth 20000 in
theorem r_M_ones_0 {E : XE} {d : Nat} {I : Nat → Nat → Int32} {Q : Option Value → (Nat → Nat → Int32) → Prop} (hd : 1 ≤ d) (a1 : Int32)
    (H : x_P E d 145 4 [.ref 142, .int a1, .int (0 : Int32), .int (0 : Int32)] [] I Q) :
    x_P E d 145 0 [.ref 142, .int a1, x_jk, x_jk] [] I Q := by
  refine wp_iconst (v := (0 : Int32)) rfl (by decide) ?_
  refine wp_istore_n (L' := [.ref 142, .int a1, .int (0 : Int32), x_jk]) rfl rfl (by decide) rfl rfl ?_
  refine wp_iconst (v := (0 : Int32)) rfl (by decide) ?_
  refine wp_istore_n (L' := [.ref 142, .int a1, .int (0 : Int32), .int (0 : Int32)]) rfl rfl (by decide) rfl rfl ?_
  exact H
set_option maxRecDepth 20000 in
theorem r_M_ones_4 {E : XE} {d : Nat} {I : Nat → Nat → Int32} {Q : Option Value → (Nat → Nat → Int32) → Prop} (hd : 1 ≤ d) (v1 : Int32) (v2 : Int32) (v3 : Int32)
    (H : (((I 143 31) ≤ v3 → Q (some (.int v2)) I) ∧ (¬ ((I 143 31) ≤ v3) → (vp_in (v1 + v3) 931) ∧ x_P E d 145 4 [.ref 142, .int v1, .int (v2 ||| ((I 143 (v1 + v3).toNatClampNeg) <<< (v3 &&& 31))), .int (v3 + 1)] [] I Q))) :
    x_P E d 145 4 [.ref 142, .int v1, .int v2, .int v3] [] I Q := by
  refine wp_iload_n rfl rfl rfl ?_
  refine wp_aload_n rfl rfl rfl ?_
  refine wp_getR (v := .ref 143) rfl (by decide) (kd_142 _) rfl (kr_142_1 _) ?_
  refine wp_bipush (v := (31 : Int32)) rfl (by decide) ?_
  refine s_ialdc (k0 := 31) rfl (kd_143 _) rfl ?_
  refine wp_icmp_ge rfl (fun c_1 => ?_) (fun c_1 => ?_)
  · replace H := H.1 c_1
    refine wp_iload_n rfl rfl rfl ?_
    exact s_iret rfl rfl rfl H
  · replace H := H.2 c_1
    refine wp_iload_n rfl rfl rfl ?_
    refine wp_aload_n rfl rfl rfl ?_
    refine wp_getR (v := .ref 143) rfl (by decide) (kd_142 _) rfl (kr_142_1 _) ?_
    refine wp_iload_n rfl rfl rfl ?_
    refine wp_iload_n rfl rfl rfl ?_
    refine wp_iadd rfl ?_
    obtain ⟨o_2, H⟩ := H
    refine s_iald rfl (kd_143 _) o_2 ?_
    refine wp_iload_n rfl rfl rfl ?_
    refine wp_ishl rfl ?_
    refine wp_ior rfl ?_
    refine wp_istore_n (L' := [.ref 142, .int v1, .int (v2 ||| ((I 143 (v1 + v3).toNatClampNeg) <<< (v3 &&& 31))), .int v3]) rfl rfl (by decide) rfl rfl ?_
    refine wp_iinc (v := v3 + 1) (L' := [.ref 142, .int v1, .int (v2 ||| ((I 143 (v1 + v3).toNatClampNeg) <<< (v3 &&& 31))), .int (v3 + 1)]) rfl rfl rfl rfl rfl ?_
    refine wp_goto rfl ?_
    exact H
set_option maxRecDepth 20000 in
theorem r_M_sharedCreed_0 {E : XE} {d : Nat} {I : Nat → Nat → Int32} {Q : Option Value → (Nat → Nat → Int32) → Prop} (hd : 1 ≤ d) 
    (H : x_P E d 146 4 [.ref 142, .int (255 : Int32), .int (0 : Int32)] [] I Q) :
    x_P E d 146 0 [.ref 142, x_jk, x_jk] [] I Q := by
  refine wp_sipush (v := (255 : Int32)) rfl (by decide) ?_
  refine wp_istore_n (L' := [.ref 142, .int (255 : Int32), x_jk]) rfl rfl (by decide) rfl rfl ?_
  refine wp_iconst (v := (0 : Int32)) rfl (by decide) ?_
  refine wp_istore_n (L' := [.ref 142, .int (255 : Int32), .int (0 : Int32)]) rfl rfl (by decide) rfl rfl ?_
  exact H
set_option maxRecDepth 20000 in
theorem r_M_sharedCreed_4 {E : XE} {d : Nat} {I : Nat → Nat → Int32} {Q : Option Value → (Nat → Nat → Int32) → Prop} (hd : 1 ≤ d) (v1 : Int32) (v2 : Int32)
    (H : (((I 143 31) ≤ v2 → Q (some (.int v1)) I) ∧ (¬ ((I 143 31) ≤ v2) → (vp_in ((19 : Int32) + v2) 931) ∧ (((I 143 ((19 : Int32) + v2).toNatClampNeg) = 0 → vp_in ((1 : Int32) + v2) 931)) ∧ (∀ z_5, z_5 = (if (I 143 ((19 : Int32) + v2).toNatClampNeg) = 0 then (I 143 ((1 : Int32) + v2).toNatClampNeg) else (255 : Int32)) → x_P E d 146 4 [.ref 142, .int (v1 &&& z_5), .int (v2 + 1)] [] I Q)))) :
    x_P E d 146 4 [.ref 142, .int v1, .int v2] [] I Q := by
  refine wp_iload_n rfl rfl rfl ?_
  refine wp_aload_n rfl rfl rfl ?_
  refine wp_getR (v := .ref 143) rfl (by decide) (kd_142 _) rfl (kr_142_1 _) ?_
  refine wp_bipush (v := (31 : Int32)) rfl (by decide) ?_
  refine s_ialdc (k0 := 31) rfl (kd_143 _) rfl ?_
  refine wp_icmp_ge rfl (fun c_1 => ?_) (fun c_1 => ?_)
  · replace H := H.1 c_1
    refine wp_iload_n rfl rfl rfl ?_
    exact s_iret rfl rfl rfl H
  · replace H := H.2 c_1
    refine wp_iload_n rfl rfl rfl ?_
    refine wp_aload_n rfl rfl rfl ?_
    refine wp_getR (v := .ref 143) rfl (by decide) (kd_142 _) rfl (kr_142_1 _) ?_
    refine wp_bipush (v := (19 : Int32)) rfl (by decide) ?_
    refine wp_iload_n rfl rfl rfl ?_
    refine wp_iadd rfl ?_
    obtain ⟨o_2, H⟩ := H
    refine s_iald rfl (kd_143 _) o_2 ?_
    obtain ⟨o_4, H⟩ := H
    obtain ⟨z_5, hz_5⟩ : ∃ z : Int32, z = (if (I 143 ((19 : Int32) + v2).toNatClampNeg) = 0 then (I 143 ((1 : Int32) + v2).toNatClampNeg) else (255 : Int32)) := ⟨_, rfl⟩
    replace H := H _ hz_5
    have J : x_P E d 146 26 [.ref 142, .int v1, .int v2] [.int z_5, .int v1] I Q := by
      refine wp_iand rfl ?_
      refine wp_istore_n (L' := [.ref 142, .int (v1 &&& z_5), .int v2]) rfl rfl (by decide) rfl rfl ?_
      refine wp_iinc (v := v2 + 1) (L' := [.ref 142, .int (v1 &&& z_5), .int (v2 + 1)]) rfl rfl rfl rfl rfl ?_
      refine wp_goto rfl ?_
      exact H
    refine wp_if_ne rfl (fun c_3 => ?_) (fun c_3 => ?_)
    · refine wp_sipush (v := (255 : Int32)) rfl (by decide) ?_
      exact x_P.cong rfl (by rw [show z_5 = (255 : Int32) from by rw [hz_5]; simp only [if_neg c_3]]) J
    · refine wp_aload_n rfl rfl rfl ?_
      refine wp_getR (v := .ref 143) rfl (by decide) (kd_142 _) rfl (kr_142_1 _) ?_
      refine wp_iconst (v := (1 : Int32)) rfl (by decide) ?_
      refine wp_iload_n rfl rfl rfl ?_
      refine wp_iadd rfl ?_
      refine s_iald rfl (kd_143 _) (o_4 c_3) ?_
      refine wp_goto rfl ?_
      exact x_P.cong rfl (by rw [show z_5 = (I 143 ((1 : Int32) + v2).toNatClampNeg) from by rw [hz_5]; simp only [if_pos c_3]]) J
set_option maxRecDepth 20000 in
theorem r_M_told_0 {E : XE} {d : Nat} {I : Nat → Nat → Int32} {Q : Option Value → (Nat → Nat → Int32) → Prop} (hd : 1 ≤ d) (a1 : Int32)
    (H : ((a1 = (0 : Int32) → Q (some (.int (I 143 0))) I) ∧ (a1 = (1 : Int32) → x_K E (d - 1) 129 [.ref 142, .int (221 : Int32), .int (90 : Int32)] I (fun v I2 => x_P E d 147 11 [x_jk, x_jk] (v.toList ++ []) I2 Q)) ∧ (a1 = (2 : Int32) → x_K E (d - 1) 145 [.ref 142, .int (13 : Int32)] I (fun v I2 => x_P E d 147 15 [x_jk, x_jk] (v.toList ++ []) I2 Q)) ∧ (a1 = (3 : Int32) → x_K E (d - 1) 145 [.ref 142, .int (19 : Int32)] I (fun v I2 => x_P E d 147 19 [x_jk, x_jk] (v.toList ++ []) I2 Q)) ∧ (a1 = (4 : Int32) → x_K E (d - 1) 146 [.ref 142] I (fun v I2 => x_P E d 147 22 [x_jk, x_jk] (v.toList ++ []) I2 Q)) ∧ (¬ a1 = (0 : Int32) → ¬ a1 = (1 : Int32) → ¬ a1 = (2 : Int32) → ¬ a1 = (3 : Int32) → ¬ a1 = (4 : Int32) → Q (some (.int (-1 : Int32))) I))) :
    x_P E d 147 0 [.ref 142, .int a1] [] I Q := by
  refine wp_iload_n rfl rfl rfl ?_
  by_cases c_1 : a1 = (0 : Int32)
  · replace H := H.1 c_1
    refine wp_tswIn (j := 0) rfl rfl (Eq.trans (congrArg Int32.toInt c_1) rfl) ?_
    refine wp_aload_n rfl rfl rfl ?_
    refine wp_getR (v := .ref 143) rfl (by decide) (kd_142 _) rfl (kr_142_1 _) ?_
    refine wp_iconst (v := (0 : Int32)) rfl (by decide) ?_
    refine s_ialdc (k0 := 0) rfl (kd_143 _) rfl ?_
    exact s_iret rfl rfl rfl H
  · by_cases c_2 : a1 = (1 : Int32)
    · replace H := H.2.1 c_2
      refine wp_tswIn (j := 1) rfl rfl (Eq.trans (congrArg Int32.toInt c_2) rfl) ?_
      refine wp_aload_n rfl rfl rfl ?_
      refine wp_sipush (v := (221 : Int32)) rfl (by decide) ?_
      refine wp_bipush (v := (90 : Int32)) rfl (by decide) ?_
      refine s_invV (As := [.int (221 : Int32), .int (90 : Int32)]) (d1 := d - 1) rfl ⟨by decide, by decide⟩ rfl rfl rfl (Nat.le_of_ble_eq_true rfl) (by omega) (kd_142 _) (by decide) rfl rfl H ?_
      intro v I2 h2
      exact x_P.weak (L := [x_jk, x_jk]) (by exact ⟨Or.inl rfl, ⟨Or.inl rfl, trivial⟩⟩) h2
    · by_cases c_3 : a1 = (2 : Int32)
      · replace H := H.2.2.1 c_3
        refine wp_tswIn (j := 2) rfl rfl (Eq.trans (congrArg Int32.toInt c_3) rfl) ?_
        refine wp_aload_n rfl rfl rfl ?_
        refine wp_bipush (v := (13 : Int32)) rfl (by decide) ?_
        refine s_invV (As := [.int (13 : Int32)]) (d1 := d - 1) rfl ⟨by decide, by decide⟩ rfl rfl rfl (Nat.le_of_ble_eq_true rfl) (by omega) (kd_142 _) (by decide) rfl rfl H ?_
        intro v I2 h2
        exact x_P.weak (L := [x_jk, x_jk]) (by exact ⟨Or.inl rfl, ⟨Or.inl rfl, trivial⟩⟩) h2
      · by_cases c_4 : a1 = (3 : Int32)
        · replace H := H.2.2.2.1 c_4
          refine wp_tswIn (j := 3) rfl rfl (Eq.trans (congrArg Int32.toInt c_4) rfl) ?_
          refine wp_aload_n rfl rfl rfl ?_
          refine wp_bipush (v := (19 : Int32)) rfl (by decide) ?_
          refine s_invV (As := [.int (19 : Int32)]) (d1 := d - 1) rfl ⟨by decide, by decide⟩ rfl rfl rfl (Nat.le_of_ble_eq_true rfl) (by omega) (kd_142 _) (by decide) rfl rfl H ?_
          intro v I2 h2
          exact x_P.weak (L := [x_jk, x_jk]) (by exact ⟨Or.inl rfl, ⟨Or.inl rfl, trivial⟩⟩) h2
        · by_cases c_5 : a1 = (4 : Int32)
          · replace H := H.2.2.2.2.1 c_5
            refine wp_tswIn (j := 4) rfl rfl (Eq.trans (congrArg Int32.toInt c_5) rfl) ?_
            refine wp_aload_n rfl rfl rfl ?_
            refine s_invV (As := []) (d1 := d - 1) rfl ⟨by decide, by decide⟩ rfl rfl rfl (Nat.le_of_ble_eq_true rfl) (by omega) (kd_142 _) (by decide) rfl rfl H ?_
            intro v I2 h2
            exact x_P.weak (L := [x_jk, x_jk]) (by exact ⟨Or.inl rfl, ⟨Or.inl rfl, trivial⟩⟩) h2
          · replace H := H.2.2.2.2.2 c_1 c_2 c_3 c_4 c_5
            have nc_1 := x_tne (z := 0) c_1 rfl
            have nc_2 := x_tne (z := 1) c_2 rfl
            have nc_3 := x_tne (z := 2) c_3 rfl
            have nc_4 := x_tne (z := 3) c_4 rfl
            have nc_5 := x_tne (z := 4) c_5 rfl
            have hout : (a1).toInt < 0 ∨ 4 < (a1).toInt := by omega
            refine wp_tswOut rfl hout ?_
            refine wp_iconst (v := (-1 : Int32)) rfl (by decide) ?_
            exact s_iret rfl rfl rfl H
set_option maxRecDepth 20000 in
theorem r_M_told_11 {E : XE} {d : Nat} {I : Nat → Nat → Int32} {Q : Option Value → (Nat → Nat → Int32) → Prop} (hd : 1 ≤ d) (w : Int32)
    (H : Q (some (.int w)) I) :
    x_P E d 147 11 [x_jk, x_jk] [.int w] I Q := by
  exact s_iret rfl rfl rfl H
set_option maxRecDepth 20000 in
theorem r_M_told_15 {E : XE} {d : Nat} {I : Nat → Nat → Int32} {Q : Option Value → (Nat → Nat → Int32) → Prop} (hd : 1 ≤ d) (w : Int32)
    (H : Q (some (.int w)) I) :
    x_P E d 147 15 [x_jk, x_jk] [.int w] I Q := by
  exact s_iret rfl rfl rfl H
set_option maxRecDepth 20000 in
theorem r_M_told_19 {E : XE} {d : Nat} {I : Nat → Nat → Int32} {Q : Option Value → (Nat → Nat → Int32) → Prop} (hd : 1 ≤ d) (w : Int32)
    (H : Q (some (.int w)) I) :
    x_P E d 147 19 [x_jk, x_jk] [.int w] I Q := by
  exact s_iret rfl rfl rfl H
set_option maxRecDepth 20000 in
theorem r_M_told_22 {E : XE} {d : Nat} {I : Nat → Nat → Int32} {Q : Option Value → (Nat → Nat → Int32) → Prop} (hd : 1 ≤ d) (w : Int32)
    (H : Q (some (.int w)) I) :
    x_P E d 147 22 [x_jk, x_jk] [.int w] I Q := by
  exact s_iret rfl rfl rfl H
set_option maxRecDepth 20000 in
theorem r_M_rises_0 {E : XE} {d : Nat} {I : Nat → Nat → Int32} {Q : Option Value → (Nat → Nat → Int32) → Prop} (hd : 1 ≤ d) (a1 : Int32)
    (H : (vp_in ((19 : Int32) + a1) 931) ∧ (((I 143 ((19 : Int32) + a1).toNatClampNeg) = (1 : Int32) → Q none I) ∧ (¬ ((I 143 ((19 : Int32) + a1).toNatClampNeg) = (1 : Int32)) → (vp_in ((13 : Int32) + a1) 931) ∧ (((I 143 ((13 : Int32) + a1).toNatClampNeg) = (1 : Int32) → Q none I) ∧ (¬ ((I 143 ((13 : Int32) + a1).toNatClampNeg) = (1 : Int32)) → (vp_in ((7 : Int32) + a1) 931) ∧ x_K E (d - 1) 132 [.ref 142, .int a1] I (fun v I2 => x_P E d 148 31 [.ref 142, .int a1] (v.toList ++ [.int (I 143 ((7 : Int32) + a1).toNatClampNeg), .int ((7 : Int32) + a1), .ref 143]) I2 Q)))))) :
    x_P E d 148 0 [.ref 142, .int a1] [] I Q := by
  refine wp_aload_n rfl rfl rfl ?_
  refine wp_getR (v := .ref 143) rfl (by decide) (kd_142 _) rfl (kr_142_1 _) ?_
  refine wp_bipush (v := (19 : Int32)) rfl (by decide) ?_
  refine wp_iload_n rfl rfl rfl ?_
  refine wp_iadd rfl ?_
  obtain ⟨o_1, H⟩ := H
  refine s_iald rfl (kd_143 _) o_1 ?_
  refine wp_iconst (v := (1 : Int32)) rfl (by decide) ?_
  refine wp_icmp_eq rfl (fun c_2 => ?_) (fun c_2 => ?_)
  · replace H := H.1 c_2
    exact s_vret rfl rfl H
  · replace H := H.2 c_2
    refine wp_aload_n rfl rfl rfl ?_
    refine wp_getR (v := .ref 143) rfl (by decide) (kd_142 _) rfl (kr_142_1 _) ?_
    refine wp_bipush (v := (13 : Int32)) rfl (by decide) ?_
    refine wp_iload_n rfl rfl rfl ?_
    refine wp_iadd rfl ?_
    obtain ⟨o_3, H⟩ := H
    refine s_iald rfl (kd_143 _) o_3 ?_
    refine wp_iconst (v := (1 : Int32)) rfl (by decide) ?_
    refine wp_icmp_ne rfl (fun c_4 => ?_) (fun c_4 => ?_)
    · replace H := H.2 c_4
      refine wp_aload_n rfl rfl rfl ?_
      refine wp_getR (v := .ref 143) rfl (by decide) (kd_142 _) rfl (kr_142_1 _) ?_
      refine wp_bipush (v := (7 : Int32)) rfl (by decide) ?_
      refine wp_iload_n rfl rfl rfl ?_
      refine wp_iadd rfl ?_
      refine wp_aload_n rfl rfl rfl ?_
      refine wp_getR (v := .ref 143) rfl (by decide) (kd_142 _) rfl (kr_142_1 _) ?_
      refine wp_bipush (v := (7 : Int32)) rfl (by decide) ?_
      refine wp_iload_n rfl rfl rfl ?_
      refine wp_iadd rfl ?_
      obtain ⟨o_5, H⟩ := H
      refine s_iald rfl (kd_143 _) o_5 ?_
      refine wp_aload_n rfl rfl rfl ?_
      refine wp_iload_n rfl rfl rfl ?_
      refine s_invV (As := [.int a1]) (d1 := d - 1) rfl ⟨by decide, by decide⟩ rfl rfl rfl (Nat.le_of_ble_eq_true rfl) (by omega) (kd_142 _) (by decide) rfl rfl H ?_
      intro v I2 h2
      exact h2
    · replace H := H.1 c_4
      exact s_vret rfl rfl H
set_option maxRecDepth 20000 in
theorem r_M_rises_31 {E : XE} {d : Nat} {I : Nat → Nat → Int32} {Q : Option Value → (Nat → Nat → Int32) → Prop} (hd : 1 ≤ d) (v1 : Int32) (s0 : Int32) (s1 : Int32) (w : Int32)
    (H : x_K E (d - 1) 111 [.int (s0 + w), .int (99 : Int32)] I (fun v I2 => x_P E d 148 34 [.ref 142, .int v1] (v.toList ++ [.int s1, .ref 143]) I2 Q)) :
    x_P E d 148 31 [.ref 142, .int v1] [.int w, .int s0, .int s1, .ref 143] I Q := by
  refine wp_iadd rfl ?_
  refine wp_bipush (v := (99 : Int32)) rfl (by decide) ?_
  refine s_invSt (As := [.int (s0 + w), .int (99 : Int32)]) (d1 := d - 1) rfl ⟨by decide, by decide⟩ rfl rfl rfl (Nat.le_of_ble_eq_true rfl) (by omega) H ?_
  intro v I2 h2
  exact h2
set_option maxRecDepth 20000 in
theorem r_M_rises_34 {E : XE} {d : Nat} {I : Nat → Nat → Int32} {Q : Option Value → (Nat → Nat → Int32) → Prop} (hd : 1 ≤ d) (v1 : Int32) (s0 : Int32) (w : Int32)
    (H : (vp_in s0 931) ∧ (∀ I_2, I_2 = x_up I 143 s0.toNatClampNeg w → (vp_in ((7 : Int32) + v1) 931) ∧ x_K E (d - 1) 129 [.ref 142, .int (221 : Int32), .int (90 : Int32)] I_2 (fun v I2 => x_P E d 148 45 [.ref 142, .int v1] (v.toList ++ [.int (I_2 143 ((7 : Int32) + v1).toNatClampNeg)]) I2 Q))) :
    x_P E d 148 34 [.ref 142, .int v1] [.int w, .int s0, .ref 143] I Q := by
  obtain ⟨o_1, H⟩ := H
  refine s_iast rfl (kd_143 _) o_1 ?_
  generalize hI_2 : x_up I 143 s0.toNatClampNeg w = I_2
  replace H := H _ hI_2.symm
  refine wp_aload_n rfl rfl rfl ?_
  refine wp_getR (v := .ref 143) rfl (by decide) (kd_142 _) rfl (kr_142_1 _) ?_
  refine wp_bipush (v := (7 : Int32)) rfl (by decide) ?_
  refine wp_iload_n rfl rfl rfl ?_
  refine wp_iadd rfl ?_
  obtain ⟨o_3, H⟩ := H
  refine s_iald rfl (kd_143 _) o_3 ?_
  refine wp_aload_n rfl rfl rfl ?_
  refine wp_sipush (v := (221 : Int32)) rfl (by decide) ?_
  refine wp_bipush (v := (90 : Int32)) rfl (by decide) ?_
  refine s_invV (As := [.int (221 : Int32), .int (90 : Int32)]) (d1 := d - 1) rfl ⟨by decide, by decide⟩ rfl rfl rfl (Nat.le_of_ble_eq_true rfl) (by omega) (kd_142 _) (by decide) rfl rfl H ?_
  intro v I2 h2
  exact h2
set_option maxRecDepth 20000 in
theorem r_M_rises_45 {E : XE} {d : Nat} {I : Nat → Nat → Int32} {Q : Option Value → (Nat → Nat → Int32) → Prop} (hd : 1 ≤ d) (v1 : Int32) (s0 : Int32) (w : Int32)
    (H : ((s0 < w → Q none I) ∧ (¬ (s0 < w) → (vp_in ((13 : Int32) + v1) 931) ∧ (∀ I_3, I_3 = x_up I 143 ((13 : Int32) + v1).toNatClampNeg (1 : Int32) → (vp_in ((7 : Int32) + v1) 931) ∧ (∀ I_5, I_5 = x_up I_3 143 ((7 : Int32) + v1).toNatClampNeg (0 : Int32) → (vp_in ((1 : Int32) + v1) 931) ∧ (vp_in ((44 : Int32) + v1) 931) ∧ (vp_in ((1 : Int32) + v1) 931) ∧ (∀ I_9, I_9 = x_up I_5 143 ((1 : Int32) + v1).toNatClampNeg ((I_5 143 ((1 : Int32) + v1).toNatClampNeg) &&& (((1 : Int32) <<< (((I_5 143 ((44 : Int32) + v1).toNatClampNeg) - (I_5 143 ((44 : Int32) + v1).toNatClampNeg) / (8 : Int32) * (8 : Int32)) &&& 31)) ^^^ (-1 : Int32))) → Q none I_9)))))) :
    x_P E d 148 45 [.ref 142, .int v1] [.int w, .int s0] I Q := by
  refine wp_icmp_lt rfl (fun c_1 => ?_) (fun c_1 => ?_)
  · replace H := H.1 c_1
    exact s_vret rfl rfl H
  · replace H := H.2 c_1
    refine wp_aload_n rfl rfl rfl ?_
    refine wp_getR (v := .ref 143) rfl (by decide) (kd_142 _) rfl (kr_142_1 _) ?_
    refine wp_bipush (v := (13 : Int32)) rfl (by decide) ?_
    refine wp_iload_n rfl rfl rfl ?_
    refine wp_iadd rfl ?_
    refine wp_iconst (v := (1 : Int32)) rfl (by decide) ?_
    obtain ⟨o_2, H⟩ := H
    refine s_iast rfl (kd_143 _) o_2 ?_
    generalize hI_3 : x_up I 143 ((13 : Int32) + v1).toNatClampNeg (1 : Int32) = I_3
    replace H := H _ hI_3.symm
    refine wp_aload_n rfl rfl rfl ?_
    refine wp_getR (v := .ref 143) rfl (by decide) (kd_142 _) rfl (kr_142_1 _) ?_
    refine wp_bipush (v := (7 : Int32)) rfl (by decide) ?_
    refine wp_iload_n rfl rfl rfl ?_
    refine wp_iadd rfl ?_
    refine wp_iconst (v := (0 : Int32)) rfl (by decide) ?_
    obtain ⟨o_4, H⟩ := H
    refine s_iast rfl (kd_143 _) o_4 ?_
    generalize hI_5 : x_up I_3 143 ((7 : Int32) + v1).toNatClampNeg (0 : Int32) = I_5
    replace H := H _ hI_5.symm
    refine wp_aload_n rfl rfl rfl ?_
    refine wp_getR (v := .ref 143) rfl (by decide) (kd_142 _) rfl (kr_142_1 _) ?_
    refine wp_iconst (v := (1 : Int32)) rfl (by decide) ?_
    refine wp_iload_n rfl rfl rfl ?_
    refine wp_iadd rfl ?_
    refine wp_dup2 rfl rfl rfl ?_
    obtain ⟨o_6, H⟩ := H
    refine s_iald rfl (kd_143 _) o_6 ?_
    refine wp_iconst (v := (1 : Int32)) rfl (by decide) ?_
    refine wp_aload_n rfl rfl rfl ?_
    refine wp_getR (v := .ref 143) rfl (by decide) (kd_142 _) rfl (kr_142_1 _) ?_
    refine wp_bipush (v := (44 : Int32)) rfl (by decide) ?_
    refine wp_iload_n rfl rfl rfl ?_
    refine wp_iadd rfl ?_
    obtain ⟨o_7, H⟩ := H
    refine s_iald rfl (kd_143 _) o_7 ?_
    refine wp_bipush (v := (8 : Int32)) rfl (by decide) ?_
    refine wp_irem rfl (by decide) ?_
    refine wp_ishl rfl ?_
    refine wp_iconst (v := (-1 : Int32)) rfl (by decide) ?_
    refine wp_ixor rfl ?_
    refine wp_iand rfl ?_
    obtain ⟨o_8, H⟩ := H
    refine s_iast rfl (kd_143 _) o_8 ?_
    generalize hI_9 : x_up I_5 143 ((1 : Int32) + v1).toNatClampNeg ((I_5 143 ((1 : Int32) + v1).toNatClampNeg) &&& (((1 : Int32) <<< (((I_5 143 ((44 : Int32) + v1).toNatClampNeg) - (I_5 143 ((44 : Int32) + v1).toNatClampNeg) / (8 : Int32) * (8 : Int32)) &&& 31)) ^^^ (-1 : Int32))) = I_9
    replace H := H _ hI_9.symm
    exact s_vret rfl rfl H
set_option maxRecDepth 20000 in
theorem r_M_goes_0 {E : XE} {d : Nat} {I : Nat → Nat → Int32} {Q : Option Value → (Nat → Nat → Int32) → Prop} (hd : 1 ≤ d) 
    (H : x_P E d 149 2 [.ref 142, .int (0 : Int32)] [] I Q) :
    x_P E d 149 0 [.ref 142, x_jk] [] I Q := by
  refine wp_iconst (v := (0 : Int32)) rfl (by decide) ?_
  refine wp_istore_n (L' := [.ref 142, .int (0 : Int32)]) rfl rfl (by decide) rfl rfl ?_
  exact H
set_option maxRecDepth 20000 in
theorem r_M_goes_2 {E : XE} {d : Nat} {I : Nat → Nat → Int32} {Q : Option Value → (Nat → Nat → Int32) → Prop} (hd : 1 ≤ d) (v1 : Int32)
    (H : (((I 143 31) ≤ v1 → (∀ I_2, I_2 = x_up I 143 0 ((I 143 0) + (1 : Int32)) → Q none I_2)) ∧ (¬ ((I 143 31) ≤ v1) → x_K E (d - 1) 148 [.ref 142, .int v1] I (fun v I2 => x_P E d 149 11 [.ref 142, .int v1] (v.toList ++ []) I2 Q)))) :
    x_P E d 149 2 [.ref 142, .int v1] [] I Q := by
  refine wp_iload_n rfl rfl rfl ?_
  refine wp_aload_n rfl rfl rfl ?_
  refine wp_getR (v := .ref 143) rfl (by decide) (kd_142 _) rfl (kr_142_1 _) ?_
  refine wp_bipush (v := (31 : Int32)) rfl (by decide) ?_
  refine s_ialdc (k0 := 31) rfl (kd_143 _) rfl ?_
  refine wp_icmp_ge rfl (fun c_1 => ?_) (fun c_1 => ?_)
  · replace H := H.1 c_1
    refine wp_aload_n rfl rfl rfl ?_
    refine wp_getR (v := .ref 143) rfl (by decide) (kd_142 _) rfl (kr_142_1 _) ?_
    refine wp_iconst (v := (0 : Int32)) rfl (by decide) ?_
    refine wp_dup2 rfl rfl rfl ?_
    refine s_ialdc (k0 := 0) rfl (kd_143 _) rfl ?_
    refine wp_iconst (v := (1 : Int32)) rfl (by decide) ?_
    refine wp_iadd rfl ?_
    refine s_iastc (k0 := 0) rfl (kd_143 _) rfl ?_
    generalize hI_2 : x_up I 143 0 ((I 143 0) + (1 : Int32)) = I_2
    replace H := H _ hI_2.symm
    exact s_vret rfl rfl H
  · replace H := H.2 c_1
    refine wp_aload_n rfl rfl rfl ?_
    refine wp_iload_n rfl rfl rfl ?_
    refine s_invV (As := [.int v1]) (d1 := d - 1) rfl ⟨by decide, by decide⟩ rfl rfl rfl (Nat.le_of_ble_eq_true rfl) (by omega) (kd_142 _) (by decide) rfl rfl H ?_
    intro v I2 h2
    exact h2
set_option maxRecDepth 20000 in
theorem r_M_goes_11 {E : XE} {d : Nat} {I : Nat → Nat → Int32} {Q : Option Value → (Nat → Nat → Int32) → Prop} (hd : 1 ≤ d) (v1 : Int32)
    (H : x_P E d 149 2 [.ref 142, .int (v1 + 1)] [] I Q) :
    x_P E d 149 11 [.ref 142, .int v1] [] I Q := by
  refine wp_iinc (v := v1 + 1) (L' := [.ref 142, .int (v1 + 1)]) rfl rfl rfl rfl rfl ?_
  refine wp_goto rfl ?_
  exact H
set_option maxRecDepth 20000 in
theorem r_M_goesOn_0 {E : XE} {d : Nat} {I : Nat → Nat → Int32} {Q : Option Value → (Nat → Nat → Int32) → Prop} (hd : 1 ≤ d) (a1 : Int32)
    (H : x_P E d 150 2 [.ref 142, .int a1, .int (0 : Int32)] [] I Q) :
    x_P E d 150 0 [.ref 142, .int a1, x_jk] [] I Q := by
  refine wp_iconst (v := (0 : Int32)) rfl (by decide) ?_
  refine wp_istore_n (L' := [.ref 142, .int a1, .int (0 : Int32)]) rfl rfl (by decide) rfl rfl ?_
  exact H
set_option maxRecDepth 20000 in
theorem r_M_goesOn_2 {E : XE} {d : Nat} {I : Nat → Nat → Int32} {Q : Option Value → (Nat → Nat → Int32) → Prop} (hd : 1 ≤ d) (v1 : Int32) (v2 : Int32)
    (H : ((v1 ≤ v2 → Q none I) ∧ (¬ (v1 ≤ v2) → x_K E (d - 1) 149 [.ref 142] I (fun v I2 => x_P E d 150 7 [.ref 142, .int v1, .int v2] (v.toList ++ []) I2 Q)))) :
    x_P E d 150 2 [.ref 142, .int v1, .int v2] [] I Q := by
  refine wp_iload_n rfl rfl rfl ?_
  refine wp_iload_n rfl rfl rfl ?_
  refine wp_icmp_ge rfl (fun c_1 => ?_) (fun c_1 => ?_)
  · replace H := H.1 c_1
    exact s_vret rfl rfl H
  · replace H := H.2 c_1
    refine wp_aload_n rfl rfl rfl ?_
    refine s_invV (As := []) (d1 := d - 1) rfl ⟨by decide, by decide⟩ rfl rfl rfl (Nat.le_of_ble_eq_true rfl) (by omega) (kd_142 _) (by decide) rfl rfl H ?_
    intro v I2 h2
    exact h2
set_option maxRecDepth 20000 in
theorem r_M_goesOn_7 {E : XE} {d : Nat} {I : Nat → Nat → Int32} {Q : Option Value → (Nat → Nat → Int32) → Prop} (hd : 1 ≤ d) (v1 : Int32) (v2 : Int32)
    (H : x_P E d 150 2 [.ref 142, .int v1, .int (v2 + 1)] [] I Q) :
    x_P E d 150 7 [.ref 142, .int v1, .int v2] [] I Q := by
  refine wp_iinc (v := v2 + 1) (L' := [.ref 142, .int v1, .int (v2 + 1)]) rfl rfl rfl rfl rfl ?_
  refine wp_goto rfl ?_
  exact H
set_option maxRecDepth 20000 in
theorem r_M_goesAlone_0 {E : XE} {d : Nat} {I : Nat → Nat → Int32} {Q : Option Value → (Nat → Nat → Int32) → Prop} (hd : 1 ≤ d) (a1 : Int32)
    (H : x_K E (d - 1) 148 [.ref 142, .int a1] I (fun v I2 => x_P E d 151 3 [.ref 142, x_jk] (v.toList ++ []) I2 Q)) :
    x_P E d 151 0 [.ref 142, .int a1] [] I Q := by
  refine wp_aload_n rfl rfl rfl ?_
  refine wp_iload_n rfl rfl rfl ?_
  refine s_invV (As := [.int a1]) (d1 := d - 1) rfl ⟨by decide, by decide⟩ rfl rfl rfl (Nat.le_of_ble_eq_true rfl) (by omega) (kd_142 _) (by decide) rfl rfl H ?_
  intro v I2 h2
  exact x_P.weak (L := [.ref 142, x_jk]) (by exact ⟨Or.inr rfl, ⟨Or.inl rfl, trivial⟩⟩) h2
set_option maxRecDepth 20000 in
theorem r_M_goesAlone_3 {E : XE} {d : Nat} {I : Nat → Nat → Int32} {Q : Option Value → (Nat → Nat → Int32) → Prop} (hd : 1 ≤ d) 
    (H : (∀ I_1, I_1 = x_up I 143 0 ((I 143 0) + (1 : Int32)) → Q none I_1)) :
    x_P E d 151 3 [.ref 142, x_jk] [] I Q := by
  refine wp_aload_n rfl rfl rfl ?_
  refine wp_getR (v := .ref 143) rfl (by decide) (kd_142 _) rfl (kr_142_1 _) ?_
  refine wp_iconst (v := (0 : Int32)) rfl (by decide) ?_
  refine wp_dup2 rfl rfl rfl ?_
  refine s_ialdc (k0 := 0) rfl (kd_143 _) rfl ?_
  refine wp_iconst (v := (1 : Int32)) rfl (by decide) ?_
  refine wp_iadd rfl ?_
  refine s_iastc (k0 := 0) rfl (kd_143 _) rfl ?_
  generalize hI_1 : x_up I 143 0 ((I 143 0) + (1 : Int32)) = I_1
  replace H := H _ hI_1.symm
  exact s_vret rfl rfl H
set_option maxRecDepth 20000 in
theorem r_M_pass_0 {E : XE} {d : Nat} {I : Nat → Nat → Int32} {Q : Option Value → (Nat → Nat → Int32) → Prop} (hd : 2 ≤ d) (a1 : Int32)
    (H : (((0 : Int32) ≤ a1 ∧ a1 ≤ (60 : Int32) → ((((I 143 0) + a1) ≤ (9999 : Int32) → x_K E (d - 1) 150 [.ref 142, .int a1] I (fun v I2 => x_P E d 152 20 [.ref 142, x_jk] (v.toList ++ []) I2 Q)) ∧ (¬ (((I 143 0) + a1) ≤ (9999 : Int32)) → Q (some (.int (-3 : Int32))) I))) ∧ (¬ ((0 : Int32) ≤ a1 ∧ a1 ≤ (60 : Int32)) → Q (some (.int (-2 : Int32))) I))) :
    x_P E d 152 0 [.ref 142, .int a1] [] I Q := by
  refine wp_iload_n rfl rfl rfl ?_
  refine wp_iconst (v := (0 : Int32)) rfl (by decide) ?_
  refine wp_bipush (v := (60 : Int32)) rfl (by decide) ?_
  refine s_invStP (As := [.int a1, .int (0 : Int32), .int (60 : Int32)]) (d1 := d - 1) rfl ⟨by decide, by decide⟩ rfl rfl rfl (Nat.le_of_ble_eq_true rfl) (by omega) (p_in (by omega)) ?_
  refine s_bi_ne rfl (fun c_1 => ?_) (fun c_1 => ?_)
  · replace H := H.1 c_1
    refine wp_aload_n rfl rfl rfl ?_
    refine wp_getR (v := .ref 143) rfl (by decide) (kd_142 _) rfl (kr_142_1 _) ?_
    refine wp_iconst (v := (0 : Int32)) rfl (by decide) ?_
    refine s_ialdc (k0 := 0) rfl (kd_143 _) rfl ?_
    refine wp_iload_n rfl rfl rfl ?_
    refine wp_iadd rfl ?_
    refine wp_sipush (v := (9999 : Int32)) rfl (by decide) ?_
    refine wp_icmp_le rfl (fun c_2 => ?_) (fun c_2 => ?_)
    · replace H := H.1 c_2
      refine wp_aload_n rfl rfl rfl ?_
      refine wp_iload_n rfl rfl rfl ?_
      refine s_invV (As := [.int a1]) (d1 := d - 1) rfl ⟨by decide, by decide⟩ rfl rfl rfl (Nat.le_of_ble_eq_true rfl) (by omega) (kd_142 _) (by decide) rfl rfl H ?_
      intro v I2 h2
      exact x_P.weak (L := [.ref 142, x_jk]) (by exact ⟨Or.inr rfl, ⟨Or.inl rfl, trivial⟩⟩) h2
    · replace H := H.2 c_2
      refine wp_bipush (v := (-3 : Int32)) rfl (by decide) ?_
      exact s_iret rfl rfl rfl H
  · replace H := H.2 c_1
    refine wp_bipush (v := (-2 : Int32)) rfl (by decide) ?_
    exact s_iret rfl rfl rfl H
set_option maxRecDepth 20000 in
theorem r_M_pass_20 {E : XE} {d : Nat} {I : Nat → Nat → Int32} {Q : Option Value → (Nat → Nat → Int32) → Prop} (hd : 1 ≤ d) 
    (H : Q (some (.int (I 143 0))) I) :
    x_P E d 152 20 [.ref 142, x_jk] [] I Q := by
  refine wp_aload_n rfl rfl rfl ?_
  refine wp_getR (v := .ref 143) rfl (by decide) (kd_142 _) rfl (kr_142_1 _) ?_
  refine wp_iconst (v := (0 : Int32)) rfl (by decide) ?_
  refine s_ialdc (k0 := 0) rfl (kd_143 _) rfl ?_
  exact s_iret rfl rfl rfl H
set_option maxRecDepth 20000 in
theorem r_M_on_0 {E : XE} {d : Nat} {I : Nat → Nat → Int32} {Q : Option Value → (Nat → Nat → Int32) → Prop} (hd : 3 ≤ d) (a1 : Int32) (a2 : Int32)
    (H : ((a2 = 0 → (((0 : Int32) ≤ a1 ∧ a1 ≤ (60 : Int32) → x_K E (d - 1) 112 [.ref 142] I (fun v I2 => x_P E d 153 25 [.ref 142, .int a1, .int a2, x_jk] (v.toList ++ []) I2 Q)) ∧ (¬ ((0 : Int32) ≤ a1 ∧ a1 ≤ (60 : Int32)) → Q (some (.int (-2 : Int32))) I))) ∧ (¬ (a2 = 0) → ((0 ≤ (a2 - (10 : Int32)) ∧ (a2 - (10 : Int32)) ≤ (I 143 31) - 1 → (((0 : Int32) ≤ a1 ∧ a1 ≤ (60 : Int32) → x_K E (d - 1) 112 [.ref 142] I (fun v I2 => x_P E d 153 25 [.ref 142, .int a1, .int a2, x_jk] (v.toList ++ []) I2 Q)) ∧ (¬ ((0 : Int32) ≤ a1 ∧ a1 ≤ (60 : Int32)) → Q (some (.int (-2 : Int32))) I))) ∧ (¬ (0 ≤ (a2 - (10 : Int32)) ∧ (a2 - (10 : Int32)) ≤ (I 143 31) - 1) → ((0 ≤ (a2 - (20 : Int32)) ∧ (a2 - (20 : Int32)) ≤ (I 143 31) - 1 → (((0 : Int32) ≤ a1 ∧ a1 ≤ (60 : Int32) → x_K E (d - 1) 112 [.ref 142] I (fun v I2 => x_P E d 153 25 [.ref 142, .int a1, .int a2, x_jk] (v.toList ++ []) I2 Q)) ∧ (¬ ((0 : Int32) ≤ a1 ∧ a1 ≤ (60 : Int32)) → Q (some (.int (-2 : Int32))) I))) ∧ (¬ (0 ≤ (a2 - (20 : Int32)) ∧ (a2 - (20 : Int32)) ≤ (I 143 31) - 1) → Q (some (.int (-1 : Int32))) I))))))) :
    x_P E d 153 0 [.ref 142, .int a1, .int a2, x_jk] [] I Q := by
  refine wp_iload_n rfl rfl rfl ?_
  refine wp_if_eq rfl (fun c_1 => ?_) (fun c_1 => ?_)
  · replace H := H.1 c_1
    refine wp_iload_n rfl rfl rfl ?_
    refine wp_iconst (v := (0 : Int32)) rfl (by decide) ?_
    refine wp_bipush (v := (60 : Int32)) rfl (by decide) ?_
    refine s_invStP (As := [.int a1, .int (0 : Int32), .int (60 : Int32)]) (d1 := d - 1) rfl ⟨by decide, by decide⟩ rfl rfl rfl (Nat.le_of_ble_eq_true rfl) (by omega) (p_in (by omega)) ?_
    refine s_bi_ne rfl (fun c_2 => ?_) (fun c_2 => ?_)
    · replace H := H.1 c_2
      refine wp_aload_n rfl rfl rfl ?_
      refine s_invV (As := []) (d1 := d - 1) rfl ⟨by decide, by decide⟩ rfl rfl rfl (Nat.le_of_ble_eq_true rfl) (by omega) (kd_142 _) (by decide) rfl rfl H ?_
      intro v I2 h2
      exact h2
    · replace H := H.2 c_2
      refine wp_bipush (v := (-2 : Int32)) rfl (by decide) ?_
      exact s_iret rfl rfl rfl H
  · replace H := H.2 c_1
    refine wp_aload_n rfl rfl rfl ?_
    refine wp_iload_n rfl rfl rfl ?_
    refine wp_bipush (v := (10 : Int32)) rfl (by decide) ?_
    refine wp_isub rfl ?_
    refine s_invVP (As := [.int (a2 - (10 : Int32))]) (d1 := d - 1) rfl ⟨by decide, by decide⟩ rfl rfl rfl (Nat.le_of_ble_eq_true rfl) (by omega) (kd_142 _) (by decide) rfl rfl (p_isMan (by omega)) ?_
    refine s_bi_ne rfl (fun c_3 => ?_) (fun c_3 => ?_)
    · replace H := H.1 c_3
      refine wp_iload_n rfl rfl rfl ?_
      refine wp_iconst (v := (0 : Int32)) rfl (by decide) ?_
      refine wp_bipush (v := (60 : Int32)) rfl (by decide) ?_
      refine s_invStP (As := [.int a1, .int (0 : Int32), .int (60 : Int32)]) (d1 := d - 1) rfl ⟨by decide, by decide⟩ rfl rfl rfl (Nat.le_of_ble_eq_true rfl) (by omega) (p_in (by omega)) ?_
      refine s_bi_ne rfl (fun c_4 => ?_) (fun c_4 => ?_)
      · replace H := H.1 c_4
        refine wp_aload_n rfl rfl rfl ?_
        refine s_invV (As := []) (d1 := d - 1) rfl ⟨by decide, by decide⟩ rfl rfl rfl (Nat.le_of_ble_eq_true rfl) (by omega) (kd_142 _) (by decide) rfl rfl H ?_
        intro v I2 h2
        exact h2
      · replace H := H.2 c_4
        refine wp_bipush (v := (-2 : Int32)) rfl (by decide) ?_
        exact s_iret rfl rfl rfl H
    · replace H := H.2 c_3
      refine wp_aload_n rfl rfl rfl ?_
      refine wp_iload_n rfl rfl rfl ?_
      refine wp_bipush (v := (20 : Int32)) rfl (by decide) ?_
      refine wp_isub rfl ?_
      refine s_invVP (As := [.int (a2 - (20 : Int32))]) (d1 := d - 1) rfl ⟨by decide, by decide⟩ rfl rfl rfl (Nat.le_of_ble_eq_true rfl) (by omega) (kd_142 _) (by decide) rfl rfl (p_isMan (by omega)) ?_
      refine s_bi_ne rfl (fun c_5 => ?_) (fun c_5 => ?_)
      · replace H := H.1 c_5
        refine wp_iload_n rfl rfl rfl ?_
        refine wp_iconst (v := (0 : Int32)) rfl (by decide) ?_
        refine wp_bipush (v := (60 : Int32)) rfl (by decide) ?_
        refine s_invStP (As := [.int a1, .int (0 : Int32), .int (60 : Int32)]) (d1 := d - 1) rfl ⟨by decide, by decide⟩ rfl rfl rfl (Nat.le_of_ble_eq_true rfl) (by omega) (p_in (by omega)) ?_
        refine s_bi_ne rfl (fun c_6 => ?_) (fun c_6 => ?_)
        · replace H := H.1 c_6
          refine wp_aload_n rfl rfl rfl ?_
          refine s_invV (As := []) (d1 := d - 1) rfl ⟨by decide, by decide⟩ rfl rfl rfl (Nat.le_of_ble_eq_true rfl) (by omega) (kd_142 _) (by decide) rfl rfl H ?_
          intro v I2 h2
          exact h2
        · replace H := H.2 c_6
          refine wp_bipush (v := (-2 : Int32)) rfl (by decide) ?_
          exact s_iret rfl rfl rfl H
      · replace H := H.2 c_5
        refine wp_iconst (v := (-1 : Int32)) rfl (by decide) ?_
        exact s_iret rfl rfl rfl H
set_option maxRecDepth 20000 in
theorem r_M_on_25 {E : XE} {d : Nat} {I : Nat → Nat → Int32} {Q : Option Value → (Nat → Nat → Int32) → Prop} (hd : 1 ≤ d) (v1 : Int32) (v2 : Int32)
    (H : x_K E (d - 1) 150 [.ref 142, .int v1] I (fun v I2 => x_P E d 153 28 [.ref 142, x_jk, .int v2, x_jk] (v.toList ++ []) I2 Q)) :
    x_P E d 153 25 [.ref 142, .int v1, .int v2, x_jk] [] I Q := by
  refine wp_aload_n rfl rfl rfl ?_
  refine wp_iload_n rfl rfl rfl ?_
  refine s_invV (As := [.int v1]) (d1 := d - 1) rfl ⟨by decide, by decide⟩ rfl rfl rfl (Nat.le_of_ble_eq_true rfl) (by omega) (kd_142 _) (by decide) rfl rfl H ?_
  intro v I2 h2
  exact x_P.weak (L := [.ref 142, x_jk, .int v2, x_jk]) (by exact ⟨Or.inr rfl, ⟨Or.inl rfl, ⟨Or.inr rfl, ⟨Or.inr rfl, trivial⟩⟩⟩⟩) h2
set_option maxRecDepth 20000 in
theorem r_M_on_28 {E : XE} {d : Nat} {I : Nat → Nat → Int32} {Q : Option Value → (Nat → Nat → Int32) → Prop} (hd : 1 ≤ d) (v2 : Int32)
    (H : ((v2 = 0 → x_K E (d - 1) 145 [.ref 142, .int (13 : Int32)] I (fun v I2 => x_P E d 153 33 [.ref 142, x_jk, x_jk, x_jk] (v.toList ++ []) I2 Q)) ∧ (¬ (v2 = 0) → (((20 : Int32) ≤ v2 → vp_in (((1 : Int32) + v2) - (20 : Int32)) 931)) ∧ ((¬ ((20 : Int32) ≤ v2) → vp_in (((7 : Int32) + v2) - (10 : Int32)) 931)) ∧ (∀ z_5, z_5 = (if (20 : Int32) ≤ v2 then (I 143 (((1 : Int32) + v2) - (20 : Int32)).toNatClampNeg) else (I 143 (((7 : Int32) + v2) - (10 : Int32)).toNatClampNeg)) → x_K E (d - 1) 113 [.ref 142] I (fun v I2 => x_P E d 153 57 [x_jk, x_jk, x_jk, .int z_5] (v.toList ++ []) I2 Q))))) :
    x_P E d 153 28 [.ref 142, x_jk, .int v2, x_jk] [] I Q := by
  refine wp_iload_n rfl rfl rfl ?_
  refine wp_if_ne rfl (fun c_1 => ?_) (fun c_1 => ?_)
  · replace H := H.2 c_1
    refine wp_iload_n rfl rfl rfl ?_
    refine wp_bipush (v := (20 : Int32)) rfl (by decide) ?_
    obtain ⟨o_3, H⟩ := H
    obtain ⟨o_4, H⟩ := H
    obtain ⟨z_5, hz_5⟩ : ∃ z : Int32, z = (if (20 : Int32) ≤ v2 then (I 143 (((1 : Int32) + v2) - (20 : Int32)).toNatClampNeg) else (I 143 (((7 : Int32) + v2) - (10 : Int32)).toNatClampNeg)) := ⟨_, rfl⟩
    replace H := H _ hz_5
    have J : x_P E d 153 54 [.ref 142, x_jk, .int v2, x_jk] [.int z_5] I Q := by
      refine wp_istore_n (L' := [.ref 142, x_jk, .int v2, .int z_5]) rfl rfl (by decide) rfl rfl ?_
      refine wp_aload_n rfl rfl rfl ?_
      refine s_invV (As := []) (d1 := d - 1) rfl ⟨by decide, by decide⟩ rfl rfl rfl (Nat.le_of_ble_eq_true rfl) (by omega) (kd_142 _) (by decide) rfl rfl H ?_
      intro v I2 h2
      exact x_P.weak (L := [x_jk, x_jk, x_jk, .int z_5]) (by exact ⟨Or.inl rfl, ⟨Or.inr rfl, ⟨Or.inl rfl, ⟨Or.inr rfl, trivial⟩⟩⟩⟩) h2
    refine wp_icmp_ge rfl (fun c_2 => ?_) (fun c_2 => ?_)
    · refine wp_aload_n rfl rfl rfl ?_
      refine wp_getR (v := .ref 143) rfl (by decide) (kd_142 _) rfl (kr_142_1 _) ?_
      refine wp_iconst (v := (1 : Int32)) rfl (by decide) ?_
      refine wp_iload_n rfl rfl rfl ?_
      refine wp_iadd rfl ?_
      refine wp_bipush (v := (20 : Int32)) rfl (by decide) ?_
      refine wp_isub rfl ?_
      refine s_iald rfl (kd_143 _) (o_3 c_2) ?_
      exact x_P.cong rfl (by rw [show z_5 = (I 143 (((1 : Int32) + v2) - (20 : Int32)).toNatClampNeg) from by rw [hz_5]; simp only [if_pos c_2]]) J
    · refine wp_aload_n rfl rfl rfl ?_
      refine wp_getR (v := .ref 143) rfl (by decide) (kd_142 _) rfl (kr_142_1 _) ?_
      refine wp_bipush (v := (7 : Int32)) rfl (by decide) ?_
      refine wp_iload_n rfl rfl rfl ?_
      refine wp_iadd rfl ?_
      refine wp_bipush (v := (10 : Int32)) rfl (by decide) ?_
      refine wp_isub rfl ?_
      refine s_iald rfl (kd_143 _) (o_4 c_2) ?_
      refine wp_goto rfl ?_
      exact x_P.cong rfl (by rw [show z_5 = (I 143 (((7 : Int32) + v2) - (10 : Int32)).toNatClampNeg) from by rw [hz_5]; simp only [if_neg c_2]]) J
  · replace H := H.1 c_1
    refine wp_aload_n rfl rfl rfl ?_
    refine wp_bipush (v := (13 : Int32)) rfl (by decide) ?_
    refine s_invV (As := [.int (13 : Int32)]) (d1 := d - 1) rfl ⟨by decide, by decide⟩ rfl rfl rfl (Nat.le_of_ble_eq_true rfl) (by omega) (kd_142 _) (by decide) rfl rfl H ?_
    intro v I2 h2
    exact x_P.weak (L := [.ref 142, x_jk, x_jk, x_jk]) (by exact ⟨Or.inr rfl, ⟨Or.inr rfl, ⟨Or.inl rfl, ⟨Or.inr rfl, trivial⟩⟩⟩⟩) h2
set_option maxRecDepth 20000 in
theorem r_M_on_33 {E : XE} {d : Nat} {I : Nat → Nat → Int32} {Q : Option Value → (Nat → Nat → Int32) → Prop} (hd : 1 ≤ d) (w : Int32)
    (H : x_K E (d - 1) 113 [.ref 142] I (fun v I2 => x_P E d 153 57 [x_jk, x_jk, x_jk, .int w] (v.toList ++ []) I2 Q)) :
    x_P E d 153 33 [.ref 142, x_jk, x_jk, x_jk] [.int w] I Q := by
  refine wp_goto rfl ?_
  refine wp_istore_n (L' := [.ref 142, x_jk, x_jk, .int w]) rfl rfl (by decide) rfl rfl ?_
  refine wp_aload_n rfl rfl rfl ?_
  refine s_invV (As := []) (d1 := d - 1) rfl ⟨by decide, by decide⟩ rfl rfl rfl (Nat.le_of_ble_eq_true rfl) (by omega) (kd_142 _) (by decide) rfl rfl H ?_
  intro v I2 h2
  exact x_P.weak (L := [x_jk, x_jk, x_jk, .int w]) (by exact ⟨Or.inl rfl, ⟨Or.inr rfl, ⟨Or.inr rfl, ⟨Or.inr rfl, trivial⟩⟩⟩⟩) h2
set_option maxRecDepth 20000 in
theorem r_M_on_57 {E : XE} {d : Nat} {I : Nat → Nat → Int32} {Q : Option Value → (Nat → Nat → Int32) → Prop} (hd : 1 ≤ d) (v3 : Int32)
    (H : Q (some (.int v3)) I) :
    x_P E d 153 57 [x_jk, x_jk, x_jk, .int v3] [] I Q := by
  refine wp_iload_n rfl rfl rfl ?_
  exact s_iret rfl rfl rfl H
set_option maxRecDepth 20000 in
theorem r_M_when_0 {E : XE} {d : Nat} {I : Nat → Nat → Int32} {Q : Option Value → (Nat → Nat → Int32) → Prop} (hd : 3 ≤ d) (a1 : Int32)
    (H : ((0 ≤ a1 ∧ a1 ≤ (I 143 31) - 1 → x_K E (d - 1) 112 [.ref 142] I (fun v I2 => x_P E d 154 8 [.ref 142, .int a1, x_jk, x_jk] (v.toList ++ []) I2 Q)) ∧ (¬ (0 ≤ a1 ∧ a1 ≤ (I 143 31) - 1) → Q (some (.int (-1 : Int32))) I))) :
    x_P E d 154 0 [.ref 142, .int a1, x_jk, x_jk] [] I Q := by
  refine wp_aload_n rfl rfl rfl ?_
  refine wp_iload_n rfl rfl rfl ?_
  refine s_invVP (As := [.int a1]) (d1 := d - 1) rfl ⟨by decide, by decide⟩ rfl rfl rfl (Nat.le_of_ble_eq_true rfl) (by omega) (kd_142 _) (by decide) rfl rfl (p_isMan (by omega)) ?_
  refine s_bi_ne rfl (fun c_1 => ?_) (fun c_1 => ?_)
  · replace H := H.1 c_1
    refine wp_aload_n rfl rfl rfl ?_
    refine s_invV (As := []) (d1 := d - 1) rfl ⟨by decide, by decide⟩ rfl rfl rfl (Nat.le_of_ble_eq_true rfl) (by omega) (kd_142 _) (by decide) rfl rfl H ?_
    intro v I2 h2
    exact h2
  · replace H := H.2 c_1
    refine wp_iconst (v := (-1 : Int32)) rfl (by decide) ?_
    exact s_iret rfl rfl rfl H
set_option maxRecDepth 20000 in
theorem r_M_when_8 {E : XE} {d : Nat} {I : Nat → Nat → Int32} {Q : Option Value → (Nat → Nat → Int32) → Prop} (hd : 1 ≤ d) (v1 : Int32)
    (H : x_P E d 154 12 [.ref 142, .int v1, .int (-5 : Int32), .int (0 : Int32)] [] I Q) :
    x_P E d 154 8 [.ref 142, .int v1, x_jk, x_jk] [] I Q := by
  refine wp_bipush (v := (-5 : Int32)) rfl (by decide) ?_
  refine wp_istore_n (L' := [.ref 142, .int v1, .int (-5 : Int32), x_jk]) rfl rfl (by decide) rfl rfl ?_
  refine wp_iconst (v := (0 : Int32)) rfl (by decide) ?_
  refine wp_istore_n (L' := [.ref 142, .int v1, .int (-5 : Int32), .int (0 : Int32)]) rfl rfl (by decide) rfl rfl ?_
  exact H
set_option maxRecDepth 20000 in
theorem r_M_when_12 {E : XE} {d : Nat} {I : Nat → Nat → Int32} {Q : Option Value → (Nat → Nat → Int32) → Prop} (hd : 1 ≤ d) (v1 : Int32) (v2 : Int32) (v3 : Int32)
    (H : (((60 : Int32) < v3 → x_K E (d - 1) 113 [.ref 142] I (fun v I2 => x_P E d 154 37 [x_jk, x_jk, .int v2, x_jk] (v.toList ++ []) I2 Q)) ∧ (¬ ((60 : Int32) < v3) → ((v2 = (-5 : Int32) → (vp_in ((13 : Int32) + v1) 931) ∧ (∀ z_5, z_5 = (if (I 143 ((13 : Int32) + v1).toNatClampNeg) = (1 : Int32) then v3 else (-5 : Int32)) → x_K E (d - 1) 151 [.ref 142, .int v1] I (fun v I2 => x_P E d 154 33 [.ref 142, .int v1, .int z_5, .int v3] (v.toList ++ []) I2 Q))) ∧ (¬ (v2 = (-5 : Int32)) → x_K E (d - 1) 113 [.ref 142] I (fun v I2 => x_P E d 154 37 [x_jk, x_jk, .int v2, x_jk] (v.toList ++ []) I2 Q)))))) :
    x_P E d 154 12 [.ref 142, .int v1, .int v2, .int v3] [] I Q := by
  refine wp_iload_n rfl rfl rfl ?_
  refine wp_bipush (v := (60 : Int32)) rfl (by decide) ?_
  refine wp_icmp_gt rfl (fun c_1 => ?_) (fun c_1 => ?_)
  · replace H := H.1 c_1
    refine wp_aload_n rfl rfl rfl ?_
    refine s_invV (As := []) (d1 := d - 1) rfl ⟨by decide, by decide⟩ rfl rfl rfl (Nat.le_of_ble_eq_true rfl) (by omega) (kd_142 _) (by decide) rfl rfl H ?_
    intro v I2 h2
    exact x_P.weak (L := [x_jk, x_jk, .int v2, x_jk]) (by exact ⟨Or.inl rfl, ⟨Or.inl rfl, ⟨Or.inr rfl, ⟨Or.inl rfl, trivial⟩⟩⟩⟩) h2
  · replace H := H.2 c_1
    refine wp_iload_n rfl rfl rfl ?_
    refine wp_bipush (v := (-5 : Int32)) rfl (by decide) ?_
    refine wp_icmp_ne rfl (fun c_2 => ?_) (fun c_2 => ?_)
    · replace H := H.2 c_2
      refine wp_aload_n rfl rfl rfl ?_
      refine s_invV (As := []) (d1 := d - 1) rfl ⟨by decide, by decide⟩ rfl rfl rfl (Nat.le_of_ble_eq_true rfl) (by omega) (kd_142 _) (by decide) rfl rfl H ?_
      intro v I2 h2
      exact x_P.weak (L := [x_jk, x_jk, .int v2, x_jk]) (by exact ⟨Or.inl rfl, ⟨Or.inl rfl, ⟨Or.inr rfl, ⟨Or.inl rfl, trivial⟩⟩⟩⟩) h2
    · replace H := H.1 c_2
      refine wp_aload_n rfl rfl rfl ?_
      refine wp_getR (v := .ref 143) rfl (by decide) (kd_142 _) rfl (kr_142_1 _) ?_
      refine wp_bipush (v := (13 : Int32)) rfl (by decide) ?_
      refine wp_iload_n rfl rfl rfl ?_
      refine wp_iadd rfl ?_
      obtain ⟨o_3, H⟩ := H
      refine s_iald rfl (kd_143 _) o_3 ?_
      refine wp_iconst (v := (1 : Int32)) rfl (by decide) ?_
      obtain ⟨z_5, hz_5⟩ : ∃ z : Int32, z = (if (I 143 ((13 : Int32) + v1).toNatClampNeg) = (1 : Int32) then v3 else (-5 : Int32)) := ⟨_, rfl⟩
      replace H := H _ hz_5
      have J : x_P E d 154 29 [.ref 142, .int v1, .int v2, .int v3] [.int z_5] I Q := by
        refine wp_istore_n (L' := [.ref 142, .int v1, .int z_5, .int v3]) rfl rfl (by decide) rfl rfl ?_
        refine wp_aload_n rfl rfl rfl ?_
        refine wp_iload_n rfl rfl rfl ?_
        refine s_invV (As := [.int v1]) (d1 := d - 1) rfl ⟨by decide, by decide⟩ rfl rfl rfl (Nat.le_of_ble_eq_true rfl) (by omega) (kd_142 _) (by decide) rfl rfl H ?_
        intro v I2 h2
        exact h2
      refine wp_icmp_ne rfl (fun c_4 => ?_) (fun c_4 => ?_)
      · refine wp_bipush (v := (-5 : Int32)) rfl (by decide) ?_
        exact x_P.cong rfl (by rw [show z_5 = (-5 : Int32) from by rw [hz_5]; simp only [if_neg c_4]]) J
      · refine wp_iload_n rfl rfl rfl ?_
        refine wp_goto rfl ?_
        exact x_P.cong rfl (by rw [show z_5 = v3 from by rw [hz_5]; simp only [if_pos c_4]]) J
set_option maxRecDepth 20000 in
theorem r_M_when_33 {E : XE} {d : Nat} {I : Nat → Nat → Int32} {Q : Option Value → (Nat → Nat → Int32) → Prop} (hd : 1 ≤ d) (v1 : Int32) (v2 : Int32) (v3 : Int32)
    (H : x_P E d 154 12 [.ref 142, .int v1, .int v2, .int (v3 + 1)] [] I Q) :
    x_P E d 154 33 [.ref 142, .int v1, .int v2, .int v3] [] I Q := by
  refine wp_iinc (v := v3 + 1) (L' := [.ref 142, .int v1, .int v2, .int (v3 + 1)]) rfl rfl rfl rfl rfl ?_
  refine wp_goto rfl ?_
  exact H
set_option maxRecDepth 20000 in
theorem r_M_when_37 {E : XE} {d : Nat} {I : Nat → Nat → Int32} {Q : Option Value → (Nat → Nat → Int32) → Prop} (hd : 1 ≤ d) (v2 : Int32)
    (H : Q (some (.int v2)) I) :
    x_P E d 154 37 [x_jk, x_jk, .int v2, x_jk] [] I Q := by
  refine wp_iload_n rfl rfl rfl ?_
  exact s_iret rfl rfl rfl H
set_option maxRecDepth 20000 in
theorem r_M_firstWithout_0 {E : XE} {d : Nat} {I : Nat → Nat → Int32} {Q : Option Value → (Nat → Nat → Int32) → Prop} (hd : 1 ≤ d) 
    (H : x_P E d 155 2 [.ref 142, .int (0 : Int32)] [] I Q) :
    x_P E d 155 0 [.ref 142, x_jk] [] I Q := by
  refine wp_iconst (v := (0 : Int32)) rfl (by decide) ?_
  refine wp_istore_n (L' := [.ref 142, .int (0 : Int32)]) rfl rfl (by decide) rfl rfl ?_
  exact H
set_option maxRecDepth 20000 in
theorem r_M_firstWithout_2 {E : XE} {d : Nat} {I : Nat → Nat → Int32} {Q : Option Value → (Nat → Nat → Int32) → Prop} (hd : 1 ≤ d) (v1 : Int32)
    (H : (((I 143 31) ≤ v1 → Q (some (.int (-1 : Int32))) I) ∧ (¬ ((I 143 31) ≤ v1) → (vp_in ((19 : Int32) + v1) 931) ∧ (((I 143 ((19 : Int32) + v1).toNatClampNeg) = 0 → (vp_in v1 6) ∧ (((I 148 v1.toNatClampNeg) = (-1 : Int32) → Q (some (.int v1)) I) ∧ (¬ ((I 148 v1.toNatClampNeg) = (-1 : Int32)) → x_P E d 155 2 [.ref 142, .int (v1 + 1)] [] I Q))) ∧ (¬ ((I 143 ((19 : Int32) + v1).toNatClampNeg) = 0) → x_P E d 155 2 [.ref 142, .int (v1 + 1)] [] I Q))))) :
    x_P E d 155 2 [.ref 142, .int v1] [] I Q := by
  refine wp_iload_n rfl rfl rfl ?_
  refine wp_aload_n rfl rfl rfl ?_
  refine wp_getR (v := .ref 143) rfl (by decide) (kd_142 _) rfl (kr_142_1 _) ?_
  refine wp_bipush (v := (31 : Int32)) rfl (by decide) ?_
  refine s_ialdc (k0 := 31) rfl (kd_143 _) rfl ?_
  refine wp_icmp_ge rfl (fun c_1 => ?_) (fun c_1 => ?_)
  · replace H := H.1 c_1
    refine wp_iconst (v := (-1 : Int32)) rfl (by decide) ?_
    exact s_iret rfl rfl rfl H
  · replace H := H.2 c_1
    refine wp_aload_n rfl rfl rfl ?_
    refine wp_getR (v := .ref 143) rfl (by decide) (kd_142 _) rfl (kr_142_1 _) ?_
    refine wp_bipush (v := (19 : Int32)) rfl (by decide) ?_
    refine wp_iload_n rfl rfl rfl ?_
    refine wp_iadd rfl ?_
    obtain ⟨o_2, H⟩ := H
    refine s_iald rfl (kd_143 _) o_2 ?_
    refine wp_if_ne rfl (fun c_3 => ?_) (fun c_3 => ?_)
    · replace H := H.2 c_3
      refine wp_iinc (v := v1 + 1) (L' := [.ref 142, .int (v1 + 1)]) rfl rfl rfl rfl rfl ?_
      refine wp_goto rfl ?_
      exact H
    · replace H := H.1 c_3
      refine wp_aload_n rfl rfl rfl ?_
      refine wp_getR (v := .ref 148) rfl (by decide) (kd_142 _) rfl (kr_142_12 _) ?_
      refine wp_iload_n rfl rfl rfl ?_
      obtain ⟨o_4, H⟩ := H
      refine s_iald rfl (kd_148 _) o_4 ?_
      refine wp_iconst (v := (-1 : Int32)) rfl (by decide) ?_
      refine wp_icmp_ne rfl (fun c_5 => ?_) (fun c_5 => ?_)
      · replace H := H.2 c_5
        refine wp_iinc (v := v1 + 1) (L' := [.ref 142, .int (v1 + 1)]) rfl rfl rfl rfl rfl ?_
        refine wp_goto rfl ?_
        exact H
      · replace H := H.1 c_5
        refine wp_iload_n rfl rfl rfl ?_
        exact s_iret rfl rfl rfl H
set_option maxRecDepth 20000 in
theorem r_M_walksFrom_0 {E : XE} {d : Nat} {I : Nat → Nat → Int32} {Q : Option Value → (Nat → Nat → Int32) → Prop} (hd : 1 ≤ d) (a1 : Int32) (a2 : Int32)
    (H : x_K E (d - 1) 155 [.ref 142] I (fun v I2 => x_P E d 156 2 [.ref 142, .int a1, .int a2, x_jk, x_jk, x_jk] (v.toList ++ []) I2 Q)) :
    x_P E d 156 0 [.ref 142, .int a1, .int a2, x_jk, x_jk, x_jk] [] I Q := by
  refine wp_aload_n rfl rfl rfl ?_
  refine s_invV (As := []) (d1 := d - 1) rfl ⟨by decide, by decide⟩ rfl rfl rfl (Nat.le_of_ble_eq_true rfl) (by omega) (kd_142 _) (by decide) rfl rfl H ?_
  intro v I2 h2
  exact h2
set_option maxRecDepth 20000 in
theorem r_M_walksFrom_2 {E : XE} {d : Nat} {I : Nat → Nat → Int32} {Q : Option Value → (Nat → Nat → Int32) → Prop} (hd : 1 ≤ d) (v1 : Int32) (v2 : Int32) (w : Int32)
    (H : ((w = (-1 : Int32) → (∀ z_4, z_4 = (if ¬ ((I 142 14) ≤ v1) then v1 else (I 142 14)) → (∀ I_5, I_5 = x_up I 142 14 z_4 → x_P E d 156 24 [.ref 142, x_jk, x_jk, x_jk, .int (x_bi (¬ ((I 142 14) ≤ v1))), .int (0 : Int32)] [] I_5 Q))) ∧ (¬ (w = (-1 : Int32)) → x_P E d 156 44 [.ref 142, .int v1, .int v2, .int w, .int (w + (1 : Int32)), x_jk] [] I Q))) :
    x_P E d 156 2 [.ref 142, .int v1, .int v2, x_jk, x_jk, x_jk] [.int w] I Q := by
  refine wp_istore_n (L' := [.ref 142, .int v1, .int v2, .int w, x_jk, x_jk]) rfl rfl (by decide) rfl rfl ?_
  refine wp_iload_n rfl rfl rfl ?_
  refine wp_iconst (v := (-1 : Int32)) rfl (by decide) ?_
  refine wp_icmp_ne rfl (fun c_1 => ?_) (fun c_1 => ?_)
  · replace H := H.2 c_1
    refine wp_iload_n rfl rfl rfl ?_
    refine wp_iconst (v := (1 : Int32)) rfl (by decide) ?_
    refine wp_iadd rfl ?_
    refine wp_istore (L' := [.ref 142, .int v1, .int v2, .int w, .int (w + (1 : Int32)), x_jk]) rfl (by decide) rfl rfl ?_
    exact H
  · replace H := H.1 c_1
    refine wp_iload_n rfl rfl rfl ?_
    refine wp_aload_n rfl rfl rfl ?_
    refine s_getI rfl (by decide) (kd_142 _) rfl ?_
    have J : x_P E d 156 13 [.ref 142, .int v1, .int v2, .int w, x_jk, x_jk] [.int (x_bi (¬ ((I 142 14) ≤ v1)))] I Q := by
      refine wp_istore (L' := [.ref 142, .int v1, .int v2, .int w, .int (x_bi (¬ ((I 142 14) ≤ v1))), x_jk]) rfl (by decide) rfl rfl ?_
      refine wp_aload_n rfl rfl rfl ?_
      refine wp_iload rfl rfl ?_
      obtain ⟨z_4, hz_4⟩ : ∃ z : Int32, z = (if ¬ ((I 142 14) ≤ v1) then v1 else (I 142 14)) := ⟨_, rfl⟩
      replace H := H _ hz_4
      have J : x_P E d 156 21 [.ref 142, .int v1, .int v2, .int w, .int (x_bi (¬ ((I 142 14) ≤ v1))), x_jk] [.int z_4, .ref 142] I Q := by
        refine s_putI rfl (by decide) (kd_142 _) rfl rfl (x_fit_int _) ?_
        generalize hI_5 : x_up I 142 14 z_4 = I_5
        replace H := H _ hI_5.symm
        refine wp_iconst (v := (0 : Int32)) rfl (by decide) ?_
        refine wp_istore (L' := [.ref 142, .int v1, .int v2, .int w, .int (x_bi (¬ ((I 142 14) ≤ v1))), .int (0 : Int32)]) rfl (by decide) rfl rfl ?_
        exact x_P.weak (L := [.ref 142, x_jk, x_jk, x_jk, .int (x_bi (¬ ((I 142 14) ≤ v1))), .int (0 : Int32)]) (by exact ⟨Or.inr rfl, ⟨Or.inl rfl, ⟨Or.inl rfl, ⟨Or.inl rfl, ⟨Or.inr rfl, ⟨Or.inr rfl, trivial⟩⟩⟩⟩⟩⟩) H
      refine s_bi_eq rfl (fun c_3 => ?_) (fun c_3 => ?_)
      · refine wp_aload_n rfl rfl rfl ?_
        refine s_getI rfl (by decide) (kd_142 _) rfl ?_
        exact x_P.cong rfl (by rw [show z_4 = (I 142 14) from by rw [hz_4]; simp only [if_neg c_3]]) J
      · refine wp_iload_n rfl rfl rfl ?_
        refine wp_goto rfl ?_
        exact x_P.cong rfl (by rw [show z_4 = v1 from by rw [hz_4]; simp only [if_pos c_3]]) J
    refine wp_icmp_ge rfl (fun c_2 => ?_) (fun c_2 => ?_)
    · refine wp_iconst (v := (0 : Int32)) rfl (by decide) ?_
      exact x_P.cong rfl (by rw [show x_bi (¬ ((I 142 14) ≤ v1)) = (0 : Int32) from x_bi_f (fun h => h c_2)]) J
    · refine wp_iconst (v := (1 : Int32)) rfl (by decide) ?_
      refine wp_goto rfl ?_
      exact x_P.cong rfl (by rw [show x_bi (¬ ((I 142 14) ≤ v1)) = (1 : Int32) from x_bi_t c_2]) J
set_option maxRecDepth 20000 in
theorem r_M_walksFrom_24 {E : XE} {d : Nat} {I : Nat → Nat → Int32} {Q : Option Value → (Nat → Nat → Int32) → Prop} (hd : 1 ≤ d) (v4 : Int32) (v5 : Int32)
    (H : (((6 : Int32) ≤ v5 → Q none I) ∧ (¬ ((6 : Int32) ≤ v5) → ((v4 = 0 → Q none I) ∧ (¬ (v4 = 0) → (vp_in v5 6) ∧ (vp_in v5 6) ∧ (∀ I_5, I_5 = x_up I 149 v5.toNatClampNeg (I 148 v5.toNatClampNeg) → x_P E d 156 24 [.ref 142, x_jk, x_jk, x_jk, .int v4, .int (v5 + 1)] [] I_5 Q)))))) :
    x_P E d 156 24 [.ref 142, x_jk, x_jk, x_jk, .int v4, .int v5] [] I Q := by
  refine wp_iload rfl rfl ?_
  refine wp_bipush (v := (6 : Int32)) rfl (by decide) ?_
  refine wp_icmp_ge rfl (fun c_1 => ?_) (fun c_1 => ?_)
  · replace H := H.1 c_1
    exact s_vret rfl rfl H
  · replace H := H.2 c_1
    refine wp_iload rfl rfl ?_
    refine wp_if_eq rfl (fun c_2 => ?_) (fun c_2 => ?_)
    · replace H := H.1 c_2
      exact s_vret rfl rfl H
    · replace H := H.2 c_2
      refine wp_aload_n rfl rfl rfl ?_
      refine wp_getR (v := .ref 149) rfl (by decide) (kd_142 _) rfl (kr_142_13 _) ?_
      refine wp_iload rfl rfl ?_
      refine wp_aload_n rfl rfl rfl ?_
      refine wp_getR (v := .ref 148) rfl (by decide) (kd_142 _) rfl (kr_142_12 _) ?_
      refine wp_iload rfl rfl ?_
      obtain ⟨o_3, H⟩ := H
      refine s_iald rfl (kd_148 _) o_3 ?_
      obtain ⟨o_4, H⟩ := H
      refine s_iast rfl (kd_149 _) o_4 ?_
      generalize hI_5 : x_up I 149 v5.toNatClampNeg (I 148 v5.toNatClampNeg) = I_5
      replace H := H _ hI_5.symm
      refine wp_iinc (v := v5 + 1) (L' := [.ref 142, x_jk, x_jk, x_jk, .int v4, .int (v5 + 1)]) rfl rfl rfl rfl rfl ?_
      refine wp_goto rfl ?_
      exact H
set_option maxRecDepth 20000 in
theorem r_M_walksFrom_44 {E : XE} {d : Nat} {I : Nat → Nat → Int32} {Q : Option Value → (Nat → Nat → Int32) → Prop} (hd : 1 ≤ d) (v1 : Int32) (v2 : Int32) (v3 : Int32) (v4 : Int32)
    (H : (((I 143 31) ≤ v4 → (vp_in v3 6) ∧ (∀ I_3, I_3 = x_up I 148 v3.toNatClampNeg (9 : Int32) → ((v2 ≤ 0 → (vp_in v3 6) ∧ (∀ I_6, I_6 = x_up I_3 148 v3.toNatClampNeg (-1 : Int32) → Q none I_6)) ∧ (¬ (v2 ≤ 0) → x_K E (d - 1) 156 [.ref 142, .int v1, .int (v2 - (1 : Int32))] I_3 (fun v I2 => x_P E d 156 102 [.ref 142, x_jk, x_jk, .int v3, x_jk, x_jk] (v.toList ++ []) I2 Q))))) ∧ (¬ ((I 143 31) ≤ v4) → (vp_in ((19 : Int32) + v4) 931) ∧ (((I 143 ((19 : Int32) + v4).toNatClampNeg) = 0 → (vp_in v4 6) ∧ (((I 148 v4.toNatClampNeg) = (-1 : Int32) → (vp_in v3 6) ∧ (∀ I_12, I_12 = x_up I 148 v3.toNatClampNeg v4 → (vp_in v4 6) ∧ (∀ I_14, I_14 = x_up I_12 148 v4.toNatClampNeg v3 → x_K E (d - 1) 133 [.ref 142, .int v3, .int v4] I_14 (fun v I2 => x_P E d 156 79 [.ref 142, .int v1, .int v2, .int v3, .int v4, x_jk] (v.toList ++ [.int v1, .ref 142]) I2 Q)))) ∧ (¬ ((I 148 v4.toNatClampNeg) = (-1 : Int32)) → x_P E d 156 44 [.ref 142, .int v1, .int v2, .int v3, .int (v4 + 1), x_jk] [] I Q))) ∧ (¬ ((I 143 ((19 : Int32) + v4).toNatClampNeg) = 0) → x_P E d 156 44 [.ref 142, .int v1, .int v2, .int v3, .int (v4 + 1), x_jk] [] I Q))))) :
    x_P E d 156 44 [.ref 142, .int v1, .int v2, .int v3, .int v4, x_jk] [] I Q := by
  refine wp_iload rfl rfl ?_
  refine wp_aload_n rfl rfl rfl ?_
  refine wp_getR (v := .ref 143) rfl (by decide) (kd_142 _) rfl (kr_142_1 _) ?_
  refine wp_bipush (v := (31 : Int32)) rfl (by decide) ?_
  refine s_ialdc (k0 := 31) rfl (kd_143 _) rfl ?_
  refine wp_icmp_ge rfl (fun c_1 => ?_) (fun c_1 => ?_)
  · replace H := H.1 c_1
    refine wp_aload_n rfl rfl rfl ?_
    refine wp_getR (v := .ref 148) rfl (by decide) (kd_142 _) rfl (kr_142_12 _) ?_
    refine wp_iload_n rfl rfl rfl ?_
    refine wp_bipush (v := (9 : Int32)) rfl (by decide) ?_
    obtain ⟨o_2, H⟩ := H
    refine s_iast rfl (kd_148 _) o_2 ?_
    generalize hI_3 : x_up I 148 v3.toNatClampNeg (9 : Int32) = I_3
    replace H := H _ hI_3.symm
    refine wp_iload_n rfl rfl rfl ?_
    refine wp_if_le rfl (fun c_4 => ?_) (fun c_4 => ?_)
    · replace H := H.1 c_4
      refine wp_aload_n rfl rfl rfl ?_
      refine wp_getR (v := .ref 148) rfl (by decide) (kd_142 _) rfl (kr_142_12 _) ?_
      refine wp_iload_n rfl rfl rfl ?_
      refine wp_iconst (v := (-1 : Int32)) rfl (by decide) ?_
      obtain ⟨o_5, H⟩ := H
      refine s_iast rfl (kd_148 _) o_5 ?_
      generalize hI_6 : x_up I_3 148 v3.toNatClampNeg (-1 : Int32) = I_6
      replace H := H _ hI_6.symm
      exact s_vret rfl rfl H
    · replace H := H.2 c_4
      refine wp_aload_n rfl rfl rfl ?_
      refine wp_iload_n rfl rfl rfl ?_
      refine wp_iload_n rfl rfl rfl ?_
      refine wp_iconst (v := (1 : Int32)) rfl (by decide) ?_
      refine wp_isub rfl ?_
      refine s_invV (As := [.int v1, .int (v2 - (1 : Int32))]) (d1 := d - 1) rfl ⟨by decide, by decide⟩ rfl rfl rfl (Nat.le_of_ble_eq_true rfl) (by omega) (kd_142 _) (by decide) rfl rfl H ?_
      intro v I2 h2
      exact x_P.weak (L := [.ref 142, x_jk, x_jk, .int v3, x_jk, x_jk]) (by exact ⟨Or.inr rfl, ⟨Or.inl rfl, ⟨Or.inl rfl, ⟨Or.inr rfl, ⟨Or.inl rfl, ⟨Or.inr rfl, trivial⟩⟩⟩⟩⟩⟩) h2
  · replace H := H.2 c_1
    refine wp_aload_n rfl rfl rfl ?_
    refine wp_getR (v := .ref 143) rfl (by decide) (kd_142 _) rfl (kr_142_1 _) ?_
    refine wp_bipush (v := (19 : Int32)) rfl (by decide) ?_
    refine wp_iload rfl rfl ?_
    refine wp_iadd rfl ?_
    obtain ⟨o_7, H⟩ := H
    refine s_iald rfl (kd_143 _) o_7 ?_
    refine wp_if_ne rfl (fun c_8 => ?_) (fun c_8 => ?_)
    · replace H := H.2 c_8
      refine wp_iinc (v := v4 + 1) (L' := [.ref 142, .int v1, .int v2, .int v3, .int (v4 + 1), x_jk]) rfl rfl rfl rfl rfl ?_
      refine wp_goto rfl ?_
      exact H
    · replace H := H.1 c_8
      refine wp_aload_n rfl rfl rfl ?_
      refine wp_getR (v := .ref 148) rfl (by decide) (kd_142 _) rfl (kr_142_12 _) ?_
      refine wp_iload rfl rfl ?_
      obtain ⟨o_9, H⟩ := H
      refine s_iald rfl (kd_148 _) o_9 ?_
      refine wp_iconst (v := (-1 : Int32)) rfl (by decide) ?_
      refine wp_icmp_ne rfl (fun c_10 => ?_) (fun c_10 => ?_)
      · replace H := H.2 c_10
        refine wp_iinc (v := v4 + 1) (L' := [.ref 142, .int v1, .int v2, .int v3, .int (v4 + 1), x_jk]) rfl rfl rfl rfl rfl ?_
        refine wp_goto rfl ?_
        exact H
      · replace H := H.1 c_10
        refine wp_aload_n rfl rfl rfl ?_
        refine wp_getR (v := .ref 148) rfl (by decide) (kd_142 _) rfl (kr_142_12 _) ?_
        refine wp_iload_n rfl rfl rfl ?_
        refine wp_iload rfl rfl ?_
        obtain ⟨o_11, H⟩ := H
        refine s_iast rfl (kd_148 _) o_11 ?_
        generalize hI_12 : x_up I 148 v3.toNatClampNeg v4 = I_12
        replace H := H _ hI_12.symm
        refine wp_aload_n rfl rfl rfl ?_
        refine wp_getR (v := .ref 148) rfl (by decide) (kd_142 _) rfl (kr_142_12 _) ?_
        refine wp_iload rfl rfl ?_
        refine wp_iload_n rfl rfl rfl ?_
        obtain ⟨o_13, H⟩ := H
        refine s_iast rfl (kd_148 _) o_13 ?_
        generalize hI_14 : x_up I_12 148 v4.toNatClampNeg v3 = I_14
        replace H := H _ hI_14.symm
        refine wp_aload_n rfl rfl rfl ?_
        refine wp_iload_n rfl rfl rfl ?_
        refine wp_aload_n rfl rfl rfl ?_
        refine wp_iload_n rfl rfl rfl ?_
        refine wp_iload rfl rfl ?_
        refine s_invV (As := [.int v3, .int v4]) (d1 := d - 1) rfl ⟨by decide, by decide⟩ rfl rfl rfl (Nat.le_of_ble_eq_true rfl) (by omega) (kd_142 _) (by decide) rfl rfl H ?_
        intro v I2 h2
        exact h2
set_option maxRecDepth 20000 in
theorem r_M_walksFrom_79 {E : XE} {d : Nat} {I : Nat → Nat → Int32} {Q : Option Value → (Nat → Nat → Int32) → Prop} (hd : 1 ≤ d) (v1 : Int32) (v2 : Int32) (v3 : Int32) (v4 : Int32) (s0 : Int32) (w : Int32)
    (H : x_K E (d - 1) 156 [.ref 142, .int (s0 + w), .int v2] I (fun v I2 => x_P E d 156 82 [.ref 142, .int v1, .int v2, .int v3, .int v4, x_jk] (v.toList ++ []) I2 Q)) :
    x_P E d 156 79 [.ref 142, .int v1, .int v2, .int v3, .int v4, x_jk] [.int w, .int s0, .ref 142] I Q := by
  refine wp_iadd rfl ?_
  refine wp_iload_n rfl rfl rfl ?_
  refine s_invV (As := [.int (s0 + w), .int v2]) (d1 := d - 1) rfl ⟨by decide, by decide⟩ rfl rfl rfl (Nat.le_of_ble_eq_true rfl) (by omega) (kd_142 _) (by decide) rfl rfl H ?_
  intro v I2 h2
  exact h2
set_option maxRecDepth 20000 in
theorem r_M_walksFrom_102 {E : XE} {d : Nat} {I : Nat → Nat → Int32} {Q : Option Value → (Nat → Nat → Int32) → Prop} (hd : 1 ≤ d) (v3 : Int32)
    (H : (vp_in v3 6) ∧ (∀ I_2, I_2 = x_up I 148 v3.toNatClampNeg (-1 : Int32) → Q none I_2)) :
    x_P E d 156 102 [.ref 142, x_jk, x_jk, .int v3, x_jk, x_jk] [] I Q := by
  refine wp_aload_n rfl rfl rfl ?_
  refine wp_getR (v := .ref 148) rfl (by decide) (kd_142 _) rfl (kr_142_12 _) ?_
  refine wp_iload_n rfl rfl rfl ?_
  refine wp_iconst (v := (-1 : Int32)) rfl (by decide) ?_
  obtain ⟨o_1, H⟩ := H
  refine s_iast rfl (kd_148 _) o_1 ?_
  generalize hI_2 : x_up I 148 v3.toNatClampNeg (-1 : Int32) = I_2
  replace H := H _ hI_2.symm
  exact s_vret rfl rfl H
set_option maxRecDepth 20000 in
theorem r_M_walksFrom_82 {E : XE} {d : Nat} {I : Nat → Nat → Int32} {Q : Option Value → (Nat → Nat → Int32) → Prop} (hd : 1 ≤ d) (v1 : Int32) (v2 : Int32) (v3 : Int32) (v4 : Int32)
    (H : (vp_in v4 6) ∧ (∀ I_2, I_2 = x_up I 148 v4.toNatClampNeg (-1 : Int32) → x_P E d 156 44 [.ref 142, .int v1, .int v2, .int v3, .int (v4 + 1), x_jk] [] I_2 Q)) :
    x_P E d 156 82 [.ref 142, .int v1, .int v2, .int v3, .int v4, x_jk] [] I Q := by
  refine wp_aload_n rfl rfl rfl ?_
  refine wp_getR (v := .ref 148) rfl (by decide) (kd_142 _) rfl (kr_142_12 _) ?_
  refine wp_iload rfl rfl ?_
  refine wp_iconst (v := (-1 : Int32)) rfl (by decide) ?_
  obtain ⟨o_1, H⟩ := H
  refine s_iast rfl (kd_148 _) o_1 ?_
  generalize hI_2 : x_up I 148 v4.toNatClampNeg (-1 : Int32) = I_2
  replace H := H _ hI_2.symm
  refine wp_iinc (v := v4 + 1) (L' := [.ref 142, .int v1, .int v2, .int v3, .int (v4 + 1), x_jk]) rfl rfl rfl rfl rfl ?_
  refine wp_goto rfl ?_
  exact H
set_option maxRecDepth 20000 in
theorem r_M_looksForWalk_0 {E : XE} {d : Nat} {I : Nat → Nat → Int32} {Q : Option Value → (Nat → Nat → Int32) → Prop} (hd : 1 ≤ d) 
    (H : x_P E d 157 4 [.ref 142, .int (0 : Int32), .int (0 : Int32), x_jk] [] I Q) :
    x_P E d 157 0 [.ref 142, x_jk, x_jk, x_jk] [] I Q := by
  refine wp_iconst (v := (0 : Int32)) rfl (by decide) ?_
  refine wp_istore_n (L' := [.ref 142, .int (0 : Int32), x_jk, x_jk]) rfl rfl (by decide) rfl rfl ?_
  refine wp_iconst (v := (0 : Int32)) rfl (by decide) ?_
  refine wp_istore_n (L' := [.ref 142, .int (0 : Int32), .int (0 : Int32), x_jk]) rfl rfl (by decide) rfl rfl ?_
  exact H
set_option maxRecDepth 20000 in
theorem r_M_looksForWalk_4 {E : XE} {d : Nat} {I : Nat → Nat → Int32} {Q : Option Value → (Nat → Nat → Int32) → Prop} (hd : 1 ≤ d) (v1 : Int32) (v2 : Int32)
    (H : (((6 : Int32) ≤ v2 → (∀ I_2, I_2 = x_up I 142 14 (1000000000 : Int32) → x_K E (d - 1) 156 [.ref 142, .int (0 : Int32), .int (v1 - v1 / (2 : Int32) * (2 : Int32))] I_2 (fun v I2 => x_P E d 157 52 [x_jk, x_jk, x_jk, x_jk] (v.toList ++ []) I2 Q))) ∧ (¬ ((6 : Int32) ≤ v2) → ((¬ ((I 143 31) ≤ v2) → vp_in ((19 : Int32) + v2) 931)) ∧ (∀ z_7, z_7 = (if ¬ ((I 143 31) ≤ v2) ∧ ((I 143 ((19 : Int32) + v2).toNatClampNeg) = 0) then (-1 : Int32) else (9 : Int32)) → (vp_in v2 6) ∧ (∀ I_9, I_9 = x_up I 148 v2.toNatClampNeg z_7 → x_P E d 157 4 [.ref 142, .int (v1 + (x_bi (¬ ((I 143 31) ≤ v2) ∧ ((I 143 ((19 : Int32) + v2).toNatClampNeg) = 0)))), .int (v2 + 1), x_jk] [] I_9 Q))))) :
    x_P E d 157 4 [.ref 142, .int v1, .int v2, x_jk] [] I Q := by
  refine wp_iload_n rfl rfl rfl ?_
  refine wp_bipush (v := (6 : Int32)) rfl (by decide) ?_
  refine wp_icmp_ge rfl (fun c_1 => ?_) (fun c_1 => ?_)
  · replace H := H.1 c_1
    refine wp_aload_n rfl rfl rfl ?_
    refine wp_ldc (v := (1000000000, 0)) rfl rfl (by decide) rfl ?_
    refine s_putI rfl (by decide) (kd_142 _) rfl rfl (x_fit_int _) ?_
    generalize hI_2 : x_up I 142 14 (1000000000 : Int32) = I_2
    replace H := H _ hI_2.symm
    refine wp_aload_n rfl rfl rfl ?_
    refine wp_iconst (v := (0 : Int32)) rfl (by decide) ?_
    refine wp_iload_n rfl rfl rfl ?_
    refine wp_iconst (v := (2 : Int32)) rfl (by decide) ?_
    refine wp_irem rfl (by decide) ?_
    refine s_invV (As := [.int (0 : Int32), .int (v1 - v1 / (2 : Int32) * (2 : Int32))]) (d1 := d - 1) rfl ⟨by decide, by decide⟩ rfl rfl rfl (Nat.le_of_ble_eq_true rfl) (by omega) (kd_142 _) (by decide) rfl rfl H ?_
    intro v I2 h2
    exact x_P.weak (L := [x_jk, x_jk, x_jk, x_jk]) (by exact ⟨Or.inl rfl, ⟨Or.inl rfl, ⟨Or.inl rfl, ⟨Or.inr rfl, trivial⟩⟩⟩⟩) h2
  · replace H := H.2 c_1
    refine wp_iload_n rfl rfl rfl ?_
    refine wp_aload_n rfl rfl rfl ?_
    refine wp_getR (v := .ref 143) rfl (by decide) (kd_142 _) rfl (kr_142_1 _) ?_
    refine wp_bipush (v := (31 : Int32)) rfl (by decide) ?_
    refine s_ialdc (k0 := 31) rfl (kd_143 _) rfl ?_
    obtain ⟨o_4, H⟩ := H
    have J : x_P E d 157 23 [.ref 142, .int v1, .int v2, x_jk] [.int (x_bi (¬ ((I 143 31) ≤ v2) ∧ ((I 143 ((19 : Int32) + v2).toNatClampNeg) = 0)))] I Q := by
      refine wp_istore_n (L' := [.ref 142, .int v1, .int v2, .int (x_bi (¬ ((I 143 31) ≤ v2) ∧ ((I 143 ((19 : Int32) + v2).toNatClampNeg) = 0)))]) rfl rfl (by decide) rfl rfl ?_
      refine wp_aload_n rfl rfl rfl ?_
      refine wp_getR (v := .ref 148) rfl (by decide) (kd_142 _) rfl (kr_142_12 _) ?_
      refine wp_iload_n rfl rfl rfl ?_
      refine wp_iload_n rfl rfl rfl ?_
      obtain ⟨z_7, hz_7⟩ : ∃ z : Int32, z = (if ¬ ((I 143 31) ≤ v2) ∧ ((I 143 ((19 : Int32) + v2).toNatClampNeg) = 0) then (-1 : Int32) else (9 : Int32)) := ⟨_, rfl⟩
      replace H := H _ hz_7
      have J : x_P E d 157 32 [.ref 142, .int v1, .int v2, .int (x_bi (¬ ((I 143 31) ≤ v2) ∧ ((I 143 ((19 : Int32) + v2).toNatClampNeg) = 0)))] [.int z_7, .int v2, .ref 148] I Q := by
        obtain ⟨o_8, H⟩ := H
        refine s_iast rfl (kd_148 _) o_8 ?_
        generalize hI_9 : x_up I 148 v2.toNatClampNeg z_7 = I_9
        replace H := H _ hI_9.symm
        refine wp_iload_n rfl rfl rfl ?_
        refine wp_iload_n rfl rfl rfl ?_
        have J : x_P E d 157 39 [.ref 142, .int v1, .int v2, .int (x_bi (¬ ((I 143 31) ≤ v2) ∧ ((I 143 ((19 : Int32) + v2).toNatClampNeg) = 0)))] [.int (x_bi (¬ ((I 143 31) ≤ v2) ∧ ((I 143 ((19 : Int32) + v2).toNatClampNeg) = 0))), .int v1] I_9 Q := by
          refine wp_iadd rfl ?_
          refine wp_istore_n (L' := [.ref 142, .int (v1 + (x_bi (¬ ((I 143 31) ≤ v2) ∧ ((I 143 ((19 : Int32) + v2).toNatClampNeg) = 0)))), .int v2, .int (x_bi (¬ ((I 143 31) ≤ v2) ∧ ((I 143 ((19 : Int32) + v2).toNatClampNeg) = 0)))]) rfl rfl (by decide) rfl rfl ?_
          refine wp_iinc (v := v2 + 1) (L' := [.ref 142, .int (v1 + (x_bi (¬ ((I 143 31) ≤ v2) ∧ ((I 143 ((19 : Int32) + v2).toNatClampNeg) = 0)))), .int (v2 + 1), .int (x_bi (¬ ((I 143 31) ≤ v2) ∧ ((I 143 ((19 : Int32) + v2).toNatClampNeg) = 0)))]) rfl rfl rfl rfl rfl ?_
          refine wp_goto rfl ?_
          exact x_P.weak (L := [.ref 142, .int (v1 + (x_bi (¬ ((I 143 31) ≤ v2) ∧ ((I 143 ((19 : Int32) + v2).toNatClampNeg) = 0)))), .int (v2 + 1), x_jk]) (by exact ⟨Or.inr rfl, ⟨Or.inr rfl, ⟨Or.inr rfl, ⟨Or.inl rfl, trivial⟩⟩⟩⟩) H
        refine s_bi_eq rfl (fun c_10 => ?_) (fun c_10 => ?_)
        · refine wp_iconst (v := (0 : Int32)) rfl (by decide) ?_
          exact x_P.cong rfl (by rw [show x_bi (¬ ((I 143 31) ≤ v2) ∧ ((I 143 ((19 : Int32) + v2).toNatClampNeg) = 0)) = (0 : Int32) from x_bi_f c_10]) J
        · refine wp_iconst (v := (1 : Int32)) rfl (by decide) ?_
          refine wp_goto rfl ?_
          exact x_P.cong rfl (by rw [show x_bi (¬ ((I 143 31) ≤ v2) ∧ ((I 143 ((19 : Int32) + v2).toNatClampNeg) = 0)) = (1 : Int32) from x_bi_t c_10]) J
      refine s_bi_eq rfl (fun c_6 => ?_) (fun c_6 => ?_)
      · refine wp_bipush (v := (9 : Int32)) rfl (by decide) ?_
        exact x_P.cong rfl (by rw [show z_7 = (9 : Int32) from by rw [hz_7]; simp only [if_neg c_6]]) J
      · refine wp_iconst (v := (-1 : Int32)) rfl (by decide) ?_
        refine wp_goto rfl ?_
        exact x_P.cong rfl (by rw [show z_7 = (-1 : Int32) from by rw [hz_7]; simp only [if_pos c_6]]) J
    refine wp_icmp_ge rfl (fun c_3 => ?_) (fun c_3 => ?_)
    · refine wp_iconst (v := (0 : Int32)) rfl (by decide) ?_
      exact x_P.cong rfl (by rw [show x_bi (¬ ((I 143 31) ≤ v2) ∧ ((I 143 ((19 : Int32) + v2).toNatClampNeg) = 0)) = (0 : Int32) from x_bi_f (fun h => h.1 c_3)]) J
    · refine wp_aload_n rfl rfl rfl ?_
      refine wp_getR (v := .ref 143) rfl (by decide) (kd_142 _) rfl (kr_142_1 _) ?_
      refine wp_bipush (v := (19 : Int32)) rfl (by decide) ?_
      refine wp_iload_n rfl rfl rfl ?_
      refine wp_iadd rfl ?_
      refine s_iald rfl (kd_143 _) (o_4 c_3) ?_
      refine wp_if_ne rfl (fun c_5 => ?_) (fun c_5 => ?_)
      · refine wp_iconst (v := (0 : Int32)) rfl (by decide) ?_
        exact x_P.cong rfl (by rw [show x_bi (¬ ((I 143 31) ≤ v2) ∧ ((I 143 ((19 : Int32) + v2).toNatClampNeg) = 0)) = (0 : Int32) from x_bi_f (fun h => c_5 h.2)]) J
      · refine wp_iconst (v := (1 : Int32)) rfl (by decide) ?_
        refine wp_goto rfl ?_
        exact x_P.cong rfl (by rw [show x_bi (¬ ((I 143 31) ≤ v2) ∧ ((I 143 ((19 : Int32) + v2).toNatClampNeg) = 0)) = (1 : Int32) from x_bi_t ⟨c_3, c_5⟩]) J
set_option maxRecDepth 20000 in
theorem r_M_looksForWalk_52 {E : XE} {d : Nat} {I : Nat → Nat → Int32} {Q : Option Value → (Nat → Nat → Int32) → Prop} (hd : 1 ≤ d) 
    (H : Q none I) :
    x_P E d 157 52 [x_jk, x_jk, x_jk, x_jk] [] I Q := by
  exact s_vret rfl rfl H
set_option maxRecDepth 20000 in
theorem r_M_walk_0 {E : XE} {d : Nat} {I : Nat → Nat → Int32} {Q : Option Value → (Nat → Nat → Int32) → Prop} (hd : 3 ≤ d) (a1 : Int32)
    (H : ((a1 = (-1 : Int32) → x_K E (d - 1) 157 [.ref 142] I (fun v I2 => x_P E d 158 11 [.ref 142, .int a1] (v.toList ++ []) I2 Q)) ∧ (¬ (a1 = (-1 : Int32)) → ((0 ≤ a1 ∧ a1 ≤ (I 143 31) - 1 → x_K E (d - 1) 157 [.ref 142] I (fun v I2 => x_P E d 158 11 [.ref 142, .int a1] (v.toList ++ []) I2 Q)) ∧ (¬ (0 ≤ a1 ∧ a1 ≤ (I 143 31) - 1) → Q (some (.int (-1 : Int32))) I))))) :
    x_P E d 158 0 [.ref 142, .int a1] [] I Q := by
  refine wp_iload_n rfl rfl rfl ?_
  refine wp_iconst (v := (-1 : Int32)) rfl (by decide) ?_
  refine wp_icmp_eq rfl (fun c_1 => ?_) (fun c_1 => ?_)
  · replace H := H.1 c_1
    refine wp_aload_n rfl rfl rfl ?_
    refine s_invV (As := []) (d1 := d - 1) rfl ⟨by decide, by decide⟩ rfl rfl rfl (Nat.le_of_ble_eq_true rfl) (by omega) (kd_142 _) (by decide) rfl rfl H ?_
    intro v I2 h2
    exact h2
  · replace H := H.2 c_1
    refine wp_aload_n rfl rfl rfl ?_
    refine wp_iload_n rfl rfl rfl ?_
    refine s_invVP (As := [.int a1]) (d1 := d - 1) rfl ⟨by decide, by decide⟩ rfl rfl rfl (Nat.le_of_ble_eq_true rfl) (by omega) (kd_142 _) (by decide) rfl rfl (p_isMan (by omega)) ?_
    refine s_bi_ne rfl (fun c_2 => ?_) (fun c_2 => ?_)
    · replace H := H.1 c_2
      refine wp_aload_n rfl rfl rfl ?_
      refine s_invV (As := []) (d1 := d - 1) rfl ⟨by decide, by decide⟩ rfl rfl rfl (Nat.le_of_ble_eq_true rfl) (by omega) (kd_142 _) (by decide) rfl rfl H ?_
      intro v I2 h2
      exact h2
    · replace H := H.2 c_2
      refine wp_iconst (v := (-1 : Int32)) rfl (by decide) ?_
      exact s_iret rfl rfl rfl H
set_option maxRecDepth 20000 in
theorem r_M_walk_11 {E : XE} {d : Nat} {I : Nat → Nat → Int32} {Q : Option Value → (Nat → Nat → Int32) → Prop} (hd : 1 ≤ d) (v1 : Int32)
    (H : ((¬ (v1 = (-1 : Int32)) → vp_in v1 6)) ∧ ((¬ (v1 = (-1 : Int32)) → (¬ ((I 149 v1.toNatClampNeg) = (9 : Int32)) → vp_in v1 6))) ∧ (∀ z_5, z_5 = (if v1 = (-1 : Int32) then (I 142 14) else (if (I 149 v1.toNatClampNeg) = (9 : Int32) then (-5 : Int32) else (I 149 v1.toNatClampNeg))) → Q (some (.int z_5)) I)) :
    x_P E d 158 11 [.ref 142, .int v1] [] I Q := by
  refine wp_iload_n rfl rfl rfl ?_
  refine wp_iconst (v := (-1 : Int32)) rfl (by decide) ?_
  obtain ⟨o_2, H⟩ := H
  obtain ⟨o_4, H⟩ := H
  obtain ⟨z_5, hz_5⟩ : ∃ z : Int32, z = (if v1 = (-1 : Int32) then (I 142 14) else (if (I 149 v1.toNatClampNeg) = (9 : Int32) then (-5 : Int32) else (I 149 v1.toNatClampNeg))) := ⟨_, rfl⟩
  replace H := H _ hz_5
  have J : x_P E d 158 29 [.ref 142, .int v1] [.int z_5] I Q := by
    exact s_iret rfl rfl rfl H
  refine wp_icmp_ne rfl (fun c_1 => ?_) (fun c_1 => ?_)
  · refine wp_aload_n rfl rfl rfl ?_
    refine wp_getR (v := .ref 149) rfl (by decide) (kd_142 _) rfl (kr_142_13 _) ?_
    refine wp_iload_n rfl rfl rfl ?_
    refine s_iald rfl (kd_149 _) (o_2 c_1) ?_
    refine wp_bipush (v := (9 : Int32)) rfl (by decide) ?_
    refine wp_icmp_ne rfl (fun c_3 => ?_) (fun c_3 => ?_)
    · refine wp_aload_n rfl rfl rfl ?_
      refine wp_getR (v := .ref 149) rfl (by decide) (kd_142 _) rfl (kr_142_13 _) ?_
      refine wp_iload_n rfl rfl rfl ?_
      refine s_iald rfl (kd_149 _) (o_4 c_1 c_3) ?_
      exact x_P.cong rfl (by rw [show z_5 = (I 149 v1.toNatClampNeg) from by rw [hz_5]; simp only [if_neg c_1, if_neg c_3]]) J
    · refine wp_bipush (v := (-5 : Int32)) rfl (by decide) ?_
      refine wp_goto rfl ?_
      exact x_P.cong rfl (by rw [show z_5 = (-5 : Int32) from by rw [hz_5]; simp only [if_neg c_1, if_pos c_3]]) J
  · refine wp_aload_n rfl rfl rfl ?_
    refine s_getI rfl (by decide) (kd_142 _) rfl ?_
    refine wp_goto rfl ?_
    exact x_P.cong rfl (by rw [show z_5 = (I 142 14) from by rw [hz_5]; simp only [if_pos c_1]]) J
set_option maxRecDepth 20000 in
theorem r_M_isTable_0 {E : XE} {d : Nat} {I : Nat → Nat → Int32} {Q : Option Value → (Nat → Nat → Int32) → Prop} (hd : 1 ≤ d) (a1 : Int32) (a2 : Int32)
    (H : x_K E (d - 1) 145 [.ref 142, .int (19 : Int32)] I (fun v I2 => x_P E d 159 4 [.ref 142, .int a1, .int a2, x_jk, x_jk, x_jk, x_jk] (v.toList ++ [.int a1]) I2 Q)) :
    x_P E d 159 0 [.ref 142, .int a1, .int a2, x_jk, x_jk, x_jk, x_jk] [] I Q := by
  refine wp_iload_n rfl rfl rfl ?_
  refine wp_aload_n rfl rfl rfl ?_
  refine wp_bipush (v := (19 : Int32)) rfl (by decide) ?_
  refine s_invV (As := [.int (19 : Int32)]) (d1 := d - 1) rfl ⟨by decide, by decide⟩ rfl rfl rfl (Nat.le_of_ble_eq_true rfl) (by omega) (kd_142 _) (by decide) rfl rfl H ?_
  intro v I2 h2
  exact h2
set_option maxRecDepth 20000 in
theorem r_M_isTable_4 {E : XE} {d : Nat} {I : Nat → Nat → Int32} {Q : Option Value → (Nat → Nat → Int32) → Prop} (hd : 1 ≤ d) (v1 : Int32) (v2 : Int32) (s0 : Int32) (w : Int32)
    (H : x_P E d 159 12 [.ref 142, .int v1, .int v2, .int (x_bi ((s0 &&& w) = 0)), .int (0 : Int32), x_jk, x_jk] [] I Q) :
    x_P E d 159 4 [.ref 142, .int v1, .int v2, x_jk, x_jk, x_jk, x_jk] [.int w, .int s0] I Q := by
  refine wp_iand rfl ?_
  have J : x_P E d 159 9 [.ref 142, .int v1, .int v2, x_jk, x_jk, x_jk, x_jk] [.int (x_bi ((s0 &&& w) = 0))] I Q := by
    refine wp_istore_n (L' := [.ref 142, .int v1, .int v2, .int (x_bi ((s0 &&& w) = 0)), x_jk, x_jk, x_jk]) rfl rfl (by decide) rfl rfl ?_
    refine wp_iconst (v := (0 : Int32)) rfl (by decide) ?_
    refine wp_istore (L' := [.ref 142, .int v1, .int v2, .int (x_bi ((s0 &&& w) = 0)), .int (0 : Int32), x_jk, x_jk]) rfl (by decide) rfl rfl ?_
    exact H
  refine wp_if_ne rfl (fun c_1 => ?_) (fun c_1 => ?_)
  · refine wp_iconst (v := (0 : Int32)) rfl (by decide) ?_
    exact x_P.cong rfl (by rw [show x_bi ((s0 &&& w) = 0) = (0 : Int32) from x_bi_f c_1]) J
  · refine wp_iconst (v := (1 : Int32)) rfl (by decide) ?_
    refine wp_goto rfl ?_
    exact x_P.cong rfl (by rw [show x_bi ((s0 &&& w) = 0) = (1 : Int32) from x_bi_t c_1]) J
set_option maxRecDepth 20000 in
theorem r_M_isTable_12 {E : XE} {d : Nat} {I : Nat → Nat → Int32} {Q : Option Value → (Nat → Nat → Int32) → Prop} (hd : 1 ≤ d) (v1 : Int32) (v2 : Int32) (v3 : Int32) (v4 : Int32)
    (H : (((I 143 31) ≤ v4 → (narrow .boolean (.int v3) = .int v3) ∧ Q (some (.int v3)) I) ∧ (¬ ((I 143 31) ≤ v4) → x_P E d 159 20 [.ref 142, .int v1, .int v2, .int v3, .int v4, .int (0 : Int32), x_jk] [] I Q))) :
    x_P E d 159 12 [.ref 142, .int v1, .int v2, .int v3, .int v4, x_jk, x_jk] [] I Q := by
  refine wp_iload rfl rfl ?_
  refine wp_aload_n rfl rfl rfl ?_
  refine wp_getR (v := .ref 143) rfl (by decide) (kd_142 _) rfl (kr_142_1 _) ?_
  refine wp_bipush (v := (31 : Int32)) rfl (by decide) ?_
  refine s_ialdc (k0 := 31) rfl (kd_143 _) rfl ?_
  refine wp_icmp_ge rfl (fun c_1 => ?_) (fun c_1 => ?_)
  · replace H := H.1 c_1
    refine wp_iload_n rfl rfl rfl ?_
    obtain ⟨o_2, H⟩ := H
    exact s_iret rfl rfl o_2 H
  · replace H := H.2 c_1
    refine wp_iconst (v := (0 : Int32)) rfl (by decide) ?_
    refine wp_istore (L' := [.ref 142, .int v1, .int v2, .int v3, .int v4, .int (0 : Int32), x_jk]) rfl (by decide) rfl rfl ?_
    exact H
set_option maxRecDepth 20000 in
theorem r_M_isTable_20 {E : XE} {d : Nat} {I : Nat → Nat → Int32} {Q : Option Value → (Nat → Nat → Int32) → Prop} (hd : 1 ≤ d) (v1 : Int32) (v2 : Int32) (v3 : Int32) (v4 : Int32) (v5 : Int32)
    (H : ((v4 ≤ v5 → x_P E d 159 12 [.ref 142, .int v1, .int v2, .int v3, .int (v4 + 1), x_jk, x_jk] [] I Q) ∧ (¬ (v4 ≤ v5) → ((v3 = 0 → x_P E d 159 20 [.ref 142, .int v1, .int v2, .int (0 : Int32), .int v4, .int (v5 + 1), x_jk] [] I Q) ∧ (¬ (v3 = 0) → (((((v1 >>> (v4 &&& 31)) &&& (1 : Int32)) = (1 : Int32)) ∧ (((v1 >>> (v5 &&& 31)) &&& (1 : Int32)) = (1 : Int32)) → x_K E (d - 1) 133 [.ref 142, .int v4, .int v5] I (fun v I2 => x_P E d 159 49 [.ref 142, .int v1, .int v2, x_jk, .int v4, .int v5, x_jk] (v.toList ++ []) I2 Q)) ∧ (¬ ((((v1 >>> (v4 &&& 31)) &&& (1 : Int32)) = (1 : Int32)) ∧ (((v1 >>> (v5 &&& 31)) &&& (1 : Int32)) = (1 : Int32))) → x_P E d 159 20 [.ref 142, .int v1, .int v2, .int (1 : Int32), .int v4, .int (v5 + 1), x_jk] [] I Q))))))) :
    x_P E d 159 20 [.ref 142, .int v1, .int v2, .int v3, .int v4, .int v5, x_jk] [] I Q := by
  refine wp_iload rfl rfl ?_
  refine wp_iload rfl rfl ?_
  refine wp_icmp_ge rfl (fun c_1 => ?_) (fun c_1 => ?_)
  · replace H := H.1 c_1
    refine wp_iinc (v := v4 + 1) (L' := [.ref 142, .int v1, .int v2, .int v3, .int (v4 + 1), .int v5, x_jk]) rfl rfl rfl rfl rfl ?_
    refine wp_goto rfl ?_
    exact x_P.weak (L := [.ref 142, .int v1, .int v2, .int v3, .int (v4 + 1), x_jk, x_jk]) (by exact ⟨Or.inr rfl, ⟨Or.inr rfl, ⟨Or.inr rfl, ⟨Or.inr rfl, ⟨Or.inr rfl, ⟨Or.inl rfl, ⟨Or.inr rfl, trivial⟩⟩⟩⟩⟩⟩⟩) H
  · replace H := H.2 c_1
    refine wp_iload_n rfl rfl rfl ?_
    refine wp_iload rfl rfl ?_
    refine wp_ishr rfl ?_
    refine wp_iconst (v := (1 : Int32)) rfl (by decide) ?_
    refine wp_iand rfl ?_
    refine wp_iconst (v := (1 : Int32)) rfl (by decide) ?_
    have J : x_P E d 159 40 [.ref 142, .int v1, .int v2, .int v3, .int v4, .int v5, x_jk] [.int (x_bi ((((v1 >>> (v4 &&& 31)) &&& (1 : Int32)) = (1 : Int32)) ∧ (((v1 >>> (v5 &&& 31)) &&& (1 : Int32)) = (1 : Int32))))] I Q := by
      refine wp_istore (L' := [.ref 142, .int v1, .int v2, .int v3, .int v4, .int v5, .int (x_bi ((((v1 >>> (v4 &&& 31)) &&& (1 : Int32)) = (1 : Int32)) ∧ (((v1 >>> (v5 &&& 31)) &&& (1 : Int32)) = (1 : Int32))))]) rfl (by decide) rfl rfl ?_
      refine wp_iload_n rfl rfl rfl ?_
      refine wp_if_eq rfl (fun c_4 => ?_) (fun c_4 => ?_)
      · replace H := H.1 c_4
        refine wp_iconst (v := (0 : Int32)) rfl (by decide) ?_
        refine wp_istore_n (L' := [.ref 142, .int v1, .int v2, .int (0 : Int32), .int v4, .int v5, .int (x_bi ((((v1 >>> (v4 &&& 31)) &&& (1 : Int32)) = (1 : Int32)) ∧ (((v1 >>> (v5 &&& 31)) &&& (1 : Int32)) = (1 : Int32))))]) rfl rfl (by decide) rfl rfl ?_
        refine wp_iinc (v := v5 + 1) (L' := [.ref 142, .int v1, .int v2, .int (0 : Int32), .int v4, .int (v5 + 1), .int (x_bi ((((v1 >>> (v4 &&& 31)) &&& (1 : Int32)) = (1 : Int32)) ∧ (((v1 >>> (v5 &&& 31)) &&& (1 : Int32)) = (1 : Int32))))]) rfl rfl rfl rfl rfl ?_
        refine wp_goto rfl ?_
        exact x_P.weak (L := [.ref 142, .int v1, .int v2, .int (0 : Int32), .int v4, .int (v5 + 1), x_jk]) (by exact ⟨Or.inr rfl, ⟨Or.inr rfl, ⟨Or.inr rfl, ⟨Or.inr rfl, ⟨Or.inr rfl, ⟨Or.inr rfl, ⟨Or.inl rfl, trivial⟩⟩⟩⟩⟩⟩⟩) H
      · replace H := H.2 c_4
        refine wp_iload rfl rfl ?_
        refine s_bi_eq rfl (fun c_5 => ?_) (fun c_5 => ?_)
        · replace H := H.2 c_5
          refine wp_iconst (v := (1 : Int32)) rfl (by decide) ?_
          refine wp_goto rfl ?_
          refine wp_istore_n (L' := [.ref 142, .int v1, .int v2, .int (1 : Int32), .int v4, .int v5, .int (x_bi ((((v1 >>> (v4 &&& 31)) &&& (1 : Int32)) = (1 : Int32)) ∧ (((v1 >>> (v5 &&& 31)) &&& (1 : Int32)) = (1 : Int32))))]) rfl rfl (by decide) rfl rfl ?_
          refine wp_iinc (v := v5 + 1) (L' := [.ref 142, .int v1, .int v2, .int (1 : Int32), .int v4, .int (v5 + 1), .int (x_bi ((((v1 >>> (v4 &&& 31)) &&& (1 : Int32)) = (1 : Int32)) ∧ (((v1 >>> (v5 &&& 31)) &&& (1 : Int32)) = (1 : Int32))))]) rfl rfl rfl rfl rfl ?_
          refine wp_goto rfl ?_
          exact x_P.weak (L := [.ref 142, .int v1, .int v2, .int (1 : Int32), .int v4, .int (v5 + 1), x_jk]) (by exact ⟨Or.inr rfl, ⟨Or.inr rfl, ⟨Or.inr rfl, ⟨Or.inr rfl, ⟨Or.inr rfl, ⟨Or.inr rfl, ⟨Or.inl rfl, trivial⟩⟩⟩⟩⟩⟩⟩) H
        · replace H := H.1 c_5
          refine wp_aload_n rfl rfl rfl ?_
          refine wp_iload rfl rfl ?_
          refine wp_iload rfl rfl ?_
          refine s_invV (As := [.int v4, .int v5]) (d1 := d - 1) rfl ⟨by decide, by decide⟩ rfl rfl rfl (Nat.le_of_ble_eq_true rfl) (by omega) (kd_142 _) (by decide) rfl rfl H ?_
          intro v I2 h2
          exact x_P.weak (L := [.ref 142, .int v1, .int v2, x_jk, .int v4, .int v5, x_jk]) (by exact ⟨Or.inr rfl, ⟨Or.inr rfl, ⟨Or.inr rfl, ⟨Or.inl rfl, ⟨Or.inr rfl, ⟨Or.inr rfl, ⟨Or.inl rfl, trivial⟩⟩⟩⟩⟩⟩⟩) h2
    refine wp_icmp_ne rfl (fun c_2 => ?_) (fun c_2 => ?_)
    · refine wp_iconst (v := (0 : Int32)) rfl (by decide) ?_
      exact x_P.cong rfl (by rw [show x_bi ((((v1 >>> (v4 &&& 31)) &&& (1 : Int32)) = (1 : Int32)) ∧ (((v1 >>> (v5 &&& 31)) &&& (1 : Int32)) = (1 : Int32))) = (0 : Int32) from x_bi_f (fun h => c_2 h.1)]) J
    · refine wp_iload_n rfl rfl rfl ?_
      refine wp_iload rfl rfl ?_
      refine wp_ishr rfl ?_
      refine wp_iconst (v := (1 : Int32)) rfl (by decide) ?_
      refine wp_iand rfl ?_
      refine wp_iconst (v := (1 : Int32)) rfl (by decide) ?_
      refine wp_icmp_ne rfl (fun c_3 => ?_) (fun c_3 => ?_)
      · refine wp_iconst (v := (0 : Int32)) rfl (by decide) ?_
        exact x_P.cong rfl (by rw [show x_bi ((((v1 >>> (v4 &&& 31)) &&& (1 : Int32)) = (1 : Int32)) ∧ (((v1 >>> (v5 &&& 31)) &&& (1 : Int32)) = (1 : Int32))) = (0 : Int32) from x_bi_f (fun h => c_3 h.2)]) J
      · refine wp_iconst (v := (1 : Int32)) rfl (by decide) ?_
        refine wp_goto rfl ?_
        exact x_P.cong rfl (by rw [show x_bi ((((v1 >>> (v4 &&& 31)) &&& (1 : Int32)) = (1 : Int32)) ∧ (((v1 >>> (v5 &&& 31)) &&& (1 : Int32)) = (1 : Int32))) = (1 : Int32) from x_bi_t ⟨c_2, c_3⟩]) J
set_option maxRecDepth 20000 in
theorem r_M_isTable_49 {E : XE} {d : Nat} {I : Nat → Nat → Int32} {Q : Option Value → (Nat → Nat → Int32) → Prop} (hd : 1 ≤ d) (v1 : Int32) (v2 : Int32) (v4 : Int32) (v5 : Int32) (w : Int32)
    (H : x_P E d 159 20 [.ref 142, .int v1, .int v2, .int (x_bi (¬ (v2 < w))), .int v4, .int (v5 + 1), x_jk] [] I Q) :
    x_P E d 159 49 [.ref 142, .int v1, .int v2, x_jk, .int v4, .int v5, x_jk] [.int w] I Q := by
  refine wp_iload_n rfl rfl rfl ?_
  have J : x_P E d 159 54 [.ref 142, .int v1, .int v2, x_jk, .int v4, .int v5, x_jk] [.int (x_bi (¬ (v2 < w)))] I Q := by
    refine wp_istore_n (L' := [.ref 142, .int v1, .int v2, .int (x_bi (¬ (v2 < w))), .int v4, .int v5, x_jk]) rfl rfl (by decide) rfl rfl ?_
    refine wp_iinc (v := v5 + 1) (L' := [.ref 142, .int v1, .int v2, .int (x_bi (¬ (v2 < w))), .int v4, .int (v5 + 1), x_jk]) rfl rfl rfl rfl rfl ?_
    refine wp_goto rfl ?_
    exact H
  refine wp_icmp_gt rfl (fun c_1 => ?_) (fun c_1 => ?_)
  · refine wp_iconst (v := (0 : Int32)) rfl (by decide) ?_
    exact x_P.cong rfl (by rw [show x_bi (¬ (v2 < w)) = (0 : Int32) from x_bi_f (fun h => h c_1)]) J
  · refine wp_iconst (v := (1 : Int32)) rfl (by decide) ?_
    refine wp_goto rfl ?_
    exact x_P.cong rfl (by rw [show x_bi (¬ (v2 < w)) = (1 : Int32) from x_bi_t c_1]) J
set_option maxRecDepth 20000 in
theorem r_M_table_0 {E : XE} {d : Nat} {I : Nat → Nat → Int32} {Q : Option Value → (Nat → Nat → Int32) → Prop} (hd : 2 ≤ d) (a1 : Int32)
    (H : (((0 : Int32) ≤ a1 ∧ a1 ≤ (8 : Int32) → x_P E d 160 11 [.ref 142, .int a1, .int (0 : Int32), .int (0 : Int32)] [] I Q) ∧ (¬ ((0 : Int32) ≤ a1 ∧ a1 ≤ (8 : Int32)) → Q (some (.int (-2 : Int32))) I))) :
    x_P E d 160 0 [.ref 142, .int a1, x_jk, x_jk] [] I Q := by
  refine wp_iload_n rfl rfl rfl ?_
  refine wp_iconst (v := (0 : Int32)) rfl (by decide) ?_
  refine wp_bipush (v := (8 : Int32)) rfl (by decide) ?_
  refine s_invStP (As := [.int a1, .int (0 : Int32), .int (8 : Int32)]) (d1 := d - 1) rfl ⟨by decide, by decide⟩ rfl rfl rfl (Nat.le_of_ble_eq_true rfl) (by omega) (p_in (by omega)) ?_
  refine s_bi_ne rfl (fun c_1 => ?_) (fun c_1 => ?_)
  · replace H := H.1 c_1
    refine wp_iconst (v := (0 : Int32)) rfl (by decide) ?_
    refine wp_istore_n (L' := [.ref 142, .int a1, .int (0 : Int32), x_jk]) rfl rfl (by decide) rfl rfl ?_
    refine wp_iconst (v := (0 : Int32)) rfl (by decide) ?_
    refine wp_istore_n (L' := [.ref 142, .int a1, .int (0 : Int32), .int (0 : Int32)]) rfl rfl (by decide) rfl rfl ?_
    exact H
  · replace H := H.2 c_1
    refine wp_bipush (v := (-2 : Int32)) rfl (by decide) ?_
    exact s_iret rfl rfl rfl H
set_option maxRecDepth 20000 in
theorem r_M_table_11 {E : XE} {d : Nat} {I : Nat → Nat → Int32} {Q : Option Value → (Nat → Nat → Int32) → Prop} (hd : 1 ≤ d) (v1 : Int32) (v2 : Int32) (v3 : Int32)
    (H : ((((1 : Int32) <<< ((I 143 31) &&& 31)) ≤ v3 → Q (some (.int v2)) I) ∧ (¬ (((1 : Int32) <<< ((I 143 31) &&& 31)) ≤ v3) → x_K E (d - 1) 130 [.int v3] I (fun v I2 => x_P E d 160 21 [.ref 142, .int v1, .int v2, .int v3] (v.toList ++ []) I2 Q)))) :
    x_P E d 160 11 [.ref 142, .int v1, .int v2, .int v3] [] I Q := by
  refine wp_iload_n rfl rfl rfl ?_
  refine wp_iconst (v := (1 : Int32)) rfl (by decide) ?_
  refine wp_aload_n rfl rfl rfl ?_
  refine wp_getR (v := .ref 143) rfl (by decide) (kd_142 _) rfl (kr_142_1 _) ?_
  refine wp_bipush (v := (31 : Int32)) rfl (by decide) ?_
  refine s_ialdc (k0 := 31) rfl (kd_143 _) rfl ?_
  refine wp_ishl rfl ?_
  refine wp_icmp_ge rfl (fun c_1 => ?_) (fun c_1 => ?_)
  · replace H := H.1 c_1
    refine wp_iload_n rfl rfl rfl ?_
    exact s_iret rfl rfl rfl H
  · replace H := H.2 c_1
    refine wp_iload_n rfl rfl rfl ?_
    refine s_invSt (As := [.int v3]) (d1 := d - 1) rfl ⟨by decide, by decide⟩ rfl rfl rfl (Nat.le_of_ble_eq_true rfl) (by omega) H ?_
    intro v I2 h2
    exact h2
set_option maxRecDepth 20000 in
theorem r_M_table_21 {E : XE} {d : Nat} {I : Nat → Nat → Int32} {Q : Option Value → (Nat → Nat → Int32) → Prop} (hd : 1 ≤ d) (v1 : Int32) (v2 : Int32) (v3 : Int32) (w : Int32)
    (H : x_K E (d - 1) 130 [.int v2] I (fun v I2 => x_P E d 160 23 [.ref 142, .int v1, .int v2, .int v3] (v.toList ++ [.int w]) I2 Q)) :
    x_P E d 160 21 [.ref 142, .int v1, .int v2, .int v3] [.int w] I Q := by
  refine wp_iload_n rfl rfl rfl ?_
  refine s_invSt (As := [.int v2]) (d1 := d - 1) rfl ⟨by decide, by decide⟩ rfl rfl rfl (Nat.le_of_ble_eq_true rfl) (by omega) H ?_
  intro v I2 h2
  exact h2
set_option maxRecDepth 20000 in
theorem r_M_table_23 {E : XE} {d : Nat} {I : Nat → Nat → Int32} {Q : Option Value → (Nat → Nat → Int32) → Prop} (hd : 1 ≤ d) (v1 : Int32) (v2 : Int32) (v3 : Int32) (s0 : Int32) (w : Int32)
    (H : ((s0 ≤ w → x_P E d 160 11 [.ref 142, .int v1, .int v2, .int (v3 + 1)] [] I Q) ∧ (¬ (s0 ≤ w) → x_K E (d - 1) 159 [.ref 142, .int v3, .int v1] I (fun v I2 => x_P E d 160 28 [.ref 142, .int v1, .int v2, .int v3] (v.toList ++ []) I2 Q)))) :
    x_P E d 160 23 [.ref 142, .int v1, .int v2, .int v3] [.int w, .int s0] I Q := by
  refine wp_icmp_le rfl (fun c_1 => ?_) (fun c_1 => ?_)
  · replace H := H.1 c_1
    refine wp_iload_n rfl rfl rfl ?_
    refine wp_istore_n (L' := [.ref 142, .int v1, .int v2, .int v3]) rfl rfl (by decide) rfl rfl ?_
    refine wp_iinc (v := v3 + 1) (L' := [.ref 142, .int v1, .int v2, .int (v3 + 1)]) rfl rfl rfl rfl rfl ?_
    refine wp_goto rfl ?_
    exact H
  · replace H := H.2 c_1
    refine wp_aload_n rfl rfl rfl ?_
    refine wp_iload_n rfl rfl rfl ?_
    refine wp_iload_n rfl rfl rfl ?_
    refine s_invV (As := [.int v3, .int v1]) (d1 := d - 1) rfl ⟨by decide, by decide⟩ rfl rfl rfl (Nat.le_of_ble_eq_true rfl) (by omega) (kd_142 _) (by decide) rfl rfl H ?_
    intro v I2 h2
    exact h2
set_option maxRecDepth 20000 in
theorem r_M_table_28 {E : XE} {d : Nat} {I : Nat → Nat → Int32} {Q : Option Value → (Nat → Nat → Int32) → Prop} (hd : 1 ≤ d) (v1 : Int32) (v2 : Int32) (v3 : Int32) (w : Int32)
    (H : x_P E d 160 11 [.ref 142, .int v1, .int (if w = 0 then v2 else v3), .int (v3 + 1)] [] I Q) :
    x_P E d 160 28 [.ref 142, .int v1, .int v2, .int v3] [.int w] I Q := by
  have J : x_P E d 160 32 [.ref 142, .int v1, .int v2, .int v3] [.int (if w = 0 then v2 else v3)] I Q := by
    refine wp_istore_n (L' := [.ref 142, .int v1, .int (if w = 0 then v2 else v3), .int v3]) rfl rfl (by decide) rfl rfl ?_
    refine wp_iinc (v := v3 + 1) (L' := [.ref 142, .int v1, .int (if w = 0 then v2 else v3), .int (v3 + 1)]) rfl rfl rfl rfl rfl ?_
    refine wp_goto rfl ?_
    exact H
  refine wp_if_eq rfl (fun c_1 => ?_) (fun c_1 => ?_)
  · refine wp_iload_n rfl rfl rfl ?_
    exact x_P.cong rfl (by rw [show (if w = 0 then v2 else v3) = v2 from by simp only [if_pos c_1]]) J
  · refine wp_iload_n rfl rfl rfl ?_
    refine wp_goto rfl ?_
    exact x_P.cong rfl (by rw [show (if w = 0 then v2 else v3) = v3 from by simp only [if_neg c_1]]) J
set_option maxRecDepth 20000 in
theorem r_M_goneBy_0 {E : XE} {d : Nat} {I : Nat → Nat → Int32} {Q : Option Value → (Nat → Nat → Int32) → Prop} (hd : 1 ≤ d) (a1 : Int32)
    (H : x_K E (d - 1) 112 [.ref 142] I (fun v I2 => x_P E d 161 2 [.ref 142, .int a1, x_jk] (v.toList ++ []) I2 Q)) :
    x_P E d 161 0 [.ref 142, .int a1, x_jk] [] I Q := by
  refine wp_aload_n rfl rfl rfl ?_
  refine s_invV (As := []) (d1 := d - 1) rfl ⟨by decide, by decide⟩ rfl rfl rfl (Nat.le_of_ble_eq_true rfl) (by omega) (kd_142 _) (by decide) rfl rfl H ?_
  intro v I2 h2
  exact h2
set_option maxRecDepth 20000 in
theorem r_M_goneBy_2 {E : XE} {d : Nat} {I : Nat → Nat → Int32} {Q : Option Value → (Nat → Nat → Int32) → Prop} (hd : 1 ≤ d) (v1 : Int32)
    (H : x_P E d 161 4 [.ref 142, .int v1, .int (0 : Int32)] [] I Q) :
    x_P E d 161 2 [.ref 142, .int v1, x_jk] [] I Q := by
  refine wp_iconst (v := (0 : Int32)) rfl (by decide) ?_
  refine wp_istore_n (L' := [.ref 142, .int v1, .int (0 : Int32)]) rfl rfl (by decide) rfl rfl ?_
  exact H
set_option maxRecDepth 20000 in
theorem r_M_goneBy_4 {E : XE} {d : Nat} {I : Nat → Nat → Int32} {Q : Option Value → (Nat → Nat → Int32) → Prop} (hd : 1 ≤ d) (v1 : Int32) (v2 : Int32)
    (H : (((I 143 31) ≤ v2 → x_K E (d - 1) 150 [.ref 142, .int (12 : Int32)] I (fun v I2 => x_P E d 161 36 [.ref 142, x_jk, x_jk] (v.toList ++ []) I2 Q)) ∧ (¬ ((I 143 31) ≤ v2) → ((¬ (((v1 >>> (v2 &&& 31)) &&& (1 : Int32)) = (1 : Int32)) → vp_in ((7 : Int32) + v2) 931)) ∧ (∀ z_4, z_4 = (if ((v1 >>> (v2 &&& 31)) &&& (1 : Int32)) = (1 : Int32) then (0 : Int32) else (I 143 ((7 : Int32) + v2).toNatClampNeg)) → (vp_in ((7 : Int32) + v2) 931) ∧ (∀ I_6, I_6 = x_up I 143 ((7 : Int32) + v2).toNatClampNeg z_4 → x_P E d 161 4 [.ref 142, .int v1, .int (v2 + 1)] [] I_6 Q))))) :
    x_P E d 161 4 [.ref 142, .int v1, .int v2] [] I Q := by
  refine wp_iload_n rfl rfl rfl ?_
  refine wp_aload_n rfl rfl rfl ?_
  refine wp_getR (v := .ref 143) rfl (by decide) (kd_142 _) rfl (kr_142_1 _) ?_
  refine wp_bipush (v := (31 : Int32)) rfl (by decide) ?_
  refine s_ialdc (k0 := 31) rfl (kd_143 _) rfl ?_
  refine wp_icmp_ge rfl (fun c_1 => ?_) (fun c_1 => ?_)
  · replace H := H.1 c_1
    refine wp_aload_n rfl rfl rfl ?_
    refine wp_bipush (v := (12 : Int32)) rfl (by decide) ?_
    refine s_invV (As := [.int (12 : Int32)]) (d1 := d - 1) rfl ⟨by decide, by decide⟩ rfl rfl rfl (Nat.le_of_ble_eq_true rfl) (by omega) (kd_142 _) (by decide) rfl rfl H ?_
    intro v I2 h2
    exact x_P.weak (L := [.ref 142, x_jk, x_jk]) (by exact ⟨Or.inr rfl, ⟨Or.inl rfl, ⟨Or.inl rfl, trivial⟩⟩⟩) h2
  · replace H := H.2 c_1
    refine wp_aload_n rfl rfl rfl ?_
    refine wp_getR (v := .ref 143) rfl (by decide) (kd_142 _) rfl (kr_142_1 _) ?_
    refine wp_bipush (v := (7 : Int32)) rfl (by decide) ?_
    refine wp_iload_n rfl rfl rfl ?_
    refine wp_iadd rfl ?_
    refine wp_iload_n rfl rfl rfl ?_
    refine wp_iload_n rfl rfl rfl ?_
    refine wp_ishr rfl ?_
    refine wp_iconst (v := (1 : Int32)) rfl (by decide) ?_
    refine wp_iand rfl ?_
    refine wp_iconst (v := (1 : Int32)) rfl (by decide) ?_
    obtain ⟨o_3, H⟩ := H
    obtain ⟨z_4, hz_4⟩ : ∃ z : Int32, z = (if ((v1 >>> (v2 &&& 31)) &&& (1 : Int32)) = (1 : Int32) then (0 : Int32) else (I 143 ((7 : Int32) + v2).toNatClampNeg)) := ⟨_, rfl⟩
    replace H := H _ hz_4
    have J : x_P E d 161 30 [.ref 142, .int v1, .int v2] [.int z_4, .int ((7 : Int32) + v2), .ref 143] I Q := by
      obtain ⟨o_5, H⟩ := H
      refine s_iast rfl (kd_143 _) o_5 ?_
      generalize hI_6 : x_up I 143 ((7 : Int32) + v2).toNatClampNeg z_4 = I_6
      replace H := H _ hI_6.symm
      refine wp_iinc (v := v2 + 1) (L' := [.ref 142, .int v1, .int (v2 + 1)]) rfl rfl rfl rfl rfl ?_
      refine wp_goto rfl ?_
      exact H
    refine wp_icmp_ne rfl (fun c_2 => ?_) (fun c_2 => ?_)
    · refine wp_aload_n rfl rfl rfl ?_
      refine wp_getR (v := .ref 143) rfl (by decide) (kd_142 _) rfl (kr_142_1 _) ?_
      refine wp_bipush (v := (7 : Int32)) rfl (by decide) ?_
      refine wp_iload_n rfl rfl rfl ?_
      refine wp_iadd rfl ?_
      refine s_iald rfl (kd_143 _) (o_3 c_2) ?_
      exact x_P.cong rfl (by rw [show z_4 = (I 143 ((7 : Int32) + v2).toNatClampNeg) from by rw [hz_4]; simp only [if_neg c_2]]) J
    · refine wp_iconst (v := (0 : Int32)) rfl (by decide) ?_
      refine wp_goto rfl ?_
      exact x_P.cong rfl (by rw [show z_4 = (0 : Int32) from by rw [hz_4]; simp only [if_pos c_2]]) J
set_option maxRecDepth 20000 in
theorem r_M_goneBy_36 {E : XE} {d : Nat} {I : Nat → Nat → Int32} {Q : Option Value → (Nat → Nat → Int32) → Prop} (hd : 1 ≤ d) 
    (H : x_K E (d - 1) 145 [.ref 142, .int (13 : Int32)] I (fun v I2 => x_P E d 161 39 [.ref 142, x_jk, x_jk] (v.toList ++ []) I2 Q)) :
    x_P E d 161 36 [.ref 142, x_jk, x_jk] [] I Q := by
  refine wp_aload_n rfl rfl rfl ?_
  refine wp_bipush (v := (13 : Int32)) rfl (by decide) ?_
  refine s_invV (As := [.int (13 : Int32)]) (d1 := d - 1) rfl ⟨by decide, by decide⟩ rfl rfl rfl (Nat.le_of_ble_eq_true rfl) (by omega) (kd_142 _) (by decide) rfl rfl H ?_
  intro v I2 h2
  exact h2
set_option maxRecDepth 20000 in
theorem r_M_goneBy_39 {E : XE} {d : Nat} {I : Nat → Nat → Int32} {Q : Option Value → (Nat → Nat → Int32) → Prop} (hd : 1 ≤ d) (w : Int32)
    (H : x_K E (d - 1) 130 [.int w] I (fun v I2 => x_P E d 161 40 [.ref 142, x_jk, x_jk] (v.toList ++ []) I2 Q)) :
    x_P E d 161 39 [.ref 142, x_jk, x_jk] [.int w] I Q := by
  refine s_invSt (As := [.int w]) (d1 := d - 1) rfl ⟨by decide, by decide⟩ rfl rfl rfl (Nat.le_of_ble_eq_true rfl) (by omega) H ?_
  intro v I2 h2
  exact h2
set_option maxRecDepth 20000 in
theorem r_M_goneBy_40 {E : XE} {d : Nat} {I : Nat → Nat → Int32} {Q : Option Value → (Nat → Nat → Int32) → Prop} (hd : 1 ≤ d) (w : Int32)
    (H : x_K E (d - 1) 113 [.ref 142] I (fun v I2 => x_P E d 161 43 [x_jk, x_jk, .int w] (v.toList ++ []) I2 Q)) :
    x_P E d 161 40 [.ref 142, x_jk, x_jk] [.int w] I Q := by
  refine wp_istore_n (L' := [.ref 142, x_jk, .int w]) rfl rfl (by decide) rfl rfl ?_
  refine wp_aload_n rfl rfl rfl ?_
  refine s_invV (As := []) (d1 := d - 1) rfl ⟨by decide, by decide⟩ rfl rfl rfl (Nat.le_of_ble_eq_true rfl) (by omega) (kd_142 _) (by decide) rfl rfl H ?_
  intro v I2 h2
  exact x_P.weak (L := [x_jk, x_jk, .int w]) (by exact ⟨Or.inl rfl, ⟨Or.inr rfl, ⟨Or.inr rfl, trivial⟩⟩⟩) h2
set_option maxRecDepth 20000 in
theorem r_M_goneBy_43 {E : XE} {d : Nat} {I : Nat → Nat → Int32} {Q : Option Value → (Nat → Nat → Int32) → Prop} (hd : 1 ≤ d) (v2 : Int32)
    (H : Q (some (.int v2)) I) :
    x_P E d 161 43 [x_jk, x_jk, .int v2] [] I Q := by
  refine wp_iload_n rfl rfl rfl ?_
  exact s_iret rfl rfl rfl H
set_option maxRecDepth 20000 in
theorem r_M_wash_0 {E : XE} {d : Nat} {I : Nat → Nat → Int32} {Q : Option Value → (Nat → Nat → Int32) → Prop} (hd : 2 ≤ d) (a1 : Int32)
    (H : (((0 : Int32) ≤ a1 ∧ a1 ≤ (6 : Int32) → x_K E (d - 1) 161 [.ref 142, .int (0 : Int32)] I (fun v I2 => x_P E d 162 12 [.ref 142, .int a1, .int (0 : Int32), x_jk, x_jk, x_jk, x_jk] (v.toList ++ []) I2 Q)) ∧ (¬ ((0 : Int32) ≤ a1 ∧ a1 ≤ (6 : Int32)) → Q (some (.int (-2 : Int32))) I))) :
    x_P E d 162 0 [.ref 142, .int a1, x_jk, x_jk, x_jk, x_jk, x_jk] [] I Q := by
  refine wp_iload_n rfl rfl rfl ?_
  refine wp_iconst (v := (0 : Int32)) rfl (by decide) ?_
  refine wp_bipush (v := (6 : Int32)) rfl (by decide) ?_
  refine s_invStP (As := [.int a1, .int (0 : Int32), .int (6 : Int32)]) (d1 := d - 1) rfl ⟨by decide, by decide⟩ rfl rfl rfl (Nat.le_of_ble_eq_true rfl) (by omega) (p_in (by omega)) ?_
  refine s_bi_ne rfl (fun c_1 => ?_) (fun c_1 => ?_)
  · replace H := H.1 c_1
    refine wp_iconst (v := (0 : Int32)) rfl (by decide) ?_
    refine wp_istore_n (L' := [.ref 142, .int a1, .int (0 : Int32), x_jk, x_jk, x_jk, x_jk]) rfl rfl (by decide) rfl rfl ?_
    refine wp_aload_n rfl rfl rfl ?_
    refine wp_iconst (v := (0 : Int32)) rfl (by decide) ?_
    refine s_invV (As := [.int (0 : Int32)]) (d1 := d - 1) rfl ⟨by decide, by decide⟩ rfl rfl rfl (Nat.le_of_ble_eq_true rfl) (by omega) (kd_142 _) (by decide) rfl rfl H ?_
    intro v I2 h2
    exact h2
  · replace H := H.2 c_1
    refine wp_bipush (v := (-2 : Int32)) rfl (by decide) ?_
    exact s_iret rfl rfl rfl H
set_option maxRecDepth 20000 in
theorem r_M_wash_12 {E : XE} {d : Nat} {I : Nat → Nat → Int32} {Q : Option Value → (Nat → Nat → Int32) → Prop} (hd : 1 ≤ d) (v1 : Int32) (v2 : Int32) (w : Int32)
    (H : x_P E d 162 15 [.ref 142, .int v1, .int v2, .int w, .int (1 : Int32), x_jk, x_jk] [] I Q) :
    x_P E d 162 12 [.ref 142, .int v1, .int v2, x_jk, x_jk, x_jk, x_jk] [.int w] I Q := by
  refine wp_istore_n (L' := [.ref 142, .int v1, .int v2, .int w, x_jk, x_jk, x_jk]) rfl rfl (by decide) rfl rfl ?_
  refine wp_iconst (v := (1 : Int32)) rfl (by decide) ?_
  refine wp_istore (L' := [.ref 142, .int v1, .int v2, .int w, .int (1 : Int32), x_jk, x_jk]) rfl (by decide) rfl rfl ?_
  exact H
set_option maxRecDepth 20000 in
theorem r_M_wash_15 {E : XE} {d : Nat} {I : Nat → Nat → Int32} {Q : Option Value → (Nat → Nat → Int32) → Prop} (hd : 1 ≤ d) (v1 : Int32) (v2 : Int32) (v3 : Int32) (v4 : Int32)
    (H : ((((1 : Int32) <<< ((I 143 31) &&& 31)) ≤ v4 → Q (some (.int v2)) I) ∧ (¬ (((1 : Int32) <<< ((I 143 31) &&& 31)) ≤ v4) → x_K E (d - 1) 130 [.int v4] I (fun v I2 => x_P E d 162 25 [.ref 142, .int v1, .int v2, .int v3, .int v4, x_jk, x_jk] (v.toList ++ []) I2 Q)))) :
    x_P E d 162 15 [.ref 142, .int v1, .int v2, .int v3, .int v4, x_jk, x_jk] [] I Q := by
  refine wp_iload rfl rfl ?_
  refine wp_iconst (v := (1 : Int32)) rfl (by decide) ?_
  refine wp_aload_n rfl rfl rfl ?_
  refine wp_getR (v := .ref 143) rfl (by decide) (kd_142 _) rfl (kr_142_1 _) ?_
  refine wp_bipush (v := (31 : Int32)) rfl (by decide) ?_
  refine s_ialdc (k0 := 31) rfl (kd_143 _) rfl ?_
  refine wp_ishl rfl ?_
  refine wp_icmp_ge rfl (fun c_1 => ?_) (fun c_1 => ?_)
  · replace H := H.1 c_1
    refine wp_iload_n rfl rfl rfl ?_
    exact s_iret rfl rfl rfl H
  · replace H := H.2 c_1
    refine wp_iload rfl rfl ?_
    refine s_invSt (As := [.int v4]) (d1 := d - 1) rfl ⟨by decide, by decide⟩ rfl rfl rfl (Nat.le_of_ble_eq_true rfl) (by omega) H ?_
    intro v I2 h2
    exact h2
set_option maxRecDepth 20000 in
theorem r_M_wash_25 {E : XE} {d : Nat} {I : Nat → Nat → Int32} {Q : Option Value → (Nat → Nat → Int32) → Prop} (hd : 1 ≤ d) (v1 : Int32) (v2 : Int32) (v3 : Int32) (v4 : Int32) (w : Int32)
    (H : ((v1 < w → (((1000000000 : Int32) < v3 → x_P E d 162 15 [.ref 142, .int v1, .int v4, .int (1000000000 : Int32), .int (v4 + 1), x_jk, x_jk] [] I Q) ∧ (¬ ((1000000000 : Int32) < v3) → (((1000000000 : Int32) = v3 → x_K E (d - 1) 130 [.int v4] I (fun v I2 => x_P E d 162 41 [.ref 142, .int v1, .int v2, .int v3, .int v4, .int (1000000000 : Int32), x_jk] (v.toList ++ []) I2 Q)) ∧ (¬ ((1000000000 : Int32) = v3) → x_P E d 162 15 [.ref 142, .int v1, .int v2, .int v3, .int (v4 + 1), x_jk, x_jk] [] I Q))))) ∧ (¬ (v1 < w) → x_K E (d - 1) 161 [.ref 142, .int v4] I (fun v I2 => x_P E d 162 30 [.ref 142, .int v1, .int v2, .int v3, .int v4, x_jk, x_jk] (v.toList ++ []) I2 Q)))) :
    x_P E d 162 25 [.ref 142, .int v1, .int v2, .int v3, .int v4, x_jk, x_jk] [.int w] I Q := by
  refine wp_iload_n rfl rfl rfl ?_
  refine wp_icmp_gt rfl (fun c_1 => ?_) (fun c_1 => ?_)
  · replace H := H.1 c_1
    refine wp_ldc (v := (1000000000, 0)) rfl rfl (by decide) rfl ?_
    refine wp_istore (L' := [.ref 142, .int v1, .int v2, .int v3, .int v4, .int (1000000000 : Int32), x_jk]) rfl (by decide) rfl rfl ?_
    refine wp_iload rfl rfl ?_
    refine wp_iload_n rfl rfl rfl ?_
    refine wp_icmp_lt rfl (fun c_2 => ?_) (fun c_2 => ?_)
    · replace H := H.1 c_2
      refine wp_iconst (v := (1 : Int32)) rfl (by decide) ?_
      refine wp_goto rfl ?_
      refine wp_istore (L' := [.ref 142, .int v1, .int v2, .int v3, .int v4, .int (1000000000 : Int32), .int (1 : Int32)]) rfl (by decide) rfl rfl ?_
      refine wp_iload rfl rfl ?_
      refine wp_if_eq rfl (fun h => absurd h (by decide)) (fun _ => ?_)
      refine wp_iload rfl rfl ?_
      refine wp_goto rfl ?_
      refine wp_istore_n (L' := [.ref 142, .int v1, .int v4, .int v3, .int v4, .int (1000000000 : Int32), .int (1 : Int32)]) rfl rfl (by decide) rfl rfl ?_
      refine wp_iload rfl rfl ?_
      refine wp_if_eq rfl (fun h => absurd h (by decide)) (fun _ => ?_)
      refine wp_iload rfl rfl ?_
      refine wp_goto rfl ?_
      refine wp_istore_n (L' := [.ref 142, .int v1, .int v4, .int (1000000000 : Int32), .int v4, .int (1000000000 : Int32), .int (1 : Int32)]) rfl rfl (by decide) rfl rfl ?_
      refine wp_iinc (v := v4 + 1) (L' := [.ref 142, .int v1, .int v4, .int (1000000000 : Int32), .int (v4 + 1), .int (1000000000 : Int32), .int (1 : Int32)]) rfl rfl rfl rfl rfl ?_
      refine wp_goto rfl ?_
      exact x_P.weak (L := [.ref 142, .int v1, .int v4, .int (1000000000 : Int32), .int (v4 + 1), x_jk, x_jk]) (by exact ⟨Or.inr rfl, ⟨Or.inr rfl, ⟨Or.inr rfl, ⟨Or.inr rfl, ⟨Or.inr rfl, ⟨Or.inl rfl, ⟨Or.inl rfl, trivial⟩⟩⟩⟩⟩⟩⟩) H
    · replace H := H.2 c_2
      refine wp_iload rfl rfl ?_
      refine wp_iload_n rfl rfl rfl ?_
      refine wp_icmp_ne rfl (fun c_3 => ?_) (fun c_3 => ?_)
      · replace H := H.2 c_3
        refine wp_iconst (v := (0 : Int32)) rfl (by decide) ?_
        refine wp_istore (L' := [.ref 142, .int v1, .int v2, .int v3, .int v4, .int (1000000000 : Int32), .int (0 : Int32)]) rfl (by decide) rfl rfl ?_
        refine wp_iload rfl rfl ?_
        refine wp_if_eq rfl (fun _ => ?_) (fun h => absurd h (by decide))
        refine wp_iload_n rfl rfl rfl ?_
        refine wp_istore_n (L' := [.ref 142, .int v1, .int v2, .int v3, .int v4, .int (1000000000 : Int32), .int (0 : Int32)]) rfl rfl (by decide) rfl rfl ?_
        refine wp_iload rfl rfl ?_
        refine wp_if_eq rfl (fun _ => ?_) (fun h => absurd h (by decide))
        refine wp_iload_n rfl rfl rfl ?_
        refine wp_istore_n (L' := [.ref 142, .int v1, .int v2, .int v3, .int v4, .int (1000000000 : Int32), .int (0 : Int32)]) rfl rfl (by decide) rfl rfl ?_
        refine wp_iinc (v := v4 + 1) (L' := [.ref 142, .int v1, .int v2, .int v3, .int (v4 + 1), .int (1000000000 : Int32), .int (0 : Int32)]) rfl rfl rfl rfl rfl ?_
        refine wp_goto rfl ?_
        exact x_P.weak (L := [.ref 142, .int v1, .int v2, .int v3, .int (v4 + 1), x_jk, x_jk]) (by exact ⟨Or.inr rfl, ⟨Or.inr rfl, ⟨Or.inr rfl, ⟨Or.inr rfl, ⟨Or.inr rfl, ⟨Or.inl rfl, ⟨Or.inl rfl, trivial⟩⟩⟩⟩⟩⟩⟩) H
      · replace H := H.1 c_3
        refine wp_iload rfl rfl ?_
        refine s_invSt (As := [.int v4]) (d1 := d - 1) rfl ⟨by decide, by decide⟩ rfl rfl rfl (Nat.le_of_ble_eq_true rfl) (by omega) H ?_
        intro v I2 h2
        exact h2
  · replace H := H.2 c_1
    refine wp_aload_n rfl rfl rfl ?_
    refine wp_iload rfl rfl ?_
    refine s_invV (As := [.int v4]) (d1 := d - 1) rfl ⟨by decide, by decide⟩ rfl rfl rfl (Nat.le_of_ble_eq_true rfl) (by omega) (kd_142 _) (by decide) rfl rfl H ?_
    intro v I2 h2
    exact h2
set_option maxRecDepth 20000 in
theorem r_M_wash_30 {E : XE} {d : Nat} {I : Nat → Nat → Int32} {Q : Option Value → (Nat → Nat → Int32) → Prop} (hd : 1 ≤ d) (v1 : Int32) (v2 : Int32) (v3 : Int32) (v4 : Int32) (w : Int32)
    (H : ((w < v3 → x_P E d 162 15 [.ref 142, .int v1, .int v4, .int w, .int (v4 + 1), x_jk, x_jk] [] I Q) ∧ (¬ (w < v3) → ((w = v3 → x_K E (d - 1) 130 [.int v4] I (fun v I2 => x_P E d 162 41 [.ref 142, .int v1, .int v2, .int v3, .int v4, .int w, x_jk] (v.toList ++ []) I2 Q)) ∧ (¬ (w = v3) → x_P E d 162 15 [.ref 142, .int v1, .int v2, .int v3, .int (v4 + 1), x_jk, x_jk] [] I Q))))) :
    x_P E d 162 30 [.ref 142, .int v1, .int v2, .int v3, .int v4, x_jk, x_jk] [.int w] I Q := by
  refine wp_goto rfl ?_
  refine wp_istore (L' := [.ref 142, .int v1, .int v2, .int v3, .int v4, .int w, x_jk]) rfl (by decide) rfl rfl ?_
  refine wp_iload rfl rfl ?_
  refine wp_iload_n rfl rfl rfl ?_
  refine wp_icmp_lt rfl (fun c_1 => ?_) (fun c_1 => ?_)
  · replace H := H.1 c_1
    refine wp_iconst (v := (1 : Int32)) rfl (by decide) ?_
    refine wp_goto rfl ?_
    refine wp_istore (L' := [.ref 142, .int v1, .int v2, .int v3, .int v4, .int w, .int (1 : Int32)]) rfl (by decide) rfl rfl ?_
    refine wp_iload rfl rfl ?_
    refine wp_if_eq rfl (fun h => absurd h (by decide)) (fun _ => ?_)
    refine wp_iload rfl rfl ?_
    refine wp_goto rfl ?_
    refine wp_istore_n (L' := [.ref 142, .int v1, .int v4, .int v3, .int v4, .int w, .int (1 : Int32)]) rfl rfl (by decide) rfl rfl ?_
    refine wp_iload rfl rfl ?_
    refine wp_if_eq rfl (fun h => absurd h (by decide)) (fun _ => ?_)
    refine wp_iload rfl rfl ?_
    refine wp_goto rfl ?_
    refine wp_istore_n (L' := [.ref 142, .int v1, .int v4, .int w, .int v4, .int w, .int (1 : Int32)]) rfl rfl (by decide) rfl rfl ?_
    refine wp_iinc (v := v4 + 1) (L' := [.ref 142, .int v1, .int v4, .int w, .int (v4 + 1), .int w, .int (1 : Int32)]) rfl rfl rfl rfl rfl ?_
    refine wp_goto rfl ?_
    exact x_P.weak (L := [.ref 142, .int v1, .int v4, .int w, .int (v4 + 1), x_jk, x_jk]) (by exact ⟨Or.inr rfl, ⟨Or.inr rfl, ⟨Or.inr rfl, ⟨Or.inr rfl, ⟨Or.inr rfl, ⟨Or.inl rfl, ⟨Or.inl rfl, trivial⟩⟩⟩⟩⟩⟩⟩) H
  · replace H := H.2 c_1
    refine wp_iload rfl rfl ?_
    refine wp_iload_n rfl rfl rfl ?_
    refine wp_icmp_ne rfl (fun c_2 => ?_) (fun c_2 => ?_)
    · replace H := H.2 c_2
      refine wp_iconst (v := (0 : Int32)) rfl (by decide) ?_
      refine wp_istore (L' := [.ref 142, .int v1, .int v2, .int v3, .int v4, .int w, .int (0 : Int32)]) rfl (by decide) rfl rfl ?_
      refine wp_iload rfl rfl ?_
      refine wp_if_eq rfl (fun _ => ?_) (fun h => absurd h (by decide))
      refine wp_iload_n rfl rfl rfl ?_
      refine wp_istore_n (L' := [.ref 142, .int v1, .int v2, .int v3, .int v4, .int w, .int (0 : Int32)]) rfl rfl (by decide) rfl rfl ?_
      refine wp_iload rfl rfl ?_
      refine wp_if_eq rfl (fun _ => ?_) (fun h => absurd h (by decide))
      refine wp_iload_n rfl rfl rfl ?_
      refine wp_istore_n (L' := [.ref 142, .int v1, .int v2, .int v3, .int v4, .int w, .int (0 : Int32)]) rfl rfl (by decide) rfl rfl ?_
      refine wp_iinc (v := v4 + 1) (L' := [.ref 142, .int v1, .int v2, .int v3, .int (v4 + 1), .int w, .int (0 : Int32)]) rfl rfl rfl rfl rfl ?_
      refine wp_goto rfl ?_
      exact x_P.weak (L := [.ref 142, .int v1, .int v2, .int v3, .int (v4 + 1), x_jk, x_jk]) (by exact ⟨Or.inr rfl, ⟨Or.inr rfl, ⟨Or.inr rfl, ⟨Or.inr rfl, ⟨Or.inr rfl, ⟨Or.inl rfl, ⟨Or.inl rfl, trivial⟩⟩⟩⟩⟩⟩⟩) H
    · replace H := H.1 c_2
      refine wp_iload rfl rfl ?_
      refine s_invSt (As := [.int v4]) (d1 := d - 1) rfl ⟨by decide, by decide⟩ rfl rfl rfl (Nat.le_of_ble_eq_true rfl) (by omega) H ?_
      intro v I2 h2
      exact h2
set_option maxRecDepth 20000 in
theorem r_M_wash_41 {E : XE} {d : Nat} {I : Nat → Nat → Int32} {Q : Option Value → (Nat → Nat → Int32) → Prop} (hd : 1 ≤ d) (v1 : Int32) (v2 : Int32) (v3 : Int32) (v4 : Int32) (v5 : Int32) (w : Int32)
    (H : x_K E (d - 1) 130 [.int v2] I (fun v I2 => x_P E d 162 43 [.ref 142, .int v1, .int v2, .int v3, .int v4, .int v5, x_jk] (v.toList ++ [.int w]) I2 Q)) :
    x_P E d 162 41 [.ref 142, .int v1, .int v2, .int v3, .int v4, .int v5, x_jk] [.int w] I Q := by
  refine wp_iload_n rfl rfl rfl ?_
  refine s_invSt (As := [.int v2]) (d1 := d - 1) rfl ⟨by decide, by decide⟩ rfl rfl rfl (Nat.le_of_ble_eq_true rfl) (by omega) H ?_
  intro v I2 h2
  exact h2
set_option maxRecDepth 20000 in
theorem r_M_wash_43 {E : XE} {d : Nat} {I : Nat → Nat → Int32} {Q : Option Value → (Nat → Nat → Int32) → Prop} (hd : 1 ≤ d) (v1 : Int32) (v2 : Int32) (v3 : Int32) (v4 : Int32) (v5 : Int32) (s0 : Int32) (w : Int32)
    (H : x_P E d 162 15 [.ref 142, .int v1, .int (if ¬ (w ≤ s0) then v4 else v2), .int (if ¬ (w ≤ s0) then v5 else v3), .int (v4 + 1), x_jk, x_jk] [] I Q) :
    x_P E d 162 43 [.ref 142, .int v1, .int v2, .int v3, .int v4, .int v5, x_jk] [.int w, .int s0] I Q := by
  have J : x_P E d 162 47 [.ref 142, .int v1, .int v2, .int v3, .int v4, .int v5, x_jk] [.int (x_bi (¬ (w ≤ s0)))] I Q := by
    refine wp_istore (L' := [.ref 142, .int v1, .int v2, .int v3, .int v4, .int v5, .int (x_bi (¬ (w ≤ s0)))]) rfl (by decide) rfl rfl ?_
    refine wp_iload rfl rfl ?_
    have J : x_P E d 162 53 [.ref 142, .int v1, .int v2, .int v3, .int v4, .int v5, .int (x_bi (¬ (w ≤ s0)))] [.int (if ¬ (w ≤ s0) then v4 else v2)] I Q := by
      refine wp_istore_n (L' := [.ref 142, .int v1, .int (if ¬ (w ≤ s0) then v4 else v2), .int v3, .int v4, .int v5, .int (x_bi (¬ (w ≤ s0)))]) rfl rfl (by decide) rfl rfl ?_
      refine wp_iload rfl rfl ?_
      have J : x_P E d 162 59 [.ref 142, .int v1, .int (if ¬ (w ≤ s0) then v4 else v2), .int v3, .int v4, .int v5, .int (x_bi (¬ (w ≤ s0)))] [.int (if ¬ (w ≤ s0) then v5 else v3)] I Q := by
        refine wp_istore_n (L' := [.ref 142, .int v1, .int (if ¬ (w ≤ s0) then v4 else v2), .int (if ¬ (w ≤ s0) then v5 else v3), .int v4, .int v5, .int (x_bi (¬ (w ≤ s0)))]) rfl rfl (by decide) rfl rfl ?_
        refine wp_iinc (v := v4 + 1) (L' := [.ref 142, .int v1, .int (if ¬ (w ≤ s0) then v4 else v2), .int (if ¬ (w ≤ s0) then v5 else v3), .int (v4 + 1), .int v5, .int (x_bi (¬ (w ≤ s0)))]) rfl rfl rfl rfl rfl ?_
        refine wp_goto rfl ?_
        exact x_P.weak (L := [.ref 142, .int v1, .int (if ¬ (w ≤ s0) then v4 else v2), .int (if ¬ (w ≤ s0) then v5 else v3), .int (v4 + 1), x_jk, x_jk]) (by exact ⟨Or.inr rfl, ⟨Or.inr rfl, ⟨Or.inr rfl, ⟨Or.inr rfl, ⟨Or.inr rfl, ⟨Or.inl rfl, ⟨Or.inl rfl, trivial⟩⟩⟩⟩⟩⟩⟩) H
      refine s_bi_eq rfl (fun c_3 => ?_) (fun c_3 => ?_)
      · refine wp_iload_n rfl rfl rfl ?_
        exact x_P.cong rfl (by rw [show (if ¬ (w ≤ s0) then v5 else v3) = v3 from by simp only [if_neg c_3]]) J
      · refine wp_iload rfl rfl ?_
        refine wp_goto rfl ?_
        exact x_P.cong rfl (by rw [show (if ¬ (w ≤ s0) then v5 else v3) = v5 from by simp only [if_pos c_3]]) J
    refine s_bi_eq rfl (fun c_2 => ?_) (fun c_2 => ?_)
    · refine wp_iload_n rfl rfl rfl ?_
      exact x_P.cong rfl (by rw [show (if ¬ (w ≤ s0) then v4 else v2) = v2 from by simp only [if_neg c_2]]) J
    · refine wp_iload rfl rfl ?_
      refine wp_goto rfl ?_
      exact x_P.cong rfl (by rw [show (if ¬ (w ≤ s0) then v4 else v2) = v4 from by simp only [if_pos c_2]]) J
  refine wp_icmp_ge rfl (fun c_1 => ?_) (fun c_1 => ?_)
  · refine wp_iconst (v := (0 : Int32)) rfl (by decide) ?_
    exact x_P.cong rfl (by rw [show x_bi (¬ (w ≤ s0)) = (0 : Int32) from x_bi_f (fun h => h c_1)]) J
  · refine wp_iconst (v := (1 : Int32)) rfl (by decide) ?_
    refine wp_goto rfl ?_
    exact x_P.cong rfl (by rw [show x_bi (¬ (w ≤ s0)) = (1 : Int32) from x_bi_t c_1]) J
