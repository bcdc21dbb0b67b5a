set_option maxRecDepth 20000 in
theorem r_Pairing_weigh_0 {E : XE} {d : Nat} {I : Nat → Nat → Int32} {Q : Option Value → (Nat → Nat → Int32) → Prop} (hd : 1 ≤ d) (a2 : Int32)
    (H : x_P E d 30 2 [.ref 140, .ref 65, .int a2, .int (1 : Int32), x_jk, x_jk, x_jk, x_jk] [] I Q) :
    x_P E d 30 0 [.ref 140, .ref 65, .int a2, x_jk, x_jk, x_jk, x_jk, x_jk] [] I Q := by
  refine wp_iconst (v := (1 : Int32)) rfl (by decide) ?_
  refine wp_istore_n (L' := [.ref 140, .ref 65, .int a2, .int (1 : Int32), x_jk, x_jk, x_jk, x_jk]) rfl rfl (by decide) rfl rfl ?_
  exact H
set_option maxRecDepth 20000 in
theorem r_Pairing_weigh_2 {E : XE} {d : Nat} {I : Nat → Nat → Int32} {Q : Option Value → (Nat → Nat → Int32) → Prop} (hd : 1 ≤ d) (v2 : Int32) (v3 : Int32)
    (H : ((v2 < v3 → Q none I) ∧ (¬ (v2 < v3) → (((64 : Int32) ≤ v3 → Q none I) ∧ (¬ ((64 : Int32) ≤ v3) → x_K E (d - 1) 2 [.int v3] I (fun v I2 => x_P E d 30 12 [.ref 140, .ref 65, .int v2, .int v3, x_jk, x_jk, x_jk, x_jk] (v.toList ++ []) I2 Q)))))) :
    x_P E d 30 2 [.ref 140, .ref 65, .int v2, .int v3, x_jk, x_jk, x_jk, x_jk] [] I Q := by
  refine wp_iload_n rfl rfl rfl ?_
  refine wp_iload_n rfl rfl rfl ?_
  refine wp_icmp_gt rfl (fun c_1 => ?_) (fun c_1 => ?_)
  · replace H := H.1 c_1
    exact s_vret rfl rfl H
  · replace H := H.2 c_1
    refine wp_iload_n rfl rfl rfl ?_
    refine wp_aload_n rfl rfl rfl ?_
    refine wp_getR (v := .ref 141) rfl (by decide) (kd_140 _) rfl (kr_140_0 _) ?_
    refine wp_alen (v := (64 : Int32)) rfl (kd_141 _) (by decide) rfl ?_
    refine wp_icmp_ge rfl (fun c_2 => ?_) (fun c_2 => ?_)
    · replace H := H.1 c_2
      exact s_vret rfl rfl H
    · replace H := H.2 c_2
      refine wp_iload_n rfl rfl rfl ?_
      refine s_invSt (As := [.int v3]) (d1 := d - 1) rfl ⟨by decide, by decide⟩ rfl rfl rfl (Nat.le_of_ble_eq_true rfl) (by omega) H ?_
      intro v I2 h2
      exact h2
set_option maxRecDepth 20000 in
theorem r_Pairing_weigh_12 {E : XE} {d : Nat} {I : Nat → Nat → Int32} {Q : Option Value → (Nat → Nat → Int32) → Prop} (hd : 1 ≤ d) (v2 : Int32) (v3 : Int32) (w : Int32)
    (H : x_K E (d - 1) 1 [.int (v3 &&& (((1 : Int32) <<< (w &&& 31)) ^^^ (-1 : Int32)))] I (fun v I2 => x_P E d 30 23 [.ref 140, .ref 65, .int v2, .int v3, .int w, .int (v3 &&& (((1 : Int32) <<< (w &&& 31)) ^^^ (-1 : Int32))), x_jk, x_jk] (v.toList ++ []) I2 Q)) :
    x_P E d 30 12 [.ref 140, .ref 65, .int v2, .int v3, x_jk, x_jk, x_jk, x_jk] [.int w] I Q := by
  refine wp_istore (L' := [.ref 140, .ref 65, .int v2, .int v3, .int w, x_jk, x_jk, x_jk]) rfl (by decide) rfl rfl ?_
  refine wp_iload_n rfl rfl rfl ?_
  refine wp_iconst (v := (1 : Int32)) rfl (by decide) ?_
  refine wp_iload rfl rfl ?_
  refine wp_ishl rfl ?_
  refine wp_iconst (v := (-1 : Int32)) rfl (by decide) ?_
  refine wp_ixor rfl ?_
  refine wp_iand rfl ?_
  refine wp_istore (L' := [.ref 140, .ref 65, .int v2, .int v3, .int w, .int (v3 &&& (((1 : Int32) <<< (w &&& 31)) ^^^ (-1 : Int32))), x_jk, x_jk]) rfl (by decide) rfl rfl ?_
  refine wp_iload rfl rfl ?_
  refine s_invSt (As := [.int (v3 &&& (((1 : Int32) <<< (w &&& 31)) ^^^ (-1 : Int32)))]) (d1 := d - 1) rfl ⟨by decide, by decide⟩ rfl rfl rfl (Nat.le_of_ble_eq_true rfl) (by omega) H ?_
  intro v I2 h2
  exact h2
set_option maxRecDepth 20000 in
theorem r_Pairing_weigh_23 {E : XE} {d : Nat} {I : Nat → Nat → Int32} {Q : Option Value → (Nat → Nat → Int32) → Prop} (hd : 1 ≤ d) (v2 : Int32) (v3 : Int32) (v4 : Int32) (v5 : Int32) (w : Int32)
    (H : (((w - w / (2 : Int32) * (2 : Int32)) = 0 → vp_in v5 64)) ∧ (∀ z_3, z_3 = (if (w - w / (2 : Int32) * (2 : Int32)) = 0 then (I 141 v5.toNatClampNeg) else (99 : Int32)) → x_P E d 30 37 [.ref 140, .ref 65, .int v2, .int v3, .int v4, x_jk, .int z_3, .int (v4 + (1 : Int32))] [] I Q)) :
    x_P E d 30 23 [.ref 140, .ref 65, .int v2, .int v3, .int v4, .int v5, x_jk, x_jk] [.int w] I Q := by
  refine wp_iconst (v := (2 : Int32)) rfl (by decide) ?_
  refine wp_irem rfl (by decide) ?_
  obtain ⟨o_2, H⟩ := H
  obtain ⟨z_3, hz_3⟩ : ∃ z : Int32, z = (if (w - w / (2 : Int32) * (2 : Int32)) = 0 then (I 141 v5.toNatClampNeg) else (99 : Int32)) := ⟨_, rfl⟩
  replace H := H _ hz_3
  have J : x_P E d 30 32 [.ref 140, .ref 65, .int v2, .int v3, .int v4, .int v5, x_jk, x_jk] [.int z_3] I Q := by
    refine wp_istore (L' := [.ref 140, .ref 65, .int v2, .int v3, .int v4, .int v5, .int z_3, x_jk]) rfl (by decide) rfl rfl ?_
    refine wp_iload rfl rfl ?_
    refine wp_iconst (v := (1 : Int32)) rfl (by decide) ?_
    refine wp_iadd rfl ?_
    refine wp_istore (L' := [.ref 140, .ref 65, .int v2, .int v3, .int v4, .int v5, .int z_3, .int (v4 + (1 : Int32))]) rfl (by decide) rfl rfl ?_
    exact x_P.weak (L := [.ref 140, .ref 65, .int v2, .int v3, .int v4, x_jk, .int z_3, .int (v4 + (1 : Int32))]) (by exact ⟨Or.inr rfl, ⟨Or.inr rfl, ⟨Or.inr rfl, ⟨Or.inr rfl, ⟨Or.inr rfl, ⟨Or.inl rfl, ⟨Or.inr rfl, ⟨Or.inr rfl, trivial⟩⟩⟩⟩⟩⟩⟩⟩) H
  refine wp_if_ne rfl (fun c_1 => ?_) (fun c_1 => ?_)
  · refine wp_bipush (v := (99 : Int32)) rfl (by decide) ?_
    exact x_P.cong rfl (by rw [show z_3 = (99 : Int32) from by rw [hz_3]; simp only [if_neg c_1]]) J
  · refine wp_aload_n rfl rfl rfl ?_
    refine wp_getR (v := .ref 141) rfl (by decide) (kd_140 _) rfl (kr_140_0 _) ?_
    refine wp_iload rfl rfl ?_
    refine s_iald rfl (kd_141 _) (o_2 c_1) ?_
    refine wp_goto rfl ?_
    exact x_P.cong rfl (by rw [show z_3 = (I 141 v5.toNatClampNeg) from by rw [hz_3]; simp only [if_pos c_1]]) J
set_option maxRecDepth 20000 in
theorem r_Pairing_weigh_37 {E : XE} {d : Nat} {I : Nat → Nat → Int32} {Q : Option Value → (Nat → Nat → Int32) → Prop} (hd : 1 ≤ d) (v2 : Int32) (v3 : Int32) (v4 : Int32) (v6 : Int32) (v7 : Int32)
    (H : (((I 65 1) ≤ v7 → (vp_in v3 64) ∧ (∀ I_3, I_3 = x_up I 141 v3.toNatClampNeg v6 → x_P E d 30 2 [.ref 140, .ref 65, .int v2, .int (v3 + 1), x_jk, x_jk, x_jk, x_jk] [] I_3 Q)) ∧ (¬ ((I 65 1) ≤ v7) → x_K E (d - 1) 31 [.ref 140, .ref 65, .int v3, .int v4, .int v7] I (fun v I2 => x_P E d 30 48 [.ref 140, .ref 65, .int v2, .int v3, .int v4, x_jk, x_jk, .int v7] (v.toList ++ [.int v6]) I2 Q)))) :
    x_P E d 30 37 [.ref 140, .ref 65, .int v2, .int v3, .int v4, x_jk, .int v6, .int v7] [] I Q := by
  refine wp_iload rfl rfl ?_
  refine wp_aload_n rfl rfl rfl ?_
  refine s_getI rfl (by decide) (kd_65 _) rfl ?_
  refine wp_icmp_ge rfl (fun c_1 => ?_) (fun c_1 => ?_)
  · replace H := H.1 c_1
    refine wp_aload_n rfl rfl rfl ?_
    refine wp_getR (v := .ref 141) rfl (by decide) (kd_140 _) rfl (kr_140_0 _) ?_
    refine wp_iload_n rfl rfl rfl ?_
    refine wp_iload rfl rfl ?_
    obtain ⟨o_2, H⟩ := H
    refine s_iast rfl (kd_141 _) o_2 ?_
    generalize hI_3 : x_up I 141 v3.toNatClampNeg v6 = I_3
    replace H := H _ hI_3.symm
    refine wp_iinc (v := v3 + 1) (L' := [.ref 140, .ref 65, .int v2, .int (v3 + 1), .int v4, x_jk, .int v6, .int v7]) rfl rfl rfl rfl rfl ?_
    refine wp_goto rfl ?_
    exact x_P.weak (L := [.ref 140, .ref 65, .int v2, .int (v3 + 1), x_jk, x_jk, x_jk, x_jk]) (by exact ⟨Or.inr rfl, ⟨Or.inr rfl, ⟨Or.inr rfl, ⟨Or.inr rfl, ⟨Or.inl rfl, ⟨Or.inr rfl, ⟨Or.inl rfl, ⟨Or.inl rfl, trivial⟩⟩⟩⟩⟩⟩⟩⟩) H
  · replace H := H.2 c_1
    refine wp_iload rfl rfl ?_
    refine wp_aload_n rfl rfl rfl ?_
    refine wp_aload_n rfl rfl rfl ?_
    refine wp_iload_n rfl rfl rfl ?_
    refine wp_iload rfl rfl ?_
    refine wp_iload rfl rfl ?_
    refine s_invV (As := [.ref 65, .int v3, .int v4, .int v7]) (d1 := d - 1) rfl ⟨by decide, by decide⟩ rfl rfl rfl (Nat.le_of_ble_eq_true rfl) (by omega) (kd_140 _) (by decide) rfl rfl H ?_
    intro v I2 h2
    exact x_P.weak (L := [.ref 140, .ref 65, .int v2, .int v3, .int v4, x_jk, x_jk, .int v7]) (by exact ⟨Or.inr rfl, ⟨Or.inr rfl, ⟨Or.inr rfl, ⟨Or.inr rfl, ⟨Or.inr rfl, ⟨Or.inr rfl, ⟨Or.inl rfl, ⟨Or.inr rfl, trivial⟩⟩⟩⟩⟩⟩⟩⟩) h2
set_option maxRecDepth 20000 in
theorem r_Pairing_weigh_48 {E : XE} {d : Nat} {I : Nat → Nat → Int32} {Q : Option Value → (Nat → Nat → Int32) → Prop} (hd : 1 ≤ d) (v2 : Int32) (v3 : Int32) (v4 : Int32) (v7 : Int32) (s0 : Int32) (w : Int32)
    (H : x_P E d 30 37 [.ref 140, .ref 65, .int v2, .int v3, .int v4, x_jk, .int (if w < s0 then w else s0), .int (v7 + 1)] [] I Q) :
    x_P E d 30 48 [.ref 140, .ref 65, .int v2, .int v3, .int v4, x_jk, x_jk, .int v7] [.int w, .int s0] I Q := by
  refine s_mmin rfl rfl (Nat.le_of_ble_eq_true rfl) (by omega) ?_
  refine wp_istore (L' := [.ref 140, .ref 65, .int v2, .int v3, .int v4, x_jk, .int (if w < s0 then w else s0), .int v7]) rfl (by decide) rfl rfl ?_
  refine wp_iinc (v := v7 + 1) (L' := [.ref 140, .ref 65, .int v2, .int v3, .int v4, x_jk, .int (if w < s0 then w else s0), .int (v7 + 1)]) rfl rfl rfl rfl rfl ?_
  refine wp_goto rfl ?_
  exact H
set_option maxRecDepth 20000 in
theorem r_Pairing_together_0 {E : XE} {d : Nat} {I : Nat → Nat → Int32} {Q : Option Value → (Nat → Nat → Int32) → Prop} (hd : 1 ≤ d) (a2 : Int32) (a3 : Int32) (a4 : Int32)
    (H : x_K E (d - 1) 1 [.int ((a2 &&& (((1 : Int32) <<< (a3 &&& 31)) ^^^ (-1 : Int32))) &&& (((1 : Int32) <<< (a4 &&& 31)) ^^^ (-1 : Int32)))] I (fun v I2 => x_P E d 31 16 [.ref 140, .ref 65, .int a2, .int a3, .int a4, .int ((a2 &&& (((1 : Int32) <<< (a3 &&& 31)) ^^^ (-1 : Int32))) &&& (((1 : Int32) <<< (a4 &&& 31)) ^^^ (-1 : Int32))), x_jk] (v.toList ++ []) I2 Q)) :
    x_P E d 31 0 [.ref 140, .ref 65, .int a2, .int a3, .int a4, x_jk, x_jk] [] I Q := by
  refine wp_iload_n rfl rfl rfl ?_
  refine wp_iconst (v := (1 : Int32)) rfl (by decide) ?_
  refine wp_iload_n rfl rfl rfl ?_
  refine wp_ishl rfl ?_
  refine wp_iconst (v := (-1 : Int32)) rfl (by decide) ?_
  refine wp_ixor rfl ?_
  refine wp_iand rfl ?_
  refine wp_iconst (v := (1 : Int32)) rfl (by decide) ?_
  refine wp_iload rfl rfl ?_
  refine wp_ishl rfl ?_
  refine wp_iconst (v := (-1 : Int32)) rfl (by decide) ?_
  refine wp_ixor rfl ?_
  refine wp_iand rfl ?_
  refine wp_istore (L' := [.ref 140, .ref 65, .int a2, .int a3, .int a4, .int ((a2 &&& (((1 : Int32) <<< (a3 &&& 31)) ^^^ (-1 : Int32))) &&& (((1 : Int32) <<< (a4 &&& 31)) ^^^ (-1 : Int32))), x_jk]) rfl (by decide) rfl rfl ?_
  refine wp_iload rfl rfl ?_
  refine s_invSt (As := [.int ((a2 &&& (((1 : Int32) <<< (a3 &&& 31)) ^^^ (-1 : Int32))) &&& (((1 : Int32) <<< (a4 &&& 31)) ^^^ (-1 : Int32)))]) (d1 := d - 1) rfl ⟨by decide, by decide⟩ rfl rfl rfl (Nat.le_of_ble_eq_true rfl) (by omega) H ?_
  intro v I2 h2
  exact h2
set_option maxRecDepth 20000 in
theorem r_Pairing_together_16 {E : XE} {d : Nat} {I : Nat → Nat → Int32} {Q : Option Value → (Nat → Nat → Int32) → Prop} (hd : 1 ≤ d) (v2 : Int32) (v3 : Int32) (v4 : Int32) (v5 : Int32) (w : Int32)
    (H : x_K E (d - 1) 1 [.int v2] I (fun v I2 => x_P E d 31 18 [.ref 140, .ref 65, x_jk, .int v3, .int v4, .int v5, x_jk] (v.toList ++ [.int w]) I2 Q)) :
    x_P E d 31 16 [.ref 140, .ref 65, .int v2, .int v3, .int v4, .int v5, x_jk] [.int w] I Q := by
  refine wp_iload_n rfl rfl rfl ?_
  refine s_invSt (As := [.int v2]) (d1 := d - 1) rfl ⟨by decide, by decide⟩ rfl rfl rfl (Nat.le_of_ble_eq_true rfl) (by omega) H ?_
  intro v I2 h2
  exact x_P.weak (L := [.ref 140, .ref 65, x_jk, .int v3, .int v4, .int v5, x_jk]) (by exact ⟨Or.inr rfl, ⟨Or.inr rfl, ⟨Or.inl rfl, ⟨Or.inr rfl, ⟨Or.inr rfl, ⟨Or.inr rfl, ⟨Or.inr rfl, trivial⟩⟩⟩⟩⟩⟩⟩) h2
set_option maxRecDepth 20000 in
theorem r_Pairing_together_18 {E : XE} {d : Nat} {I : Nat → Nat → Int32} {Q : Option Value → (Nat → Nat → Int32) → Prop} (hd : 1 ≤ d) (v3 : Int32) (v4 : Int32) (v5 : Int32) (s0 : Int32) (w : Int32)
    (H : ((s0 = (w - (2 : Int32)) → (vp_in v5 64) ∧ (vp_in v3 6) ∧ (vp_in v4 6) ∧ x_K E (d - 1) 26 [.ref (85 + 2 * v3.toNatClampNeg), .ref (85 + 2 * v4.toNatClampNeg)] I (fun v I2 => x_P E d 31 40 [x_jk, x_jk, x_jk, x_jk, x_jk, x_jk, x_jk] (v.toList ++ [.int (I 141 v5.toNatClampNeg)]) I2 Q)) ∧ (¬ (s0 = (w - (2 : Int32))) → Q (some (.int (99 : Int32))) I))) :
    x_P E d 31 18 [.ref 140, .ref 65, x_jk, .int v3, .int v4, .int v5, x_jk] [.int w, .int s0] I Q := by
  refine wp_iconst (v := (2 : Int32)) rfl (by decide) ?_
  refine wp_isub rfl ?_
  have J : x_P E d 31 24 [.ref 140, .ref 65, x_jk, .int v3, .int v4, .int v5, x_jk] [.int (x_bi (s0 = (w - (2 : Int32))))] I Q := by
    refine wp_istore (L' := [.ref 140, .ref 65, x_jk, .int v3, .int v4, .int v5, .int (x_bi (s0 = (w - (2 : Int32))))]) rfl (by decide) rfl rfl ?_
    refine wp_iload rfl rfl ?_
    refine s_bi_eq rfl (fun c_2 => ?_) (fun c_2 => ?_)
    · replace H := H.2 c_2
      refine wp_bipush (v := (99 : Int32)) rfl (by decide) ?_
      exact s_iret rfl rfl rfl H
    · replace H := H.1 c_2
      refine wp_aload_n rfl rfl rfl ?_
      refine wp_getR (v := .ref 141) rfl (by decide) (kd_140 _) rfl (kr_140_0 _) ?_
      refine wp_iload rfl rfl ?_
      obtain ⟨o_3, H⟩ := H
      refine s_iald rfl (kd_141 _) o_3 ?_
      refine wp_aload_n rfl rfl rfl ?_
      refine wp_getR (v := .ref 66) rfl (by decide) (kd_65 _) rfl (kr_65_0 _) ?_
      refine wp_iload_n rfl rfl rfl ?_
      obtain ⟨o_4, H⟩ := H
      refine wp_aald (v := .ref (85 + 2 * v3.toNatClampNeg)) rfl (kd_66 _) o_4 (x_man_now (x_in_lt o_4)).2 ?_
      refine wp_aload_n rfl rfl rfl ?_
      refine wp_getR (v := .ref 66) rfl (by decide) (kd_65 _) rfl (kr_65_0 _) ?_
      refine wp_iload rfl rfl ?_
      obtain ⟨o_5, H⟩ := H
      refine wp_aald (v := .ref (85 + 2 * v4.toNatClampNeg)) rfl (kd_66 _) o_5 (x_man_now (x_in_lt o_5)).2 ?_
      refine s_invV (As := [.ref (85 + 2 * v4.toNatClampNeg)]) (d1 := d - 1) rfl ⟨by decide, by decide⟩ rfl rfl rfl (Nat.le_of_ble_eq_true rfl) (by omega) ((x_man_now (x_in_lt o_4)).1.1 _) (by decide) rfl rfl H ?_
      intro v I2 h2
      exact x_P.weak (L := [x_jk, x_jk, x_jk, x_jk, x_jk, x_jk, x_jk]) (by exact ⟨Or.inl rfl, ⟨Or.inl rfl, ⟨Or.inr rfl, ⟨Or.inl rfl, ⟨Or.inl rfl, ⟨Or.inl rfl, ⟨Or.inl rfl, trivial⟩⟩⟩⟩⟩⟩⟩) h2
  refine wp_icmp_ne rfl (fun c_1 => ?_) (fun c_1 => ?_)
  · refine wp_iconst (v := (0 : Int32)) rfl (by decide) ?_
    exact x_P.cong rfl (by rw [show x_bi (s0 = (w - (2 : Int32))) = (0 : Int32) from x_bi_f c_1]) J
  · refine wp_iconst (v := (1 : Int32)) rfl (by decide) ?_
    refine wp_goto rfl ?_
    exact x_P.cong rfl (by rw [show x_bi (s0 = (w - (2 : Int32))) = (1 : Int32) from x_bi_t c_1]) J
set_option maxRecDepth 20000 in
theorem r_Pairing_together_40 {E : XE} {d : Nat} {I : Nat → Nat → Int32} {Q : Option Value → (Nat → Nat → Int32) → Prop} (hd : 1 ≤ d) (s0 : Int32) (w : Int32)
    (H : Q (some (.int (s0 + w))) I) :
    x_P E d 31 40 [x_jk, x_jk, x_jk, x_jk, x_jk, x_jk, x_jk] [.int w, .int s0] I Q := by
  refine wp_iadd rfl ?_
  refine wp_goto rfl ?_
  exact s_iret rfl rfl rfl H
set_option maxRecDepth 20000 in
theorem r_Pairing_partner_0 {E : XE} {d : Nat} {I : Nat → Nat → Int32} {Q : Option Value → (Nat → Nat → Int32) → Prop} (hd : 1 ≤ d) (a2 : Int32) (a3 : Int32)
    (H : x_P E d 32 4 [.ref 140, .ref 65, x_jk, .int a3, .int a2, .int (0 : Int32), x_jk, x_jk] [] I Q) :
    x_P E d 32 0 [.ref 140, .ref 65, .int a2, .int a3, x_jk, x_jk, x_jk, x_jk] [] I Q := by
  refine wp_iload_n rfl rfl rfl ?_
  refine wp_istore (L' := [.ref 140, .ref 65, .int a2, .int a3, .int a2, x_jk, x_jk, x_jk]) rfl (by decide) rfl rfl ?_
  refine wp_iconst (v := (0 : Int32)) rfl (by decide) ?_
  refine wp_istore (L' := [.ref 140, .ref 65, .int a2, .int a3, .int a2, .int (0 : Int32), x_jk, x_jk]) rfl (by decide) rfl rfl ?_
  exact x_P.weak (L := [.ref 140, .ref 65, x_jk, .int a3, .int a2, .int (0 : Int32), x_jk, x_jk]) (by exact ⟨Or.inr rfl, ⟨Or.inr rfl, ⟨Or.inl rfl, ⟨Or.inr rfl, ⟨Or.inr rfl, ⟨Or.inr rfl, ⟨Or.inr rfl, ⟨Or.inr rfl, trivial⟩⟩⟩⟩⟩⟩⟩⟩) H
set_option maxRecDepth 20000 in
theorem r_Pairing_partner_4 {E : XE} {d : Nat} {I : Nat → Nat → Int32} {Q : Option Value → (Nat → Nat → Int32) → Prop} (hd : 1 ≤ d) (v3 : Int32) (v4 : Int32) (v5 : Int32)
    (H : (((6 : Int32) ≤ v5 → Q (some (.int (-5 : Int32))) I) ∧ (¬ ((6 : Int32) ≤ v5) → ((v4 = 0 → Q (some (.int (-5 : Int32))) I) ∧ (¬ (v4 = 0) → x_K E (d - 1) 2 [.int v4] I (fun v I2 => x_P E d 32 11 [.ref 140, .ref 65, x_jk, .int v3, .int v4, .int v5, x_jk, x_jk] (v.toList ++ []) I2 Q)))))) :
    x_P E d 32 4 [.ref 140, .ref 65, x_jk, .int v3, .int v4, .int v5, x_jk, x_jk] [] I Q := by
  refine wp_iload rfl rfl ?_
  refine wp_bipush (v := (6 : Int32)) rfl (by decide) ?_
  refine wp_icmp_ge rfl (fun c_1 => ?_) (fun c_1 => ?_)
  · replace H := H.1 c_1
    refine wp_bipush (v := (-5 : Int32)) rfl (by decide) ?_
    exact s_iret rfl rfl rfl H
  · replace H := H.2 c_1
    refine wp_iload rfl rfl ?_
    refine wp_if_eq rfl (fun c_2 => ?_) (fun c_2 => ?_)
    · replace H := H.1 c_2
      refine wp_bipush (v := (-5 : Int32)) rfl (by decide) ?_
      exact s_iret rfl rfl rfl H
    · replace H := H.2 c_2
      refine wp_iload rfl rfl ?_
      refine s_invSt (As := [.int v4]) (d1 := d - 1) rfl ⟨by decide, by decide⟩ rfl rfl rfl (Nat.le_of_ble_eq_true rfl) (by omega) H ?_
      intro v I2 h2
      exact h2
set_option maxRecDepth 20000 in
theorem r_Pairing_partner_11 {E : XE} {d : Nat} {I : Nat → Nat → Int32} {Q : Option Value → (Nat → Nat → Int32) → Prop} (hd : 1 ≤ d) (v3 : Int32) (v4 : Int32) (v5 : Int32) (w : Int32)
    (H : x_K E (d - 1) 33 [.ref 140, .ref 65, .int v4, .int w] I (fun v I2 => x_P E d 32 17 [.ref 140, .ref 65, x_jk, .int v3, .int v4, .int v5, .int w, x_jk] (v.toList ++ []) I2 Q)) :
    x_P E d 32 11 [.ref 140, .ref 65, x_jk, .int v3, .int v4, .int v5, x_jk, x_jk] [.int w] I Q := by
  refine wp_istore (L' := [.ref 140, .ref 65, x_jk, .int v3, .int v4, .int v5, .int w, x_jk]) rfl (by decide) rfl rfl ?_
  refine wp_aload_n rfl rfl rfl ?_
  refine wp_aload_n rfl rfl rfl ?_
  refine wp_iload rfl rfl ?_
  refine wp_iload rfl rfl ?_
  refine s_invV (As := [.ref 65, .int v4, .int w]) (d1 := d - 1) rfl ⟨by decide, by decide⟩ rfl rfl rfl (Nat.le_of_ble_eq_true rfl) (by omega) (kd_140 _) (by decide) rfl rfl H ?_
  intro v I2 h2
  exact h2
set_option maxRecDepth 20000 in
theorem r_Pairing_partner_17 {E : XE} {d : Nat} {I : Nat → Nat → Int32} {Q : Option Value → (Nat → Nat → Int32) → Prop} (hd : 1 ≤ d) (v3 : Int32) (v4 : Int32) (v5 : Int32) (v6 : Int32) (w : Int32)
    (H : ((v6 = v3 → Q (some (.int w)) I) ∧ (¬ (v6 = v3) → ((w = v3 → Q (some (.int v6)) I) ∧ (¬ (w = v3) → (∀ z_4, z_4 = (if 0 ≤ w then ((1 : Int32) <<< (w &&& 31)) else (0 : Int32)) → x_P E d 32 4 [.ref 140, .ref 65, x_jk, .int v3, .int (v4 &&& ((((1 : Int32) <<< (v6 &&& 31)) ||| z_4) ^^^ (-1 : Int32))), .int (v5 + 1), x_jk, x_jk] [] I Q)))))) :
    x_P E d 32 17 [.ref 140, .ref 65, x_jk, .int v3, .int v4, .int v5, .int v6, x_jk] [.int w] I Q := by
  refine wp_istore (L' := [.ref 140, .ref 65, x_jk, .int v3, .int v4, .int v5, .int v6, .int w]) rfl (by decide) rfl rfl ?_
  refine wp_iload rfl rfl ?_
  refine wp_iload_n rfl rfl rfl ?_
  refine wp_icmp_ne rfl (fun c_1 => ?_) (fun c_1 => ?_)
  · replace H := H.2 c_1
    refine wp_iload rfl rfl ?_
    refine wp_iload_n rfl rfl rfl ?_
    refine wp_icmp_ne rfl (fun c_2 => ?_) (fun c_2 => ?_)
    · replace H := H.2 c_2
      refine wp_iload rfl rfl ?_
      refine wp_iconst (v := (1 : Int32)) rfl (by decide) ?_
      refine wp_iload rfl rfl ?_
      refine wp_ishl rfl ?_
      refine wp_iload rfl rfl ?_
      obtain ⟨z_4, hz_4⟩ : ∃ z : Int32, z = (if 0 ≤ w then ((1 : Int32) <<< (w &&& 31)) else (0 : Int32)) := ⟨_, rfl⟩
      replace H := H _ hz_4
      have J : x_P E d 32 39 [.ref 140, .ref 65, x_jk, .int v3, .int v4, .int v5, .int v6, .int w] [.int z_4, .int ((1 : Int32) <<< (v6 &&& 31)), .int v4] I Q := by
        refine wp_ior rfl ?_
        refine wp_iconst (v := (-1 : Int32)) rfl (by decide) ?_
        refine wp_ixor rfl ?_
        refine wp_iand rfl ?_
        refine wp_istore (L' := [.ref 140, .ref 65, x_jk, .int v3, .int (v4 &&& ((((1 : Int32) <<< (v6 &&& 31)) ||| z_4) ^^^ (-1 : Int32))), .int v5, .int v6, .int w]) rfl (by decide) rfl rfl ?_
        refine wp_iinc (v := v5 + 1) (L' := [.ref 140, .ref 65, x_jk, .int v3, .int (v4 &&& ((((1 : Int32) <<< (v6 &&& 31)) ||| z_4) ^^^ (-1 : Int32))), .int (v5 + 1), .int v6, .int w]) rfl rfl rfl rfl rfl ?_
        refine wp_goto rfl ?_
        exact x_P.weak (L := [.ref 140, .ref 65, x_jk, .int v3, .int (v4 &&& ((((1 : Int32) <<< (v6 &&& 31)) ||| z_4) ^^^ (-1 : Int32))), .int (v5 + 1), x_jk, x_jk]) (by exact ⟨Or.inr rfl, ⟨Or.inr rfl, ⟨Or.inr rfl, ⟨Or.inr rfl, ⟨Or.inr rfl, ⟨Or.inr rfl, ⟨Or.inl rfl, ⟨Or.inl rfl, trivial⟩⟩⟩⟩⟩⟩⟩⟩) H
      refine wp_if_ge rfl (fun c_3 => ?_) (fun c_3 => ?_)
      · refine wp_iconst (v := (1 : Int32)) rfl (by decide) ?_
        refine wp_iload rfl rfl ?_
        refine wp_ishl rfl ?_
        exact x_P.cong rfl (by rw [show z_4 = ((1 : Int32) <<< (w &&& 31)) from by rw [hz_4]; simp only [if_pos c_3]]) J
      · refine wp_iconst (v := (0 : Int32)) rfl (by decide) ?_
        refine wp_goto rfl ?_
        exact x_P.cong rfl (by rw [show z_4 = (0 : Int32) from by rw [hz_4]; simp only [if_neg c_3]]) J
    · replace H := H.1 c_2
      refine wp_iload rfl rfl ?_
      exact s_iret rfl rfl rfl H
  · replace H := H.1 c_1
    refine wp_iload rfl rfl ?_
    exact s_iret rfl rfl rfl H
set_option maxRecDepth 20000 in
theorem r_Pairing_firstPartner_0 {E : XE} {d : Nat} {I : Nat → Nat → Int32} {Q : Option Value → (Nat → Nat → Int32) → Prop} (hd : 1 ≤ d) (a2 : Int32) (a3 : Int32)
    (H : x_P E d 33 4 [.ref 140, .ref 65, .int a2, .int a3, .int (a3 + (1 : Int32))] [] I Q) :
    x_P E d 33 0 [.ref 140, .ref 65, .int a2, .int a3, x_jk] [] I Q := by
  refine wp_iload_n rfl rfl rfl ?_
  refine wp_iconst (v := (1 : Int32)) rfl (by decide) ?_
  refine wp_iadd rfl ?_
  refine wp_istore (L' := [.ref 140, .ref 65, .int a2, .int a3, .int (a3 + (1 : Int32))]) rfl (by decide) rfl rfl ?_
  exact H
set_option maxRecDepth 20000 in
theorem r_Pairing_firstPartner_4 {E : XE} {d : Nat} {I : Nat → Nat → Int32} {Q : Option Value → (Nat → Nat → Int32) → Prop} (hd : 1 ≤ d) (v2 : Int32) (v3 : Int32) (v4 : Int32)
    (H : (((I 65 1) ≤ v4 → Q (some (.int (-5 : Int32))) I) ∧ (¬ ((I 65 1) ≤ v4) → x_K E (d - 1) 31 [.ref 140, .ref 65, .int v2, .int v3, .int v4] I (fun v I2 => x_P E d 33 14 [.ref 140, .ref 65, .int v2, .int v3, .int v4] (v.toList ++ []) I2 Q)))) :
    x_P E d 33 4 [.ref 140, .ref 65, .int v2, .int v3, .int v4] [] I Q := by
  refine wp_iload rfl rfl ?_
  refine wp_aload_n rfl rfl rfl ?_
  refine s_getI rfl (by decide) (kd_65 _) rfl ?_
  refine wp_icmp_ge rfl (fun c_1 => ?_) (fun c_1 => ?_)
  · replace H := H.1 c_1
    refine wp_bipush (v := (-5 : Int32)) rfl (by decide) ?_
    exact s_iret rfl rfl rfl H
  · replace H := H.2 c_1
    refine wp_aload_n rfl rfl rfl ?_
    refine wp_aload_n rfl rfl rfl ?_
    refine wp_iload_n rfl rfl rfl ?_
    refine wp_iload_n rfl rfl rfl ?_
    refine wp_iload rfl rfl ?_
    refine s_invV (As := [.ref 65, .int v2, .int v3, .int v4]) (d1 := d - 1) rfl ⟨by decide, by decide⟩ rfl rfl rfl (Nat.le_of_ble_eq_true rfl) (by omega) (kd_140 _) (by decide) rfl rfl H ?_
    intro v I2 h2
    exact h2
set_option maxRecDepth 20000 in
theorem r_Pairing_firstPartner_14 {E : XE} {d : Nat} {I : Nat → Nat → Int32} {Q : Option Value → (Nat → Nat → Int32) → Prop} (hd : 1 ≤ d) (v2 : Int32) (v3 : Int32) (v4 : Int32) (w : Int32)
    (H : (vp_in v2 64) ∧ ((w = (I 141 v2.toNatClampNeg) → Q (some (.int v4)) I) ∧ (¬ (w = (I 141 v2.toNatClampNeg)) → x_P E d 33 4 [.ref 140, .ref 65, .int v2, .int v3, .int (v4 + 1)] [] I Q))) :
    x_P E d 33 14 [.ref 140, .ref 65, .int v2, .int v3, .int v4] [.int w] I Q := by
  refine wp_aload_n rfl rfl rfl ?_
  refine wp_getR (v := .ref 141) rfl (by decide) (kd_140 _) rfl (kr_140_0 _) ?_
  refine wp_iload_n rfl rfl rfl ?_
  obtain ⟨o_1, H⟩ := H
  refine s_iald rfl (kd_141 _) o_1 ?_
  refine wp_icmp_ne rfl (fun c_2 => ?_) (fun c_2 => ?_)
  · replace H := H.2 c_2
    refine wp_iinc (v := v4 + 1) (L' := [.ref 140, .ref 65, .int v2, .int v3, .int (v4 + 1)]) rfl rfl rfl rfl rfl ?_
    refine wp_goto rfl ?_
    exact H
  · replace H := H.1 c_2
    refine wp_iload rfl rfl ?_
    exact s_iret rfl rfl rfl H
set_option maxRecDepth 20000 in
theorem r_Reader_reads_0 {E : XE} {d : Nat} {I : Nat → Nat → Int32} {Q : Option Value → (Nat → Nat → Int32) → Prop} (hd : 1 ≤ d) (a2 : Int32)
    (H : (∀ j, j < 100 → fits .byte (.int (I 67 j)) = true) ∧ (∀ I_2, I_2 = x_cp I 67 137 (100 : Int32).toNatClampNeg → (∀ I_3, I_3 = x_up I_2 131 2 (if (100 : Int32) < a2 then (100 : Int32) else a2) → (∀ I_4, I_4 = x_up I_3 131 3 (0 : Int32) → x_K E (d - 1) 49 [.ref 132] I_4 (fun v I2 => x_P E d 35 18 [.ref 131, x_jk, x_jk, x_jk] (v.toList ++ []) I2 Q))))) :
    x_P E d 35 0 [.ref 131, .ref 67, .int a2, x_jk] [] I Q := by
  refine wp_aload_n rfl rfl rfl ?_
  refine wp_iconst (v := (0 : Int32)) rfl (by decide) ?_
  refine wp_aload_n rfl rfl rfl ?_
  refine wp_getR (v := .ref 137) rfl (by decide) (kd_131 _) rfl (kr_131_1 _) ?_
  refine wp_iconst (v := (0 : Int32)) rfl (by decide) ?_
  refine wp_bipush (v := (100 : Int32)) rfl (by decide) ?_
  obtain ⟨o_1, H⟩ := H
  refine s_copy rfl rfl (kd_67 _) (kd_137 _) (by decide) (by decide) (by decide) (by decide) (fun _ => o_1) (Nat.le_of_ble_eq_true rfl) (by omega) ?_
  generalize hI_2 : x_cp I 67 137 (100 : Int32).toNatClampNeg = I_2
  replace H := H _ hI_2.symm
  refine wp_aload_n rfl rfl rfl ?_
  refine wp_iload_n rfl rfl rfl ?_
  refine wp_bipush (v := (100 : Int32)) rfl (by decide) ?_
  refine s_mmin rfl rfl (Nat.le_of_ble_eq_true rfl) (by omega) ?_
  refine s_putI rfl (by decide) (kd_131 _) rfl rfl (x_fit_int _) ?_
  generalize hI_3 : x_up I_2 131 2 (if (100 : Int32) < a2 then (100 : Int32) else a2) = I_3
  replace H := H _ hI_3.symm
  refine wp_aload_n rfl rfl rfl ?_
  refine wp_iconst (v := (0 : Int32)) rfl (by decide) ?_
  refine s_putI rfl (by decide) (kd_131 _) rfl rfl (x_fit_int _) ?_
  generalize hI_4 : x_up I_3 131 3 (0 : Int32) = I_4
  replace H := H _ hI_4.symm
  refine wp_aload_n rfl rfl rfl ?_
  refine wp_getR (v := .ref 132) rfl (by decide) (kd_131 _) rfl (kr_131_0 _) ?_
  refine s_invV (As := []) (d1 := d - 1) rfl ⟨by decide, by decide⟩ rfl rfl rfl (Nat.le_of_ble_eq_true rfl) (by omega) (kd_132 _) (by decide) rfl rfl H ?_
  intro v I2 h2
  exact x_P.weak (L := [.ref 131, x_jk, x_jk, x_jk]) (by exact ⟨Or.inr rfl, ⟨Or.inl rfl, ⟨Or.inl rfl, ⟨Or.inr rfl, trivial⟩⟩⟩⟩) h2
set_option maxRecDepth 20000 in
theorem r_Reader_reads_18 {E : XE} {d : Nat} {I : Nat → Nat → Int32} {Q : Option Value → (Nat → Nat → Int32) → Prop} (hd : 1 ≤ d) 
    (H : x_P E d 35 20 [.ref 131, x_jk, x_jk, .int (1 : Int32)] [] I Q) :
    x_P E d 35 18 [.ref 131, x_jk, x_jk, x_jk] [] I Q := by
  refine wp_iconst (v := (1 : Int32)) rfl (by decide) ?_
  refine wp_istore_n (L' := [.ref 131, x_jk, x_jk, .int (1 : Int32)]) rfl rfl (by decide) rfl rfl ?_
  exact H
set_option maxRecDepth 20000 in
theorem r_Reader_reads_20 {E : XE} {d : Nat} {I : Nat → Nat → Int32} {Q : Option Value → (Nat → Nat → Int32) → Prop} (hd : 1 ≤ d) (v3 : Int32)
    (H : (((10 : Int32) < v3 → Q (some (.int (0 : Int32))) I) ∧ (¬ ((10 : Int32) < v3) → x_K E (d - 1) 36 [.ref 131] I (fun v I2 => x_P E d 35 25 [.ref 131, x_jk, x_jk, .int v3] (v.toList ++ []) I2 Q)))) :
    x_P E d 35 20 [.ref 131, x_jk, x_jk, .int v3] [] I Q := by
  refine wp_iload_n rfl rfl rfl ?_
  refine wp_bipush (v := (10 : Int32)) rfl (by decide) ?_
  refine wp_icmp_gt rfl (fun c_1 => ?_) (fun c_1 => ?_)
  · replace H := H.1 c_1
    refine wp_iconst (v := (0 : Int32)) rfl (by decide) ?_
    exact s_iret rfl rfl rfl H
  · replace H := H.2 c_1
    refine wp_aload_n rfl rfl rfl ?_
    refine s_invV (As := []) (d1 := d - 1) rfl ⟨by decide, by decide⟩ rfl rfl rfl (Nat.le_of_ble_eq_true rfl) (by omega) (kd_131 _) (by decide) rfl rfl H ?_
    intro v I2 h2
    exact h2
set_option maxRecDepth 20000 in
theorem r_Reader_reads_25 {E : XE} {d : Nat} {I : Nat → Nat → Int32} {Q : Option Value → (Nat → Nat → Int32) → Prop} (hd : 1 ≤ d) (v3 : Int32) (w : Int32)
    (H : ((w = 0 → Q (some (.int (0 : Int32))) I) ∧ (¬ (w = 0) → (((I 131 3) = (I 131 2) → Q (some (.int (1 : Int32))) I) ∧ (¬ ((I 131 3) = (I 131 2)) → ((v3 = (10 : Int32) → Q (some (.int (0 : Int32))) I) ∧ (¬ (v3 = (10 : Int32)) → x_K E (d - 1) 42 [.ref 131, .int (59 : Int32)] I (fun v I2 => x_P E d 35 41 [.ref 131, x_jk, x_jk, .int v3] (v.toList ++ []) I2 Q)))))))) :
    x_P E d 35 25 [.ref 131, x_jk, x_jk, .int v3] [.int w] I Q := by
  refine wp_if_ne rfl (fun c_1 => ?_) (fun c_1 => ?_)
  · replace H := H.2 c_1
    refine wp_aload_n rfl rfl rfl ?_
    refine s_getI rfl (by decide) (kd_131 _) rfl ?_
    refine wp_aload_n rfl rfl rfl ?_
    refine s_getI rfl (by decide) (kd_131 _) rfl ?_
    refine wp_icmp_ne rfl (fun c_2 => ?_) (fun c_2 => ?_)
    · replace H := H.2 c_2
      refine wp_iload_n rfl rfl rfl ?_
      refine wp_bipush (v := (10 : Int32)) rfl (by decide) ?_
      refine wp_icmp_eq rfl (fun c_3 => ?_) (fun c_3 => ?_)
      · replace H := H.1 c_3
        refine wp_iconst (v := (0 : Int32)) rfl (by decide) ?_
        exact s_iret rfl rfl rfl H
      · replace H := H.2 c_3
        refine wp_aload_n rfl rfl rfl ?_
        refine wp_bipush (v := (59 : Int32)) rfl (by decide) ?_
        refine s_invV (As := [.int (59 : Int32)]) (d1 := d - 1) rfl ⟨by decide, by decide⟩ rfl rfl rfl (Nat.le_of_ble_eq_true rfl) (by omega) (kd_131 _) (by decide) rfl rfl H ?_
        intro v I2 h2
        exact h2
    · replace H := H.1 c_2
      refine wp_iconst (v := (1 : Int32)) rfl (by decide) ?_
      exact s_iret rfl rfl rfl H
  · replace H := H.1 c_1
    refine wp_iconst (v := (0 : Int32)) rfl (by decide) ?_
    exact s_iret rfl rfl rfl H
set_option maxRecDepth 20000 in
theorem r_Reader_reads_41 {E : XE} {d : Nat} {I : Nat → Nat → Int32} {Q : Option Value → (Nat → Nat → Int32) → Prop} (hd : 1 ≤ d) (v3 : Int32) (w : Int32)
    (H : ((w = 0 → Q (some (.int (0 : Int32))) I) ∧ (¬ (w = 0) → x_P E d 35 20 [.ref 131, x_jk, x_jk, .int (v3 + 1)] [] I Q))) :
    x_P E d 35 41 [.ref 131, x_jk, x_jk, .int v3] [.int w] I Q := by
  refine wp_if_ne rfl (fun c_1 => ?_) (fun c_1 => ?_)
  · replace H := H.2 c_1
    refine wp_iinc (v := v3 + 1) (L' := [.ref 131, x_jk, x_jk, .int (v3 + 1)]) rfl rfl rfl rfl rfl ?_
    refine wp_goto rfl ?_
    exact H
  · replace H := H.1 c_1
    refine wp_iconst (v := (0 : Int32)) rfl (by decide) ?_
    exact s_iret rfl rfl rfl H
set_option maxRecDepth 20000 in
theorem r_Reader_readsClause_0 {E : XE} {d : Nat} {I : Nat → Nat → Int32} {Q : Option Value → (Nat → Nat → Int32) → Prop} (hd : 1 ≤ d) 
    (H : x_K E (d - 1) 42 [.ref 131, .int (98 : Int32)] I (fun v I2 => x_P E d 36 3 [.ref 131, x_jk, x_jk] (v.toList ++ []) I2 Q)) :
    x_P E d 36 0 [.ref 131, x_jk, x_jk] [] I Q := by
  refine wp_aload_n rfl rfl rfl ?_
  refine wp_bipush (v := (98 : Int32)) rfl (by decide) ?_
  refine s_invV (As := [.int (98 : Int32)]) (d1 := d - 1) rfl ⟨by decide, by decide⟩ rfl rfl rfl (Nat.le_of_ble_eq_true rfl) (by omega) (kd_131 _) (by decide) rfl rfl H ?_
  intro v I2 h2
  exact h2
set_option maxRecDepth 20000 in
theorem r_Reader_readsClause_3 {E : XE} {d : Nat} {I : Nat → Nat → Int32} {Q : Option Value → (Nat → Nat → Int32) → Prop} (hd : 1 ≤ d) (w : Int32)
    (H : ((w = 0 → x_K E (d - 1) 42 [.ref 131, .int (115 : Int32)] I (fun v I2 => x_P E d 36 31 [.ref 131, x_jk, x_jk] (v.toList ++ []) I2 Q)) ∧ (¬ (w = 0) → x_K E (d - 1) 43 [.ref 131, .ref 8] I (fun v I2 => x_P E d 36 7 [.ref 131, x_jk, x_jk] (v.toList ++ []) I2 Q)))) :
    x_P E d 36 3 [.ref 131, x_jk, x_jk] [.int w] I Q := by
  refine wp_if_eq rfl (fun c_1 => ?_) (fun c_1 => ?_)
  · replace H := H.1 c_1
    refine wp_aload_n rfl rfl rfl ?_
    refine wp_bipush (v := (115 : Int32)) rfl (by decide) ?_
    refine s_invV (As := [.int (115 : Int32)]) (d1 := d - 1) rfl ⟨by decide, by decide⟩ rfl rfl rfl (Nat.le_of_ble_eq_true rfl) (by omega) (kd_131 _) (by decide) rfl rfl H ?_
    intro v I2 h2
    exact h2
  · replace H := H.2 c_1
    refine wp_aload_n rfl rfl rfl ?_
    refine wp_ldcS (j0 := 0) rfl rfl rfl (by decide) ?_
    refine s_invV (As := [.ref 8]) (d1 := d - 1) rfl ⟨by decide, by decide⟩ rfl rfl rfl (Nat.le_of_ble_eq_true rfl) (by omega) (kd_131 _) (by decide) rfl rfl H ?_
    intro v I2 h2
    exact h2
set_option maxRecDepth 20000 in
theorem r_Reader_readsClause_7 {E : XE} {d : Nat} {I : Nat → Nat → Int32} {Q : Option Value → (Nat → Nat → Int32) → Prop} (hd : 1 ≤ d) (w : Int32)
    (H : ((w = 0 → (∀ I_2, I_2 = x_up I 132 0 (I 132 0) → Q (some (.int (0 : Int32))) I_2)) ∧ (¬ (w = 0) → x_K E (d - 1) 41 [.ref 131] I (fun v I2 => x_P E d 36 10 [.ref 131, x_jk, x_jk] (v.toList ++ []) I2 Q)))) :
    x_P E d 36 7 [.ref 131, x_jk, x_jk] [.int w] I Q := by
  refine wp_if_eq rfl (fun c_1 => ?_) (fun c_1 => ?_)
  · replace H := H.1 c_1
    refine wp_iconst (v := (0 : Int32)) rfl (by decide) ?_
    refine wp_istore_n (L' := [.ref 131, .int (0 : Int32), x_jk]) rfl rfl (by decide) rfl rfl ?_
    refine wp_aload_n rfl rfl rfl ?_
    refine wp_getR (v := .ref 132) rfl (by decide) (kd_131 _) rfl (kr_131_0 _) ?_
    refine wp_iload_n rfl rfl rfl ?_
    refine wp_if_eq rfl (fun _ => ?_) (fun h => absurd h (by decide))
    refine wp_aload_n rfl rfl rfl ?_
    refine wp_getR (v := .ref 132) rfl (by decide) (kd_131 _) rfl (kr_131_0 _) ?_
    refine s_getI rfl (by decide) (kd_132 _) rfl ?_
    refine s_putI rfl (by decide) (kd_132 _) rfl rfl (x_fit_int _) ?_
    generalize hI_2 : x_up I 132 0 (I 132 0) = I_2
    replace H := H _ hI_2.symm
    refine wp_iload_n rfl rfl rfl ?_
    exact s_iret rfl rfl rfl H
  · replace H := H.2 c_1
    refine wp_aload_n rfl rfl rfl ?_
    refine s_invV (As := []) (d1 := d - 1) rfl ⟨by decide, by decide⟩ rfl rfl rfl (Nat.le_of_ble_eq_true rfl) (by omega) (kd_131 _) (by decide) rfl rfl H ?_
    intro v I2 h2
    exact h2
set_option maxRecDepth 20000 in
theorem r_Reader_readsClause_31 {E : XE} {d : Nat} {I : Nat → Nat → Int32} {Q : Option Value → (Nat → Nat → Int32) → Prop} (hd : 1 ≤ d) (w : Int32)
    (H : ((w = 0 → Q (some (.int (0 : Int32))) I) ∧ (¬ (w = 0) → x_K E (d - 1) 42 [.ref 131, .int (116 : Int32)] I (fun v I2 => x_P E d 36 37 [.ref 131, x_jk, x_jk] (v.toList ++ []) I2 Q)))) :
    x_P E d 36 31 [.ref 131, x_jk, x_jk] [.int w] I Q := by
  refine wp_if_ne rfl (fun c_1 => ?_) (fun c_1 => ?_)
  · replace H := H.2 c_1
    refine wp_aload_n rfl rfl rfl ?_
    refine wp_bipush (v := (116 : Int32)) rfl (by decide) ?_
    refine s_invV (As := [.int (116 : Int32)]) (d1 := d - 1) rfl ⟨by decide, by decide⟩ rfl rfl rfl (Nat.le_of_ble_eq_true rfl) (by omega) (kd_131 _) (by decide) rfl rfl H ?_
    intro v I2 h2
    exact h2
  · replace H := H.1 c_1
    refine wp_iconst (v := (0 : Int32)) rfl (by decide) ?_
    exact s_iret rfl rfl rfl H
set_option maxRecDepth 20000 in
theorem r_Reader_readsClause_10 {E : XE} {d : Nat} {I : Nat → Nat → Int32} {Q : Option Value → (Nat → Nat → Int32) → Prop} (hd : 1 ≤ d) (w : Int32)
    (H : (∀ z_3, z_3 = (if ¬ (w = 0) then (I 131 4) else (I 132 0)) → (∀ I_4, I_4 = x_up I 132 0 z_3 → Q (some (.int (x_bi (¬ (w = 0))))) I_4))) :
    x_P E d 36 10 [.ref 131, x_jk, x_jk] [.int w] I Q := by
  have J : x_P E d 36 14 [.ref 131, x_jk, x_jk] [.int (x_bi (¬ (w = 0)))] I Q := by
    refine wp_istore_n (L' := [.ref 131, .int (x_bi (¬ (w = 0))), x_jk]) rfl rfl (by decide) rfl rfl ?_
    refine wp_aload_n rfl rfl rfl ?_
    refine wp_getR (v := .ref 132) rfl (by decide) (kd_131 _) rfl (kr_131_0 _) ?_
    refine wp_iload_n rfl rfl rfl ?_
    obtain ⟨z_3, hz_3⟩ : ∃ z : Int32, z = (if ¬ (w = 0) then (I 131 4) else (I 132 0)) := ⟨_, rfl⟩
    replace H := H _ hz_3
    have J : x_P E d 36 25 [.ref 131, .int (x_bi (¬ (w = 0))), x_jk] [.int z_3, .ref 132] I Q := by
      refine s_putI rfl (by decide) (kd_132 _) rfl rfl (x_fit_int _) ?_
      generalize hI_4 : x_up I 132 0 z_3 = I_4
      replace H := H _ hI_4.symm
      refine wp_iload_n rfl rfl rfl ?_
      exact s_iret rfl rfl x_bi_nar H
    refine s_bi_eq rfl (fun c_2 => ?_) (fun c_2 => ?_)
    · refine wp_aload_n rfl rfl rfl ?_
      refine wp_getR (v := .ref 132) rfl (by decide) (kd_131 _) rfl (kr_131_0 _) ?_
      refine s_getI rfl (by decide) (kd_132 _) rfl ?_
      exact x_P.cong rfl (by rw [show z_3 = (I 132 0) from by rw [hz_3]; simp only [if_neg c_2]]) J
    · refine wp_aload_n rfl rfl rfl ?_
      refine s_getI rfl (by decide) (kd_131 _) rfl ?_
      refine wp_goto rfl ?_
      exact x_P.cong rfl (by rw [show z_3 = (I 131 4) from by rw [hz_3]; simp only [if_pos c_2]]) J
  refine wp_if_eq rfl (fun c_1 => ?_) (fun c_1 => ?_)
  · refine wp_iconst (v := (0 : Int32)) rfl (by decide) ?_
    exact x_P.cong rfl (by rw [show x_bi (¬ (w = 0)) = (0 : Int32) from x_bi_f (fun h => h c_1)]) J
  · refine wp_iconst (v := (1 : Int32)) rfl (by decide) ?_
    refine wp_goto rfl ?_
    exact x_P.cong rfl (by rw [show x_bi (¬ (w = 0)) = (1 : Int32) from x_bi_t c_1]) J
set_option maxRecDepth 20000 in
theorem r_Reader_readsClause_37 {E : XE} {d : Nat} {I : Nat → Nat → Int32} {Q : Option Value → (Nat → Nat → Int32) → Prop} (hd : 1 ≤ d) (w : Int32)
    (H : ((w = 0 → x_K E (d - 1) 43 [.ref 131, .ref 10] I (fun v I2 => x_P E d 36 45 [.ref 131, .int w, x_jk] (v.toList ++ []) I2 Q)) ∧ (¬ (w = 0) → x_K E (d - 1) 43 [.ref 131, .ref 9] I (fun v I2 => x_P E d 36 45 [.ref 131, .int w, x_jk] (v.toList ++ []) I2 Q)))) :
    x_P E d 36 37 [.ref 131, x_jk, x_jk] [.int w] I Q := by
  refine wp_istore_n (L' := [.ref 131, .int w, x_jk]) rfl rfl (by decide) rfl rfl ?_
  refine wp_aload_n rfl rfl rfl ?_
  refine wp_iload_n rfl rfl rfl ?_
  refine wp_if_eq rfl (fun c_1 => ?_) (fun c_1 => ?_)
  · replace H := H.1 c_1
    refine wp_ldcS (j0 := 2) rfl rfl rfl (by decide) ?_
    refine s_invV (As := [.ref 10]) (d1 := d - 1) rfl ⟨by decide, by decide⟩ rfl rfl rfl (Nat.le_of_ble_eq_true rfl) (by omega) (kd_131 _) (by decide) rfl rfl H ?_
    intro v I2 h2
    exact h2
  · replace H := H.2 c_1
    refine wp_ldcS (j0 := 1) rfl rfl rfl (by decide) ?_
    refine wp_goto rfl ?_
    refine s_invV (As := [.ref 9]) (d1 := d - 1) rfl ⟨by decide, by decide⟩ rfl rfl rfl (Nat.le_of_ble_eq_true rfl) (by omega) (kd_131 _) (by decide) rfl rfl H ?_
    intro v I2 h2
    exact h2
set_option maxRecDepth 20000 in
theorem r_Reader_readsClause_45 {E : XE} {d : Nat} {I : Nat → Nat → Int32} {Q : Option Value → (Nat → Nat → Int32) → Prop} (hd : 1 ≤ d) (v1 : Int32) (w : Int32)
    (H : ((w = 0 → Q (some (.int (0 : Int32))) I) ∧ (¬ (w = 0) → x_K E (d - 1) 41 [.ref 131] I (fun v I2 => x_P E d 36 48 [.ref 131, .int v1, x_jk] (v.toList ++ []) I2 Q)))) :
    x_P E d 36 45 [.ref 131, .int v1, x_jk] [.int w] I Q := by
  refine wp_if_eq rfl (fun c_1 => ?_) (fun c_1 => ?_)
  · replace H := H.1 c_1
    refine wp_iconst (v := (0 : Int32)) rfl (by decide) ?_
    exact s_iret rfl rfl rfl H
  · replace H := H.2 c_1
    refine wp_aload_n rfl rfl rfl ?_
    refine s_invV (As := []) (d1 := d - 1) rfl ⟨by decide, by decide⟩ rfl rfl rfl (Nat.le_of_ble_eq_true rfl) (by omega) (kd_131 _) (by decide) rfl rfl H ?_
    intro v I2 h2
    exact h2
set_option maxRecDepth 20000 in
theorem r_Reader_readsClause_48 {E : XE} {d : Nat} {I : Nat → Nat → Int32} {Q : Option Value → (Nat → Nat → Int32) → Prop} (hd : 1 ≤ d) (v1 : Int32) (w : Int32)
    (H : ((w = 0 → Q (some (.int (0 : Int32))) I) ∧ (¬ (w = 0) → (∀ z_3, z_3 = (if v1 = 0 then (-(I 131 4)) else (I 131 4)) → x_K E (d - 1) 42 [.ref 131, .int (32 : Int32)] I (fun v I2 => x_P E d 36 63 [.ref 131, x_jk, .int z_3] (v.toList ++ []) I2 Q))))) :
    x_P E d 36 48 [.ref 131, .int v1, x_jk] [.int w] I Q := by
  refine wp_if_ne rfl (fun c_1 => ?_) (fun c_1 => ?_)
  · replace H := H.2 c_1
    refine wp_iload_n rfl rfl rfl ?_
    obtain ⟨z_3, hz_3⟩ : ∃ z : Int32, z = (if v1 = 0 then (-(I 131 4)) else (I 131 4)) := ⟨_, rfl⟩
    replace H := H _ hz_3
    have J : x_P E d 36 59 [.ref 131, .int v1, x_jk] [.int z_3] I Q := by
      refine wp_istore_n (L' := [.ref 131, .int v1, .int z_3]) rfl rfl (by decide) rfl rfl ?_
      refine wp_aload_n rfl rfl rfl ?_
      refine wp_bipush (v := (32 : Int32)) rfl (by decide) ?_
      refine s_invV (As := [.int (32 : Int32)]) (d1 := d - 1) rfl ⟨by decide, by decide⟩ rfl rfl rfl (Nat.le_of_ble_eq_true rfl) (by omega) (kd_131 _) (by decide) rfl rfl H ?_
      intro v I2 h2
      exact x_P.weak (L := [.ref 131, x_jk, .int z_3]) (by exact ⟨Or.inr rfl, ⟨Or.inl rfl, ⟨Or.inr rfl, trivial⟩⟩⟩) h2
    refine wp_if_eq rfl (fun c_2 => ?_) (fun c_2 => ?_)
    · refine wp_aload_n rfl rfl rfl ?_
      refine s_getI rfl (by decide) (kd_131 _) rfl ?_
      refine wp_ineg rfl ?_
      exact x_P.cong rfl (by rw [show z_3 = (-(I 131 4)) from by rw [hz_3]; simp only [if_pos c_2]]) J
    · refine wp_aload_n rfl rfl rfl ?_
      refine s_getI rfl (by decide) (kd_131 _) rfl ?_
      refine wp_goto rfl ?_
      exact x_P.cong rfl (by rw [show z_3 = (I 131 4) from by rw [hz_3]; simp only [if_neg c_2]]) J
  · replace H := H.1 c_1
    refine wp_iconst (v := (0 : Int32)) rfl (by decide) ?_
    exact s_iret rfl rfl rfl H
set_option maxRecDepth 20000 in
theorem r_Reader_readsClause_63 {E : XE} {d : Nat} {I : Nat → Nat → Int32} {Q : Option Value → (Nat → Nat → Int32) → Prop} (hd : 1 ≤ d) (v2 : Int32) (w : Int32)
    (H : ((w = 0 → Q (some (.int (0 : Int32))) I) ∧ (¬ (w = 0) → x_K E (d - 1) 37 [.ref 131, .int (0 : Int32)] I (fun v I2 => x_P E d 36 67 [.ref 131, x_jk, .int v2] (v.toList ++ []) I2 Q)))) :
    x_P E d 36 63 [.ref 131, x_jk, .int v2] [.int w] I Q := by
  refine wp_if_eq rfl (fun c_1 => ?_) (fun c_1 => ?_)
  · replace H := H.1 c_1
    refine wp_iconst (v := (0 : Int32)) rfl (by decide) ?_
    exact s_iret rfl rfl rfl H
  · replace H := H.2 c_1
    refine wp_aload_n rfl rfl rfl ?_
    refine wp_iconst (v := (0 : Int32)) rfl (by decide) ?_
    refine s_invV (As := [.int (0 : Int32)]) (d1 := d - 1) rfl ⟨by decide, by decide⟩ rfl rfl rfl (Nat.le_of_ble_eq_true rfl) (by omega) (kd_131 _) (by decide) rfl rfl H ?_
    intro v I2 h2
    exact h2
set_option maxRecDepth 20000 in
theorem r_Reader_readsClause_67 {E : XE} {d : Nat} {I : Nat → Nat → Int32} {Q : Option Value → (Nat → Nat → Int32) → Prop} (hd : 1 ≤ d) (v2 : Int32) (w : Int32)
    (H : ((w = 0 → Q (some (.int (0 : Int32))) I) ∧ (¬ (w = 0) → x_K E (d - 1) 52 [.ref 132, .int v2] I (fun v I2 => x_P E d 36 74 [x_jk, x_jk, x_jk] (v.toList ++ []) I2 Q)))) :
    x_P E d 36 67 [.ref 131, x_jk, .int v2] [.int w] I Q := by
  refine wp_if_ne rfl (fun c_1 => ?_) (fun c_1 => ?_)
  · replace H := H.2 c_1
    refine wp_aload_n rfl rfl rfl ?_
    refine wp_getR (v := .ref 132) rfl (by decide) (kd_131 _) rfl (kr_131_0 _) ?_
    refine wp_iload_n rfl rfl rfl ?_
    refine s_invV (As := [.int v2]) (d1 := d - 1) rfl ⟨by decide, by decide⟩ rfl rfl rfl (Nat.le_of_ble_eq_true rfl) (by omega) (kd_132 _) (by decide) rfl rfl H ?_
    intro v I2 h2
    exact x_P.weak (L := [x_jk, x_jk, x_jk]) (by exact ⟨Or.inl rfl, ⟨Or.inr rfl, ⟨Or.inl rfl, trivial⟩⟩⟩) h2
  · replace H := H.1 c_1
    refine wp_iconst (v := (0 : Int32)) rfl (by decide) ?_
    exact s_iret rfl rfl rfl H
set_option maxRecDepth 20000 in
theorem r_Reader_readsClause_74 {E : XE} {d : Nat} {I : Nat → Nat → Int32} {Q : Option Value → (Nat → Nat → Int32) → Prop} (hd : 1 ≤ d) 
    (H : Q (some (.int (1 : Int32))) I) :
    x_P E d 36 74 [x_jk, x_jk, x_jk] [] I Q := by
  refine wp_iconst (v := (1 : Int32)) rfl (by decide) ?_
  exact s_iret rfl rfl rfl H
set_option maxRecDepth 20000 in
theorem r_Reader_readsEither_0 {E : XE} {d : Nat} {I : Nat → Nat → Int32} {Q : Option Value → (Nat → Nat → Int32) → Prop} (hd : 1 ≤ d) (a1 : Int32)
    (H : x_P E d 37 2 [.ref 131, .int a1, .int (0 : Int32)] [] I Q) :
    x_P E d 37 0 [.ref 131, .int a1, x_jk] [] I Q := by
  refine wp_iconst (v := (0 : Int32)) rfl (by decide) ?_
  refine wp_istore_n (L' := [.ref 131, .int a1, .int (0 : Int32)]) rfl rfl (by decide) rfl rfl ?_
  exact H
set_option maxRecDepth 20000 in
theorem r_Reader_readsEither_2 {E : XE} {d : Nat} {I : Nat → Nat → Int32} {Q : Option Value → (Nat → Nat → Int32) → Prop} (hd : 1 ≤ d) (v1 : Int32) (v2 : Int32)
    (H : (((100 : Int32) ≤ v2 → Q (some (.int (0 : Int32))) I) ∧ (¬ ((100 : Int32) ≤ v2) → x_K E (d - 1) 38 [.ref 131, .int v1] I (fun v I2 => x_P E d 37 8 [.ref 131, .int v1, .int v2] (v.toList ++ []) I2 Q)))) :
    x_P E d 37 2 [.ref 131, .int v1, .int v2] [] I Q := by
  refine wp_iload_n rfl rfl rfl ?_
  refine wp_bipush (v := (100 : Int32)) rfl (by decide) ?_
  refine wp_icmp_ge rfl (fun c_1 => ?_) (fun c_1 => ?_)
  · replace H := H.1 c_1
    refine wp_iconst (v := (0 : Int32)) rfl (by decide) ?_
    exact s_iret rfl rfl rfl H
  · replace H := H.2 c_1
    refine wp_aload_n rfl rfl rfl ?_
    refine wp_iload_n rfl rfl rfl ?_
    refine s_invV (As := [.int v1]) (d1 := d - 1) rfl ⟨by decide, by decide⟩ rfl rfl rfl (Nat.le_of_ble_eq_true rfl) (by omega) (kd_131 _) (by decide) rfl rfl H ?_
    intro v I2 h2
    exact h2
set_option maxRecDepth 20000 in
theorem r_Reader_readsEither_8 {E : XE} {d : Nat} {I : Nat → Nat → Int32} {Q : Option Value → (Nat → Nat → Int32) → Prop} (hd : 1 ≤ d) (v1 : Int32) (v2 : Int32) (w : Int32)
    (H : ((w = 0 → Q (some (.int (0 : Int32))) I) ∧ (¬ (w = 0) → ((v2 ≤ 0 → x_K E (d - 1) 42 [.ref 131, .int (124 : Int32)] I (fun v I2 => x_P E d 37 20 [.ref 131, .int v1, .int v2] (v.toList ++ []) I2 Q)) ∧ (¬ (v2 ≤ 0) → x_K E (d - 1) 51 [.ref 132, .int (-3 : Int32)] I (fun v I2 => x_P E d 37 17 [.ref 131, .int v1, .int v2] (v.toList ++ []) I2 Q)))))) :
    x_P E d 37 8 [.ref 131, .int v1, .int v2] [.int w] I Q := by
  refine wp_if_ne rfl (fun c_1 => ?_) (fun c_1 => ?_)
  · replace H := H.2 c_1
    refine wp_iload_n rfl rfl rfl ?_
    refine wp_if_le rfl (fun c_2 => ?_) (fun c_2 => ?_)
    · replace H := H.1 c_2
      refine wp_aload_n rfl rfl rfl ?_
      refine wp_bipush (v := (124 : Int32)) rfl (by decide) ?_
      refine s_invV (As := [.int (124 : Int32)]) (d1 := d - 1) rfl ⟨by decide, by decide⟩ rfl rfl rfl (Nat.le_of_ble_eq_true rfl) (by omega) (kd_131 _) (by decide) rfl rfl H ?_
      intro v I2 h2
      exact h2
    · replace H := H.2 c_2
      refine wp_aload_n rfl rfl rfl ?_
      refine wp_getR (v := .ref 132) rfl (by decide) (kd_131 _) rfl (kr_131_0 _) ?_
      refine wp_bipush (v := (-3 : Int32)) rfl (by decide) ?_
      refine s_invV (As := [.int (-3 : Int32)]) (d1 := d - 1) rfl ⟨by decide, by decide⟩ rfl rfl rfl (Nat.le_of_ble_eq_true rfl) (by omega) (kd_132 _) (by decide) rfl rfl H ?_
      intro v I2 h2
      exact h2
  · replace H := H.1 c_1
    refine wp_iconst (v := (0 : Int32)) rfl (by decide) ?_
    exact s_iret rfl rfl rfl H
set_option maxRecDepth 20000 in
theorem r_Reader_readsEither_17 {E : XE} {d : Nat} {I : Nat → Nat → Int32} {Q : Option Value → (Nat → Nat → Int32) → Prop} (hd : 1 ≤ d) (v1 : Int32) (v2 : Int32)
    (H : x_K E (d - 1) 42 [.ref 131, .int (124 : Int32)] I (fun v I2 => x_P E d 37 20 [.ref 131, .int v1, .int v2] (v.toList ++ []) I2 Q)) :
    x_P E d 37 17 [.ref 131, .int v1, .int v2] [] I Q := by
  refine wp_aload_n rfl rfl rfl ?_
  refine wp_bipush (v := (124 : Int32)) rfl (by decide) ?_
  refine s_invV (As := [.int (124 : Int32)]) (d1 := d - 1) rfl ⟨by decide, by decide⟩ rfl rfl rfl (Nat.le_of_ble_eq_true rfl) (by omega) (kd_131 _) (by decide) rfl rfl H ?_
  intro v I2 h2
  exact h2
set_option maxRecDepth 20000 in
theorem r_Reader_readsEither_20 {E : XE} {d : Nat} {I : Nat → Nat → Int32} {Q : Option Value → (Nat → Nat → Int32) → Prop} (hd : 1 ≤ d) (v1 : Int32) (v2 : Int32) (w : Int32)
    (H : ((w = 0 → Q (some (.int (1 : Int32))) I) ∧ (¬ (w = 0) → x_P E d 37 2 [.ref 131, .int v1, .int (v2 + 1)] [] I Q))) :
    x_P E d 37 20 [.ref 131, .int v1, .int v2] [.int w] I Q := by
  refine wp_if_ne rfl (fun c_1 => ?_) (fun c_1 => ?_)
  · replace H := H.2 c_1
    refine wp_iinc (v := v2 + 1) (L' := [.ref 131, .int v1, .int (v2 + 1)]) rfl rfl rfl rfl rfl ?_
    refine wp_goto rfl ?_
    exact H
  · replace H := H.1 c_1
    refine wp_iconst (v := (1 : Int32)) rfl (by decide) ?_
    exact s_iret rfl rfl rfl H
set_option maxRecDepth 20000 in
theorem r_Reader_readsBoth_0 {E : XE} {d : Nat} {I : Nat → Nat → Int32} {Q : Option Value → (Nat → Nat → Int32) → Prop} (hd : 1 ≤ d) (a1 : Int32)
    (H : x_P E d 38 2 [.ref 131, .int a1, .int (0 : Int32)] [] I Q) :
    x_P E d 38 0 [.ref 131, .int a1, x_jk] [] I Q := by
  refine wp_iconst (v := (0 : Int32)) rfl (by decide) ?_
  refine wp_istore_n (L' := [.ref 131, .int a1, .int (0 : Int32)]) rfl rfl (by decide) rfl rfl ?_
  exact H
set_option maxRecDepth 20000 in
theorem r_Reader_readsBoth_2 {E : XE} {d : Nat} {I : Nat → Nat → Int32} {Q : Option Value → (Nat → Nat → Int32) → Prop} (hd : 1 ≤ d) (v1 : Int32) (v2 : Int32)
    (H : (((100 : Int32) ≤ v2 → Q (some (.int (0 : Int32))) I) ∧ (¬ ((100 : Int32) ≤ v2) → x_K E (d - 1) 39 [.ref 131, .int v1] I (fun v I2 => x_P E d 38 8 [.ref 131, .int v1, .int v2] (v.toList ++ []) I2 Q)))) :
    x_P E d 38 2 [.ref 131, .int v1, .int v2] [] I Q := by
  refine wp_iload_n rfl rfl rfl ?_
  refine wp_bipush (v := (100 : Int32)) rfl (by decide) ?_
  refine wp_icmp_ge rfl (fun c_1 => ?_) (fun c_1 => ?_)
  · replace H := H.1 c_1
    refine wp_iconst (v := (0 : Int32)) rfl (by decide) ?_
    exact s_iret rfl rfl rfl H
  · replace H := H.2 c_1
    refine wp_aload_n rfl rfl rfl ?_
    refine wp_iload_n rfl rfl rfl ?_
    refine s_invV (As := [.int v1]) (d1 := d - 1) rfl ⟨by decide, by decide⟩ rfl rfl rfl (Nat.le_of_ble_eq_true rfl) (by omega) (kd_131 _) (by decide) rfl rfl H ?_
    intro v I2 h2
    exact h2
set_option maxRecDepth 20000 in
theorem r_Reader_readsBoth_8 {E : XE} {d : Nat} {I : Nat → Nat → Int32} {Q : Option Value → (Nat → Nat → Int32) → Prop} (hd : 1 ≤ d) (v1 : Int32) (v2 : Int32) (w : Int32)
    (H : ((w = 0 → Q (some (.int (0 : Int32))) I) ∧ (¬ (w = 0) → ((v2 ≤ 0 → x_K E (d - 1) 42 [.ref 131, .int (38 : Int32)] I (fun v I2 => x_P E d 38 20 [.ref 131, .int v1, .int v2] (v.toList ++ []) I2 Q)) ∧ (¬ (v2 ≤ 0) → x_K E (d - 1) 51 [.ref 132, .int (-2 : Int32)] I (fun v I2 => x_P E d 38 17 [.ref 131, .int v1, .int v2] (v.toList ++ []) I2 Q)))))) :
    x_P E d 38 8 [.ref 131, .int v1, .int v2] [.int w] I Q := by
  refine wp_if_ne rfl (fun c_1 => ?_) (fun c_1 => ?_)
  · replace H := H.2 c_1
    refine wp_iload_n rfl rfl rfl ?_
    refine wp_if_le rfl (fun c_2 => ?_) (fun c_2 => ?_)
    · replace H := H.1 c_2
      refine wp_aload_n rfl rfl rfl ?_
      refine wp_bipush (v := (38 : Int32)) rfl (by decide) ?_
      refine s_invV (As := [.int (38 : Int32)]) (d1 := d - 1) rfl ⟨by decide, by decide⟩ rfl rfl rfl (Nat.le_of_ble_eq_true rfl) (by omega) (kd_131 _) (by decide) rfl rfl H ?_
      intro v I2 h2
      exact h2
    · replace H := H.2 c_2
      refine wp_aload_n rfl rfl rfl ?_
      refine wp_getR (v := .ref 132) rfl (by decide) (kd_131 _) rfl (kr_131_0 _) ?_
      refine wp_bipush (v := (-2 : Int32)) rfl (by decide) ?_
      refine s_invV (As := [.int (-2 : Int32)]) (d1 := d - 1) rfl ⟨by decide, by decide⟩ rfl rfl rfl (Nat.le_of_ble_eq_true rfl) (by omega) (kd_132 _) (by decide) rfl rfl H ?_
      intro v I2 h2
      exact h2
  · replace H := H.1 c_1
    refine wp_iconst (v := (0 : Int32)) rfl (by decide) ?_
    exact s_iret rfl rfl rfl H
set_option maxRecDepth 20000 in
theorem r_Reader_readsBoth_17 {E : XE} {d : Nat} {I : Nat → Nat → Int32} {Q : Option Value → (Nat → Nat → Int32) → Prop} (hd : 1 ≤ d) (v1 : Int32) (v2 : Int32)
    (H : x_K E (d - 1) 42 [.ref 131, .int (38 : Int32)] I (fun v I2 => x_P E d 38 20 [.ref 131, .int v1, .int v2] (v.toList ++ []) I2 Q)) :
    x_P E d 38 17 [.ref 131, .int v1, .int v2] [] I Q := by
  refine wp_aload_n rfl rfl rfl ?_
  refine wp_bipush (v := (38 : Int32)) rfl (by decide) ?_
  refine s_invV (As := [.int (38 : Int32)]) (d1 := d - 1) rfl ⟨by decide, by decide⟩ rfl rfl rfl (Nat.le_of_ble_eq_true rfl) (by omega) (kd_131 _) (by decide) rfl rfl H ?_
  intro v I2 h2
  exact h2
set_option maxRecDepth 20000 in
theorem r_Reader_readsBoth_20 {E : XE} {d : Nat} {I : Nat → Nat → Int32} {Q : Option Value → (Nat → Nat → Int32) → Prop} (hd : 1 ≤ d) (v1 : Int32) (v2 : Int32) (w : Int32)
    (H : ((w = 0 → Q (some (.int (1 : Int32))) I) ∧ (¬ (w = 0) → x_P E d 38 2 [.ref 131, .int v1, .int (v2 + 1)] [] I Q))) :
    x_P E d 38 20 [.ref 131, .int v1, .int v2] [.int w] I Q := by
  refine wp_if_ne rfl (fun c_1 => ?_) (fun c_1 => ?_)
  · replace H := H.2 c_1
    refine wp_iinc (v := v2 + 1) (L' := [.ref 131, .int v1, .int (v2 + 1)]) rfl rfl rfl rfl rfl ?_
    refine wp_goto rfl ?_
    exact H
  · replace H := H.1 c_1
    refine wp_iconst (v := (1 : Int32)) rfl (by decide) ?_
    exact s_iret rfl rfl rfl H
set_option maxRecDepth 20000 in
theorem r_Reader_readsOne_0 {E : XE} {d : Nat} {I : Nat → Nat → Int32} {Q : Option Value → (Nat → Nat → Int32) → Prop} (hd : 1 ≤ d) (a1 : Int32)
    (H : (((5 : Int32) ≤ a1 → (((5 : Int32) ≤ a1 → x_K E (d - 1) 40 [.ref 131] I (fun v I2 => x_P E d 39 42 [x_jk, x_jk, x_jk] (v.toList ++ []) I2 Q)) ∧ (¬ ((5 : Int32) ≤ a1) → x_K E (d - 1) 42 [.ref 131, .int (40 : Int32)] I (fun v I2 => x_P E d 39 25 [.ref 131, .int a1, x_jk] (v.toList ++ []) I2 Q)))) ∧ (¬ ((5 : Int32) ≤ a1) → x_K E (d - 1) 42 [.ref 131, .int (33 : Int32)] I (fun v I2 => x_P E d 39 6 [.ref 131, .int a1, x_jk] (v.toList ++ []) I2 Q)))) :
    x_P E d 39 0 [.ref 131, .int a1, x_jk] [] I Q := by
  refine wp_iload_n rfl rfl rfl ?_
  refine wp_iconst (v := (5 : Int32)) rfl (by decide) ?_
  refine wp_icmp_ge rfl (fun c_1 => ?_) (fun c_1 => ?_)
  · replace H := H.1 c_1
    refine wp_iload_n rfl rfl rfl ?_
    refine wp_iconst (v := (5 : Int32)) rfl (by decide) ?_
    refine wp_icmp_ge rfl (fun c_2 => ?_) (fun c_2 => ?_)
    · replace H := H.1 c_2
      refine wp_aload_n rfl rfl rfl ?_
      refine s_invV (As := []) (d1 := d - 1) rfl ⟨by decide, by decide⟩ rfl rfl rfl (Nat.le_of_ble_eq_true rfl) (by omega) (kd_131 _) (by decide) rfl rfl H ?_
      intro v I2 h2
      exact x_P.weak (L := [x_jk, x_jk, x_jk]) (by exact ⟨Or.inl rfl, ⟨Or.inl rfl, ⟨Or.inr rfl, trivial⟩⟩⟩) h2
    · replace H := H.2 c_2
      refine wp_aload_n rfl rfl rfl ?_
      refine wp_bipush (v := (40 : Int32)) rfl (by decide) ?_
      refine s_invV (As := [.int (40 : Int32)]) (d1 := d - 1) rfl ⟨by decide, by decide⟩ rfl rfl rfl (Nat.le_of_ble_eq_true rfl) (by omega) (kd_131 _) (by decide) rfl rfl H ?_
      intro v I2 h2
      exact h2
  · replace H := H.2 c_1
    refine wp_aload_n rfl rfl rfl ?_
    refine wp_bipush (v := (33 : Int32)) rfl (by decide) ?_
    refine s_invV (As := [.int (33 : Int32)]) (d1 := d - 1) rfl ⟨by decide, by decide⟩ rfl rfl rfl (Nat.le_of_ble_eq_true rfl) (by omega) (kd_131 _) (by decide) rfl rfl H ?_
    intro v I2 h2
    exact h2
set_option maxRecDepth 20000 in
theorem r_Reader_readsOne_6 {E : XE} {d : Nat} {I : Nat → Nat → Int32} {Q : Option Value → (Nat → Nat → Int32) → Prop} (hd : 1 ≤ d) (v1 : Int32) (w : Int32)
    (H : ((w = 0 → (((5 : Int32) ≤ v1 → x_K E (d - 1) 40 [.ref 131] I (fun v I2 => x_P E d 39 42 [x_jk, x_jk, x_jk] (v.toList ++ []) I2 Q)) ∧ (¬ ((5 : Int32) ≤ v1) → x_K E (d - 1) 42 [.ref 131, .int (40 : Int32)] I (fun v I2 => x_P E d 39 25 [.ref 131, .int v1, x_jk] (v.toList ++ []) I2 Q)))) ∧ (¬ (w = 0) → x_K E (d - 1) 39 [.ref 131, .int (v1 + (1 : Int32))] I (fun v I2 => x_P E d 39 12 [.ref 131, x_jk, x_jk] (v.toList ++ []) I2 Q)))) :
    x_P E d 39 6 [.ref 131, .int v1, x_jk] [.int w] I Q := by
  refine wp_if_eq rfl (fun c_1 => ?_) (fun c_1 => ?_)
  · replace H := H.1 c_1
    refine wp_iload_n rfl rfl rfl ?_
    refine wp_iconst (v := (5 : Int32)) rfl (by decide) ?_
    refine wp_icmp_ge rfl (fun c_2 => ?_) (fun c_2 => ?_)
    · replace H := H.1 c_2
      refine wp_aload_n rfl rfl rfl ?_
      refine s_invV (As := []) (d1 := d - 1) rfl ⟨by decide, by decide⟩ rfl rfl rfl (Nat.le_of_ble_eq_true rfl) (by omega) (kd_131 _) (by decide) rfl rfl H ?_
      intro v I2 h2
      exact x_P.weak (L := [x_jk, x_jk, x_jk]) (by exact ⟨Or.inl rfl, ⟨Or.inl rfl, ⟨Or.inr rfl, trivial⟩⟩⟩) h2
    · replace H := H.2 c_2
      refine wp_aload_n rfl rfl rfl ?_
      refine wp_bipush (v := (40 : Int32)) rfl (by decide) ?_
      refine s_invV (As := [.int (40 : Int32)]) (d1 := d - 1) rfl ⟨by decide, by decide⟩ rfl rfl rfl (Nat.le_of_ble_eq_true rfl) (by omega) (kd_131 _) (by decide) rfl rfl H ?_
      intro v I2 h2
      exact h2
  · replace H := H.2 c_1
    refine wp_aload_n rfl rfl rfl ?_
    refine wp_iload_n rfl rfl rfl ?_
    refine wp_iconst (v := (1 : Int32)) rfl (by decide) ?_
    refine wp_iadd rfl ?_
    refine s_invV (As := [.int (v1 + (1 : Int32))]) (d1 := d - 1) rfl ⟨by decide, by decide⟩ rfl rfl rfl (Nat.le_of_ble_eq_true rfl) (by omega) (kd_131 _) (by decide) rfl rfl H ?_
    intro v I2 h2
    exact x_P.weak (L := [.ref 131, x_jk, x_jk]) (by exact ⟨Or.inr rfl, ⟨Or.inl rfl, ⟨Or.inr rfl, trivial⟩⟩⟩) h2
set_option maxRecDepth 20000 in
theorem r_Reader_readsOne_25 {E : XE} {d : Nat} {I : Nat → Nat → Int32} {Q : Option Value → (Nat → Nat → Int32) → Prop} (hd : 1 ≤ d) (v1 : Int32) (w : Int32)
    (H : ((w = 0 → x_K E (d - 1) 40 [.ref 131] I (fun v I2 => x_P E d 39 42 [x_jk, x_jk, x_jk] (v.toList ++ []) I2 Q)) ∧ (¬ (w = 0) → x_K E (d - 1) 37 [.ref 131, .int (v1 + (1 : Int32))] I (fun v I2 => x_P E d 39 31 [.ref 131, x_jk, x_jk] (v.toList ++ []) I2 Q)))) :
    x_P E d 39 25 [.ref 131, .int v1, x_jk] [.int w] I Q := by
  refine wp_if_eq rfl (fun c_1 => ?_) (fun c_1 => ?_)
  · replace H := H.1 c_1
    refine wp_aload_n rfl rfl rfl ?_
    refine s_invV (As := []) (d1 := d - 1) rfl ⟨by decide, by decide⟩ rfl rfl rfl (Nat.le_of_ble_eq_true rfl) (by omega) (kd_131 _) (by decide) rfl rfl H ?_
    intro v I2 h2
    exact x_P.weak (L := [x_jk, x_jk, x_jk]) (by exact ⟨Or.inl rfl, ⟨Or.inl rfl, ⟨Or.inr rfl, trivial⟩⟩⟩) h2
  · replace H := H.2 c_1
    refine wp_aload_n rfl rfl rfl ?_
    refine wp_iload_n rfl rfl rfl ?_
    refine wp_iconst (v := (1 : Int32)) rfl (by decide) ?_
    refine wp_iadd rfl ?_
    refine s_invV (As := [.int (v1 + (1 : Int32))]) (d1 := d - 1) rfl ⟨by decide, by decide⟩ rfl rfl rfl (Nat.le_of_ble_eq_true rfl) (by omega) (kd_131 _) (by decide) rfl rfl H ?_
    intro v I2 h2
    exact x_P.weak (L := [.ref 131, x_jk, x_jk]) (by exact ⟨Or.inr rfl, ⟨Or.inl rfl, ⟨Or.inr rfl, trivial⟩⟩⟩) h2
set_option maxRecDepth 20000 in
theorem r_Reader_readsOne_42 {E : XE} {d : Nat} {I : Nat → Nat → Int32} {Q : Option Value → (Nat → Nat → Int32) → Prop} (hd : 1 ≤ d) (w : Int32)
    (H : (narrow .boolean (.int w) = .int w) ∧ Q (some (.int w)) I) :
    x_P E d 39 42 [x_jk, x_jk, x_jk] [.int w] I Q := by
  obtain ⟨o_1, H⟩ := H
  exact s_iret rfl rfl o_1 H
set_option maxRecDepth 20000 in
theorem r_Reader_readsOne_12 {E : XE} {d : Nat} {I : Nat → Nat → Int32} {Q : Option Value → (Nat → Nat → Int32) → Prop} (hd : 1 ≤ d) (w : Int32)
    (H : x_K E (d - 1) 51 [.ref 132, .int (-1 : Int32)] I (fun v I2 => x_P E d 39 17 [x_jk, x_jk, .int w] (v.toList ++ []) I2 Q)) :
    x_P E d 39 12 [.ref 131, x_jk, x_jk] [.int w] I Q := by
  refine wp_istore_n (L' := [.ref 131, x_jk, .int w]) rfl rfl (by decide) rfl rfl ?_
  refine wp_aload_n rfl rfl rfl ?_
  refine wp_getR (v := .ref 132) rfl (by decide) (kd_131 _) rfl (kr_131_0 _) ?_
  refine wp_iconst (v := (-1 : Int32)) rfl (by decide) ?_
  refine s_invV (As := [.int (-1 : Int32)]) (d1 := d - 1) rfl ⟨by decide, by decide⟩ rfl rfl rfl (Nat.le_of_ble_eq_true rfl) (by omega) (kd_132 _) (by decide) rfl rfl H ?_
  intro v I2 h2
  exact x_P.weak (L := [x_jk, x_jk, .int w]) (by exact ⟨Or.inl rfl, ⟨Or.inr rfl, ⟨Or.inr rfl, trivial⟩⟩⟩) h2
set_option maxRecDepth 20000 in
theorem r_Reader_readsOne_31 {E : XE} {d : Nat} {I : Nat → Nat → Int32} {Q : Option Value → (Nat → Nat → Int32) → Prop} (hd : 1 ≤ d) (w : Int32)
    (H : ((w = 0 → Q (some (.int (0 : Int32))) I) ∧ (¬ (w = 0) → x_K E (d - 1) 42 [.ref 131, .int (41 : Int32)] I (fun v I2 => x_P E d 39 35 [x_jk, x_jk, x_jk] (v.toList ++ []) I2 Q)))) :
    x_P E d 39 31 [.ref 131, x_jk, x_jk] [.int w] I Q := by
  refine wp_if_eq rfl (fun c_1 => ?_) (fun c_1 => ?_)
  · replace H := H.1 c_1
    refine wp_iconst (v := (0 : Int32)) rfl (by decide) ?_
    exact s_iret rfl rfl rfl H
  · replace H := H.2 c_1
    refine wp_aload_n rfl rfl rfl ?_
    refine wp_bipush (v := (41 : Int32)) rfl (by decide) ?_
    refine s_invV (As := [.int (41 : Int32)]) (d1 := d - 1) rfl ⟨by decide, by decide⟩ rfl rfl rfl (Nat.le_of_ble_eq_true rfl) (by omega) (kd_131 _) (by decide) rfl rfl H ?_
    intro v I2 h2
    exact x_P.weak (L := [x_jk, x_jk, x_jk]) (by exact ⟨Or.inl rfl, ⟨Or.inr rfl, ⟨Or.inr rfl, trivial⟩⟩⟩) h2
set_option maxRecDepth 20000 in
theorem r_Reader_readsOne_17 {E : XE} {d : Nat} {I : Nat → Nat → Int32} {Q : Option Value → (Nat → Nat → Int32) → Prop} (hd : 1 ≤ d) (v2 : Int32)
    (H : (narrow .boolean (.int v2) = .int v2) ∧ Q (some (.int v2)) I) :
    x_P E d 39 17 [x_jk, x_jk, .int v2] [] I Q := by
  refine wp_iload_n rfl rfl rfl ?_
  obtain ⟨o_1, H⟩ := H
  exact s_iret rfl rfl o_1 H
set_option maxRecDepth 20000 in
theorem r_Reader_readsOne_35 {E : XE} {d : Nat} {I : Nat → Nat → Int32} {Q : Option Value → (Nat → Nat → Int32) → Prop} (hd : 1 ≤ d) (w : Int32)
    (H : Q (some (.int (x_bi (¬ (w = 0))))) I) :
    x_P E d 39 35 [x_jk, x_jk, x_jk] [.int w] I Q := by
  have J : x_P E d 39 39 [x_jk, x_jk, x_jk] [.int (x_bi (¬ (w = 0)))] I Q := by
    exact s_iret rfl rfl x_bi_nar H
  refine wp_if_eq rfl (fun c_1 => ?_) (fun c_1 => ?_)
  · refine wp_iconst (v := (0 : Int32)) rfl (by decide) ?_
    exact x_P.cong rfl (by rw [show x_bi (¬ (w = 0)) = (0 : Int32) from x_bi_f (fun h => h c_1)]) J
  · refine wp_iconst (v := (1 : Int32)) rfl (by decide) ?_
    refine wp_goto rfl ?_
    exact x_P.cong rfl (by rw [show x_bi (¬ (w = 0)) = (1 : Int32) from x_bi_t c_1]) J
set_option maxRecDepth 20000 in
theorem r_Reader_readsTest_0 {E : XE} {d : Nat} {I : Nat → Nat → Int32} {Q : Option Value → (Nat → Nat → Int32) → Prop} (hd : 1 ≤ d) 
    (H : (((I 131 2) ≤ (I 131 3) → Q (some (.int (0 : Int32))) I) ∧ (¬ ((I 131 2) ≤ (I 131 3)) → (vp_in (I 131 3) 100) ∧ x_K E (d - 1) 8 [.ref 11, .int (((I 137 (I 131 3).toNatClampNeg).toUInt32 % 65536).toInt32)] I (fun v I2 => x_P E d 40 13 [.ref 131, x_jk, x_jk] (v.toList ++ []) I2 Q)))) :
    x_P E d 40 0 [.ref 131, x_jk, x_jk] [] I Q := by
  refine wp_aload_n rfl rfl rfl ?_
  refine s_getI rfl (by decide) (kd_131 _) rfl ?_
  refine wp_aload_n rfl rfl rfl ?_
  refine s_getI rfl (by decide) (kd_131 _) rfl ?_
  refine wp_icmp_ge rfl (fun c_1 => ?_) (fun c_1 => ?_)
  · replace H := H.1 c_1
    refine wp_iconst (v := (-1 : Int32)) rfl (by decide) ?_
    refine wp_istore_n (L' := [.ref 131, .int (-1 : Int32), x_jk]) rfl rfl (by decide) rfl rfl ?_
    refine wp_iload_n rfl rfl rfl ?_
    refine wp_if_ge rfl (fun h => absurd h (by decide)) (fun _ => ?_)
    refine wp_iconst (v := (0 : Int32)) rfl (by decide) ?_
    exact s_iret rfl rfl rfl H
  · replace H := H.2 c_1
    refine wp_ldcS (j0 := 3) rfl rfl rfl (by decide) ?_
    refine wp_aload_n rfl rfl rfl ?_
    refine wp_getR (v := .ref 137) rfl (by decide) (kd_131 _) rfl (kr_131_1 _) ?_
    refine wp_aload_n rfl rfl rfl ?_
    refine s_getI rfl (by decide) (kd_131 _) rfl ?_
    obtain ⟨o_2, H⟩ := H
    refine s_bald rfl (kd_137 _) o_2 ?_
    refine wp_i2c rfl ?_
    refine s_invS (As := [.int (((I 137 (I 131 3).toNatClampNeg).toUInt32 % 65536).toInt32)]) (d1 := d - 1) (e0 := 3) rfl ⟨by decide, by decide⟩ rfl rfl rfl (Nat.le_of_ble_eq_true rfl) (by omega) (by decide) rfl H ?_
    intro v I2 h2
    exact h2
set_option maxRecDepth 20000 in
theorem r_Reader_readsTest_13 {E : XE} {d : Nat} {I : Nat → Nat → Int32} {Q : Option Value → (Nat → Nat → Int32) → Prop} (hd : 1 ≤ d) (w : Int32)
    (H : ((0 ≤ w → (∀ I_2, I_2 = x_up I 131 3 ((I 131 3) + (1 : Int32)) → (((I_2 131 2) ≤ (I_2 131 3) → Q (some (.int (0 : Int32))) I_2) ∧ (¬ ((I_2 131 2) ≤ (I_2 131 3)) → (vp_in (I_2 131 3) 100) ∧ x_K E (d - 1) 8 [.ref 12, .int (((I_2 137 (I_2 131 3).toNatClampNeg).toUInt32 % 65536).toInt32)] I_2 (fun v I2 => x_P E d 40 39 [.ref 131, .int w, x_jk] (v.toList ++ []) I2 Q))))) ∧ (¬ (0 ≤ w) → Q (some (.int (0 : Int32))) I))) :
    x_P E d 40 13 [.ref 131, x_jk, x_jk] [.int w] I Q := by
  refine wp_goto rfl ?_
  refine wp_istore_n (L' := [.ref 131, .int w, x_jk]) rfl rfl (by decide) rfl rfl ?_
  refine wp_iload_n rfl rfl rfl ?_
  refine wp_if_ge rfl (fun c_1 => ?_) (fun c_1 => ?_)
  · replace H := H.1 c_1
    refine wp_aload_n rfl rfl rfl ?_
    refine wp_dup rfl rfl ?_
    refine s_getI rfl (by decide) (kd_131 _) rfl ?_
    refine wp_iconst (v := (1 : Int32)) rfl (by decide) ?_
    refine wp_iadd rfl ?_
    refine s_putI rfl (by decide) (kd_131 _) rfl rfl (x_fit_int _) ?_
    generalize hI_2 : x_up I 131 3 ((I 131 3) + (1 : Int32)) = I_2
    replace H := H _ hI_2.symm
    refine wp_aload_n rfl rfl rfl ?_
    refine s_getI rfl (by decide) (kd_131 _) rfl ?_
    refine wp_aload_n rfl rfl rfl ?_
    refine s_getI rfl (by decide) (kd_131 _) rfl ?_
    refine wp_icmp_ge rfl (fun c_3 => ?_) (fun c_3 => ?_)
    · replace H := H.1 c_3
      refine wp_iconst (v := (-1 : Int32)) rfl (by decide) ?_
      refine wp_istore_n (L' := [.ref 131, .int w, .int (-1 : Int32)]) rfl rfl (by decide) rfl rfl ?_
      refine wp_iload_n rfl rfl rfl ?_
      refine wp_if_ge rfl (fun h => absurd h (by decide)) (fun _ => ?_)
      refine wp_iconst (v := (0 : Int32)) rfl (by decide) ?_
      exact s_iret rfl rfl rfl H
    · replace H := H.2 c_3
      refine wp_ldcS (j0 := 4) rfl rfl rfl (by decide) ?_
      refine wp_aload_n rfl rfl rfl ?_
      refine wp_getR (v := .ref 137) rfl (by decide) (kd_131 _) rfl (kr_131_1 _) ?_
      refine wp_aload_n rfl rfl rfl ?_
      refine s_getI rfl (by decide) (kd_131 _) rfl ?_
      obtain ⟨o_4, H⟩ := H
      refine s_bald rfl (kd_137 _) o_4 ?_
      refine wp_i2c rfl ?_
      refine s_invS (As := [.int (((I_2 137 (I_2 131 3).toNatClampNeg).toUInt32 % 65536).toInt32)]) (d1 := d - 1) (e0 := 4) rfl ⟨by decide, by decide⟩ rfl rfl rfl (Nat.le_of_ble_eq_true rfl) (by omega) (by decide) rfl H ?_
      intro v I2 h2
      exact h2
  · replace H := H.2 c_1
    refine wp_iconst (v := (0 : Int32)) rfl (by decide) ?_
    exact s_iret rfl rfl rfl H
set_option maxRecDepth 20000 in
theorem r_Reader_readsTest_39 {E : XE} {d : Nat} {I : Nat → Nat → Int32} {Q : Option Value → (Nat → Nat → Int32) → Prop} (hd : 1 ≤ d) (v1 : Int32) (w : Int32)
    (H : ((0 ≤ w → (∀ I_2, I_2 = x_up I 131 3 ((I 131 3) + (1 : Int32)) → x_K E (d - 1) 41 [.ref 131] I_2 (fun v I2 => x_P E d 40 54 [.ref 131, .int v1, .int w] (v.toList ++ []) I2 Q))) ∧ (¬ (0 ≤ w) → Q (some (.int (0 : Int32))) I))) :
    x_P E d 40 39 [.ref 131, .int v1, x_jk] [.int w] I Q := by
  refine wp_goto rfl ?_
  refine wp_istore_n (L' := [.ref 131, .int v1, .int w]) rfl rfl (by decide) rfl rfl ?_
  refine wp_iload_n rfl rfl rfl ?_
  refine wp_if_ge rfl (fun c_1 => ?_) (fun c_1 => ?_)
  · replace H := H.1 c_1
    refine wp_aload_n rfl rfl rfl ?_
    refine wp_dup rfl rfl ?_
    refine s_getI rfl (by decide) (kd_131 _) rfl ?_
    refine wp_iconst (v := (1 : Int32)) rfl (by decide) ?_
    refine wp_iadd rfl ?_
    refine s_putI rfl (by decide) (kd_131 _) rfl rfl (x_fit_int _) ?_
    generalize hI_2 : x_up I 131 3 ((I 131 3) + (1 : Int32)) = I_2
    replace H := H _ hI_2.symm
    refine wp_aload_n rfl rfl rfl ?_
    refine s_invV (As := []) (d1 := d - 1) rfl ⟨by decide, by decide⟩ rfl rfl rfl (Nat.le_of_ble_eq_true rfl) (by omega) (kd_131 _) (by decide) rfl rfl H ?_
    intro v I2 h2
    exact h2
  · replace H := H.2 c_1
    refine wp_iconst (v := (0 : Int32)) rfl (by decide) ?_
    exact s_iret rfl rfl rfl H
set_option maxRecDepth 20000 in
theorem r_Reader_readsTest_54 {E : XE} {d : Nat} {I : Nat → Nat → Int32} {Q : Option Value → (Nat → Nat → Int32) → Prop} (hd : 1 ≤ d) (v1 : Int32) (v2 : Int32) (w : Int32)
    (H : ((w = 0 → Q (some (.int (0 : Int32))) I) ∧ (¬ (w = 0) → x_K E (d - 1) 55 [.int v1, .int v2, .int (I 131 4)] I (fun v I2 => x_P E d 40 64 [x_jk, x_jk, x_jk] (v.toList ++ [.ref 132]) I2 Q)))) :
    x_P E d 40 54 [.ref 131, .int v1, .int v2] [.int w] I Q := by
  refine wp_if_ne rfl (fun c_1 => ?_) (fun c_1 => ?_)
  · replace H := H.2 c_1
    refine wp_aload_n rfl rfl rfl ?_
    refine wp_getR (v := .ref 132) rfl (by decide) (kd_131 _) rfl (kr_131_0 _) ?_
    refine wp_iload_n rfl rfl rfl ?_
    refine wp_iload_n rfl rfl rfl ?_
    refine wp_aload_n rfl rfl rfl ?_
    refine s_getI rfl (by decide) (kd_131 _) rfl ?_
    refine s_invSt (As := [.int v1, .int v2, .int (I 131 4)]) (d1 := d - 1) rfl ⟨by decide, by decide⟩ rfl rfl rfl (Nat.le_of_ble_eq_true rfl) (by omega) H ?_
    intro v I2 h2
    exact x_P.weak (L := [x_jk, x_jk, x_jk]) (by exact ⟨Or.inl rfl, ⟨Or.inl rfl, ⟨Or.inl rfl, trivial⟩⟩⟩) h2
  · replace H := H.1 c_1
    refine wp_iconst (v := (0 : Int32)) rfl (by decide) ?_
    exact s_iret rfl rfl rfl H
set_option maxRecDepth 20000 in
theorem r_Reader_readsTest_64 {E : XE} {d : Nat} {I : Nat → Nat → Int32} {Q : Option Value → (Nat → Nat → Int32) → Prop} (hd : 1 ≤ d) (w : Int32)
    (H : x_K E (d - 1) 51 [.ref 132, .int w] I (fun v I2 => x_P E d 40 65 [x_jk, x_jk, x_jk] (v.toList ++ []) I2 Q)) :
    x_P E d 40 64 [x_jk, x_jk, x_jk] [.int w, .ref 132] I Q := by
  refine s_invV (As := [.int w]) (d1 := d - 1) rfl ⟨by decide, by decide⟩ rfl rfl rfl (Nat.le_of_ble_eq_true rfl) (by omega) (kd_132 _) (by decide) rfl rfl H ?_
  intro v I2 h2
  exact h2
set_option maxRecDepth 20000 in
theorem r_Reader_readsTest_65 {E : XE} {d : Nat} {I : Nat → Nat → Int32} {Q : Option Value → (Nat → Nat → Int32) → Prop} (hd : 1 ≤ d) 
    (H : Q (some (.int (1 : Int32))) I) :
    x_P E d 40 65 [x_jk, x_jk, x_jk] [] I Q := by
  refine wp_iconst (v := (1 : Int32)) rfl (by decide) ?_
  exact s_iret rfl rfl rfl H
set_option maxRecDepth 20000 in
theorem r_Reader_readsNumber_0 {E : XE} {d : Nat} {I : Nat → Nat → Int32} {Q : Option Value → (Nat → Nat → Int32) → Prop} (hd : 1 ≤ d) 
    (H : (∀ I_1, I_1 = x_up I 131 4 (0 : Int32) → x_P E d 41 5 [.ref 131, .int (0 : Int32)] [] I_1 Q)) :
    x_P E d 41 0 [.ref 131, x_jk] [] I Q := by
  refine wp_iconst (v := (0 : Int32)) rfl (by decide) ?_
  refine wp_istore_n (L' := [.ref 131, .int (0 : Int32)]) rfl rfl (by decide) rfl rfl ?_
  refine wp_aload_n rfl rfl rfl ?_
  refine wp_iconst (v := (0 : Int32)) rfl (by decide) ?_
  refine s_putI rfl (by decide) (kd_131 _) rfl rfl (x_fit_int _) ?_
  generalize hI_1 : x_up I 131 4 (0 : Int32) = I_1
  replace H := H _ hI_1.symm
  exact H
set_option maxRecDepth 20000 in
theorem r_Reader_readsNumber_5 {E : XE} {d : Nat} {I : Nat → Nat → Int32} {Q : Option Value → (Nat → Nat → Int32) → Prop} (hd : 1 ≤ d) (v1 : Int32)
    (H : (((2 : Int32) ≤ v1 → Q (some (.int (x_bi (¬ (v1 ≤ 0))))) I) ∧ (¬ ((2 : Int32) ≤ v1) → (((I 131 2) ≤ (I 131 3) → Q (some (.int (x_bi (¬ (v1 ≤ 0))))) I) ∧ (¬ ((I 131 2) ≤ (I 131 3)) → (vp_in (I 131 3) 100) ∧ (((I 137 (I 131 3).toNatClampNeg) < (48 : Int32) → Q (some (.int (x_bi (¬ (v1 ≤ 0))))) I) ∧ (¬ ((I 137 (I 131 3).toNatClampNeg) < (48 : Int32)) → (vp_in (I 131 3) 100) ∧ (((57 : Int32) < (I 137 (I 131 3).toNatClampNeg) → Q (some (.int (x_bi (¬ (v1 ≤ 0))))) I) ∧ (¬ ((57 : Int32) < (I 137 (I 131 3).toNatClampNeg)) → ((v1 = (1 : Int32) → (((I 131 4) = 0 → Q (some (.int (1 : Int32))) I) ∧ (¬ ((I 131 4) = 0) → (vp_in (I 131 3) 100) ∧ (∀ I_17, I_17 = x_up I 131 4 ((((I 131 4) * (10 : Int32)) + (I 137 (I 131 3).toNatClampNeg)) - (48 : Int32)) → (∀ I_18, I_18 = x_up I_17 131 3 ((I_17 131 3) + (1 : Int32)) → x_P E d 41 5 [.ref 131, .int (v1 + 1)] [] I_18 Q))))) ∧ (¬ (v1 = (1 : Int32)) → (vp_in (I 131 3) 100) ∧ (∀ I_13, I_13 = x_up I 131 4 ((((I 131 4) * (10 : Int32)) + (I 137 (I 131 3).toNatClampNeg)) - (48 : Int32)) → (∀ I_14, I_14 = x_up I_13 131 3 ((I_13 131 3) + (1 : Int32)) → x_P E d 41 5 [.ref 131, .int (v1 + 1)] [] I_14 Q))))))))))))) :
    x_P E d 41 5 [.ref 131, .int v1] [] I Q := by
  refine wp_iload_n rfl rfl rfl ?_
  refine wp_iconst (v := (2 : Int32)) rfl (by decide) ?_
  refine wp_icmp_ge rfl (fun c_1 => ?_) (fun c_1 => ?_)
  · replace H := H.1 c_1
    refine wp_iload_n rfl rfl rfl ?_
    have J : x_P E d 41 62 [.ref 131, .int v1] [.int (x_bi (¬ (v1 ≤ 0)))] I Q := by
      exact s_iret rfl rfl x_bi_nar H
    refine wp_if_le rfl (fun c_2 => ?_) (fun c_2 => ?_)
    · refine wp_iconst (v := (0 : Int32)) rfl (by decide) ?_
      exact x_P.cong rfl (by rw [show x_bi (¬ (v1 ≤ 0)) = (0 : Int32) from x_bi_f (fun h => h c_2)]) J
    · refine wp_iconst (v := (1 : Int32)) rfl (by decide) ?_
      refine wp_goto rfl ?_
      exact x_P.cong rfl (by rw [show x_bi (¬ (v1 ≤ 0)) = (1 : Int32) from x_bi_t c_2]) J
  · replace H := H.2 c_1
    refine wp_aload_n rfl rfl rfl ?_
    refine s_getI rfl (by decide) (kd_131 _) rfl ?_
    refine wp_aload_n rfl rfl rfl ?_
    refine s_getI rfl (by decide) (kd_131 _) rfl ?_
    refine wp_icmp_ge rfl (fun c_3 => ?_) (fun c_3 => ?_)
    · replace H := H.1 c_3
      refine wp_iload_n rfl rfl rfl ?_
      have J : x_P E d 41 62 [.ref 131, .int v1] [.int (x_bi (¬ (v1 ≤ 0)))] I Q := by
        exact s_iret rfl rfl x_bi_nar H
      refine wp_if_le rfl (fun c_4 => ?_) (fun c_4 => ?_)
      · refine wp_iconst (v := (0 : Int32)) rfl (by decide) ?_
        exact x_P.cong rfl (by rw [show x_bi (¬ (v1 ≤ 0)) = (0 : Int32) from x_bi_f (fun h => h c_4)]) J
      · refine wp_iconst (v := (1 : Int32)) rfl (by decide) ?_
        refine wp_goto rfl ?_
        exact x_P.cong rfl (by rw [show x_bi (¬ (v1 ≤ 0)) = (1 : Int32) from x_bi_t c_4]) J
    · replace H := H.2 c_3
      refine wp_aload_n rfl rfl rfl ?_
      refine wp_getR (v := .ref 137) rfl (by decide) (kd_131 _) rfl (kr_131_1 _) ?_
      refine wp_aload_n rfl rfl rfl ?_
      refine s_getI rfl (by decide) (kd_131 _) rfl ?_
      obtain ⟨o_5, H⟩ := H
      refine s_bald rfl (kd_137 _) o_5 ?_
      refine wp_bipush (v := (48 : Int32)) rfl (by decide) ?_
      refine wp_icmp_lt rfl (fun c_6 => ?_) (fun c_6 => ?_)
      · replace H := H.1 c_6
        refine wp_iload_n rfl rfl rfl ?_
        have J : x_P E d 41 62 [.ref 131, .int v1] [.int (x_bi (¬ (v1 ≤ 0)))] I Q := by
          exact s_iret rfl rfl x_bi_nar H
        refine wp_if_le rfl (fun c_7 => ?_) (fun c_7 => ?_)
        · refine wp_iconst (v := (0 : Int32)) rfl (by decide) ?_
          exact x_P.cong rfl (by rw [show x_bi (¬ (v1 ≤ 0)) = (0 : Int32) from x_bi_f (fun h => h c_7)]) J
        · refine wp_iconst (v := (1 : Int32)) rfl (by decide) ?_
          refine wp_goto rfl ?_
          exact x_P.cong rfl (by rw [show x_bi (¬ (v1 ≤ 0)) = (1 : Int32) from x_bi_t c_7]) J
      · replace H := H.2 c_6
        refine wp_aload_n rfl rfl rfl ?_
        refine wp_getR (v := .ref 137) rfl (by decide) (kd_131 _) rfl (kr_131_1 _) ?_
        refine wp_aload_n rfl rfl rfl ?_
        refine s_getI rfl (by decide) (kd_131 _) rfl ?_
        obtain ⟨o_8, H⟩ := H
        refine s_bald rfl (kd_137 _) o_8 ?_
        refine wp_bipush (v := (57 : Int32)) rfl (by decide) ?_
        refine wp_icmp_gt rfl (fun c_9 => ?_) (fun c_9 => ?_)
        · replace H := H.1 c_9
          refine wp_iload_n rfl rfl rfl ?_
          have J : x_P E d 41 62 [.ref 131, .int v1] [.int (x_bi (¬ (v1 ≤ 0)))] I Q := by
            exact s_iret rfl rfl x_bi_nar H
          refine wp_if_le rfl (fun c_10 => ?_) (fun c_10 => ?_)
          · refine wp_iconst (v := (0 : Int32)) rfl (by decide) ?_
            exact x_P.cong rfl (by rw [show x_bi (¬ (v1 ≤ 0)) = (0 : Int32) from x_bi_f (fun h => h c_10)]) J
          · refine wp_iconst (v := (1 : Int32)) rfl (by decide) ?_
            refine wp_goto rfl ?_
            exact x_P.cong rfl (by rw [show x_bi (¬ (v1 ≤ 0)) = (1 : Int32) from x_bi_t c_10]) J
        · replace H := H.2 c_9
          refine wp_iload_n rfl rfl rfl ?_
          refine wp_iconst (v := (1 : Int32)) rfl (by decide) ?_
          refine wp_icmp_ne rfl (fun c_11 => ?_) (fun c_11 => ?_)
          · replace H := H.2 c_11
            refine wp_aload_n rfl rfl rfl ?_
            refine wp_aload_n rfl rfl rfl ?_
            refine s_getI rfl (by decide) (kd_131 _) rfl ?_
            refine wp_bipush (v := (10 : Int32)) rfl (by decide) ?_
            refine wp_imul rfl ?_
            refine wp_aload_n rfl rfl rfl ?_
            refine wp_getR (v := .ref 137) rfl (by decide) (kd_131 _) rfl (kr_131_1 _) ?_
            refine wp_aload_n rfl rfl rfl ?_
            refine s_getI rfl (by decide) (kd_131 _) rfl ?_
            obtain ⟨o_12, H⟩ := H
            refine s_bald rfl (kd_137 _) o_12 ?_
            refine wp_iadd rfl ?_
            refine wp_bipush (v := (48 : Int32)) rfl (by decide) ?_
            refine wp_isub rfl ?_
            refine s_putI rfl (by decide) (kd_131 _) rfl rfl (x_fit_int _) ?_
            generalize hI_13 : x_up I 131 4 ((((I 131 4) * (10 : Int32)) + (I 137 (I 131 3).toNatClampNeg)) - (48 : Int32)) = I_13
            replace H := H _ hI_13.symm
            refine wp_aload_n rfl rfl rfl ?_
            refine wp_dup rfl rfl ?_
            refine s_getI rfl (by decide) (kd_131 _) rfl ?_
            refine wp_iconst (v := (1 : Int32)) rfl (by decide) ?_
            refine wp_iadd rfl ?_
            refine s_putI rfl (by decide) (kd_131 _) rfl rfl (x_fit_int _) ?_
            generalize hI_14 : x_up I_13 131 3 ((I_13 131 3) + (1 : Int32)) = I_14
            replace H := H _ hI_14.symm
            refine wp_iinc (v := v1 + 1) (L' := [.ref 131, .int (v1 + 1)]) rfl rfl rfl rfl rfl ?_
            refine wp_goto rfl ?_
            exact H
          · replace H := H.1 c_11
            refine wp_aload_n rfl rfl rfl ?_
            refine s_getI rfl (by decide) (kd_131 _) rfl ?_
            refine wp_if_ne rfl (fun c_15 => ?_) (fun c_15 => ?_)
            · replace H := H.2 c_15
              refine wp_aload_n rfl rfl rfl ?_
              refine wp_aload_n rfl rfl rfl ?_
              refine s_getI rfl (by decide) (kd_131 _) rfl ?_
              refine wp_bipush (v := (10 : Int32)) rfl (by decide) ?_
              refine wp_imul rfl ?_
              refine wp_aload_n rfl rfl rfl ?_
              refine wp_getR (v := .ref 137) rfl (by decide) (kd_131 _) rfl (kr_131_1 _) ?_
              refine wp_aload_n rfl rfl rfl ?_
              refine s_getI rfl (by decide) (kd_131 _) rfl ?_
              obtain ⟨o_16, H⟩ := H
              refine s_bald rfl (kd_137 _) o_16 ?_
              refine wp_iadd rfl ?_
              refine wp_bipush (v := (48 : Int32)) rfl (by decide) ?_
              refine wp_isub rfl ?_
              refine s_putI rfl (by decide) (kd_131 _) rfl rfl (x_fit_int _) ?_
              generalize hI_17 : x_up I 131 4 ((((I 131 4) * (10 : Int32)) + (I 137 (I 131 3).toNatClampNeg)) - (48 : Int32)) = I_17
              replace H := H _ hI_17.symm
              refine wp_aload_n rfl rfl rfl ?_
              refine wp_dup rfl rfl ?_
              refine s_getI rfl (by decide) (kd_131 _) rfl ?_
              refine wp_iconst (v := (1 : Int32)) rfl (by decide) ?_
              refine wp_iadd rfl ?_
              refine s_putI rfl (by decide) (kd_131 _) rfl rfl (x_fit_int _) ?_
              generalize hI_18 : x_up I_17 131 3 ((I_17 131 3) + (1 : Int32)) = I_18
              replace H := H _ hI_18.symm
              refine wp_iinc (v := v1 + 1) (L' := [.ref 131, .int (v1 + 1)]) rfl rfl rfl rfl rfl ?_
              refine wp_goto rfl ?_
              exact H
            · replace H := H.1 c_15
              refine wp_iconst (v := (1 : Int32)) rfl (by decide) ?_
              exact s_iret rfl rfl rfl H
set_option maxRecDepth 20000 in
theorem r_Reader_takes_0 {E : XE} {d : Nat} {I : Nat → Nat → Int32} {Q : Option Value → (Nat → Nat → Int32) → Prop} (hd : 1 ≤ d) (a1 : Int32)
    (H : (((I 131 2) ≤ (I 131 3) → Q (some (.int (0 : Int32))) I) ∧ (¬ ((I 131 2) ≤ (I 131 3)) → (vp_in (I 131 3) 100) ∧ (((I 137 (I 131 3).toNatClampNeg) = a1 → (∀ I_4, I_4 = x_up I 131 3 ((I 131 3) + (1 : Int32)) → Q (some (.int (1 : Int32))) I_4)) ∧ (¬ ((I 137 (I 131 3).toNatClampNeg) = a1) → Q (some (.int (0 : Int32))) I))))) :
    x_P E d 42 0 [.ref 131, .int a1] [] I Q := by
  refine wp_aload_n rfl rfl rfl ?_
  refine s_getI rfl (by decide) (kd_131 _) rfl ?_
  refine wp_aload_n rfl rfl rfl ?_
  refine s_getI rfl (by decide) (kd_131 _) rfl ?_
  refine wp_icmp_ge rfl (fun c_1 => ?_) (fun c_1 => ?_)
  · replace H := H.1 c_1
    refine wp_iconst (v := (0 : Int32)) rfl (by decide) ?_
    exact s_iret rfl rfl rfl H
  · replace H := H.2 c_1
    refine wp_aload_n rfl rfl rfl ?_
    refine wp_getR (v := .ref 137) rfl (by decide) (kd_131 _) rfl (kr_131_1 _) ?_
    refine wp_aload_n rfl rfl rfl ?_
    refine s_getI rfl (by decide) (kd_131 _) rfl ?_
    obtain ⟨o_2, H⟩ := H
    refine s_bald rfl (kd_137 _) o_2 ?_
    refine wp_iload_n rfl rfl rfl ?_
    refine wp_icmp_eq rfl (fun c_3 => ?_) (fun c_3 => ?_)
    · replace H := H.1 c_3
      refine wp_aload_n rfl rfl rfl ?_
      refine wp_dup rfl rfl ?_
      refine s_getI rfl (by decide) (kd_131 _) rfl ?_
      refine wp_iconst (v := (1 : Int32)) rfl (by decide) ?_
      refine wp_iadd rfl ?_
      refine s_putI rfl (by decide) (kd_131 _) rfl rfl (x_fit_int _) ?_
      generalize hI_4 : x_up I 131 3 ((I 131 3) + (1 : Int32)) = I_4
      replace H := H _ hI_4.symm
      refine wp_iconst (v := (1 : Int32)) rfl (by decide) ?_
      exact s_iret rfl rfl rfl H
    · replace H := H.2 c_3
      refine wp_iconst (v := (0 : Int32)) rfl (by decide) ?_
      exact s_iret rfl rfl rfl H
set_option maxRecDepth 20000 in
theorem r_Reader_takesAll_0 {E : XE} {d : Nat} {I : Nat → Nat → Int32} {Q : Option Value → (Nat → Nat → Int32) → Prop} (hd : 1 ≤ d) (e1 : Nat) (he1 : e1 < 8)
    (H : x_P E d 43 2 [.ref 131, .ref (8 + e1), .int (0 : Int32)] [] I Q) :
    x_P E d 43 0 [.ref 131, .ref (8 + e1), x_jk] [] I Q := by
  refine wp_iconst (v := (0 : Int32)) rfl (by decide) ?_
  refine wp_istore_n (L' := [.ref 131, .ref (8 + e1), .int (0 : Int32)]) rfl rfl (by decide) rfl rfl ?_
  exact H
set_option maxRecDepth 20000 in
theorem r_Reader_takesAll_2 {E : XE} {d : Nat} {I : Nat → Nat → Int32} {Q : Option Value → (Nat → Nat → Int32) → Prop} (hd : 1 ≤ d) (ev1 : Nat) (hev1 : ev1 < 8) (v2 : Int32)
    (H : x_K E (d - 1) 6 [.ref (8 + ev1)] I (fun v I2 => x_P E d 43 5 [.ref 131, .ref (8 + ev1), .int v2] (v.toList ++ [.int v2]) I2 Q)) :
    x_P E d 43 2 [.ref 131, .ref (8 + ev1), .int v2] [] I Q := by
  refine wp_iload_n rfl rfl rfl ?_
  refine wp_aload_n rfl rfl rfl ?_
  refine s_invS (As := []) (d1 := d - 1) (e0 := ev1) rfl ⟨by decide, by decide⟩ rfl rfl rfl (Nat.le_of_ble_eq_true rfl) (by omega) hev1 rfl H ?_
  intro v I2 h2
  exact h2
set_option maxRecDepth 20000 in
theorem r_Reader_takesAll_5 {E : XE} {d : Nat} {I : Nat → Nat → Int32} {Q : Option Value → (Nat → Nat → Int32) → Prop} (hd : 1 ≤ d) (ev1 : Nat) (hev1 : ev1 < 8) (v2 : Int32) (s0 : Int32) (w : Int32)
    (H : ((w ≤ s0 → Q (some (.int (1 : Int32))) I) ∧ (¬ (w ≤ s0) → x_K E (d - 1) 7 [.ref (8 + ev1), .int v2] I (fun v I2 => x_P E d 43 10 [.ref 131, .ref (8 + ev1), .int v2] (v.toList ++ [.ref 131]) I2 Q)))) :
    x_P E d 43 5 [.ref 131, .ref (8 + ev1), .int v2] [.int w, .int s0] I Q := by
  refine wp_icmp_ge rfl (fun c_1 => ?_) (fun c_1 => ?_)
  · replace H := H.1 c_1
    refine wp_iconst (v := (1 : Int32)) rfl (by decide) ?_
    exact s_iret rfl rfl rfl H
  · replace H := H.2 c_1
    refine wp_aload_n rfl rfl rfl ?_
    refine wp_aload_n rfl rfl rfl ?_
    refine wp_iload_n rfl rfl rfl ?_
    refine s_invS (As := [.int v2]) (d1 := d - 1) (e0 := ev1) rfl ⟨by decide, by decide⟩ rfl rfl rfl (Nat.le_of_ble_eq_true rfl) (by omega) hev1 rfl H ?_
    intro v I2 h2
    exact h2
set_option maxRecDepth 20000 in
theorem r_Reader_takesAll_10 {E : XE} {d : Nat} {I : Nat → Nat → Int32} {Q : Option Value → (Nat → Nat → Int32) → Prop} (hd : 1 ≤ d) (ev1 : Nat) (hev1 : ev1 < 8) (v2 : Int32) (w : Int32)
    (H : x_K E (d - 1) 42 [.ref 131, .int w] I (fun v I2 => x_P E d 43 11 [.ref 131, .ref (8 + ev1), .int v2] (v.toList ++ []) I2 Q)) :
    x_P E d 43 10 [.ref 131, .ref (8 + ev1), .int v2] [.int w, .ref 131] I Q := by
  refine s_invV (As := [.int w]) (d1 := d - 1) rfl ⟨by decide, by decide⟩ rfl rfl rfl (Nat.le_of_ble_eq_true rfl) (by omega) (kd_131 _) (by decide) rfl rfl H ?_
  intro v I2 h2
  exact h2
set_option maxRecDepth 20000 in
theorem r_Reader_takesAll_11 {E : XE} {d : Nat} {I : Nat → Nat → Int32} {Q : Option Value → (Nat → Nat → Int32) → Prop} (hd : 1 ≤ d) (ev1 : Nat) (hev1 : ev1 < 8) (v2 : Int32) (w : Int32)
    (H : ((w = 0 → Q (some (.int (0 : Int32))) I) ∧ (¬ (w = 0) → x_P E d 43 2 [.ref 131, .ref (8 + ev1), .int (v2 + 1)] [] I Q))) :
    x_P E d 43 11 [.ref 131, .ref (8 + ev1), .int v2] [.int w] I Q := by
  refine wp_if_ne rfl (fun c_1 => ?_) (fun c_1 => ?_)
  · replace H := H.2 c_1
    refine wp_iinc (v := v2 + 1) (L' := [.ref 131, .ref (8 + ev1), .int (v2 + 1)]) rfl rfl rfl rfl rfl ?_
    refine wp_goto rfl ?_
    exact H
  · replace H := H.1 c_1
    refine wp_iconst (v := (0 : Int32)) rfl (by decide) ?_
    exact s_iret rfl rfl rfl H
