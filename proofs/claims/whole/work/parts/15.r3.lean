set_option maxRecDepth 20000 in
theorem r_JS_length_0 {E : XE} {d : Nat} {I : Nat → Nat → Int32} {Q : Option Value → (Nat → Nat → Int32) → Prop} (hd : 2 ≤ d) (e0 : Nat) (he : e0 < 8)
    (H : Q (some (.int ((Int32.ofNat (x_sl e0).length) >>> ((0 : Int32) &&& 31)))) I) :
    x_P E d 6 0 [.ref (8 + e0)] [] I Q := by
  refine wp_aload_n rfl rfl rfl ?_
  refine wp_getSv (e0 := e0) rfl rfl he ?_
  refine wp_alenX (N := (x_sl e0).length) (v := Int32.ofNat (x_sl e0).length) rfl (x_sl_ar he) rfl ?_
  refine wp_aload_n rfl rfl rfl ?_
  refine s_invSP (As := []) (d1 := d - 1) (e0 := e0) rfl ⟨by decide, by decide⟩ rfl rfl rfl (Nat.le_of_ble_eq_true rfl) (by omega) he rfl (p_coder he (by omega)) ?_
  refine wp_ishr rfl ?_
  exact s_iret rfl rfl rfl H
set_option maxRecDepth 20000 in
theorem r_JS_charAt_0 {E : XE} {d : Nat} {I : Nat → Nat → Int32} {Q : Option Value → (Nat → Nat → Int32) → Prop} (hd : 2 ≤ d) (e0 : Nat) (he : e0 < 8) (a1 : Int32)
    (H : x_K E (d - 1) 13 [.ref (24 + e0), .int a1] I (fun v I2 => x_P E d 7 7 [x_jk, x_jk] (v.toList ++ []) I2 Q)) :
    x_P E d 7 0 [.ref (8 + e0), .int a1] [] I Q := by
  refine wp_aload_n rfl rfl rfl ?_
  refine s_invSP (As := []) (d1 := d - 1) (e0 := e0) rfl ⟨by decide, by decide⟩ rfl rfl rfl (Nat.le_of_ble_eq_true rfl) (by omega) he rfl (p_isLatin1 he (by omega)) ?_
  refine wp_if_eq rfl (fun h => absurd h (by decide)) (fun _ => ?_)
  refine wp_aload_n rfl rfl rfl ?_
  refine wp_getSv (e0 := e0) rfl rfl he ?_
  refine wp_iload_n rfl rfl rfl ?_
  refine s_invSt (As := [.ref (24 + e0), .int a1]) (d1 := d - 1) rfl ⟨by decide, by decide⟩ rfl rfl rfl (Nat.le_of_ble_eq_true rfl) (by omega) H ?_
  intro v I2 h2
  exact x_P.weak (L := [x_jk, x_jk]) (by exact ⟨Or.inl rfl, ⟨Or.inl rfl, trivial⟩⟩) h2
set_option maxRecDepth 20000 in
theorem r_JS_charAt_7 {E : XE} {d : Nat} {I : Nat → Nat → Int32} {Q : Option Value → (Nat → Nat → Int32) → Prop} (hd : 1 ≤ d) (w : Int32)
    (H : (narrow .char (.int w) = .int w) ∧ Q (some (.int w)) I) :
    x_P E d 7 7 [x_jk, x_jk] [.int w] I Q := by
  obtain ⟨o_1, H⟩ := H
  exact s_iret rfl rfl o_1 H
set_option maxRecDepth 20000 in
theorem r_JS_indexOf_0 {E : XE} {d : Nat} {I : Nat → Nat → Int32} {Q : Option Value → (Nat → Nat → Int32) → Prop} (hd : 1 ≤ d) (e0 : Nat) (he : e0 < 8) (a1 : Int32)
    (H : x_K E (d - 1) 9 [.ref (8 + e0), .int a1, .int (0 : Int32)] I (fun v I2 => x_P E d 8 4 [x_jk, x_jk] (v.toList ++ []) I2 Q)) :
    x_P E d 8 0 [.ref (8 + e0), .int a1] [] I Q := by
  refine wp_aload_n rfl rfl rfl ?_
  refine wp_iload_n rfl rfl rfl ?_
  refine wp_iconst (v := (0 : Int32)) rfl (by decide) ?_
  refine s_invS (As := [.int a1, .int (0 : Int32)]) (d1 := d - 1) (e0 := e0) rfl ⟨by decide, by decide⟩ rfl rfl rfl (Nat.le_of_ble_eq_true rfl) (by omega) he rfl H ?_
  intro v I2 h2
  exact x_P.weak (L := [x_jk, x_jk]) (by exact ⟨Or.inl rfl, ⟨Or.inl rfl, trivial⟩⟩) h2
set_option maxRecDepth 20000 in
theorem r_JS_indexOf_4 {E : XE} {d : Nat} {I : Nat → Nat → Int32} {Q : Option Value → (Nat → Nat → Int32) → Prop} (hd : 1 ≤ d) (w : Int32)
    (H : Q (some (.int w)) I) :
    x_P E d 8 4 [x_jk, x_jk] [.int w] I Q := by
  exact s_iret rfl rfl rfl H
set_option maxRecDepth 20000 in
theorem r_JS_indexOf2_0 {E : XE} {d : Nat} {I : Nat → Nat → Int32} {Q : Option Value → (Nat → Nat → Int32) → Prop} (hd : 2 ≤ d) (e0 : Nat) (he : e0 < 8) (a1 : Int32) (a2 : Int32)
    (H : x_K E (d - 1) 6 [.ref (8 + e0)] I (fun v I2 => x_P E d 9 9 [x_jk, x_jk, x_jk] (v.toList ++ [.int a2, .int a1, .ref (24 + e0)]) I2 Q)) :
    x_P E d 9 0 [.ref (8 + e0), .int a1, .int a2] [] I Q := by
  refine wp_aload_n rfl rfl rfl ?_
  refine s_invSP (As := []) (d1 := d - 1) (e0 := e0) rfl ⟨by decide, by decide⟩ rfl rfl rfl (Nat.le_of_ble_eq_true rfl) (by omega) he rfl (p_isLatin1 he (by omega)) ?_
  refine wp_if_eq rfl (fun h => absurd h (by decide)) (fun _ => ?_)
  refine wp_aload_n rfl rfl rfl ?_
  refine wp_getSv (e0 := e0) rfl rfl he ?_
  refine wp_iload_n rfl rfl rfl ?_
  refine wp_iload_n rfl rfl rfl ?_
  refine wp_aload_n rfl rfl rfl ?_
  refine s_invS (As := []) (d1 := d - 1) (e0 := e0) rfl ⟨by decide, by decide⟩ rfl rfl rfl (Nat.le_of_ble_eq_true rfl) (by omega) he rfl H ?_
  intro v I2 h2
  exact x_P.weak (L := [x_jk, x_jk, x_jk]) (by exact ⟨Or.inl rfl, ⟨Or.inl rfl, ⟨Or.inl rfl, trivial⟩⟩⟩) h2
set_option maxRecDepth 20000 in
theorem r_JS_indexOf2_9 {E : XE} {d : Nat} {I : Nat → Nat → Int32} {Q : Option Value → (Nat → Nat → Int32) → Prop} (hd : 1 ≤ d) (s0 : Int32) (s1 : Int32) (es2 : Nat) (hes2 : es2 < 8) (w : Int32)
    (H : x_K E (d - 1) 15 [.ref (24 + es2), .int s1, .int s0, .int w] I (fun v I2 => x_P E d 9 10 [x_jk, x_jk, x_jk] (v.toList ++ []) I2 Q)) :
    x_P E d 9 9 [x_jk, x_jk, x_jk] [.int w, .int s0, .int s1, .ref (24 + es2)] I Q := by
  refine s_invSt (As := [.ref (24 + es2), .int s1, .int s0, .int w]) (d1 := d - 1) rfl ⟨by decide, by decide⟩ rfl rfl rfl (Nat.le_of_ble_eq_true rfl) (by omega) H ?_
  intro v I2 h2
  exact h2
set_option maxRecDepth 20000 in
theorem r_JS_indexOf2_10 {E : XE} {d : Nat} {I : Nat → Nat → Int32} {Q : Option Value → (Nat → Nat → Int32) → Prop} (hd : 1 ≤ d) (w : Int32)
    (H : Q (some (.int w)) I) :
    x_P E d 9 10 [x_jk, x_jk, x_jk] [.int w] I Q := by
  refine wp_goto rfl ?_
  exact s_iret rfl rfl rfl H
set_option maxRecDepth 20000 in
theorem r_JS_checkIndex_0 {E : XE} {d : Nat} {I : Nat → Nat → Int32} {Q : Option Value → (Nat → Nat → Int32) → Prop} (hd : 1 ≤ d) (a0 : Int32) (a1 : Int32)
    (H : x_K E (d - 1) 17 [.int a0, .int a1, .ref 5] I (fun v I2 => x_P E d 12 4 [x_jk, x_jk] (v.toList ++ []) I2 Q)) :
    x_P E d 12 0 [.int a0, .int a1] [] I Q := by
  refine wp_iload_n rfl rfl rfl ?_
  refine wp_iload_n rfl rfl rfl ?_
  refine wp_gets rfl (by decide) rfl rfl ?_
  refine s_invSt (As := [.int a0, .int a1, .ref 5]) (d1 := d - 1) rfl ⟨by decide, by decide⟩ rfl rfl rfl (Nat.le_of_ble_eq_true rfl) (by omega) H ?_
  intro v I2 h2
  exact x_P.weak (L := [x_jk, x_jk]) (by exact ⟨Or.inl rfl, ⟨Or.inl rfl, trivial⟩⟩) h2
set_option maxRecDepth 20000 in
theorem r_JS_checkIndex_4 {E : XE} {d : Nat} {I : Nat → Nat → Int32} {Q : Option Value → (Nat → Nat → Int32) → Prop} (hd : 1 ≤ d) (w : Int32)
    (H : Q none I) :
    x_P E d 12 4 [x_jk, x_jk] [.int w] I Q := by
  refine wp_pop rfl rfl ?_
  exact s_vret rfl rfl H
set_option maxRecDepth 20000 in
theorem r_JL_charAt_0 {E : XE} {d : Nat} {I : Nat → Nat → Int32} {Q : Option Value → (Nat → Nat → Int32) → Prop} (hd : 1 ≤ d) (e0 : Nat) (he0 : e0 < 8) (a1 : Int32)
    (H : x_K E (d - 1) 12 [.int a1, .int (Int32.ofNat (x_sl e0).length)] I (fun v I2 => x_P E d 13 4 [.ref (24 + e0), .int a1] (v.toList ++ []) I2 Q)) :
    x_P E d 13 0 [.ref (24 + e0), .int a1] [] I Q := by
  refine wp_iload_n rfl rfl rfl ?_
  refine wp_aload_n rfl rfl rfl ?_
  refine wp_alenX (N := (x_sl e0).length) (v := Int32.ofNat (x_sl e0).length) rfl (x_sl_ar he0) rfl ?_
  refine s_invSt (As := [.int a1, .int (Int32.ofNat (x_sl e0).length)]) (d1 := d - 1) rfl ⟨by decide, by decide⟩ rfl rfl rfl (Nat.le_of_ble_eq_true rfl) (by omega) H ?_
  intro v I2 h2
  exact h2
set_option maxRecDepth 20000 in
theorem r_JL_charAt_4 {E : XE} {d : Nat} {I : Nat → Nat → Int32} {Q : Option Value → (Nat → Nat → Int32) → Prop} (hd : 1 ≤ d) (ev0 : Nat) (hev0 : ev0 < 8) (v1 : Int32)
    (H : (vp_in v1 (x_sl ev0).length) ∧ (narrow .char (.int (((((x_sl ev0).getD v1.toNatClampNeg 0) &&& (255 : Int32)).toUInt32 % 65536).toInt32)) = .int (((((x_sl ev0).getD v1.toNatClampNeg 0) &&& (255 : Int32)).toUInt32 % 65536).toInt32)) ∧ Q (some (.int (((((x_sl ev0).getD v1.toNatClampNeg 0) &&& (255 : Int32)).toUInt32 % 65536).toInt32))) I) :
    x_P E d 13 4 [.ref (24 + ev0), .int v1] [] I Q := by
  refine wp_aload_n rfl rfl rfl ?_
  refine wp_iload_n rfl rfl rfl ?_
  obtain ⟨o_1, H⟩ := H
  refine wp_baldX (N := (x_sl ev0).length) (f := fun j => (x_sl ev0).getD j 0) rfl (x_sl_ar hev0) o_1 ?_
  refine wp_sipush (v := (255 : Int32)) rfl (by decide) ?_
  refine wp_iand rfl ?_
  refine wp_i2c rfl ?_
  obtain ⟨o_2, H⟩ := H
  exact s_iret rfl rfl o_2 H
set_option maxRecDepth 20000 in
theorem r_JL_canEncode_0 {E : XE} {d : Nat} {I : Nat → Nat → Int32} {Q : Option Value → (Nat → Nat → Int32) → Prop} (hd : 1 ≤ d) (a0 : Int32)
    (H : Q (some (.int (x_bi (¬ (a0 < 0) ∧ (¬ ((255 : Int32) < a0)))))) I) :
    x_P E d 14 0 [.int a0] [] I Q := by
  refine wp_iload_n rfl rfl rfl ?_
  have J : x_P E d 14 8 [.int a0] [.int (x_bi (¬ (a0 < 0) ∧ (¬ ((255 : Int32) < a0))))] I Q := by
    exact s_iret rfl rfl x_bi_nar H
  refine wp_if_lt rfl (fun c_1 => ?_) (fun c_1 => ?_)
  · refine wp_iconst (v := (0 : Int32)) rfl (by decide) ?_
    exact x_P.cong rfl (by rw [show x_bi (¬ (a0 < 0) ∧ (¬ ((255 : Int32) < a0))) = (0 : Int32) from x_bi_f (fun h => h.1 c_1)]) J
  · refine wp_iload_n rfl rfl rfl ?_
    refine wp_sipush (v := (255 : Int32)) rfl (by decide) ?_
    refine wp_icmp_gt rfl (fun c_2 => ?_) (fun c_2 => ?_)
    · refine wp_iconst (v := (0 : Int32)) rfl (by decide) ?_
      exact x_P.cong rfl (by rw [show x_bi (¬ (a0 < 0) ∧ (¬ ((255 : Int32) < a0))) = (0 : Int32) from x_bi_f (fun h => (fun h => h c_2) h.2)]) J
    · refine wp_iconst (v := (1 : Int32)) rfl (by decide) ?_
      refine wp_goto rfl ?_
      exact x_P.cong rfl (by rw [show x_bi (¬ (a0 < 0) ∧ (¬ ((255 : Int32) < a0))) = (1 : Int32) from x_bi_t ⟨c_1, c_2⟩]) J
set_option maxRecDepth 20000 in
theorem r_JL_indexOf_0 {E : XE} {d : Nat} {I : Nat → Nat → Int32} {Q : Option Value → (Nat → Nat → Int32) → Prop} (hd : 1 ≤ d) (e0 : Nat) (he0 : e0 < 8) (a1 : Int32) (a2 : Int32) (a3 : Int32)
    (H : x_K E (d - 1) 14 [.int a1] I (fun v I2 => x_P E d 15 2 [.ref (24 + e0), .int a1, .int a2, .int a3] (v.toList ++ []) I2 Q)) :
    x_P E d 15 0 [.ref (24 + e0), .int a1, .int a2, .int a3] [] I Q := by
  refine wp_iload_n rfl rfl rfl ?_
  refine s_invSt (As := [.int a1]) (d1 := d - 1) rfl ⟨by decide, by decide⟩ rfl rfl rfl (Nat.le_of_ble_eq_true rfl) (by omega) H ?_
  intro v I2 h2
  exact h2
set_option maxRecDepth 20000 in
theorem r_JL_indexOf_2 {E : XE} {d : Nat} {I : Nat → Nat → Int32} {Q : Option Value → (Nat → Nat → Int32) → Prop} (hd : 1 ≤ d) (ev0 : Nat) (hev0 : ev0 < 8) (v1 : Int32) (v2 : Int32) (v3 : Int32) (w : Int32)
    (H : ((w = 0 → Q (some (.int (-1 : Int32))) I) ∧ (¬ (w = 0) → (((if v2 < (0 : Int32) then (0 : Int32) else v2) < (if (Int32.ofNat (x_sl ev0).length) < v3 then (Int32.ofNat (x_sl ev0).length) else v3) → x_K E (d - 1) 16 [.ref (24 + ev0), .int v1, .int (if v2 < (0 : Int32) then (0 : Int32) else v2), .int (if (Int32.ofNat (x_sl ev0).length) < v3 then (Int32.ofNat (x_sl ev0).length) else v3)] I (fun v I2 => x_P E d 15 24 [x_jk, x_jk, x_jk, x_jk] (v.toList ++ []) I2 Q)) ∧ (¬ ((if v2 < (0 : Int32) then (0 : Int32) else v2) < (if (Int32.ofNat (x_sl ev0).length) < v3 then (Int32.ofNat (x_sl ev0).length) else v3)) → Q (some (.int (-1 : Int32))) I))))) :
    x_P E d 15 2 [.ref (24 + ev0), .int v1, .int v2, .int v3] [.int w] I Q := by
  refine wp_if_ne rfl (fun c_1 => ?_) (fun c_1 => ?_)
  · replace H := H.2 c_1
    refine wp_iload_n rfl rfl rfl ?_
    refine wp_iconst (v := (0 : Int32)) rfl (by decide) ?_
    refine s_mmax rfl rfl (Nat.le_of_ble_eq_true rfl) (by omega) ?_
    refine wp_istore_n (L' := [.ref (24 + ev0), .int v1, .int (if v2 < (0 : Int32) then (0 : Int32) else v2), .int v3]) rfl rfl (by decide) rfl rfl ?_
    refine wp_iload_n rfl rfl rfl ?_
    refine wp_aload_n rfl rfl rfl ?_
    refine wp_alenX (N := (x_sl ev0).length) (v := Int32.ofNat (x_sl ev0).length) rfl (x_sl_ar hev0) rfl ?_
    refine s_mmin rfl rfl (Nat.le_of_ble_eq_true rfl) (by omega) ?_
    refine wp_istore_n (L' := [.ref (24 + ev0), .int v1, .int (if v2 < (0 : Int32) then (0 : Int32) else v2), .int (if (Int32.ofNat (x_sl ev0).length) < v3 then (Int32.ofNat (x_sl ev0).length) else v3)]) rfl rfl (by decide) rfl rfl ?_
    refine wp_iload_n rfl rfl rfl ?_
    refine wp_iload_n rfl rfl rfl ?_
    refine wp_icmp_lt rfl (fun c_2 => ?_) (fun c_2 => ?_)
    · replace H := H.1 c_2
      refine wp_aload_n rfl rfl rfl ?_
      refine wp_iload_n rfl rfl rfl ?_
      refine wp_iload_n rfl rfl rfl ?_
      refine wp_iload_n rfl rfl rfl ?_
      refine s_invSt (As := [.ref (24 + ev0), .int v1, .int (if v2 < (0 : Int32) then (0 : Int32) else v2), .int (if (Int32.ofNat (x_sl ev0).length) < v3 then (Int32.ofNat (x_sl ev0).length) else v3)]) (d1 := d - 1) rfl ⟨by decide, by decide⟩ rfl rfl rfl (Nat.le_of_ble_eq_true rfl) (by omega) H ?_
      intro v I2 h2
      exact x_P.weak (L := [x_jk, x_jk, x_jk, x_jk]) (by exact ⟨Or.inl rfl, ⟨Or.inl rfl, ⟨Or.inl rfl, ⟨Or.inl rfl, trivial⟩⟩⟩⟩) h2
    · replace H := H.2 c_2
      refine wp_iconst (v := (-1 : Int32)) rfl (by decide) ?_
      exact s_iret rfl rfl rfl H
  · replace H := H.1 c_1
    refine wp_iconst (v := (-1 : Int32)) rfl (by decide) ?_
    exact s_iret rfl rfl rfl H
set_option maxRecDepth 20000 in
theorem r_JL_indexOf_24 {E : XE} {d : Nat} {I : Nat → Nat → Int32} {Q : Option Value → (Nat → Nat → Int32) → Prop} (hd : 1 ≤ d) (w : Int32)
    (H : Q (some (.int w)) I) :
    x_P E d 15 24 [x_jk, x_jk, x_jk, x_jk] [.int w] I Q := by
  exact s_iret rfl rfl rfl H
set_option maxRecDepth 20000 in
theorem r_JL_indexOfChar_0 {E : XE} {d : Nat} {I : Nat → Nat → Int32} {Q : Option Value → (Nat → Nat → Int32) → Prop} (hd : 1 ≤ d) (e0 : Nat) (he0 : e0 < 8) (a1 : Int32) (a2 : Int32) (a3 : Int32)
    (H : x_P E d 16 5 [.ref (24 + e0), x_jk, x_jk, .int a3, .int (a1.toInt8.toInt32), .int a2] [] I Q) :
    x_P E d 16 0 [.ref (24 + e0), .int a1, .int a2, .int a3, x_jk, x_jk] [] I Q := by
  refine wp_iload_n rfl rfl rfl ?_
  refine wp_i2b rfl ?_
  refine wp_istore (L' := [.ref (24 + e0), .int a1, .int a2, .int a3, .int (a1.toInt8.toInt32), x_jk]) rfl (by decide) rfl rfl ?_
  refine wp_iload_n rfl rfl rfl ?_
  refine wp_istore (L' := [.ref (24 + e0), .int a1, .int a2, .int a3, .int (a1.toInt8.toInt32), .int a2]) rfl (by decide) rfl rfl ?_
  exact x_P.weak (L := [.ref (24 + e0), x_jk, x_jk, .int a3, .int (a1.toInt8.toInt32), .int a2]) (by exact ⟨Or.inr rfl, ⟨Or.inl rfl, ⟨Or.inl rfl, ⟨Or.inr rfl, ⟨Or.inr rfl, ⟨Or.inr rfl, trivial⟩⟩⟩⟩⟩⟩) H
set_option maxRecDepth 20000 in
theorem r_JL_indexOfChar_5 {E : XE} {d : Nat} {I : Nat → Nat → Int32} {Q : Option Value → (Nat → Nat → Int32) → Prop} (hd : 1 ≤ d) (ev0 : Nat) (hev0 : ev0 < 8) (v3 : Int32) (v4 : Int32) (v5 : Int32)
    (H : ((v3 ≤ v5 → Q (some (.int (-1 : Int32))) I) ∧ (¬ (v3 ≤ v5) → (vp_in v5 (x_sl ev0).length) ∧ ((((x_sl ev0).getD v5.toNatClampNeg 0) = v4 → Q (some (.int v5)) I) ∧ (¬ (((x_sl ev0).getD v5.toNatClampNeg 0) = v4) → x_P E d 16 5 [.ref (24 + ev0), x_jk, x_jk, .int v3, .int v4, .int (v5 + 1)] [] I Q))))) :
    x_P E d 16 5 [.ref (24 + ev0), x_jk, x_jk, .int v3, .int v4, .int v5] [] I Q := by
  refine wp_iload rfl rfl ?_
  refine wp_iload_n rfl rfl rfl ?_
  refine wp_icmp_ge rfl (fun c_1 => ?_) (fun c_1 => ?_)
  · replace H := H.1 c_1
    refine wp_iconst (v := (-1 : Int32)) rfl (by decide) ?_
    exact s_iret rfl rfl rfl H
  · replace H := H.2 c_1
    refine wp_aload_n rfl rfl rfl ?_
    refine wp_iload rfl rfl ?_
    obtain ⟨o_2, H⟩ := H
    refine wp_baldX (N := (x_sl ev0).length) (f := fun j => (x_sl ev0).getD j 0) rfl (x_sl_ar hev0) o_2 ?_
    refine wp_iload rfl rfl ?_
    refine wp_icmp_ne rfl (fun c_3 => ?_) (fun c_3 => ?_)
    · replace H := H.2 c_3
      refine wp_iinc (v := v5 + 1) (L' := [.ref (24 + ev0), x_jk, x_jk, .int v3, .int v4, .int (v5 + 1)]) rfl rfl rfl rfl rfl ?_
      refine wp_goto rfl ?_
      exact H
    · replace H := H.1 c_3
      refine wp_iload rfl rfl ?_
      exact s_iret rfl rfl rfl H
set_option maxRecDepth 20000 in
theorem r_JP_checkIndex_0 {E : XE} {d : Nat} {I : Nat → Nat → Int32} {Q : Option Value → (Nat → Nat → Int32) → Prop} (hd : 1 ≤ d) (a0 : Int32) (a1 : Int32)
    (H : ((a0 < 0 → False) ∧ (¬ (a0 < 0) → ((a0 < a1 → Q (some (.int a0)) I) ∧ (¬ (a0 < a1) → False))))) :
    x_P E d 17 0 [.int a0, .int a1, .ref 5] [] I Q := by
  refine wp_iload_n rfl rfl rfl ?_
  refine wp_if_lt rfl (fun c_1 => ?_) (fun c_1 => ?_)
  · replace H := H.1 c_1
    refine wp_aload_n rfl rfl rfl ?_
    refine wp_iload_n rfl rfl rfl ?_
    refine wp_iload_n rfl rfl rfl ?_
    exact False.elim H
  · replace H := H.2 c_1
    refine wp_iload_n rfl rfl rfl ?_
    refine wp_iload_n rfl rfl rfl ?_
    refine wp_icmp_lt rfl (fun c_2 => ?_) (fun c_2 => ?_)
    · replace H := H.1 c_2
      refine wp_iload_n rfl rfl rfl ?_
      exact s_iret rfl rfl rfl H
    · replace H := H.2 c_2
      refine wp_aload_n rfl rfl rfl ?_
      refine wp_iload_n rfl rfl rfl ?_
      refine wp_iload_n rfl rfl rfl ?_
      exact False.elim H
