/-! ===== the law from its entry ===== -/
section BEGIN
variable {E : XE} {d : Nat} {Q : Option Value → XM → Prop}
theorem kM1_len : (kClass (x_new kM0 7 7) 64).1.length = 78 := by decide +kernel
theorem law_start (hE : E.1 ≤ 2560) (hd : 46 ≤ d) (hQ : ∀ K, inv K → Q (some (.int 1)) (x_mk K)) : x_WP E d 0 0 [.ref 4, x_jk, x_jk, x_jk] [] kM0 0 0 600000 7302250 Q := by
  refine wp_new (N := 7) rfl (by decide) rfl rfl rfl (by omega) (by omega) ?_
  refine wp_dup rfl rfl (wp_invI (q := 64) (d1 := d - 1) rfl (by decide) rfl (by decide) (Nat.le_of_ble_eq_true rfl) (by omega) (by omega) (by omega) (k_Class (kd_new (M := kM0)) (by omega)) (fun v M' hv => ?_))
  obtain ⟨hv, e⟩ := hv
  rw [hv, e]
  refine wp_astore_n (L' := [.ref 4, .ref 64, x_jk, x_jk]) rfl rfl (by decide) rfl rfl ?_
  refine wp_new (N := 20) rfl (by decide) rfl rfl rfl (by omega) (by omega) ?_
  rw [kM1_len]
  refine wp_dup rfl rfl (wp_invI (q := 142) (d1 := d - 1) rfl (by decide) rfl (by decide) (Nat.le_of_ble_eq_true rfl) (by omega) (by omega) (by omega) (k_Model (by have h := kd_new (M := kClass (x_new kM0 7 7) 64) (kd := 8) (N := 20); rw [kM1_len] at h; exact h) (by omega)) (fun v M' hv => ?_))
  obtain ⟨hv, e⟩ := hv
  rw [hv, e]
  refine wp_astore_n (L' := [.ref 4, .ref 64, .ref 142, x_jk]) rfl rfl (by decide) rfl rfl ?_
  refine kStart_WP ?_
  refine wp_iconst (v := (0 : Int32)) rfl (by decide) ?_
  refine wp_istore_n (L' := [.ref 4, .ref 64, .ref 142, .int (nI 0)]) rfl rfl (by decide) rfl rfl ?_
  exact law_loop hE (by omega) (by omega) (by omega) hQ 2600 0 kI (by omega) inv_start
end BEGIN
