/-! ===== fractions in lowest terms ===== -/
section LOW
variable {E : XE} {d : Nat} {I : Nat → Nat → Int32}
theorem nI_dec {j : Nat} : nI (j + 1) + (-1 : Int32) = nI j := by
  rw [← Int32.sub_eq_add_neg, nI_pred]
theorem c_lowC {a b : Nat} {pa : Int32} (ha : a < 2 ^ 31) (h0 : 0 < b) (hb : b < 2 ^ 31) (hd : 1 ≤ d) :
    x_K E d 95 [.int (nI a), .int (nI b), .int pa] I (x_pu (.int (nI ((if pa = 0 then a else b) / Nat.gcd a b))) I) := by
  refine x_K.of (by decide) (by decide) rfl rfl rfl (r_C_lowest_0 hd _ _ _ ?_)
  have hg : 0 < Nat.gcd a b := Nat.gcd_pos_of_pos_right a h0
  have eu : (if pa = 0 then nI a else nI b) = nI (if pa = 0 then a else b) := by by_cases c : pa = 0 <;> simp [c]
  rw [eu]
  generalize hup : (if pa = 0 then a else b) = up
  have hu : up < 2 ^ 31 := by rw [← hup]; by_cases c : pa = 0 <;> simp [c] <;> omega
  have key : ∀ j, j ≤ b → Nat.gcd a b ≤ j → x_P E d 95 8 [.int (nI a), .int (nI b), x_jk, .int (nI up), .int (nI j)] [] I (x_pu (.int (nI (up / Nat.gcd a b))) I) := by
    intro j
    induction j with
    | zero => intro _ h; omega
    | succ j ih =>
      intro hjb hgj
      have nx : ¬ Nat.gcd a b = j + 1 → x_P E d 95 8 [.int (nI a), .int (nI b), x_jk, .int (nI up), .int (nI (j + 1) + (-1 : Int32))] [] I (x_pu (.int (nI (up / Nat.gcd a b))) I) := fun c => by
        rw [nI_dec]
        exact ih (by omega) (by omega)
      have hne : ¬ nI (j + 1) = 0 := nI_ne0 (by omega) (by omega)
      refine r_C_lowest_8 hd _ _ _ _ ⟨fun c => ?_, fun c => ⟨hne, fun c1 => ⟨hne, fun c2 => ⟨hne, ?_⟩, fun c2 => nx ?_⟩, fun c1 => nx ?_⟩⟩
      · have : j + 1 ≤ 1 := (nI_leI (b := 1) (by omega) (by decide)).mp c
        have e : Nat.gcd a b = 1 := by omega
        exact ⟨by rw [e, Nat.div_one], rfl⟩
      · rw [pk_rem ha (by omega) (by omega)] at c1
        rw [pk_rem hb (by omega) (by omega)] at c2
        have d1 : a % (j + 1) = 0 := (nI_eq (b := 0) (by have := Nat.mod_lt a (show 0 < j + 1 by omega); omega) (by omega)).mp c1
        have d2 : b % (j + 1) = 0 := (nI_eq (b := 0) (by have := Nat.mod_lt b (show 0 < j + 1 by omega); omega) (by omega)).mp c2
        have dv : j + 1 ∣ Nat.gcd a b := Nat.dvd_gcd (Nat.dvd_of_mod_eq_zero d1) (Nat.dvd_of_mod_eq_zero d2)
        have e : Nat.gcd a b = j + 1 := Nat.le_antisymm hgj (Nat.le_of_dvd hg dv)
        rw [e]
        exact ⟨by rw [pk_div hu (by omega) (by omega)], rfl⟩
      · intro e
        apply c2
        rw [pk_rem hb (by omega) (by omega), ← e, Nat.mod_eq_zero_of_dvd (Nat.gcd_dvd_right a b), nI_0]
      · intro e
        apply c1
        rw [pk_rem ha (by omega) (by omega), ← e, Nat.mod_eq_zero_of_dvd (Nat.gcd_dvd_left a b), nI_0]
  exact key b (Nat.le_refl b) (Nat.le_of_dvd h0 (Nat.gcd_dvd_right a b))
theorem cmp_0 {y : Nat} (hy : y < 2 ^ 31) : lg_cmp (lN y) (0 : Int64) = 0 ↔ y = 0 := by
  have e0 : (0 : Int64) = lN 0 := rfl
  unfold lg_cmp
  rw [e0]
  by_cases h : y = 0
  · subst h
    simp
  · have h1 : lN 0 < lN y := (lN_lt (by omega) hy).mpr (by omega)
    have h2 : ¬ lN y < lN 0 := fun c => by have := (lN_lt hy (by omega)).mp c; omega
    have h3 : ¬ lN y = lN 0 := fun c => h ((lN_eq hy (by omega)).mp c)
    simp [h, h1, h2, h3]
theorem cmp_nn {y : Nat} (hy : y < 2 ^ 31) : 0 ≤ lg_cmp (lN y) (0 : Int64) := by
  have e0 : (0 : Int64) = lN 0 := rfl
  unfold lg_cmp
  rw [e0]
  by_cases h : y = 0
  · subst h
    decide
  · have h1 : lN 0 < lN y := (lN_lt (by omega) hy).mpr (by omega)
    rw [if_pos h1]
    decide
theorem c_lowM {a b : Nat} {pa : Int32} (ha : a < 2 ^ 31) (h0 : 0 < b) (hb : b < 2 ^ 31) (hd : 1 ≤ d) :
    x_K E d 169 [.long (lN a), .long (lN b), .int pa] I (x_pu (.long (lN ((if pa = 0 then a else b) / Nat.gcd a b))) I) := by
  refine x_K.of (by decide) (by decide) rfl rfl rfl (r_M_lowest_0 hd _ _ _ ⟨fun _ => ?_, fun c => absurd (cmp_nn ha) c⟩)
  have hg : 0 < Nat.gcd a b := Nat.gcd_pos_of_pos_right a h0
  have key : ∀ m y x, y ≤ m → x < 2 ^ 31 → y < 2 ^ 31 → Nat.gcd x y = Nat.gcd a b → x_P E d 169 11 [.long (lN a), x_jk, .long (lN b), x_jk, .int pa, .long (lN x), x_jk, .long (lN y), x_jk, x_jk, x_jk] [] I (x_pu (.long (lN ((if pa = 0 then a else b) / Nat.gcd a b))) I) := by
    intro m
    induction m with
    | zero =>
      intro y x hy hx hy2 hxy
      have e : y = 0 := Nat.le_zero.mp hy
      subst e
      rw [Nat.gcd_zero_right] at hxy
      subst hxy
      have hx0 : ¬ lN (Nat.gcd a b) = 0 := fun c => by have := (lN_eq hx (show 0 < 2 ^ 31 by decide)).mp c; omega
      refine r_M_lowest_11 hd _ _ _ _ _ ⟨fun _ => ⟨fun c => ⟨hx0, ?_, rfl⟩, fun c => ⟨hx0, ?_, rfl⟩⟩, fun c => absurd ((cmp_0 hy2).mpr rfl) c⟩
      · rw [pk_lDiv (by omega) hg (by omega), if_pos c]
      · rw [pk_lDiv (by omega) hg (by omega), if_neg c]
    | succ m ih =>
      intro y x hy hx hy2 hxy
      by_cases e : y = 0
      · exact ih y x (by omega) hx hy2 hxy
      · have hy0 : ¬ lN y = 0 := fun c => e ((lN_eq hy2 (show 0 < 2 ^ 31 by decide)).mp c)
        refine r_M_lowest_11 hd _ _ _ _ _ ⟨fun c => absurd ((cmp_0 hy2).mp c) e, fun _ => ⟨hy0, ?_⟩⟩
        rw [pk_lRem (by omega) (by omega) (by omega)]
        have hlt := Nat.mod_lt x (show 0 < y by omega)
        refine ih (x % y) y (by omega) hy2 (by omega) ?_
        rw [← hxy, Nat.gcd_comm x y, Nat.gcd_rec y x, Nat.gcd_comm]
  exact key b b a (Nat.le_refl b) ha hb rfl
end LOW
