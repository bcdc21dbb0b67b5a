/-! ===== one call to both: mean ===== -/
def cntB (c : Nat → Bool) : Nat → Nat
  | 0 => 0
  | k + 1 => cntB c k + (if c k = true then 1 else 0)
theorem cntB_congr {b c : Nat → Bool} : ∀ n, (∀ k, k < n → b k = c k) → cntB b n = cntB c n := by
  intro n
  induction n with
  | zero => intro _; rfl
  | succ n ih =>
    intro h
    unfold cntB
    rw [ih (fun k hk => h k (by omega)), h n (by omega)]
theorem cntB_le {c : Nat → Bool} : ∀ n, cntB c n ≤ n := by
  intro n
  induction n with
  | zero => exact Nat.le_refl _
  | succ n ih =>
    unfold cntB
    split <;> omega
theorem cnt_fin : ∀ n, n < 7 → ∀ m, m < 64 → pc (orF (fun k => m.testBit k) n) = nI (cntB (fun k => m.testBit k) n) ∧ (orF (fun k => m.testBit k) n = 0 ↔ cntB (fun k => m.testBit k) n = 0) := by decide +kernel
theorem cnt_eq {c : Nat → Bool} {n : Nat} (hn : n ≤ 6) : pc (orF c n) = nI (cntB c n) ∧ (orF c n = 0 ↔ cntB c n = 0) := by
  obtain ⟨m, hm, hk⟩ := mask_of c
  rw [orF_congr (c := fun k => m.testBit k) n (fun k hkn => hk k (by omega)), cntB_congr (c := fun k => m.testBit k) n (fun k hkn => hk k (by omega))]
  exact cnt_fin n (by omega) m hm
/-- the heights of those who are present -/
def hsN (s : Nat → Int32) : Nat → Nat
  | 0 => 0
  | k + 1 => hsN s k + (if s (19 + k) = 0 then (s (7 + k)).toNatClampNeg else 0)
theorem hsN_le {s : Nat → Int32} : ∀ n, (∀ k, k < n → upto (s (7 + k)) 99) → hsN s n ≤ 99 * n := by
  intro n
  induction n with
  | zero => intro _; exact Nat.le_refl _
  | succ n ih =>
    intro h
    have := ih (fun k hk => h k (by omega))
    obtain ⟨a, ha, e⟩ := h n (by omega)
    unfold hsN
    rw [e, nI_clamp (by omega)]
    split <;> omega
section OPL
variable {E : XE} {d : Nat} {I : Nat → Nat → Int32} {s : Nat → Int32} {n w : Nat}
theorem op_mean {a1 : Int32} (h : RW I 65 s n w) (hd : 20 ≤ d) : op2L E d I s 83 171 [.int a1] := by
  have hn := h.1.1
  have h31 := h.1.2.2.1
  have h65 := h.1.2.2.2.2.1
  have hht : ∀ k, k < n → upto (s (7 + k)) 99 := fun k hk => (h.2.1.1 k hk).2.2.2.2.2.1
  have hle : ∀ j, j ≤ n → hsN s j ≤ 594 := fun j hj => by have := hsN_le (s := s) j (fun k hk => hht k (by omega)); omega
  generalize hc : (fun k => decide (s (19 + k) = 0)) = c
  have hcn : cntB c n ≤ 6 := by have := cntB_le (c := c) n; omega
  obtain ⟨q1, q2⟩ := cnt_eq (c := c) hn
  have hpr : prF s n = orF c n := by unfold prF; rw [hc]
  -- the model's sums
  have mloop : ∀ (J : Nat → Nat → Int32), J 143 = s → ∀ Q, x_P E d 171 6 [.ref 142, .int a1, .long (lN (hsN s n)), x_jk, .long (lN (cntB c n)), x_jk, .int (nI n)] [] J Q → x_P E d 171 6 [.ref 142, .int a1, .long (0 : Int64), x_jk, .long (0 : Int64), x_jk, .int 0] [] J Q := by
    intro J hJ Q hQ
    have key : ∀ m j, j + m = n → x_P E d 171 6 [.ref 142, .int a1, .long (lN (hsN s j)), x_jk, .long (lN (cntB c j)), x_jk, .int (nI j)] [] J Q := by
      intro m
      induction m with
      | zero => intro j hj; rw [show j = n by omega]; exact hQ
      | succ m ih =>
        intro j hj
        have nx := ih (j + 1) (by omega)
        obtain ⟨a, ha, e⟩ := hht j (by omega)
        have ej : c j = decide (s (19 + j) = 0) := by rw [← hc]
        rw [hsN, cntB, ej, e, nI_clamp (by omega)] at nx
        refine r_M_mean_6 (by omega) _ _ _ _ ⟨fun g => absurd g ?_, fun _ => ⟨vi_c (c' := 19) rfl (by omega) (by decide), ?_⟩⟩
        · rw [hJ, h31]
          exact nI_ge (by omega) (by omega)
        rw [ix_c (c := 19) (c' := 19) rfl (by omega), ix_c (c := 7) (c' := 7) rfl (by omega), hJ, e, nI_l (by omega), nI_1]
        refine ⟨fun g => ⟨vi_c (c' := 7) rfl (by omega) (by decide), vi_c (c' := 19) rfl (by omega) (by decide), fun _ => ?_, fun g2 => absurd g g2⟩, fun g => ⟨vi_c (c' := 19) rfl (by omega) (by decide), fun g2 => absurd g2 g, fun _ => ?_⟩⟩
        · rw [if_pos g, if_pos (decide_eq_true g)] at nx
          rw [lN_add, lN_1]
          exact nx
        · rw [if_neg g, if_neg (by simpa using g)] at nx
          rw [show (0 : Int64) = lN 0 from rfl, lN_add, lN_add]
          exact nx
    have kk := key n 0 (by omega)
    rw [nI_0] at kk
    exact kk
  by_cases h1 : 0 ≤ a1 ∧ a1 ≤ (1 : Int32)
  · by_cases h0 : cntB c n = 0
    · refine ⟨.long (-9223372036854775808 : Int64), s, n, w, x_K.of (by decide) (by decide) rfl rfl rfl (r_C_mean_0 (by omega) _ ((c_presentBits h (by omega)).pu (r_C_mean_3 (by omega) _ _ ⟨fun _ => ⟨fun _ => ⟨rfl, h, ckp.rfl'⟩, fun g => absurd (by rw [hpr]; exact q2.mpr h0) g⟩, fun g => absurd h1 g⟩))), fun J hJ => x_K.of (by decide) (by decide) rfl rfl rfl (r_M_mean_0 (by omega) _ (mloop J hJ _ ?_))⟩
      refine r_M_mean_6 (by omega) _ _ _ _ ⟨fun _ => ⟨fun _ => ⟨fun _ => ⟨rfl, hJ, mkp.rfl'⟩, fun g => absurd ((cmp_0 (by omega)).mpr h0) g⟩, fun g => absurd h1 g⟩, fun g => absurd ?_ g⟩
      rw [hJ, h31]
      exact nI_le (Nat.le_refl _) (by omega)
    · refine ⟨.long (lN ((if a1 = 0 then hsN s n else cntB c n) / Nat.gcd (hsN s n) (cntB c n))), s, n, w, x_K.of (by decide) (by decide) rfl rfl rfl (r_C_mean_0 (by omega) _ ((c_presentBits h (by omega)).pu (r_C_mean_3 (by omega) _ _ ⟨fun _ => ⟨fun g => absurd (q2.mp (by rw [← hpr]; exact g)) h0, fun _ => ?_⟩, fun g => absurd h1 g⟩))), fun J hJ => x_K.of (by decide) (by decide) rfl rfl rfl (r_M_mean_0 (by omega) _ (mloop J hJ _ ?_))⟩
      · have key : ∀ m j, j + m = n → x_P E d 83 16 [.ref 64, .int a1, .int (prF s n), .int (nI (hsN s j)), .int (nI j)] [] I (fun v J => v = some (.long (lN ((if a1 = 0 then hsN s n else cntB c n) / Nat.gcd (hsN s n) (cntB c n)))) ∧ RW J 65 s n w ∧ ckp I J) := by
          intro m
          induction m with
          | zero =>
            intro j hj
            have ejn : j = n := by omega
            subst ejn
            refine r_C_mean_16 (by omega) _ _ _ _ ⟨fun _ => ?_, fun g => absurd ?_ g⟩
            · obtain ⟨mm, hmm, -, em⟩ := orF_nI (c := c) hn
              have hb : x_K E (d - 1) 1 [.int (prF s j)] I (x_pu (.int (nI (cntB c j))) I) := by
                rw [← q1, hpr, em]
                exact c_bitCount (by omega) (by omega)
              refine hb.pu (r_C_mean_44 (by omega) _ _ _ ((c_lowC (by have := hle j (Nat.le_refl _); omega) (by omega) (by omega) (by omega)).pu (r_C_mean_46 (by omega) _ ⟨?_, h, ckp.rfl'⟩)))
              rw [nI_l]
              have := hle j (Nat.le_refl _)
              refine Nat.lt_of_le_of_lt (Nat.div_le_self _ _) ?_
              split <;> omega
            · rw [h65]
              exact nI_le (Nat.le_refl _) (by omega)
          | succ m ih =>
            intro j hj
            have nx := ih (j + 1) (by omega)
            obtain ⟨a, ha, e⟩ := hht j (by omega)
            rw [hsN, e, nI_clamp (by omega)] at nx
            refine r_C_mean_16 (by omega) _ _ _ _ ⟨fun g => absurd g ?_, fun _ => ⟨vp_in_nI (by omega) (by decide), fun _ => vp_in_nI (by omega) (by decide), fun z hz => ?_⟩⟩
            · rw [h65]
              exact nI_ge (by omega) (by omega)
            have hm := (h.2.1.1 j (by omega)).1
            rw [nI_clamp (by omega), show I (85 + 2 * j) 7 = s (19 + j) from hm.2.2.2.2.2.1, show I (85 + 2 * j) 5 = nI a from (mnR_dyn hm).2.1.trans e] at hz
            have ez : z = nI (if s (19 + j) = 0 then a else 0) := by
              rw [hz]
              by_cases g : s (19 + j) = 0
              · rw [if_pos g, if_pos g]
              · rw [if_neg g, if_neg g, nI_0]
            rw [ez, nI_add, nI_1]
            exact nx
        have kk := key n 0 (by omega)
        rw [nI_0] at kk
        have e0 : nI (hsN s 0) = 0 := nI_0
        rw [e0] at kk
        exact kk
      · refine r_M_mean_6 (by omega) _ _ _ _ ⟨fun _ => ⟨fun _ => ⟨fun g => absurd ((cmp_0 (by omega)).mp g) h0, fun _ => (c_lowM (by have := hle n (Nat.le_refl _); omega) (by omega) (by omega) (by omega)).pu (r_M_mean_61 (by omega) _ ⟨rfl, hJ, mkp.rfl'⟩)⟩, fun g => absurd h1 g⟩, fun g => absurd ?_ g⟩
        rw [hJ, h31]
        exact nI_le (Nat.le_refl _) (by omega)
  · refine ⟨.long (-9223372036854775808 : Int64), s, n, w, x_K.of (by decide) (by decide) rfl rfl rfl (r_C_mean_0 (by omega) _ ((c_presentBits h (by omega)).pu (r_C_mean_3 (by omega) _ _ ⟨fun g => absurd g h1, fun _ => ⟨rfl, h, ckp.rfl'⟩⟩))), fun J hJ => x_K.of (by decide) (by decide) rfl rfl rfl (r_M_mean_0 (by omega) _ (mloop J hJ _ ?_))⟩
    refine r_M_mean_6 (by omega) _ _ _ _ ⟨fun _ => ⟨fun g => absurd g h1, fun _ => ⟨rfl, hJ, mkp.rfl'⟩⟩, fun g => absurd ?_ g⟩
    rw [hJ, h31]
    exact nI_le (Nat.le_refl _) (by omega)
end OPL
