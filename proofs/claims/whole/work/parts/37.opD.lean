/-! ===== one call to both: plan, book ===== -/
section OPD
variable {E : XE} {d : Nat} {I : Nat → Nat → Int32} {s : Nat → Int32} {n w : Nat}
theorem m_put2 {J : Nat → Nat → Int32} {Q : Option Value → (Nat → Nat → Int32) → Prop} {C1 C2 a1 a2 : Int32} {c1 c2 sz k : Nat} (hC1 : C1 = nI c1) (hC2 : C2 = nI c2) (hsz : J 143 sz = nI k) (hk : k < 8) (h1 : sz < c1) (h2 : c1 + 8 ≤ c2) (h3 : c2 < 900)
    (hQ : Q (some (.int (nI (k + 1)))) (x_up (x_up (x_up J 143 (c1 + k) a1) 143 (c2 + k) a2) 143 sz (nI (k + 1)))) :
    (vp_in (C1 + (J 143 sz)) 931) ∧ (∀ I6, I6 = x_up J 143 (C1 + (J 143 sz)).toNatClampNeg a1 → (vp_in (C2 + (I6 143 sz)) 931) ∧ (∀ I8, I8 = x_up I6 143 (C2 + (I6 143 sz)).toNatClampNeg a2 → (∀ I9, I9 = x_up I8 143 sz ((I8 143 sz) + (1 : Int32)) → Q (some (.int (I9 143 sz))) I9))) := by
  rw [hsz, ix_c hC1 (by omega)]
  refine ⟨vi_c hC1 (by omega) (by decide), fun I6 e6 => ?_⟩
  have f6 : I6 143 sz = nI k := by rw [e6, up_su, su_ne (by omega), hsz]
  rw [f6, ix_c hC2 (by omega)]
  refine ⟨vi_c hC2 (by omega) (by decide), fun I8 e8 I9 e9 => ?_⟩
  have f8 : I8 143 sz = nI k := by rw [e8, up_su, su_ne (by omega), f6]
  rw [f8, nI_1] at e9
  have f9 : I9 143 sz = nI (k + 1) := by rw [e9, up_su, su_eq]
  rw [f9, e9, e8, e6]
  exact hQ
theorem op_plan {a1 a2 : Int32} (h : RW I 65 s n w) (hd : 20 ≤ d) : op2 E d I s 84 172 [.int a1, .int a2] := by
  have hn := h.1.1
  have h65 := h.1.2.2.2.2.1
  have h31 := h.1.2.2.1
  obtain ⟨k, hk8, h34, h77, hrow⟩ := h.2.2.2.2.2.1
  have h77 : I 77 3 = nI k := h77
  by_cases hm1 : a1 = (-1 : Int32)
  · subst hm1
    refine ⟨.int 0, su s 34 0, n, w, x_K.of (by decide) (by decide) rfl rfl rfl (r_C_plan_0 (by omega) _ _ ⟨fun _ => (c_empty x_rows_77 (by omega)).mono (fun v J ⟨hv, hJ⟩ => ?_), fun c => absurd rfl c⟩), fun J hJ => x_K.of (by decide) (by decide) rfl rfl rfl (r_M_plan_0 (by omega) _ _ ⟨fun _ I13 e13 => ?_, fun c => absurd rfl c⟩)⟩
    · rw [hv]
      have hkp : kp [77, 78, 79, 80] I J := by rw [hJ]; exact kp.up (by simp)
      refine r_C_plan_7 (by omega) _ ⟨rfl, RW_pln h hkp (fun j h1 _ => su_ne h1) ⟨0, by omega, su_eq, ?_, fun i hi => absurd hi (by omega)⟩, ckp_of hkp (by decide)⟩
      rw [hJ]
      show x_up I 77 3 0 77 3 = nI 0
      rw [up_su, su_eq, nI_0]
    · subst hJ
      exact ⟨rfl, by rw [e13, up_su], by rw [e13]; exact m_row⟩
  · by_cases h1 : 0 ≤ a1 ∧ a1 ≤ (3 : Int32)
    · -- the row put
      have hC : ∀ J, k < 8 → (a1 = 0 ∨ ∃ p, p < n ∧ a2 = nI p) → J 77 = su (I 77) 3 (nI (k + 1)) → J (77 + 1) = su (I (77 + 1)) k a1 → J (77 + 2) = su (I (77 + 2)) k a2 → kp [77, 78, 79, 80] I J → RW J 65 (su (su (su s (89 + k) a1) (97 + k) a2) 34 (nI (k + 1))) n w ∧ ckp I J := by
        intro J hk hrw g0 g1 g2 hkp
        refine ⟨RW_pln h hkp (fun j h1 h2 => by rw [su_ne h1, su_ne (by omega), su_ne (by omega)]) ⟨k + 1, by omega, su_eq, ?_, fun i hi => ?_⟩, ckp_of hkp (by decide)⟩
        · show J 77 3 = _
          rw [g0, su_eq]
        · have q1 : J (65 + 13) i = su (I 78) k a1 i := by rw [show (65 + 13 : Nat) = 77 + 1 from rfl, g1]
          have q2 : J (65 + 14) i = su (I 79) k a2 i := by rw [show (65 + 14 : Nat) = 77 + 2 from rfl, g2]
          rw [q1, q2]
          by_cases e : i = k
          · subst e
            have u1 : su (su (su s (89 + i) a1) (97 + i) a2) 34 (nI (i + 1)) (89 + i) = a1 := by rw [su_ne (by omega), su_ne (by omega), su_eq]
            have u2 : su (su (su s (89 + i) a1) (97 + i) a2) 34 (nI (i + 1)) (97 + i) = a2 := by rw [su_ne (by omega), su_eq]
            rw [u1, u2, su_eq, su_eq]
            exact ⟨rfl, rfl, upto_of rfl h1, hrw⟩
          · have u1 : su (su (su s (89 + k) a1) (97 + k) a2) 34 (nI (k + 1)) (89 + i) = s (89 + i) := by rw [su_ne (by omega), su_ne (by omega), su_ne (by omega)]
            have u2 : su (su (su s (89 + k) a1) (97 + k) a2) 34 (nI (k + 1)) (97 + i) = s (97 + i) := by rw [su_ne (by omega), su_ne (by omega), su_ne (by omega)]
            rw [u1, u2, su_ne e, su_ne e]
            exact hrow i (by omega)
      by_cases c0 : a1 = 0
      · by_cases hf : k = 8
        · subst hf
          refine ⟨.int (-4), s, n, w, x_K.of (by decide) (by decide) rfl rfl rfl (r_C_plan_0 (by omega) _ _ ⟨fun c => absurd c hm1, fun _ => ⟨fun _ => ⟨fun _ => ⟨fun c => absurd c ?_, fun _ => ⟨rfl, h, ckp.rfl'⟩⟩, fun c => absurd c0 c⟩, fun c => absurd h1 c⟩⟩), fun J hJ => x_K.of (by decide) (by decide) rfl rfl rfl (r_M_plan_0 (by omega) _ _ ⟨fun c => absurd c hm1, fun _ => ⟨fun _ => ⟨fun _ => ?_, fun c => absurd ?_ c⟩, fun c => absurd h1 c⟩⟩)⟩
          · rw [h77]
            exact nI_nlt (by omega) (by decide)
          · subst hJ
            exact ⟨fun _ => ⟨rfl, rfl, mkp.rfl'⟩, fun c => absurd h34 c⟩
          · rw [c0]; decide
        · refine ⟨.int (nI (k + 1)), su (su (su s (89 + k) a1) (97 + k) a2) 34 (nI (k + 1)), n, w, x_K.of (by decide) (by decide) rfl rfl rfl (r_C_plan_0 (by omega) _ _ ⟨fun c => absurd c hm1, fun _ => ⟨fun _ => ⟨fun _ => ⟨fun _ => (c_put x_rows_77 h77 (by omega) (by omega)).mono (fun v J hv => ?_), fun c => absurd ?_ c⟩, fun c => absurd c0 c⟩, fun c => absurd h1 c⟩⟩), fun J hJ => x_K.of (by decide) (by decide) rfl rfl rfl (r_M_plan_0 (by omega) _ _ ⟨fun c => absurd c hm1, fun _ => ⟨fun _ => ⟨fun _ => ⟨fun c => ?_, fun _ => ?_⟩, fun c => absurd ?_ c⟩, fun c => absurd h1 c⟩⟩)⟩
          · obtain ⟨hv, g0, g1, g2, g3, hkp⟩ := hv
            rw [hv]
            obtain ⟨r1, r2⟩ := hC J (by omega) (Or.inl c0) g0 g1 g2 hkp
            exact r_C_plan_36 (by omega) _ ⟨rfl, r1, r2⟩
          · rw [h77]
            exact nI_lt (show k < 8 by omega) (by decide)
          · subst hJ
            exact absurd (h34.symm.trans c) (full_ne (show k < 8 by omega) (by decide))
          · subst hJ
            refine m_put2 (Q := fun v K => v = some (Value.int (nI (k + 1))) ∧ K 143 = su (su (su (J 143) (89 + k) a1) (97 + k) a2) 34 (nI (k + 1)) ∧ mkp J K) (c1 := 89) (c2 := 97) (k := k) rfl rfl h34 (by omega) (by omega) (by omega) (by omega) ⟨rfl, ?_, ?_⟩
            · rw [up_su, up_su, up_su]
            · exact (m_row.trans m_row).trans m_row
          · rw [c0]; decide
      · have c0' : ¬ a1 ≤ 0 := fun c => c0 (by
          obtain ⟨j, hj, rfl⟩ := nI_of ((ge_0 a1).mp h1.1)
          rcases j with _ | j
          · exact nI_0
          · exact absurd c (nI_nle (by omega) hj))
        rcases mn_cases a2 hn with ⟨p, hp, rfl, hin⟩ | ⟨hno, hno2⟩
        · by_cases hf : k = 8
          · subst hf
            refine ⟨.int (-4), s, n, w, x_K.of (by decide) (by decide) rfl rfl rfl (r_C_plan_0 (by omega) _ _ ⟨fun c => absurd c hm1, fun _ => ⟨fun _ => ⟨fun c => absurd c c0, fun _ => (c_find1 h65 hn hp (by omega)).pu (r_C_plan_18 (by omega) _ _ _ (x_man_now (by omega)).1 ⟨fun c => absurd c ?_, fun _ => ⟨rfl, h, ckp.rfl'⟩⟩)⟩, fun c => absurd h1 c⟩⟩), fun J hJ => x_K.of (by decide) (by decide) rfl rfl rfl (r_M_plan_0 (by omega) _ _ ⟨fun c => absurd c hm1, fun _ => ⟨fun _ => ⟨fun c => absurd c c0', fun _ => ?_⟩, fun c => absurd h1 c⟩⟩)⟩
            · rw [h77]
              exact nI_nlt (by omega) (by decide)
            · subst hJ
              rw [h31]
              exact ⟨fun _ => ⟨fun _ => ⟨rfl, rfl, mkp.rfl'⟩, fun c => absurd h34 c⟩, fun c => absurd hin c⟩
          · refine ⟨.int (nI (k + 1)), su (su (su s (89 + k) a1) (97 + k) (nI p)) 34 (nI (k + 1)), n, w, x_K.of (by decide) (by decide) rfl rfl rfl (r_C_plan_0 (by omega) _ _ ⟨fun c => absurd c hm1, fun _ => ⟨fun _ => ⟨fun c => absurd c c0, fun _ => (c_find1 h65 hn hp (by omega)).pu (r_C_plan_18 (by omega) _ _ _ (x_man_now (by omega)).1 ⟨fun _ => (c_put x_rows_77 h77 (by omega) (by omega)).mono (fun v J hv => ?_), fun c => absurd ?_ c⟩)⟩, fun c => absurd h1 c⟩⟩), fun J hJ => x_K.of (by decide) (by decide) rfl rfl rfl (r_M_plan_0 (by omega) _ _ ⟨fun c => absurd c hm1, fun _ => ⟨fun _ => ⟨fun c => absurd c c0', fun _ => ?_⟩, fun c => absurd h1 c⟩⟩)⟩
            · obtain ⟨hv, g0, g1, g2, g3, hkp⟩ := hv
              rw [hv]
              obtain ⟨r1, r2⟩ := hC J (by omega) (Or.inr ⟨p, hp, rfl⟩) g0 g1 g2 hkp
              exact r_C_plan_36 (by omega) _ ⟨rfl, r1, r2⟩
            · rw [h77]
              exact nI_lt (show k < 8 by omega) (by decide)
            · subst hJ
              rw [h31]
              refine ⟨fun _ => ⟨fun c => absurd (h34.symm.trans c) (full_ne (show k < 8 by omega) (by decide)), fun _ => ?_⟩, fun c => absurd hin c⟩
              refine m_put2 (Q := fun v K => v = some (Value.int (nI (k + 1))) ∧ K 143 = su (su (su (J 143) (89 + k) a1) (97 + k) (nI p)) 34 (nI (k + 1)) ∧ mkp J K) (c1 := 89) (c2 := 97) (k := k) rfl rfl h34 (by omega) (by omega) (by omega) (by omega) ⟨rfl, ?_, ?_⟩
              · rw [up_su, up_su, up_su]
              · exact (m_row.trans m_row).trans m_row
        · refine ⟨.int (-1), s, n, w, x_K.of (by decide) (by decide) rfl rfl rfl (r_C_plan_0 (by omega) _ _ ⟨fun c => absurd c hm1, fun _ => ⟨fun _ => ⟨fun c => absurd c c0, fun _ => (c_find0 h65 hno2 (by omega)).pu (r_C_plan_18N (by omega) _ _ ⟨rfl, h, ckp.rfl'⟩)⟩, fun c => absurd h1 c⟩⟩), fun J hJ => x_K.of (by decide) (by decide) rfl rfl rfl (r_M_plan_0 (by omega) _ _ ⟨fun c => absurd c hm1, fun _ => ⟨fun _ => ⟨fun c => absurd c c0', fun _ => ?_⟩, fun c => absurd h1 c⟩⟩)⟩
          subst hJ
          rw [h31]
          exact ⟨fun c => absurd c hno, fun _ => ⟨rfl, rfl, mkp.rfl'⟩⟩
    · refine ⟨.int (-1), s, n, w, x_K.of (by decide) (by decide) rfl rfl rfl (r_C_plan_0 (by omega) _ _ ⟨fun c => absurd c hm1, fun _ => ⟨fun c => absurd c h1, fun _ => ⟨rfl, h, ckp.rfl'⟩⟩⟩), fun J hJ => x_K.of (by decide) (by decide) rfl rfl rfl (r_M_plan_0 (by omega) _ _ ⟨fun c => absurd c hm1, fun _ => ⟨fun c => absurd c h1, fun _ => ⟨rfl, hJ, mkp.rfl'⟩⟩⟩)⟩
theorem op_book {a1 a2 : Int32} (h : RW I 65 s n w) (hd : 20 ≤ d) : op2 E d I s 86 176 [.int a1, .int a2] := by
  have hn := h.1.1
  have h65 := h.1.2.2.2.2.1
  have h31 := h.1.2.2.1
  obtain ⟨k, hk8, h35, h81, hrow⟩ := h.2.2.2.2.2.2
  have h81 : I 81 3 = nI k := h81
  by_cases hm1 : a1 = (-1 : Int32)
  · subst hm1
    refine ⟨.int 0, su s 35 0, n, w, x_K.of (by decide) (by decide) rfl rfl rfl (r_C_book_0 (by omega) _ _ ⟨fun _ => (c_empty x_rows_81 (by omega)).mono (fun v J ⟨hv, hJ⟩ => ?_), fun c => absurd rfl c⟩), fun J hJ => x_K.of (by decide) (by decide) rfl rfl rfl (r_M_book_0 (by omega) _ _ ⟨fun _ I13 e13 => ?_, fun c => absurd rfl c⟩)⟩
    · rw [hv]
      have hkp : kp [81, 82, 83, 84] I J := by rw [hJ]; exact kp.up (by simp)
      refine r_C_book_7 (by omega) _ ⟨rfl, RW_bok h hkp (fun j h1 _ => su_ne h1) ⟨0, by omega, su_eq, ?_, fun i hi => absurd hi (by omega)⟩, ckp_of hkp (by decide)⟩
      rw [hJ]
      show x_up I 81 3 0 81 3 = nI 0
      rw [up_su, su_eq, nI_0]
    · subst hJ
      exact ⟨rfl, by rw [e13, up_su], by rw [e13]; exact m_row⟩
  · rcases mn_cases a1 hn with ⟨p, hp, rfl, hin⟩ | ⟨hno, hno2⟩
    · by_cases h2 : 0 ≤ a2 ∧ a2 ≤ (255 : Int32)
      · by_cases hf : k = 8
        · subst hf
          refine ⟨.int (-4), s, n, w, x_K.of (by decide) (by decide) rfl rfl rfl (r_C_book_0 (by omega) _ _ ⟨fun c => absurd c hm1, fun _ => (c_find1 h65 hn hp (by omega)).pu (r_C_book_12 (by omega) _ _ _ (x_man_now (by omega)).1 ⟨fun _ => ⟨fun c => absurd c ?_, fun _ => ⟨rfl, h, ckp.rfl'⟩⟩, fun c => absurd h2 c⟩)⟩), fun J hJ => x_K.of (by decide) (by decide) rfl rfl rfl (r_M_book_0 (by omega) _ _ ⟨fun c => absurd c hm1, fun _ => ?_⟩)⟩
          · rw [h81]
            exact nI_nlt (by omega) (by decide)
          · subst hJ
            rw [h31]
            exact ⟨fun _ => ⟨fun _ => ⟨fun _ => ⟨rfl, rfl, mkp.rfl'⟩, fun c => absurd h35 c⟩, fun c => absurd h2 c⟩, fun c => absurd hin c⟩
        · refine ⟨.int (nI (k + 1)), su (su (su s (105 + k) (nI p)) (113 + k) a2) 35 (nI (k + 1)), n, w, x_K.of (by decide) (by decide) rfl rfl rfl (r_C_book_0 (by omega) _ _ ⟨fun c => absurd c hm1, fun _ => (c_find1 h65 hn hp (by omega)).pu (r_C_book_12 (by omega) _ _ _ (x_man_now (by omega)).1 ⟨fun _ => ⟨fun _ => (c_put x_rows_81 h81 (by omega) (by omega)).mono (fun v J hv => ?_), fun c => absurd ?_ c⟩, fun c => absurd h2 c⟩)⟩), fun J hJ => x_K.of (by decide) (by decide) rfl rfl rfl (r_M_book_0 (by omega) _ _ ⟨fun c => absurd c hm1, fun _ => ?_⟩)⟩
          · obtain ⟨hv, g0, g1, g2, g3, hkp⟩ := hv
            rw [hv]
            refine r_C_book_36 (by omega) _ ⟨rfl, RW_bok h hkp (fun j h1 h2 => by rw [su_ne h1, su_ne (by omega), su_ne (by omega)]) ⟨k + 1, by omega, su_eq, ?_, fun i hi => ?_⟩, ckp_of hkp (by decide)⟩
            · show J 81 3 = _
              rw [g0, su_eq]
            · have q1 : J (65 + 17) i = su (I 82) k (nI p) i := by rw [show (65 + 17 : Nat) = 81 + 1 from rfl, g1]
              have q2 : J (65 + 18) i = su (I 83) k a2 i := by rw [show (65 + 18 : Nat) = 81 + 2 from rfl, g2]
              rw [q1, q2]
              by_cases e : i = k
              · subst e
                have u1 : su (su (su s (105 + i) (nI p)) (113 + i) a2) 35 (nI (i + 1)) (105 + i) = nI p := by rw [su_ne (by omega), su_ne (by omega), su_eq]
                have u2 : su (su (su s (105 + i) (nI p)) (113 + i) a2) 35 (nI (i + 1)) (113 + i) = a2 := by rw [su_ne (by omega), su_eq]
                rw [u1, u2, su_eq, su_eq]
                exact ⟨rfl, rfl, p, hp, rfl⟩
              · have u1 : su (su (su s (105 + k) (nI p)) (113 + k) a2) 35 (nI (k + 1)) (105 + i) = s (105 + i) := by rw [su_ne (by omega), su_ne (by omega), su_ne (by omega)]
                have u2 : su (su (su s (105 + k) (nI p)) (113 + k) a2) 35 (nI (k + 1)) (113 + i) = s (113 + i) := by rw [su_ne (by omega), su_ne (by omega), su_ne (by omega)]
                rw [u1, u2, su_ne e, su_ne e]
                exact hrow i (by omega)
          · rw [h81]
            exact nI_lt (show k < 8 by omega) (by decide)
          · subst hJ
            rw [h31]
            refine ⟨fun _ => ⟨fun _ => ⟨fun c => absurd (h35.symm.trans c) (full_ne (show k < 8 by omega) (by decide)), fun _ => ?_⟩, fun c => absurd h2 c⟩, fun c => absurd hin c⟩
            refine m_put2 (Q := fun v K => v = some (Value.int (nI (k + 1))) ∧ K 143 = su (su (su (J 143) (105 + k) (nI p)) (113 + k) a2) 35 (nI (k + 1)) ∧ mkp J K) (c1 := 105) (c2 := 113) (k := k) rfl rfl h35 (by omega) (by omega) (by omega) (by omega) ⟨rfl, ?_, ?_⟩
            · rw [up_su, up_su, up_su]
            · exact (m_row.trans m_row).trans m_row
      · refine ⟨.int (-2), s, n, w, x_K.of (by decide) (by decide) rfl rfl rfl (r_C_book_0 (by omega) _ _ ⟨fun c => absurd c hm1, fun _ => (c_find1 h65 hn hp (by omega)).pu (r_C_book_12 (by omega) _ _ _ (x_man_now (by omega)).1 ⟨fun c => absurd c h2, fun _ => ⟨rfl, h, ckp.rfl'⟩⟩)⟩), fun J hJ => x_K.of (by decide) (by decide) rfl rfl rfl (r_M_book_0 (by omega) _ _ ⟨fun c => absurd c hm1, fun _ => ?_⟩)⟩
        subst hJ
        rw [h31]
        exact ⟨fun _ => ⟨fun c => absurd c h2, fun _ => ⟨rfl, rfl, mkp.rfl'⟩⟩, fun c => absurd hin c⟩
    · refine ⟨.int (-1), s, n, w, x_K.of (by decide) (by decide) rfl rfl rfl (r_C_book_0 (by omega) _ _ ⟨fun c => absurd c hm1, fun _ => (c_find0 h65 hno2 (by omega)).pu (r_C_book_12N (by omega) _ _ ⟨rfl, h, ckp.rfl'⟩)⟩), fun J hJ => x_K.of (by decide) (by decide) rfl rfl rfl (r_M_book_0 (by omega) _ _ ⟨fun c => absurd c hm1, fun _ => ?_⟩)⟩
      subst hJ
      rw [h31]
      exact ⟨fun c => absurd c hno, fun _ => ⟨rfl, rfl, mkp.rfl'⟩⟩
end OPD
