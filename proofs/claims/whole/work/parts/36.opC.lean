/-! ===== one call to both: rows ===== -/
theorem RW_sen {I J : Nat → Nat → Int32} {s t : Nat → Int32} {n w : Nat} (h : RW I 65 s n w) (k : kp [73, 74, 75, 76] I J) (hs : ∀ j, j ≠ 33 → ¬ (74 ≤ j ∧ j < 89) → t j = s j) (hn : senR J 65 t n) : RW J 65 t n w := by
  obtain ⟨a1, a2, a3, a4, a5, a6, a7⟩ := h
  have kc : ∀ q, ¬ (73 ≤ q ∧ q < 77) → J q = I q := fun q h1 => k q (by simp; omega)
  have e65 := kc 65 (by omega)
  exact ⟨hdR_c (by rw [e65]) (by rw [e65]) (hs _ (by omega) (by omega)) (hs _ (by omega) (by omega)) a1, mnsR_c a1.1 (fun q _ _ => kc q (by omega)) (fun i _ _ => hs i (by omega) (by omega)) a2, towR_c ⟨kc _ (by omega), kc _ (by omega), kc _ (by omega), kc _ (by omega)⟩ (by rw [e65]) (hs _ (by omega) (by omega)) (hs _ (by omega) (by omega)) (fun j _ => hs j (by omega) (by omega)) a3,
    tapR_c (kc _ (by omega)) (by rw [e65]) (hs _ (by omega) (by omega)) (fun j _ _ => hs j (by omega) (by omega)) a4, hn, plnR_c (Nat.le_refl _) (kc _ (by omega)) (kc _ (by omega)) (kc _ (by omega)) (hs _ (by omega) (by omega)) (fun j _ _ => hs j (by omega) (by omega)) a6, bokR_c (Nat.le_refl _) (kc _ (by omega)) (kc _ (by omega)) (kc _ (by omega)) (hs _ (by omega) (by omega)) (fun j _ _ => hs j (by omega) (by omega)) a7⟩
theorem RW_pln {I J : Nat → Nat → Int32} {s t : Nat → Int32} {n w : Nat} (h : RW I 65 s n w) (k : kp [77, 78, 79, 80] I J) (hs : ∀ j, j ≠ 34 → ¬ (89 ≤ j ∧ j < 105) → t j = s j) (hn : plnR J 65 t n) : RW J 65 t n w := by
  obtain ⟨a1, a2, a3, a4, a5, a6, a7⟩ := h
  have kc : ∀ q, ¬ (77 ≤ q ∧ q < 81) → J q = I q := fun q h1 => k q (by simp; omega)
  have e65 := kc 65 (by omega)
  exact ⟨hdR_c (by rw [e65]) (by rw [e65]) (hs _ (by omega) (by omega)) (hs _ (by omega) (by omega)) a1, mnsR_c a1.1 (fun q _ _ => kc q (by omega)) (fun i _ _ => hs i (by omega) (by omega)) a2, towR_c ⟨kc _ (by omega), kc _ (by omega), kc _ (by omega), kc _ (by omega)⟩ (by rw [e65]) (hs _ (by omega) (by omega)) (hs _ (by omega) (by omega)) (fun j _ => hs j (by omega) (by omega)) a3,
    tapR_c (kc _ (by omega)) (by rw [e65]) (hs _ (by omega) (by omega)) (fun j _ _ => hs j (by omega) (by omega)) a4, senR_c (Nat.le_refl _) (kc _ (by omega)) (kc _ (by omega)) (kc _ (by omega)) (kc _ (by omega)) (hs _ (by omega) (by omega)) (fun j _ _ => hs j (by omega) (by omega)) a5, hn, bokR_c (Nat.le_refl _) (kc _ (by omega)) (kc _ (by omega)) (kc _ (by omega)) (hs _ (by omega) (by omega)) (fun j _ _ => hs j (by omega) (by omega)) a7⟩
theorem RW_bok {I J : Nat → Nat → Int32} {s t : Nat → Int32} {n w : Nat} (h : RW I 65 s n w) (k : kp [81, 82, 83, 84] I J) (hs : ∀ j, j ≠ 35 → ¬ (105 ≤ j ∧ j < 121) → t j = s j) (hn : bokR J 65 t n) : RW J 65 t n w := by
  obtain ⟨a1, a2, a3, a4, a5, a6, a7⟩ := h
  have kc : ∀ q, ¬ (81 ≤ q ∧ q < 85) → J q = I q := fun q h1 => k q (by simp; omega)
  have e65 := kc 65 (by omega)
  exact ⟨hdR_c (by rw [e65]) (by rw [e65]) (hs _ (by omega) (by omega)) (hs _ (by omega) (by omega)) a1, mnsR_c a1.1 (fun q _ _ => kc q (by omega)) (fun i _ _ => hs i (by omega) (by omega)) a2, towR_c ⟨kc _ (by omega), kc _ (by omega), kc _ (by omega), kc _ (by omega)⟩ (by rw [e65]) (hs _ (by omega) (by omega)) (hs _ (by omega) (by omega)) (fun j _ => hs j (by omega) (by omega)) a3,
    tapR_c (kc _ (by omega)) (by rw [e65]) (hs _ (by omega) (by omega)) (fun j _ _ => hs j (by omega) (by omega)) a4, senR_c (Nat.le_refl _) (kc _ (by omega)) (kc _ (by omega)) (kc _ (by omega)) (kc _ (by omega)) (hs _ (by omega) (by omega)) (fun j _ _ => hs j (by omega) (by omega)) a5, plnR_c (Nat.le_refl _) (kc _ (by omega)) (kc _ (by omega)) (kc _ (by omega)) (hs _ (by omega) (by omega)) (fun j _ _ => hs j (by omega) (by omega)) a6, hn⟩
section OPC
variable {E : XE} {d : Nat} {I : Nat → Nat → Int32} {s : Nat → Int32} {n w : Nat}
theorem c_put {r k : Nat} {a b c : Int32} (hr : x_rows r) (hsz : I r 3 = nI k) (hk : k < 8) (hd : 1 ≤ d) :
    x_K E d 45 [.ref r, .int a, .int b, .int c] I (fun v J => v = some (.int (nI (k + 1))) ∧ J r = su (I r) 3 (nI (k + 1)) ∧ J (r + 1) = su (I (r + 1)) k a ∧ J (r + 2) = su (I (r + 2)) k b ∧ J (r + 3) = su (I (r + 3)) k c ∧ kp [r, r + 1, r + 2, r + 3] I J) := by
  refine x_K.of (by decide) (by decide) rfl rfl rfl (r_Rows_put_0 hd r hr _ _ _ ⟨fun c => absurd c ?_, fun _ => ⟨?_, fun I3 e3 => ⟨?_, fun I5 e5 => ⟨?_, fun I7 e7 I8 e8 => ?_⟩⟩⟩⟩)
  · rw [hsz]
    exact nI_ge hk (by decide)
  · rw [hsz]
    exact vp_in_nI hk (by decide)
  · rw [e3, up_ne (by omega), hsz]
    exact vp_in_nI hk (by decide)
  · rw [e5, up_ne (by omega), e3, up_ne (by omega), hsz]
    exact vp_in_nI hk (by decide)
  rw [hsz, nI_clamp (by omega)] at e3
  have h3 : I3 r = I r := by rw [e3, up_ne (by omega)]
  rw [h3, hsz, nI_clamp (by omega)] at e5
  have h5 : I5 r = I r := by rw [e5, up_ne (by omega), h3]
  rw [h5, hsz, nI_clamp (by omega)] at e7
  have h7 : I7 r = I r := by rw [e7, up_ne (by omega), h5]
  rw [h7, hsz, nI_1] at e8
  refine ⟨by rw [e8, up_su, su_eq], by rw [e8, up_su, h7], ?_, ?_, ?_, fun q hq => ?_⟩
  · rw [e8, up_ne (by omega), e7, up_ne (by omega), e5, up_ne (by omega), e3, up_su]
  · rw [e8, up_ne (by omega), e7, up_ne (by omega), e5, up_su, e3, up_ne (by omega)]
  · rw [e8, up_ne (by omega), e7, up_su, e5, up_ne (by omega), e3, up_ne (by omega)]
  · simp at hq
    rw [e8, up_ne (by omega), e7, up_ne (by omega), e5, up_ne (by omega), e3, up_ne (by omega)]
theorem c_empty {r : Nat} (hr : x_rows r) (hd : 1 ≤ d) : x_K E d 46 [.ref r] I (fun v J => v = some (.int 0) ∧ J = x_up I r 3 0) :=
  x_K.of (by decide) (by decide) rfl rfl rfl (r_Rows_empty_0 hd r hr (fun I1 e1 => ⟨by rw [e1, up_su, su_eq], e1⟩))
theorem m_row {J : Nat → Nat → Int32} {k : Nat} {x : Int32} : mkp J (x_up J 143 k x) := mkp_of (l := [143]) (kp.up (by simp)) (by decide)
theorem mkp.trans {I J K : Nat → Nat → Int32} (h1 : mkp I J) (h2 : mkp J K) : mkp I K :=
  ⟨fun q hq => (h2.1 q hq).trans (h1.1 q hq), h2.2.1.trans h1.2.1, h2.2.2.1.trans h1.2.2.1, h2.2.2.2.1.trans h1.2.2.2.1, h2.2.2.2.2.trans h1.2.2.2.2⟩
theorem ckp.trans {I J K : Nat → Nat → Int32} (h1 : ckp I J) (h2 : ckp J K) : ckp I K :=
  ⟨h2.1.trans h1.1, h2.2.1.trans h1.2.1, fun q a b c e => (h2.2.2 q a b c e).trans (h1.2.2 q a b c e)⟩
theorem full_ne {k m : Nat} (h1 : k < m) (h2 : m < 2 ^ 31) : ¬ nI k = nI m := fun e => by have := (nI_eq (by omega) h2).mp e; omega
theorem op_see {a1 a2 a3 : Int32} (h : RW I 65 s n w) (hd : 20 ≤ d) : op2 E d I s 79 163 [.int a1, .int a2, .int a3] := by
  have hn := h.1.1
  have h65 := h.1.2.2.2.2.1
  have h31 := h.1.2.2.1
  obtain ⟨k, hk5, h33, h73, hrow⟩ := h.2.2.2.2.1
  have h73 : I 73 3 = nI k := h73
  by_cases hm1 : a1 = (-1 : Int32)
  · subst hm1
    refine ⟨.int 0, su s 33 0, n, w, x_K.of (by decide) (by decide) rfl rfl rfl (r_C_see_0 (by omega) _ _ _ ⟨fun _ => (c_empty x_rows_73 (by omega)).mono (fun v J ⟨hv, hJ⟩ => ?_), fun c => absurd rfl c⟩), fun J hJ => x_K.of (by decide) (by decide) rfl rfl rfl (r_M_see_0 (by omega) _ _ _ ⟨fun _ I13 e13 => ?_, fun c => absurd rfl c⟩)⟩
    · rw [hv]
      have hkp : kp [73, 74, 75, 76] I J := by rw [hJ]; exact kp.up (by simp)
      refine r_C_see_7 (by omega) _ ⟨rfl, RW_sen h hkp (fun j h1 _ => su_ne h1) ⟨0, by omega, su_eq, ?_, fun i hi => absurd hi (by omega)⟩, ckp_of hkp (by decide)⟩
      rw [hJ]
      show x_up I 73 3 0 73 3 = nI 0
      rw [up_su, su_eq, nI_0]
    · subst hJ
      refine ⟨rfl, by rw [e13, up_su], by rw [e13]; exact m_row⟩
  · rcases mn_cases a1 hn with ⟨p, hp, rfl, hin⟩ | ⟨hno, hno2⟩
    · by_cases h2 : 0 ≤ a2 ∧ a2 ≤ (20 : Int32)
      · by_cases h3 : 0 ≤ a3 ∧ a3 ≤ (99 : Int32)
        · by_cases hf : k = 5
          · subst hf
            refine ⟨.int (-4), s, n, w, x_K.of (by decide) (by decide) rfl rfl rfl (r_C_see_0 (by omega) _ _ _ ⟨fun c => absurd c hm1, fun _ => (c_find1 h65 hn hp (by omega)).pu (r_C_see_12 (by omega) _ _ _ _ (x_man_now (by omega)).1 ⟨fun _ => ⟨fun _ => ⟨fun c => absurd c ?_, fun _ => ⟨rfl, h, ckp.rfl'⟩⟩, fun c => absurd h3 c⟩, fun c => absurd h2 c⟩)⟩), fun J hJ => x_K.of (by decide) (by decide) rfl rfl rfl (r_M_see_0 (by omega) _ _ _ ⟨fun c => absurd c hm1, fun _ => ?_⟩)⟩
            · rw [h73]
              exact nI_nlt (by omega) (by decide)
            · subst hJ
              rw [h31]
              exact ⟨fun _ => ⟨fun _ => ⟨fun _ => ⟨fun _ => ⟨rfl, rfl, mkp.rfl'⟩, fun c => absurd h33 c⟩, fun c => absurd h3 c⟩, fun c => absurd h2 c⟩, fun c => absurd hin c⟩
          · refine ⟨.int (nI (k + 1)), su (su (su (su s (74 + k) (nI p)) (79 + k) a2) (84 + k) a3) 33 (nI (k + 1)), n, w, x_K.of (by decide) (by decide) rfl rfl rfl (r_C_see_0 (by omega) _ _ _ ⟨fun c => absurd c hm1, fun _ => (c_find1 h65 hn hp (by omega)).pu (r_C_see_12 (by omega) _ _ _ _ (x_man_now (by omega)).1 ⟨fun _ => ⟨fun _ => ⟨fun _ => (c_put x_rows_73 h73 (by omega) (by omega)).mono (fun v J hv => ?_), fun c => absurd ?_ c⟩, fun c => absurd h3 c⟩, fun c => absurd h2 c⟩)⟩), fun J hJ => x_K.of (by decide) (by decide) rfl rfl rfl (r_M_see_0 (by omega) _ _ _ ⟨fun c => absurd c hm1, fun _ => ?_⟩)⟩
            · obtain ⟨hv, g0, g1, g2, g3, hkp⟩ := hv
              rw [hv]
              refine r_C_see_40 (by omega) _ ⟨rfl, RW_sen h hkp (fun j h1 h2 => ?_) ⟨k + 1, by omega, su_eq, ?_, fun i hi => ?_⟩, ckp_of hkp (by decide)⟩
              · rw [su_ne h1, su_ne (by omega), su_ne (by omega), su_ne (by omega)]
              · show J 73 3 = _
                rw [g0, su_eq]
              · have q1 : J (65 + 9) i = su (I 74) k (nI p) i := by rw [show (65 + 9 : Nat) = 73 + 1 from rfl, g1]
                have q2 : J (65 + 10) i = su (I 75) k a2 i := by rw [show (65 + 10 : Nat) = 73 + 2 from rfl, g2]
                have q3 : J (65 + 11) i = su (I 76) k a3 i := by rw [show (65 + 11 : Nat) = 73 + 3 from rfl, g3]
                rw [q1, q2, q3]
                by_cases e : i = k
                · subst e
                  refine ⟨?_, ?_, ?_, ⟨p, hp, ?_⟩, ?_⟩
                  · rw [su_eq, su_ne (by omega), su_ne (by omega), su_ne (by omega), su_eq]
                  · rw [su_eq, su_ne (by omega), su_ne (by omega), su_eq]
                  · rw [su_eq, su_ne (by omega), su_eq]
                  · rw [su_ne (by omega), su_ne (by omega), su_ne (by omega), su_eq]
                  · rw [su_ne (by omega), su_ne (by omega), su_eq]
                    exact upto_of rfl h2
                · obtain ⟨c1, c2, c3, c4, c5⟩ := hrow i (by omega)
                  have u1 : su (su (su (su s (74 + k) (nI p)) (79 + k) a2) (84 + k) a3) 33 (nI (k + 1)) (74 + i) = s (74 + i) := by rw [su_ne (by omega), su_ne (by omega), su_ne (by omega), su_ne (by omega)]
                  have u2 : su (su (su (su s (74 + k) (nI p)) (79 + k) a2) (84 + k) a3) 33 (nI (k + 1)) (79 + i) = s (79 + i) := by rw [su_ne (by omega), su_ne (by omega), su_ne (by omega), su_ne (by omega)]
                  have u3 : su (su (su (su s (74 + k) (nI p)) (79 + k) a2) (84 + k) a3) 33 (nI (k + 1)) (84 + i) = s (84 + i) := by rw [su_ne (by omega), su_ne (by omega), su_ne (by omega), su_ne (by omega)]
                  rw [u1, u2, u3, su_ne e, su_ne e, su_ne e]
                  exact ⟨c1, c2, c3, c4, c5⟩
            · rw [h73]
              exact nI_lt (show k < 5 by omega) (by decide)
            · subst hJ
              rw [h31]
              refine ⟨fun _ => ⟨fun _ => ⟨fun _ => ⟨fun c => absurd (h33.symm.trans c) (full_ne (show k < 5 by omega) (by decide)), fun _ => ⟨?_, fun I7 e7 => ⟨?_, fun I9 e9 => ⟨?_, fun I11 e11 I12 e12 => ?_⟩⟩⟩⟩, fun c => absurd h3 c⟩, fun c => absurd h2 c⟩, fun c => absurd hin c⟩
              · rw [h33]
                exact vi_c (c' := 74) rfl (by omega) (by decide)
              · rw [e7, up_su, h33, ix_c (c := 74) (c' := 74) rfl (by omega), su_ne (by omega), h33]
                exact vi_c (c' := 79) rfl (by omega) (by decide)
              · rw [h33, ix_c (c := 74) (c' := 74) rfl (by omega)] at e7
                have f7 : I7 143 33 = nI k := by rw [e7, up_su, su_ne (by omega), h33]
                rw [f7, ix_c (c := 79) (c' := 79) rfl (by omega)] at e9
                rw [e9, up_su, su_ne (by omega), f7]
                exact vi_c (c' := 84) rfl (by omega) (by decide)
              · rw [h33, ix_c (c := 74) (c' := 74) rfl (by omega)] at e7
                have f7 : I7 143 33 = nI k := by rw [e7, up_su, su_ne (by omega), h33]
                rw [f7, ix_c (c := 79) (c' := 79) rfl (by omega)] at e9
                have f9 : I9 143 33 = nI k := by rw [e9, up_su, su_ne (by omega), f7]
                rw [f9, ix_c (c := 84) (c' := 84) rfl (by omega)] at e11
                have f11 : I11 143 33 = nI k := by rw [e11, up_su, su_ne (by omega), f9]
                rw [f11, nI_1] at e12
                refine ⟨by rw [e12, up_su, su_eq], by rw [e12, up_su, e11, up_su, e9, up_su, e7, up_su], ?_⟩
                rw [e12, e11, e9, e7]
                exact ((m_row.trans m_row).trans m_row).trans m_row
        · refine ⟨.int (-2), s, n, w, x_K.of (by decide) (by decide) rfl rfl rfl (r_C_see_0 (by omega) _ _ _ ⟨fun c => absurd c hm1, fun _ => (c_find1 h65 hn hp (by omega)).pu (r_C_see_12 (by omega) _ _ _ _ (x_man_now (by omega)).1 ⟨fun _ => ⟨fun c => absurd c h3, fun _ => ⟨rfl, h, ckp.rfl'⟩⟩, fun c => absurd h2 c⟩)⟩), fun J hJ => x_K.of (by decide) (by decide) rfl rfl rfl (r_M_see_0 (by omega) _ _ _ ⟨fun c => absurd c hm1, fun _ => ?_⟩)⟩
          subst hJ
          rw [h31]
          exact ⟨fun _ => ⟨fun _ => ⟨fun c => absurd c h3, fun _ => ⟨rfl, rfl, mkp.rfl'⟩⟩, fun c => absurd h2 c⟩, fun c => absurd hin c⟩
      · refine ⟨.int (-2), s, n, w, x_K.of (by decide) (by decide) rfl rfl rfl (r_C_see_0 (by omega) _ _ _ ⟨fun c => absurd c hm1, fun _ => (c_find1 h65 hn hp (by omega)).pu (r_C_see_12 (by omega) _ _ _ _ (x_man_now (by omega)).1 ⟨fun c => absurd c h2, fun _ => ⟨rfl, h, ckp.rfl'⟩⟩)⟩), fun J hJ => x_K.of (by decide) (by decide) rfl rfl rfl (r_M_see_0 (by omega) _ _ _ ⟨fun c => absurd c hm1, fun _ => ?_⟩)⟩
        subst hJ
        rw [h31]
        exact ⟨fun _ => ⟨fun c => absurd c h2, fun _ => ⟨rfl, rfl, mkp.rfl'⟩⟩, fun c => absurd hin c⟩
    · refine ⟨.int (-1), s, n, w, x_K.of (by decide) (by decide) rfl rfl rfl (r_C_see_0 (by omega) _ _ _ ⟨fun c => absurd c hm1, fun _ => (c_find0 h65 hno2 (by omega)).pu (r_C_see_12N (by omega) _ _ _ ⟨rfl, h, ckp.rfl'⟩)⟩), fun J hJ => x_K.of (by decide) (by decide) rfl rfl rfl (r_M_see_0 (by omega) _ _ _ ⟨fun c => absurd c hm1, fun _ => ?_⟩)⟩
      subst hJ
      rw [h31]
      exact ⟨fun c => absurd c hno, fun _ => ⟨rfl, rfl, mkp.rfl'⟩⟩
end OPC
