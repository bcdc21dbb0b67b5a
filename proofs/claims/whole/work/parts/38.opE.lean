/-! ===== one call to both: feed, man, pass ===== -/
theorem RW_tap {I J : Nat → Nat → Int32} {s t : Nat → Int32} {n w : Nat} (h : RW I 65 s n w) (k : kp [65, 67] I J) (e1 : J 65 1 = I 65 1) (e2 : J 65 2 = I 65 2) (e6 : J 65 6 = I 65 6) (hs : ∀ j, j ≠ 36 → ¬ (121 ≤ j ∧ j < 221) → t j = s j) (hn : tapR J 65 t) : RW J 65 t n w := by
  obtain ⟨a1, a2, a3, a4, a5, a6, a7⟩ := h
  have kc : ∀ q, q ≠ 65 → q ≠ 67 → J q = I q := fun q h1 h2 => k q (by simp; omega)
  exact ⟨hdR_c e1 e2 (hs _ (by omega) (by omega)) (hs _ (by omega) (by omega)) a1, mnsR_c a1.1 (fun q _ _ => kc q (by omega) (by omega)) (fun i _ _ => hs i (by omega) (by omega)) a2, towR_c ⟨kc _ (by omega) (by omega), kc _ (by omega) (by omega), kc _ (by omega) (by omega), kc _ (by omega) (by omega)⟩ e6 (hs _ (by omega) (by omega)) (hs _ (by omega) (by omega)) (fun j _ => hs j (by omega) (by omega)) a3, hn,
    senR_c (Nat.le_refl _) (kc _ (by omega) (by omega)) (kc _ (by omega) (by omega)) (kc _ (by omega) (by omega)) (kc _ (by omega) (by omega)) (hs _ (by omega) (by omega)) (fun j _ _ => hs j (by omega) (by omega)) a5,
    plnR_c (Nat.le_refl _) (kc _ (by omega) (by omega)) (kc _ (by omega) (by omega)) (kc _ (by omega) (by omega)) (hs _ (by omega) (by omega)) (fun j _ _ => hs j (by omega) (by omega)) a6,
    bokR_c (Nat.le_refl _) (kc _ (by omega) (by omega)) (kc _ (by omega) (by omega)) (kc _ (by omega) (by omega)) (hs _ (by omega) (by omega)) (fun j _ _ => hs j (by omega) (by omega)) a7⟩
def rz (s : Nat → Int32) (c m : Nat) : Nat → Int32 := fun j => if c ≤ j ∧ j < c + m then 0 else s j
section OPE
variable {E : XE} {d : Nat} {I : Nat → Nat → Int32} {s : Nat → Int32} {n w : Nat}
theorem op_feed {a1 : Int32} (h : RW I 65 s n w) (hd : 20 ≤ d) : op2 E d I s 63 114 [.int a1] := by
  obtain ⟨hfit, k, hk, h36, h4, hrow⟩ := h.2.2.2.1
  have hfit : ∀ j, j < 100 → fits .byte (.int (I 67 j)) = true := hfit
  by_cases h1 : 0 ≤ a1 ∧ a1 ≤ (127 : Int32)
  · obtain ⟨c, hc, rfl⟩ := upto_of (m := 127) rfl h1
    have hb := (x_c7 c (by omega)).1
    by_cases hf : k = 100
    · subst hf
      refine ⟨.int (-4), s, n, w, x_K.of (by decide) (by decide) rfl rfl rfl (r_C_feed_0 (by omega) _ ⟨fun _ => ⟨fun c => absurd c ?_, fun _ => ⟨rfl, h, ckp.rfl'⟩⟩, fun c => absurd h1 c⟩), fun J hJ => x_K.of (by decide) (by decide) rfl rfl rfl (r_M_feed_0 (by omega) _ ?_)⟩
      · rw [h4]
        exact nI_nlt (by omega) (by decide)
      · subst hJ
        exact ⟨fun _ => ⟨fun _ => ⟨rfl, rfl, mkp.rfl'⟩, fun c => absurd h36 c⟩, fun c => absurd h1 c⟩
    · refine ⟨.int (nI (k + 1)), su (su s (121 + k) (nI c)) 36 (nI (k + 1)), n, w, x_K.of (by decide) (by decide) rfl rfl rfl (r_C_feed_0 (by omega) _ ⟨fun _ => ⟨fun _ => ⟨?_, fun I4 e4 I5 e5 => ?_⟩, fun c => absurd ?_ c⟩, fun c => absurd h1 c⟩), fun J hJ => x_K.of (by decide) (by decide) rfl rfl rfl (r_M_feed_0 (by omega) _ ?_)⟩
      · rw [h4]
        exact vp_in_nI (by omega) (by decide)
      · rw [h4, nI_clamp (by omega), hb, hb] at e4
        have e65 : I4 65 = I 65 := by rw [e4, up_ne (by omega)]
        rw [e65, h4, nI_1] at e5
        have s67 : I5 67 = su (I 67) k (nI c) := by rw [e5, up_ne (by omega), e4, up_su]
        have s65 : I5 65 = su (I 65) 4 (nI (k + 1)) := by rw [e5, up_su, e65]
        have hkp : kp [65, 67] I I5 := (show kp [65, 67] I I4 by rw [e4]; exact kp.up (by simp)).trans (by rw [e5]; exact kp.up (by simp))
        refine ⟨by rw [s65, su_eq], RW_tap h hkp (by rw [s65, su_ne (by decide)]) (by rw [s65, su_ne (by decide)]) (by rw [s65, su_ne (by decide)]) (fun j h1 h2 => by rw [su_ne h1, su_ne (by omega)]) ⟨fun j hj => ?_, k + 1, by omega, su_eq, by rw [s65, su_eq], fun i hi => ?_⟩, ckp_of hkp (by decide)⟩
        · show fits .byte (.int (I5 67 j)) = true
          rw [s67]
          unfold su
          by_cases e : j = k
          · rw [if_pos e, ← hb]
            exact pk_fb _
          · rw [if_neg e]
            exact hfit j hj
        · show I5 67 i = _ ∧ _
          rw [s67]
          by_cases e : i = k
          · subst e
            rw [su_eq, su_ne (by omega), su_eq]
            exact ⟨rfl, c, hc, rfl⟩
          · rw [su_ne e, su_ne (by omega), su_ne (by omega)]
            exact hrow i (by omega)
      · rw [h4]
        exact nI_lt (show k < 100 by omega) (by decide)
      · subst hJ
        refine ⟨fun _ => ⟨fun c => absurd (h36.symm.trans c) (full_ne (show k < 100 by omega) (by decide)), fun _ => ⟨?_, fun I4 e4 I5 e5 => ?_⟩⟩, fun c => absurd h1 c⟩
        · rw [h36]
          exact vi_c (c' := 121) rfl (by omega) (by decide)
        · rw [h36, ix_c (c := 121) (c' := 121) rfl (by omega)] at e4
          have f4 : I4 143 36 = nI k := by rw [e4, up_su, su_ne (by omega), h36]
          rw [f4, nI_1] at e5
          refine ⟨by rw [e5, up_su, su_eq], by rw [e5, up_su, e4, up_su], ?_⟩
          rw [e5, e4]
          exact m_row.trans m_row
  · exact ⟨.int (-2), s, n, w, x_K.of (by decide) (by decide) rfl rfl rfl (r_C_feed_0 (by omega) _ ⟨fun c => absurd c h1, fun _ => ⟨rfl, h, ckp.rfl'⟩⟩), fun J hJ => x_K.of (by decide) (by decide) rfl rfl rfl (r_M_feed_0 (by omega) _ ⟨fun c => absurd c h1, fun _ => ⟨rfl, hJ, mkp.rfl'⟩⟩)⟩
theorem c_begin {r : Nat} {a1 a2 a3 a4 a5 : Int32} (hm : x_man r) (hd : 1 ≤ d) :
    x_K E d 23 [.ref r, .int a1, .int a2, .int a3, .int a4, .int a5] I (fun v J => v = none ∧ J r 0 = a1 ∧ J r 1 = a2 ∧ J r 2 = a3 ∧ J r 3 = a4 ∧ J r 4 = a5 ∧ J r 5 = 0 ∧ J r 6 = 0 ∧ J r 7 = 0 ∧ (∀ k, k < 4 → J (r + 1) k = 0) ∧ kp [r, r + 1] I J) := by
  refine x_K.of (by decide) (by decide) rfl rfl rfl (r_Man_begin_0 hd r hm _ _ _ _ _ ?_)
  intro I1 e1 I2 e2 I3 e3 I4 e4 I5 e5 I6 e6 I7 e7 I8 e8
  have k1 : kp [r, r + 1] I I1 := by rw [e1]; exact kp.up (by simp)
  have k2 : kp [r, r + 1] I I2 := k1.trans (by rw [e2]; exact kp.up (by simp))
  have k3 : kp [r, r + 1] I I3 := k2.trans (by rw [e3]; exact kp.up (by simp))
  have k4 : kp [r, r + 1] I I4 := k3.trans (by rw [e4]; exact kp.up (by simp))
  have k5 : kp [r, r + 1] I I5 := k4.trans (by rw [e5]; exact kp.up (by simp))
  have k6 : kp [r, r + 1] I I6 := k5.trans (by rw [e6]; exact kp.up (by simp))
  have k7 : kp [r, r + 1] I I7 := k6.trans (by rw [e7]; exact kp.up (by simp))
  have k8 : kp [r, r + 1] I I8 := k7.trans (by rw [e8]; exact kp.up (by simp))
  have q : I8 r = su (su (su (su (su (su (su (su (I r) 0 a1) 1 a2) 2 a3) 3 a4) 4 a5) 5 0) 6 0) 7 0 := by
    rw [e8, up_su, e7, up_su, e6, up_su, e5, up_su, e4, up_su, e3, up_su, e2, up_su, e1, up_su]
  have key : ∀ m j (J : Nat → Nat → Int32), j + m = 4 → J r = I8 r → (∀ i, i < j → J (r + 1) i = 0) → kp [r, r + 1] I J → x_P E d 23 26 [.ref r, x_jk, x_jk, x_jk, x_jk, x_jk, .int (nI j)] [] J (fun v J => v = none ∧ J r 0 = a1 ∧ J r 1 = a2 ∧ J r 2 = a3 ∧ J r 3 = a4 ∧ J r 4 = a5 ∧ J r 5 = 0 ∧ J r 6 = 0 ∧ J r 7 = 0 ∧ (∀ k, k < 4 → J (r + 1) k = 0) ∧ kp [r, r + 1] I J) := by
    intro m
    induction m with
    | zero =>
      intro j J hj hJ hz hk
      refine r_Man_begin_26 hd r hm _ ⟨fun _ => ⟨rfl, ?_⟩, fun c => absurd (nI_le (show 4 ≤ j by omega) (by omega)) c⟩
      rw [hJ, q]
      exact ⟨rfl, rfl, rfl, rfl, rfl, rfl, rfl, rfl, fun k hk => hz k (by omega), hk⟩
    | succ m ih =>
      intro j J hj hJ hz hk
      refine r_Man_begin_26 hd r hm _ ⟨fun c => absurd c (nI_ge (show j < 4 by omega) (by decide)), fun _ => ⟨vp_in_nI (by omega) (by decide), fun I3 e3 => ?_⟩⟩
      rw [nI_clamp (by omega)] at e3
      rw [nI_1]
      refine ih (j + 1) I3 (by omega) (by rw [e3, up_ne (by omega)]; exact hJ) (fun i hi => ?_) (hk.trans (by rw [e3]; exact kp.up (by simp)))
      rw [e3, up_su]
      by_cases e : i = j
      · rw [e, su_eq]
      · rw [su_ne e]
        exact hz i (by omega)
  have kk := key 4 0 I8 rfl rfl (fun i hi => absurd hi (by omega)) k8
  rw [nI_0] at kk
  exact kk
def manS (s : Nat → Int32) (n : Nat) (a1 a2 a3 a4 : Int32) : Nat → Int32 := su (rz (su (su (su (su (su (su (su s (38 + n) a1) (44 + n) a2) (25 + n) a3) (1 + n) a4) (7 + n) 0) (13 + n) 0) (19 + n) 0) (50 + 4 * n) 4) 31 (nI (n + 1))
theorem manS_at {n : Nat} {a1 a2 a3 a4 : Int32} (hn : n < 6) : manS s n a1 a2 a3 a4 (38 + n) = a1 ∧ manS s n a1 a2 a3 a4 (44 + n) = a2 ∧ manS s n a1 a2 a3 a4 (25 + n) = a3 ∧ manS s n a1 a2 a3 a4 (1 + n) = a4 ∧ manS s n a1 a2 a3 a4 (7 + n) = 0 ∧ manS s n a1 a2 a3 a4 (13 + n) = 0 ∧ manS s n a1 a2 a3 a4 (19 + n) = 0 ∧ (∀ k, k < 4 → manS s n a1 a2 a3 a4 (50 + 4 * n + k) = 0) := by
  unfold manS
  refine ⟨?_, ?_, ?_, ?_, ?_, ?_, ?_, fun k hk => ?_⟩
  · rw [su_ne (by omega), rz, if_neg (by omega), su_ne (by omega), su_ne (by omega), su_ne (by omega), su_ne (by omega), su_ne (by omega), su_ne (by omega), su_eq]
  · rw [su_ne (by omega), rz, if_neg (by omega), su_ne (by omega), su_ne (by omega), su_ne (by omega), su_ne (by omega), su_ne (by omega), su_eq]
  · rw [su_ne (by omega), rz, if_neg (by omega), su_ne (by omega), su_ne (by omega), su_ne (by omega), su_ne (by omega), su_eq]
  · rw [su_ne (by omega), rz, if_neg (by omega), su_ne (by omega), su_ne (by omega), su_ne (by omega), su_eq]
  · rw [su_ne (by omega), rz, if_neg (by omega), su_ne (by omega), su_ne (by omega), su_eq]
  · rw [su_ne (by omega), rz, if_neg (by omega), su_ne (by omega), su_eq]
  · rw [su_ne (by omega), rz, if_neg (by omega), su_eq]
  · rw [su_ne (by omega), rz, if_pos (by omega)]
theorem manS_ne {n j : Nat} {a1 a2 a3 a4 : Int32} (h : j ≠ 31) (hm : ¬ mix n j) : manS s n a1 a2 a3 a4 j = s j := by
  unfold mix at hm
  unfold manS
  rw [su_ne h, rz, if_neg (by omega), su_ne (by omega), su_ne (by omega), su_ne (by omega), su_ne (by omega), su_ne (by omega), su_ne (by omega), su_ne (by omega)]
theorem op_man {a1 a2 a3 a4 : Int32} (h : RW I 65 s n w) (hd : 20 ≤ d) : op2 E d I s 65 138 [.int a1, .int a2, .int a3, .int a4] := by
  have hn := h.1.1
  have hw := h.1.2.1
  have h65 := h.1.2.2.2.2.1
  have h31 := h.1.2.2.1
  by_cases h1 : 0 ≤ a1 ∧ a1 ≤ (6 : Int32)
  · by_cases h3 : 0 ≤ a3 ∧ a3 ≤ (9 : Int32)
    · by_cases h2 : 0 ≤ a2 ∧ a2 ≤ (9 : Int32)
      · by_cases h4 : 0 ≤ a4 ∧ a4 ≤ (255 : Int32)
        · by_cases hf : n = 6
          · refine ⟨.int (-4), s, n, w, x_K.of (by decide) (by decide) rfl rfl rfl (r_C_man_0 (by omega) _ _ _ _ ⟨fun _ => ⟨fun _ => ⟨fun _ => ⟨fun _ => ⟨fun c => absurd c ?_, fun _ => ⟨rfl, h, ckp.rfl'⟩⟩, fun c => absurd h4 c⟩, fun c => absurd h2 c⟩, fun c => absurd h3 c⟩, fun c => absurd h1 c⟩), fun J hJ => x_K.of (by decide) (by decide) rfl rfl rfl (r_M_man_0 (by omega) _ _ _ _ ?_)⟩
            · rw [h65]
              exact nI_nlt (b := 6) (by omega) (by omega)
            · subst hJ
              exact ⟨fun _ => ⟨fun _ => ⟨fun _ => ⟨fun _ => ⟨fun _ => ⟨rfl, rfl, mkp.rfl'⟩, fun c => absurd (by rw [h31, hf]; rfl) c⟩, fun c => absurd h4 c⟩, fun c => absurd h2 c⟩, fun c => absurd h3 c⟩, fun c => absurd h1 c⟩
          · refine ⟨.int (nI n), manS s n a1 a2 a3 a4, n + 1, w, x_K.of (by decide) (by decide) rfl rfl rfl (r_C_man_0 (by omega) _ _ _ _ ⟨fun _ => ⟨fun _ => ⟨fun _ => ⟨fun _ => ⟨fun _ => ?_, fun c => absurd ?_ c⟩, fun c => absurd h4 c⟩, fun c => absurd h2 c⟩, fun c => absurd h3 c⟩, fun c => absurd h1 c⟩), fun J hJ => x_K.of (by decide) (by decide) rfl rfl rfl (r_M_man_0 (by omega) _ _ _ _ ?_)⟩
            · rw [h65, nI_clamp (by omega)]
              refine ⟨vp_in_nI (by omega) (by decide), (c_begin (x_man_now (j := n) (by omega)).1 (by omega)).mono (fun v J hv => ?_)⟩
              obtain ⟨hv, f0, f1, f2, f3, f4, f5, f6, f7, frow, hkp⟩ := hv
              rw [hv]
              refine r_C_man_42 (by omega) _ (fun I1 e1 => ?_)
              have e65 : J 65 = I 65 := hkp 65 (by simp; omega)
              rw [e65, h65, nI_1] at e1
              have g65 : I1 65 = su (I 65) 1 (nI (n + 1)) := by rw [e1, up_su, e65]
              have gq : ∀ q, q ≠ 65 → I1 q = J q := fun q hq => by rw [e1, up_ne hq]
              have hkp2 : kp [65, 72, 129, 130, 85 + 2 * n, 86 + 2 * n] I I1 := fun q hq => by
                simp at hq
                rw [gq q hq.1]
                exact hkp q (by simp; omega)
              obtain ⟨t1, t2, t3, t4, t5, t6, t7, t8⟩ := manS_at (s := s) (n := n) (a1 := a1) (a2 := a2) (a3 := a3) (a4 := a4) (by omega)
              have gr := gq (85 + 2 * n) (by omega)
              refine ⟨rfl, RW_man (p := n) h (Nat.le_succ n) ⟨by omega, hw, su_eq, ?_, by rw [g65, su_eq], by rw [g65, su_ne (by decide)]; exact h.1.2.2.2.2.2⟩ (fun q h1 h2 => by omega) (Nat.lt_succ_self n) hkp2 (by rw [g65, su_ne (by decide)]) (by rw [g65, su_ne (by decide)]) (fun j h1 h2 h3 => manS_ne h2 h3) ?_ ?_, ?_⟩
              · rw [manS_ne (by omega) (by unfold mix; omega)]
                exact h.1.2.2.2.1
              · unfold mnR dynC dynM
                rw [gr, f0, f1, f2, f3, f4, f5, f6, f7, t1, t2, t3, t4, t5, t6, t7]
                refine ⟨rfl, rfl, rfl, rfl, rfl, rfl, fun k hk => ?_⟩
                rw [gq (85 + 2 * n + 1) (by omega), frow k hk, t8 k hk]
              · unfold mnOK
                rw [t1, t2, t3, t4, t5, t6, t7]
                exact ⟨upto_of rfl h1, upto_of rfl h2, upto_of rfl h3, u8_upto h4, ⟨0, by omega, nI_0.symm⟩, Or.inl rfl, Or.inl rfl⟩
              · refine ⟨hkp2 64 (by simp; omega), congrFun (hkp2 141 (by simp; omega)) 0, fun q h1 h2 h3 h4 => hkp2 q (by simp; omega)⟩
            · rw [h65]
              exact nI_lt (show n < 6 by omega) (by decide)
            · subst hJ
              refine ⟨fun _ => ⟨fun _ => ⟨fun _ => ⟨fun _ => ⟨fun c => absurd (h31.symm.trans c) (full_ne (show n < 6 by omega) (by decide)), fun _ => ?_⟩, fun c => absurd h4 c⟩, fun c => absurd h2 c⟩, fun c => absurd h3 c⟩, fun c => absurd h1 c⟩
              rw [h31, ix_c (c := 38) (c' := 38) rfl (by omega), ix_c (c := 44) (c' := 44) rfl (by omega), ix_c (c := 25) (c' := 25) rfl (by omega), ix_c (c := 1) (c' := 1) rfl (by omega), ix_c (c := 7) (c' := 7) rfl (by omega), ix_c (c := 13) (c' := 13) rfl (by omega), ix_c (c := 19) (c' := 19) rfl (by omega)]
              refine ⟨vi_c (c' := 38) rfl (by omega) (by decide), fun I7 e7 => ⟨vi_c (c' := 44) rfl (by omega) (by decide), fun I9 e9 => ⟨vi_c (c' := 25) rfl (by omega) (by decide), fun I11 e11 => ⟨vi_c (c' := 1) rfl (by omega) (by decide), fun I13 e13 => ⟨vi_c (c' := 7) rfl (by omega) (by decide), fun I15 e15 => ⟨vi_c (c' := 13) rfl (by omega) (by decide), fun I17 e17 => ⟨vi_c (c' := 19) rfl (by omega) (by decide), fun I19 e19 => ?_⟩⟩⟩⟩⟩⟩⟩
              have q19 : I19 143 = su (su (su (su (su (su (su (J 143) (38 + n) a1) (44 + n) a2) (25 + n) a3) (1 + n) a4) (7 + n) 0) (13 + n) 0) (19 + n) 0 := by
                rw [e19, up_su, e17, up_su, e15, up_su, e13, up_su, e11, up_su, e9, up_su, e7, up_su]
              have m19 : mkp J I19 := by
                rw [e19, e17, e15, e13, e11, e9, e7]
                exact (((((m_row.trans m_row).trans m_row).trans m_row).trans m_row).trans m_row).trans m_row
              have key : ∀ m j (K : Nat → Nat → Int32), j + m = 4 → K 143 = rz (I19 143) (50 + 4 * n) j → mkp J K → x_P E d 138 88 [.ref 142, x_jk, x_jk, x_jk, x_jk, .int (nI n), .int (nI j)] [] K (fun v K => v = some (.int (nI n)) ∧ K 143 = manS (J 143) n a1 a2 a3 a4 ∧ mkp J K) := by
                intro m
                induction m with
                | zero =>
                  intro j K hj hK hm
                  refine r_M_man_88 (by omega) _ _ ⟨fun _ I2 e2 => ⟨rfl, ?_, ?_⟩, fun c => absurd (nI_le (show 4 ≤ j by omega) (by omega)) c⟩
                  · have f31 : K 143 31 = nI n := by
                      rw [hK, rz, if_neg (by omega), q19, su_ne (by omega), su_ne (by omega), su_ne (by omega), su_ne (by omega), su_ne (by omega), su_ne (by omega), su_ne (by omega), h31]
                    rw [e2, up_su, f31, nI_1, hK, q19, show j = 4 by omega]
                    rfl
                  · rw [e2]
                    exact hm.trans m_row
                | succ m ih =>
                  intro j K hj hK hm
                  refine r_M_man_88 (by omega) _ _ ⟨fun c => absurd c (nI_ge (show j < 4 by omega) (by decide)), fun _ => ?_⟩
                  rw [show (4 : Int32) = nI 4 from rfl, pk_mul, show (50 : Int32) = nI 50 from rfl, nI_add, nI_add, nI_clamp (by omega), nI_1]
                  refine ⟨vp_in_nI (by omega) (by decide), fun I4 e4 => ih (j + 1) I4 (by omega) ?_ (by rw [e4]; exact hm.trans m_row)⟩
                  rw [e4, up_su, hK]
                  funext i
                  unfold su rz
                  by_cases e : i = 50 + 4 * n + j
                  · rw [if_pos e, if_pos (by omega)]
                  · rw [if_neg e]
                    by_cases e2 : 50 + 4 * n ≤ i ∧ i < 50 + 4 * n + j
                    · rw [if_pos e2, if_pos (by omega)]
                    · rw [if_neg e2, if_neg (by omega)]
              have kk := key 4 0 I19 rfl (by funext i; unfold rz; rw [if_neg (by omega)]) m19
              rw [nI_0] at kk
              exact kk
        · exact ⟨.int (-2), s, n, w, x_K.of (by decide) (by decide) rfl rfl rfl (r_C_man_0 (by omega) _ _ _ _ ⟨fun _ => ⟨fun _ => ⟨fun _ => ⟨fun c => absurd c h4, fun _ => ⟨rfl, h, ckp.rfl'⟩⟩, fun c => absurd h2 c⟩, fun c => absurd h3 c⟩, fun c => absurd h1 c⟩), fun J hJ => x_K.of (by decide) (by decide) rfl rfl rfl (r_M_man_0 (by omega) _ _ _ _ ⟨fun _ => ⟨fun _ => ⟨fun _ => ⟨fun c => absurd c h4, fun _ => ⟨rfl, hJ, mkp.rfl'⟩⟩, fun c => absurd h2 c⟩, fun c => absurd h3 c⟩, fun c => absurd h1 c⟩)⟩
      · exact ⟨.int (-2), s, n, w, x_K.of (by decide) (by decide) rfl rfl rfl (r_C_man_0 (by omega) _ _ _ _ ⟨fun _ => ⟨fun _ => ⟨fun c => absurd c h2, fun _ => ⟨rfl, h, ckp.rfl'⟩⟩, fun c => absurd h3 c⟩, fun c => absurd h1 c⟩), fun J hJ => x_K.of (by decide) (by decide) rfl rfl rfl (r_M_man_0 (by omega) _ _ _ _ ⟨fun _ => ⟨fun _ => ⟨fun c => absurd c h2, fun _ => ⟨rfl, hJ, mkp.rfl'⟩⟩, fun c => absurd h3 c⟩, fun c => absurd h1 c⟩)⟩
    · exact ⟨.int (-1), s, n, w, x_K.of (by decide) (by decide) rfl rfl rfl (r_C_man_0 (by omega) _ _ _ _ ⟨fun _ => ⟨fun c => absurd c h3, fun _ => ⟨rfl, h, ckp.rfl'⟩⟩, fun c => absurd h1 c⟩), fun J hJ => x_K.of (by decide) (by decide) rfl rfl rfl (r_M_man_0 (by omega) _ _ _ _ ⟨fun _ => ⟨fun c => absurd c h3, fun _ => ⟨rfl, hJ, mkp.rfl'⟩⟩, fun c => absurd h1 c⟩)⟩
  · exact ⟨.int (-1), s, n, w, x_K.of (by decide) (by decide) rfl rfl rfl (r_C_man_0 (by omega) _ _ _ _ ⟨fun c => absurd c h1, fun _ => ⟨rfl, h, ckp.rfl'⟩⟩), fun J hJ => x_K.of (by decide) (by decide) rfl rfl rfl (r_M_man_0 (by omega) _ _ _ _ ⟨fun c => absurd c h1, fun _ => ⟨rfl, hJ, mkp.rfl'⟩⟩)⟩
end OPE
