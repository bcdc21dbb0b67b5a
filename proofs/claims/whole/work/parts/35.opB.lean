/-! ===== one call to both: set, row ===== -/
section OPB
variable {E : XE} {d : Nat} {I : Nat → Nat → Int32} {s : Nat → Int32} {n w : Nat}
theorem u8_upto {x : Int32} (h : 0 ≤ x ∧ x ≤ (255 : Int32)) : u8 x := by
  obtain ⟨j, h1, h2⟩ := upto_of (m := 255) rfl h
  exact ⟨j, by omega, h2⟩
theorem x_of {mi : Nat} {As : List Value} {Q : Option Value → (Nat → Nat → Int32) → Prop} (h : x_K E d mi As I Q) : x_K E d mi As I Q := h
theorem op_set {a1 a2 a3 : Int32} (h : RW I 65 s n w) (hd : 20 ≤ d) : op2 E d I s 68 141 [.int a1, .int a2, .int a3] := by
  have hn := h.1.1
  have h65 := h.1.2.2.2.2.1
  have h31 := h.1.2.2.1
  rcases mn_cases a1 hn with ⟨p, hp, rfl, hin⟩ | ⟨hno, hno2⟩
  · have hmr := (h.2.1.1 p hp).1
    by_cases h2 : 0 ≤ a2 ∧ a2 ≤ (2 : Int32)
    · by_cases h3 : 0 ≤ a3 ∧ a3 ≤ (if a2 = 0 then (9 : Int32) else (if a2 = 1 then (255 : Int32) else (99 : Int32)))
      · by_cases c0 : a2 = 0
        · rw [if_pos c0] at h3
          obtain ⟨hR, hk⟩ := RW_fld (p := p) (fld := 3) (off := 25) (x := a3) h hp (by unfold fo; omega) ⟨fun _ => upto_of rfl h3, by simp, by simp, by simp, by simp⟩
          refine ⟨.int (s (25 + p)), su s (25 + p) a3, n, w, x_K.of (by decide) (by decide) rfl rfl rfl (r_C_set_0 (by omega) _ _ _ ((c_find1 h65 hn hp (by omega)).pu (r_C_set_4 (by omega) _ _ _ (x_man_now (by omega)).1 ⟨fun _ z hz => ⟨fun _ => ⟨fun _ => fun I3 e3 => by rw [show I (85 + 2 * p) 3 = s (25 + p) from hmr.2.2.2.1, e3]; exact ⟨rfl, hR, hk⟩, fun c => absurd c0 c⟩, fun c => absurd (by rw [hz]; rw [if_pos c0]; exact h3) c⟩, fun c => absurd h2 c⟩))), fun J hJ => x_K.of (by decide) (by decide) rfl rfl rfl (r_M_set_0 (by omega) _ _ _ ?_)⟩
          subst hJ
          rw [h31]
          refine ⟨fun _ => ⟨fun _ z hz => ⟨fun _ z9 hz9 => ?_, fun c => absurd (by rw [hz]; rw [if_pos c0]; exact h3) c⟩, fun c => absurd h2 c⟩, fun c => absurd hin c⟩
          rw [if_pos c0] at hz9
          rw [hz9, show (25 : Int32) = nI 25 from rfl, nI_add]
          refine (c_becomes (by omega) (by omega)).mono (fun v K ⟨hv, hK⟩ => ?_)
          rw [hv]
          refine r_M_set_42 (by omega) _ ⟨rfl, by rw [hK, up_su], ?_⟩
          rw [hK]
          exact mkp_of (l := [143]) (kp.up (by simp)) (by decide)
        · rw [if_neg c0] at h3
          by_cases c1 : a2 = 1
          · rw [if_pos c1] at h3
            obtain ⟨hR, hk⟩ := RW_fld (p := p) (fld := 4) (off := 1) (x := a3) h hp (by unfold fo; omega) ⟨by simp, fun _ => u8_upto h3, by simp, by simp, by simp⟩
            refine ⟨.int (s (1 + p)), su s (1 + p) a3, n, w, x_K.of (by decide) (by decide) rfl rfl rfl (r_C_set_0 (by omega) _ _ _ ((c_find1 h65 hn hp (by omega)).pu (r_C_set_4 (by omega) _ _ _ (x_man_now (by omega)).1 ⟨fun _ z hz => ⟨fun _ => ⟨fun c => absurd c c0, fun _ => ⟨fun _ => fun I3 e3 => by rw [show I (85 + 2 * p) 4 = s (1 + p) from (mnR_dyn hmr).1, e3]; exact ⟨rfl, hR, hk⟩, fun c => absurd c1 c⟩⟩, fun c => absurd (by rw [hz]; rw [if_neg c0, if_pos c1]; exact h3) c⟩, fun c => absurd h2 c⟩))), fun J hJ => x_K.of (by decide) (by decide) rfl rfl rfl (r_M_set_0 (by omega) _ _ _ ?_)⟩
            subst hJ
            rw [h31]
            refine ⟨fun _ => ⟨fun _ z hz => ⟨fun _ z9 hz9 => ?_, fun c => absurd (by rw [hz]; rw [if_neg c0, if_pos c1]; exact h3) c⟩, fun c => absurd h2 c⟩, fun c => absurd hin c⟩
            rw [if_neg c0, if_pos c1] at hz9
            rw [hz9, show (1 : Int32) = nI 1 from rfl, nI_add]
            refine (c_becomes (by omega) (by omega)).mono (fun v K ⟨hv, hK⟩ => ?_)
            rw [hv]
            refine r_M_set_42 (by omega) _ ⟨rfl, by rw [hK, up_su], ?_⟩
            rw [hK]
            exact mkp_of (l := [143]) (kp.up (by simp)) (by decide)
          · rw [if_neg c1] at h3
            obtain ⟨hR, hk⟩ := RW_fld (p := p) (fld := 5) (off := 7) (x := a3) h hp (by unfold fo; omega) ⟨by simp, by simp, fun _ => upto_of rfl h3, by simp, by simp⟩
            refine ⟨.int (s (7 + p)), su s (7 + p) a3, n, w, x_K.of (by decide) (by decide) rfl rfl rfl (r_C_set_0 (by omega) _ _ _ ((c_find1 h65 hn hp (by omega)).pu (r_C_set_4 (by omega) _ _ _ (x_man_now (by omega)).1 ⟨fun _ z hz => ⟨fun _ => ⟨fun c => absurd c c0, fun _ => ⟨fun c => absurd c c1, fun _ => fun I3 e3 => by rw [show I (85 + 2 * p) 5 = s (7 + p) from (mnR_dyn hmr).2.1, e3]; exact ⟨rfl, hR, hk⟩⟩⟩, fun c => absurd (by rw [hz]; rw [if_neg c0, if_neg c1]; exact h3) c⟩, fun c => absurd h2 c⟩))), fun J hJ => x_K.of (by decide) (by decide) rfl rfl rfl (r_M_set_0 (by omega) _ _ _ ?_)⟩
            subst hJ
            rw [h31]
            refine ⟨fun _ => ⟨fun _ z hz => ⟨fun _ z9 hz9 => ?_, fun c => absurd (by rw [hz]; rw [if_neg c0, if_neg c1]; exact h3) c⟩, fun c => absurd h2 c⟩, fun c => absurd hin c⟩
            rw [if_neg c0, if_neg c1] at hz9
            rw [hz9, show (7 : Int32) = nI 7 from rfl, nI_add]
            refine (c_becomes (by omega) (by omega)).mono (fun v K ⟨hv, hK⟩ => ?_)
            rw [hv]
            refine r_M_set_42 (by omega) _ ⟨rfl, by rw [hK, up_su], ?_⟩
            rw [hK]
            exact mkp_of (l := [143]) (kp.up (by simp)) (by decide)
      · refine ⟨.int (-2), s, n, w, x_K.of (by decide) (by decide) rfl rfl rfl (r_C_set_0 (by omega) _ _ _ ((c_find1 h65 hn hp (by omega)).pu (r_C_set_4 (by omega) _ _ _ (x_man_now (by omega)).1 ⟨fun _ z hz => ⟨fun c => absurd (by rw [hz] at c; exact c) h3, fun _ => ⟨rfl, h, ckp.rfl'⟩⟩, fun c => absurd h2 c⟩))), fun J hJ => x_K.of (by decide) (by decide) rfl rfl rfl (r_M_set_0 (by omega) _ _ _ ?_)⟩
        subst hJ
        rw [h31]
        exact ⟨fun _ => ⟨fun _ z hz => ⟨fun c => absurd (by rw [hz] at c; exact c) h3, fun _ => ⟨rfl, rfl, mkp.rfl'⟩⟩, fun c => absurd h2 c⟩, fun c => absurd hin c⟩
    · refine ⟨.int (-1), s, n, w, x_K.of (by decide) (by decide) rfl rfl rfl (r_C_set_0 (by omega) _ _ _ ((c_find1 h65 hn hp (by omega)).pu (r_C_set_4 (by omega) _ _ _ (x_man_now (by omega)).1 ⟨fun c => absurd c h2, fun _ => ⟨rfl, h, ckp.rfl'⟩⟩))), fun J hJ => x_K.of (by decide) (by decide) rfl rfl rfl (r_M_set_0 (by omega) _ _ _ ?_)⟩
      subst hJ
      rw [h31]
      exact ⟨fun _ => ⟨fun c => absurd c h2, fun _ => ⟨rfl, rfl, mkp.rfl'⟩⟩, fun c => absurd hin c⟩
  · refine ⟨.int (-1), s, n, w, x_K.of (by decide) (by decide) rfl rfl rfl (r_C_set_0 (by omega) _ _ _ ((c_find0 h65 hno2 (by omega)).pu (r_C_set_4N (by omega) _ _ ⟨rfl, h, ckp.rfl'⟩))), fun J hJ => x_K.of (by decide) (by decide) rfl rfl rfl (r_M_set_0 (by omega) _ _ _ ?_)⟩
    subst hJ
    rw [h31]
    exact ⟨fun c => absurd c hno, fun _ => ⟨rfl, rfl, mkp.rfl'⟩⟩
theorem op_row {a1 a2 a3 : Int32} (h : RW I 65 s n w) (hd : 20 ≤ d) : op2 E d I s 67 140 [.int a1, .int a2, .int a3] := by
  have hn := h.1.1
  have h65 := h.1.2.2.2.2.1
  have h31 := h.1.2.2.1
  rcases mn_cases a1 hn with ⟨p, hp, rfl, hin⟩ | ⟨hno, hno2⟩
  · have hmr := (h.2.1.1 p hp).1
    have hki : I (85 + 2 * p) 1 = s (38 + p) := hmr.2.1
    by_cases h2 : 0 ≤ a2 ∧ a2 ≤ (3 : Int32)
    · obtain ⟨k, hk3, rfl⟩ := upto_of (m := 3) rfl h2
      by_cases h3 : 0 ≤ a3 ∧ a3 ≤ (9 : Int32)
      · by_cases h6 : s (38 + p) = (6 : Int32)
        · have hold : I (85 + 2 * p + 1) k = s (50 + 4 * p + k) := hmr.2.2.2.2.2.2 k (by omega)
          refine ⟨.int (s (50 + 4 * p + k)), su s (50 + 4 * p + k) a3, n, w, x_K.of (by decide) (by decide) rfl rfl rfl (r_C_row_0 (by omega) _ _ _ ((c_find1 h65 hn hp (by omega)).pu (r_C_row_4 (by omega) _ _ _ (x_man_now (by omega)).1 ⟨fun c => absurd c (nI_pos (by omega)), fun _ => ⟨fun _ => ⟨fun _ => ⟨fun _ => ⟨vp_in_nI (by omega) (by decide), vp_in_nI (by omega) (by decide), fun I7 e7 => ?_⟩, fun c => absurd (hki.trans h6) c⟩, fun c => absurd h3 c⟩, fun c => absurd (nI_lt (show k < 4 by omega) (by decide)) c⟩⟩))), fun J hJ => x_K.of (by decide) (by decide) rfl rfl rfl (r_M_row_0 (by omega) _ _ _ ?_)⟩
          · rw [nI_clamp (by omega)] at e7 ⊢
            have e65 : I7 65 = I 65 := by rw [e7, up_ne (by omega)]
            have e85 : I7 (85 + 2 * p) = I (85 + 2 * p) := by rw [e7, up_ne (by omega)]
            have kk : kp [65, 72, 129, 130, 85 + 2 * p, 86 + 2 * p] I I7 := by
              rw [e7]
              exact kp.up (by simp; omega)
            refine ⟨by rw [hold], RW_man (p := p) h (Nat.le_refl _) (hdR_c (by rw [e65]) (by rw [e65]) (su_ne (by omega)) (su_ne (by omega)) h.1) (fun q hq _ => hq) hp kk (by rw [e65]) (by rw [e65]) (fun j h1 h2 h3 => su_ne (by unfold mix at h3; omega)) ?_ ?_, by rw [e7, up_ne (by omega)], by rw [e7, up_ne (by omega)], fun q h1 h2 h3 h4 => by rw [e7, up_ne (by omega)]⟩
            · obtain ⟨g0, g1, g2, g3, g4, g5, g6⟩ := hmr
              have hd : dynC I7 (85 + 2 * p) = dynM (su s (50 + 4 * p + k) a3) p := by
                unfold dynC dynM at g4 ⊢
                rw [e85, su_ne (by omega), su_ne (by omega), su_ne (by omega)]
                exact g4
              refine ⟨by rw [e85]; exact g0, by rw [e85, su_ne (by omega)]; exact g1, by rw [e85, su_ne (by omega)]; exact g2, by rw [e85, su_ne (by omega)]; exact g3, hd, by rw [e85, su_ne (by omega)]; exact g5, fun k' hk' => ?_⟩
              rw [e7, up_su]
              unfold su
              by_cases hkk : k' = k
              · rw [if_pos hkk, if_pos (by omega)]
              · rw [if_neg hkk, if_neg (by omega)]
                exact g6 k' hk'
            · unfold mnOK
              rw [su_ne (by omega), su_ne (by omega), su_ne (by omega), su_ne (by omega), su_ne (by omega), su_ne (by omega), su_ne (by omega)]
              exact (h.2.1.1 p hp).2
          · subst hJ
            rw [h31, ix_c (c := 38) (c' := 38) rfl (by omega)]
            refine ⟨fun _ => ⟨fun _ => ⟨fun _ => ⟨vi_c (c' := 38) rfl (by omega) (by decide), fun _ => ?_, fun c => absurd h6 c⟩, fun c => absurd h3 c⟩, fun c => absurd h2 c⟩, fun c => absurd hin c⟩
            rw [show (4 : Int32) = nI 4 from rfl, pk_mul, show (50 : Int32) = nI 50 from rfl, nI_add, nI_add]
            refine (c_becomes (by omega) (by omega)).mono (fun v K ⟨hv, hK⟩ => ?_)
            rw [hv]
            refine r_M_row_36 (by omega) _ ⟨rfl, by rw [hK, up_su], ?_⟩
            rw [hK]
            exact mkp_of (l := [143]) (kp.up (by simp)) (by decide)
        · refine ⟨.int (-3), s, n, w, x_K.of (by decide) (by decide) rfl rfl rfl (r_C_row_0 (by omega) _ _ _ ((c_find1 h65 hn hp (by omega)).pu (r_C_row_4 (by omega) _ _ _ (x_man_now (by omega)).1 ⟨fun c => absurd c (nI_pos (by omega)), fun _ => ⟨fun _ => ⟨fun _ => ⟨fun c => absurd (hki.symm.trans c) h6, fun _ => ⟨rfl, h, ckp.rfl'⟩⟩, fun c => absurd h3 c⟩, fun c => absurd (nI_lt (show k < 4 by omega) (by decide)) c⟩⟩))), fun J hJ => x_K.of (by decide) (by decide) rfl rfl rfl (r_M_row_0 (by omega) _ _ _ ?_)⟩
          subst hJ
          rw [h31, ix_c (c := 38) (c' := 38) rfl (by omega)]
          exact ⟨fun _ => ⟨fun _ => ⟨fun _ => ⟨vi_c (c' := 38) rfl (by omega) (by decide), fun c => absurd c h6, fun _ => ⟨rfl, rfl, mkp.rfl'⟩⟩, fun c => absurd h3 c⟩, fun c => absurd h2 c⟩, fun c => absurd hin c⟩
      · refine ⟨.int (-2), s, n, w, x_K.of (by decide) (by decide) rfl rfl rfl (r_C_row_0 (by omega) _ _ _ ((c_find1 h65 hn hp (by omega)).pu (r_C_row_4 (by omega) _ _ _ (x_man_now (by omega)).1 ⟨fun c => absurd c (nI_pos (by omega)), fun _ => ⟨fun _ => ⟨fun c => absurd c h3, fun _ => ⟨rfl, h, ckp.rfl'⟩⟩, fun c => absurd (nI_lt (show k < 4 by omega) (by decide)) c⟩⟩))), fun J hJ => x_K.of (by decide) (by decide) rfl rfl rfl (r_M_row_0 (by omega) _ _ _ ?_)⟩
        subst hJ
        rw [h31]
        exact ⟨fun _ => ⟨fun _ => ⟨fun c => absurd c h3, fun _ => ⟨rfl, rfl, mkp.rfl'⟩⟩, fun c => absurd h2 c⟩, fun c => absurd hin c⟩
    · refine ⟨.int (-1), s, n, w, x_K.of (by decide) (by decide) rfl rfl rfl (r_C_row_0 (by omega) _ _ _ ((c_find1 h65 hn hp (by omega)).pu (r_C_row_4 (by omega) _ _ _ (x_man_now (by omega)).1 ⟨fun _ => ⟨rfl, h, ckp.rfl'⟩, fun c0 => ⟨fun c1 => absurd ?_ h2, fun _ => ⟨rfl, h, ckp.rfl'⟩⟩⟩))), fun J hJ => x_K.of (by decide) (by decide) rfl rfl rfl (r_M_row_0 (by omega) _ _ _ ?_)⟩
      · obtain ⟨j, hj, rfl⟩ := nI_of c0
        have := (nI_ltI (b := 4) hj (by decide)).mp c1
        exact ⟨nI_pos' hj, nI_le (b := 3) (by omega) (by decide)⟩
      · subst hJ
        rw [h31]
        exact ⟨fun _ => ⟨fun c => absurd c h2, fun _ => ⟨rfl, rfl, mkp.rfl'⟩⟩, fun c => absurd hin c⟩
  · refine ⟨.int (-1), s, n, w, x_K.of (by decide) (by decide) rfl rfl rfl (r_C_row_0 (by omega) _ _ _ ((c_find0 h65 hno2 (by omega)).pu (r_C_row_4N (by omega) _ _ ⟨rfl, h, ckp.rfl'⟩))), fun J hJ => x_K.of (by decide) (by decide) rfl rfl rfl (r_M_row_0 (by omega) _ _ _ ?_)⟩
    subst hJ
    rw [h31]
    exact ⟨fun c => absurd c hno, fun _ => ⟨rfl, rfl, mkp.rfl'⟩⟩
end OPB
