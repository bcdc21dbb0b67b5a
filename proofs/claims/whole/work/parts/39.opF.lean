/-! ===== one call to both: pass ===== -/
def goD (s : Nat → Int32) (n w k p : Nat) : Dn := if p < n then trjM s w k p else dynM s p
def goS (s : Nat → Int32) (n w k : Nat) : Nat → Int32 := fun j => if j = 0 then nI (w + k) else if j < 7 then (goD s n w k (j - 1)).1 else if j < 13 then (goD s n w k (j - 7)).2.1 else if j < 19 then (goD s n w k (j - 13)).2.2 else s j
theorem goS_of {s t : Nat → Int32} {n w k : Nat} (h : goR s t n w k) : t = goS s n w k := by
  obtain ⟨h0, ha, hd⟩ := h
  funext j
  unfold goS
  by_cases e0 : j = 0
  · rw [if_pos e0, e0, h0]
  rw [if_neg e0]
  by_cases e1 : j < 7
  · rw [if_pos e1]
    have := hd (j - 1) (by omega)
    rw [show goD s n w k (j - 1) = dynM t (j - 1) from this.symm]
    show t j = t (1 + (j - 1))
    rw [show 1 + (j - 1) = j by omega]
  rw [if_neg e1]
  by_cases e2 : j < 13
  · rw [if_pos e2]
    have := hd (j - 7) (by omega)
    rw [show goD s n w k (j - 7) = dynM t (j - 7) from this.symm]
    show t j = t (7 + (j - 7))
    rw [show 7 + (j - 7) = j by omega]
  rw [if_neg e2]
  by_cases e3 : j < 19
  · rw [if_pos e3]
    have := hd (j - 13) (by omega)
    rw [show goD s n w k (j - 13) = dynM t (j - 13) from this.symm]
    show t j = t (13 + (j - 13))
    rw [show 13 + (j - 13) = j by omega]
  rw [if_neg e3]
  exact ha j (by omega)
theorem goS_hi {s : Nat → Int32} {n w k j : Nat} (h : 19 ≤ j) : goS s n w k j = s j := by
  unfold goS
  rw [if_neg (by omega), if_neg (by omega), if_neg (by omega), if_neg (by omega)]
theorem goS_dyn {s : Nat → Int32} {n w k p : Nat} (hp : p < 6) : dynM (goS s n w k) p = goD s n w k p := by
  have e1 : goS s n w k (1 + p) = (goD s n w k p).1 := by
    unfold goS
    rw [if_neg (by omega), if_pos (by omega), show 1 + p - 1 = p by omega]
  have e2 : goS s n w k (7 + p) = (goD s n w k p).2.1 := by
    unfold goS
    rw [if_neg (by omega), if_neg (by omega), if_pos (by omega), show 7 + p - 7 = p by omega]
  have e3 : goS s n w k (13 + p) = (goD s n w k p).2.2 := by
    unfold goS
    rw [if_neg (by omega), if_neg (by omega), if_neg (by omega), if_pos (by omega), show 13 + p - 13 = p by omega]
  unfold dynM
  rw [e1, e2, e3]
theorem clF_upto (z : Int32) : upto (clF z) 99 := by
  unfold clF
  by_cases h : 0 ≤ z
  · rw [if_pos h]
    by_cases h2 : z ≤ (99 : Int32)
    · rw [if_pos h2]
      exact upto_of rfl ⟨h, h2⟩
    · rw [if_neg h2]
      exact ⟨99, by omega, rfl⟩
  · rw [if_neg h]
    exact ⟨0, by omega, rfl⟩
theorem stp_h {bu : Int32} {sm : (Nat → Int32) → Int32} {nu ki v aw : Int32} {ro : Nat → Int32} {w : Nat} {x : Dn} (h : upto x.2.1 99) : upto (stp bu sm nu ki v aw ro w x).2.1 99 := by
  unfold stp
  split
  · exact h
  · split
    · exact h
    · split
      · exact clF_upto _
      · exact ⟨0, by omega, rfl⟩
theorem trj_h {bu : Int32} {sm : (Nat → Int32) → Int32} {nu ki v aw : Int32} {ro : Nat → Int32} {w : Nat} {x : Dn} (h : upto x.2.1 99) : ∀ k, upto (trj bu sm nu ki v aw ro w k x).2.1 99
  | 0 => h
  | k + 1 => stp_h (trj_h h k)
theorem mnOK_dyn {s t : Nat → Int32} {p : Nat} (hp : p < 6) (ha : ∀ j, 19 ≤ j → t j = s j) (h1 : u8 (dynM t p).1) (h2 : upto (dynM t p).2.1 99) (h3 : b1 (dynM t p).2.2) (h : mnOK s p) : mnOK t p := by
  obtain ⟨g1, g2, g3, g4, g5, g6, g7⟩ := h
  unfold mnOK
  rw [ha (38 + p) (by omega), ha (44 + p) (by omega), ha (25 + p) (by omega), ha (19 + p) (by omega)]
  exact ⟨g1, g2, g3, h1, h2, h3, g7⟩
section OPF
variable {E : XE} {d : Nat} {I : Nat → Nat → Int32} {s : Nat → Int32} {n w : Nat}
theorem op_pass {a1 : Int32} (h : RW I 65 s n w) (hd : 20 ≤ d) : op2 E d I s 73 152 [.int a1] := by
  have hn := h.1.1
  have hw := h.1.2.1
  have h65 := h.1.2.2.2.2.1
  have h652 := h.1.2.2.2.2.2
  have h31 := h.1.2.2.1
  have h0 := h.1.2.2.2.1
  by_cases h1 : 0 ≤ a1 ∧ a1 ≤ (60 : Int32)
  · obtain ⟨k, hk, rfl⟩ := upto_of (m := 60) rfl h1
    by_cases h2 : w + k ≤ 9999
    · have hle : nI (w + k) ≤ (9999 : Int32) := nI_le (b := 9999) h2 (by decide)
      refine ⟨.int (nI (w + k)), goS s n w k, n, w + k, x_K.of (by decide) (by decide) rfl rfl rfl (r_C_pass_0 (by omega) _ ⟨fun _ => ⟨fun _ => ?_, fun c => absurd (by rw [h652, nI_add]; exact hle) c⟩, fun c => absurd h1 c⟩), fun J hJ => x_K.of (by decide) (by decide) rfl rfl rfl (r_M_pass_0 (by omega) _ ?_)⟩
      · have key : ∀ m j (J : Nat → Nat → Int32), j + m = n → kp [72, 85, 86, 87, 88, 89, 90, 91, 92, 93, 94, 95, 96] I J → (∀ p, p < 6 → j ≤ p → J (85 + 2 * p) = I (85 + 2 * p)) → (∀ p, p < 6 → J (86 + 2 * p) = I (86 + 2 * p)) →
            (∀ p, p < j → dynC J (85 + 2 * p) = trjM s w k p ∧ ∀ f, f ≠ 4 → f ≠ 5 → f ≠ 6 → J (85 + 2 * p) f = I (85 + 2 * p) f) →
            x_P E d 73 17 [.ref 64, .int (nI k), .int (nI j)] [] J (fun v J => v = some (.int (nI (w + k))) ∧ RW J 65 (goS s n w k) n (w + k) ∧ ckp I J) := by
          intro m
          induction m with
          | zero =>
            intro j J hj hk1 hB hC hD
            have e65 : J 65 = I 65 := hk1 65 (by decide)
            refine r_C_pass_17 (by omega) _ _ ⟨fun _ I2 e2 => ?_, fun c => absurd ?_ c⟩
            · rw [e65, h652, nI_add] at e2
              have g65 : I2 65 = su (I 65) 2 (nI (w + k)) := by rw [e2, up_su, e65]
              have gq : ∀ q, q ≠ 65 → I2 q = J q := fun q hq => by rw [e2, up_ne hq]
              have gk : ∀ q, q ≠ 65 → q ≠ 72 → ¬ (85 ≤ q ∧ q < 97) → I2 q = I q := fun q a b c => by
                rw [gq q a]
                exact hk1 q (by simp; omega)
              have ht : ∀ j, 19 ≤ j → goS s n w k j = s j := fun j hj => goS_hi hj
              obtain ⟨b1', b2, b3, b4, b5, b6, b7⟩ := h
              refine ⟨by rw [g65, su_eq], ⟨⟨hn, h2, by rw [ht _ (by omega)]; exact h31, rfl, by rw [g65, su_ne (by decide)]; exact h65, by rw [g65, su_eq]⟩, ⟨fun p hp => ?_, fun p hp => ?_⟩, ?_, ?_, ?_, ?_, ?_⟩, gk _ (by decide) (by decide) (by decide), congrFun (gk 141 (by decide) (by decide) (by decide)) 0, fun q a b c e => gk q (by omega) (by omega) (by omega)⟩
              · obtain ⟨q1, q2⟩ := hD p (by omega)
                obtain ⟨m0, m1, m2, m3, m4, m5, m6⟩ := (b2.1 p hp).1
                have hgd : dynM (goS s n w k) p = trjM s w k p := by rw [goS_dyn (by omega)]; exact if_pos hp
                have er : I2 (65 + 20 + 2 * p) = J (85 + 2 * p) := gq (65 + 20 + 2 * p) (by omega)
                refine ⟨⟨?_, ?_, ?_, ?_, ?_, ?_, fun f hf => ?_⟩, ?_⟩
                · rw [er, q2 0 (by decide) (by decide) (by decide)]; exact m0
                · rw [er, q2 1 (by decide) (by decide) (by decide), ht _ (by omega)]; exact m1
                · rw [er, q2 2 (by decide) (by decide) (by decide), ht _ (by omega)]; exact m2
                · rw [er, q2 3 (by decide) (by decide) (by decide), ht _ (by omega)]; exact m3
                · rw [hgd, ← q1]
                  unfold dynC
                  rw [er]
                · rw [er, q2 7 (by decide) (by decide) (by decide), ht _ (by omega)]; exact m5
                · rw [gq _ (by omega), ht _ (by omega), show 65 + 20 + 2 * p + 1 = 86 + 2 * p by omega, hC p (by omega)]
                  have := m6 f hf
                  rw [show 65 + 20 + 2 * p + 1 = 86 + 2 * p by omega] at this
                  exact this
                · have ok := (b2.1 p hp).2
                  refine mnOK_dyn (by omega) ht ?_ ?_ ?_ ok
                  · rw [hgd]; exact trj_u8 ok.2.2.2.1 k
                  · rw [hgd]; exact trj_h ok.2.2.2.2.1 k
                  · rw [hgd]; exact trj_b1 ok.2.2.2.2.2.1 k
              · have er : I2 (65 + 20 + 2 * p) = J (85 + 2 * p) := gq (65 + 20 + 2 * p) (by omega)
                rw [er]
                by_cases hpj : p < j
                · obtain ⟨q1, q2⟩ := hD p hpj
                  have ok := (b2.1 p (by omega)).2
                  rw [q2 7 (by decide) (by decide) (by decide), show J (85 + 2 * p) 6 = (trjM s w k p).2.2 from congrArg (fun x => x.2.2) q1]
                  exact ⟨trj_b1 ok.2.2.2.2.2.1 k, (b2.2 p hp).2⟩
                · rw [hB p hp (by omega)]
                  exact b2.2 p hp
              · exact towR_c ⟨gk _ (by omega) (by omega) (by omega), gk _ (by omega) (by omega) (by omega), gk _ (by omega) (by omega) (by omega), gk _ (by omega) (by omega) (by omega)⟩ (by rw [g65, su_ne (by decide)]) (ht _ (by omega)) (ht _ (by omega)) (fun j hj => ht j (by omega)) b3
              · exact tapR_c (gk _ (by omega) (by omega) (by omega)) (by rw [g65, su_ne (by decide)]) (ht _ (by omega)) (fun j hj _ => ht j (by omega)) b4
              · exact senR_c (Nat.le_refl _) (gk _ (by omega) (by omega) (by omega)) (gk _ (by omega) (by omega) (by omega)) (gk _ (by omega) (by omega) (by omega)) (gk _ (by omega) (by omega) (by omega)) (ht _ (by omega)) (fun j hj _ => ht j (by omega)) b5
              · exact plnR_c (Nat.le_refl _) (gk _ (by omega) (by omega) (by omega)) (gk _ (by omega) (by omega) (by omega)) (gk _ (by omega) (by omega) (by omega)) (ht _ (by omega)) (fun j hj _ => ht j (by omega)) b6
              · exact bokR_c (Nat.le_refl _) (gk _ (by omega) (by omega) (by omega)) (gk _ (by omega) (by omega) (by omega)) (gk _ (by omega) (by omega) (by omega)) (ht _ (by omega)) (fun j hj _ => ht j (by omega)) b7
            · rw [e65, h65]
              exact nI_le (by omega) (by omega)
          | succ m ih =>
            intro j J hj hk1 hB hC hD
            have e65 : J 65 = I 65 := hk1 65 (by decide)
            refine r_C_pass_17 (by omega) _ _ ⟨fun c => absurd c ?_, fun _ => ⟨vp_in_nI (by omega) (by decide), ?_⟩⟩
            · rw [e65, h65]
              exact nI_ge (by omega) (by omega)
            rw [nI_clamp (by omega)]
            have hr : J (85 + 2 * j) = I (85 + 2 * j) := hB j (by omega) (Nat.le_refl _)
            have hr1 : J (85 + 2 * j + 1) = I (85 + 2 * j + 1) := by rw [show 85 + 2 * j + 1 = 86 + 2 * j by omega]; exact hC j (by omega)
            have hmj := (h.2.1.1 j (by omega)).1
            have okj := (h.2.1.1 j (by omega)).2
            have hmJ : mnR J (85 + 2 * j) s j := mnR_c (by omega) hr hr1 (fun _ _ _ => rfl) hmj
            have htJ : towR J 65 s := towR_c ⟨hk1 _ (by decide), hk1 _ (by decide), hk1 _ (by decide), hk1 _ (by decide)⟩ (by rw [e65]) rfl rfl (fun _ _ => rfl) h.2.2.1
            obtain ⟨d4, d5, d6⟩ := mnR_dyn hmJ
            refine (c_goOn (w := w) (k := k) (x_man_now (j := j) (by omega)).1 htJ.2.1 (by rw [d4]; exact okj.2.2.2.1) (by rw [d6]; exact okj.2.2.2.2.2.1) (by rw [hmJ.2.2.2.2.2.1]; exact okj.2.2.2.2.2.2) (by rw [e65]; exact h652) (by omega) (by omega)).mono (fun v J2 hv => ?_)
            obtain ⟨hv, g1, g2, g3⟩ := hv
            rw [hv, trj_rel htJ hmJ w k] at *
            refine r_C_pass_30 (by omega) _ _ ?_
            rw [nI_1]
            refine ih (j + 1) J2 (by omega) (hk1.trans (g3.mono (fun q hq => ?_))) (fun p hp hjp => ?_) (fun p hp => ?_) (fun p hp => ?_)
            · simp at hq ⊢
              omega
            · rw [g3 _ (by simp; omega)]
              exact hB p hp (by omega)
            · rw [g3 _ (by simp; omega)]
              exact hC p hp
            · by_cases e : p = j
              · subst e
                exact ⟨g1, fun f a b c => by rw [g2 f a b c, hr]⟩
              · have : J2 (85 + 2 * p) = J (85 + 2 * p) := g3 _ (by simp; omega)
                obtain ⟨q1, q2⟩ := hD p (by omega)
                unfold dynC at q1 ⊢
                rw [this]
                exact ⟨q1, q2⟩
        have kk := key n 0 I (by omega) kp.rfl' (fun _ _ _ => rfl) (fun _ _ => rfl) (fun p hp => absurd hp (by omega))
        rw [nI_0] at kk
        exact kk
      · subst hJ
        rw [h0, nI_add]
        refine ⟨fun _ => ⟨fun _ => ?_, fun c => absurd hle c⟩, fun c => absurd h1 c⟩
        refine (c_goesOn (n := n) (w := w) (k := k) hn h.2.2.1.1 h0 h31 (by omega) (by omega)).mono (fun v K hv => ?_)
        obtain ⟨hv, hg, hkp⟩ := hv
        rw [hv]
        exact r_M_pass_20 (by omega) ⟨by rw [hg.1], goS_of hg, mkp_of hkp (by decide)⟩
    · have hle : ¬ nI (w + k) ≤ (9999 : Int32) := nI_ge (a := 9999) (by omega) (by omega)
      refine ⟨.int (-3), s, n, w, x_K.of (by decide) (by decide) rfl rfl rfl (r_C_pass_0 (by omega) _ ⟨fun _ => ⟨fun c => absurd (by rw [h652, nI_add] at c; exact c) hle, fun _ => ⟨rfl, h, ckp.rfl'⟩⟩, fun c => absurd h1 c⟩), fun J hJ => x_K.of (by decide) (by decide) rfl rfl rfl (r_M_pass_0 (by omega) _ ?_)⟩
      subst hJ
      rw [h0, nI_add]
      exact ⟨fun _ => ⟨fun c => absurd c hle, fun _ => ⟨rfl, rfl, mkp.rfl'⟩⟩, fun c => absurd h1 c⟩
  · exact ⟨.int (-2), s, n, w, x_K.of (by decide) (by decide) rfl rfl rfl (r_C_pass_0 (by omega) _ ⟨fun c => absurd c h1, fun _ => ⟨rfl, h, ckp.rfl'⟩⟩), fun J hJ => x_K.of (by decide) (by decide) rfl rfl rfl (r_M_pass_0 (by omega) _ ⟨fun c => absurd c h1, fun _ => ⟨rfl, hJ, mkp.rfl'⟩⟩)⟩
end OPF
