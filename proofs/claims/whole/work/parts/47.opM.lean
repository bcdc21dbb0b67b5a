/-! ===== one call to both: odds ===== -/
theorem bit_fin : ∀ i, i < 8 → (1 : Int32) <<< (nI i &&& 31) = nI (2 ^ i) ∧ 2 ^ i < 256 := by decide +kernel
/-- the state with man p's creed one article off -/
def offS (s : Nat → Int32) (p i : Nat) : Nat → Int32 := su s (1 + p) (s (1 + p) ^^^ (1 <<< (nI i &&& 31)))
def odN (s : Nat → Int32) (w k p : Nat) : Nat → Nat
  | 0 => 0
  | i + 1 => odN s w k p i + (if (trjM (offS s p i) w k p).2.2 = 1 then 1 else 0)
theorem odN_le {s : Nat → Int32} {w k p : Nat} : ∀ i, odN s w k p i ≤ i := by
  intro i
  induction i with
  | zero => exact Nat.le_refl _
  | succ i ih =>
    unfold odN
    split <;> omega
section OPM
variable {E : XE} {d : Nat} {I : Nat → Nat → Int32} {s : Nat → Int32} {n w : Nat}
theorem off_ok {p i : Nat} (hp : p < 6) (hi : i < 8) (ok : mnOK s p) : mnOK (offS s p i) p := by
  refine mnOK_su (fld := 4) (off := 1) hp (by unfold fo; omega) ⟨by simp, fun _ => ?_, by simp, by simp, by simp⟩ ok
  rw [(bit_fin i hi).1]
  exact u8_xor ok.2.2.2.1 (u8_nI (bit_fin i hi).2)
theorem off_tow {p i b : Nat} (hp : p < 6) (h : towR I b s) : towR I b (offS s p i) :=
  towR_c ⟨rfl, rfl, rfl, rfl⟩ rfl (su_ne (by omega)) (su_ne (by omega)) (fun j hj => su_ne (by omega)) h
theorem op_odds {a1 a2 a3 : Int32} (h : RW I 65 s n w) (hd : 20 ≤ d) : op2L E d I s 82 170 [.int a1, .int a2, .int a3] := by
  have hn := h.1.1
  have hw := h.1.2.1
  have h65 := h.1.2.2.2.2.1
  have h31 := h.1.2.2.1
  rcases mn_cases a1 hn with ⟨p, hp, rfl, hin⟩ | ⟨hno, hno2⟩
  · have ok := (h.2.1.1 p hp).2
    by_cases h2 : 0 ≤ a2 ∧ a2 ≤ (60 : Int32)
    · obtain ⟨k, hk, rfl⟩ := upto_of (m := 60) rfl h2
      by_cases h3 : 0 ≤ a3 ∧ a3 ≤ (1 : Int32)
      · have hg : ∀ i, i < 8 → b1 (trjM (offS s p i) w k p).2.2 := fun i hi => trj_b1 (off_ok (by omega) hi ok).2.2.2.2.2.1 k
        have ho8 := odN_le (s := s) (w := w) (k := k) (p := p) 8
        refine ⟨.long (lN ((if a3 = 0 then odN s w k p 8 else 8) / Nat.gcd (odN s w k p 8) 8)), s, n, w, x_K.of (by decide) (by decide) rfl rfl rfl (r_C_odds_0 (by omega) _ _ _ ((c_find1 h65 hn hp (by omega)).pu (r_C_odds_4 (by omega) _ _ _ (x_man_now (by omega)).1 ⟨fun _ => ⟨fun _ => ?_, fun g => absurd h3 g⟩, fun g => absurd h2 g⟩))), fun J hJ => x_K.of (by decide) (by decide) rfl rfl rfl (r_M_odds_0 (by omega) _ _ _ ?_)⟩
        · have key : ∀ m i (K : Nat → Nat → Int32), i + m = 8 → kp [72, 129, 130] I K → x_P E d 82 21 [.ref 64, x_jk, .int (nI k), .int a3, .ref (85 + 2 * p), .int (nI (odN s w k p i)), .int (nI i)] [] K (fun v J => v = some (.long (lN ((if a3 = 0 then odN s w k p 8 else 8) / Nat.gcd (odN s w k p 8) 8))) ∧ RW J 65 s n w ∧ ckp I J) := by
            intro m
            induction m with
            | zero =>
              intro i K hi hK
              have ei : i = 8 := by omega
              subst ei
              refine r_C_odds_21 (by omega) _ _ _ (x_man_now (by omega)).1 _ _ ⟨fun _ => (c_lowC (b := 8) (by omega) (by omega) (by omega) (by omega)).pu (r_C_odds_58 (by omega) _ ⟨?_, RW_kp (wkp_of hK (by decide)) h, ckp_of hK (by decide)⟩), fun g => absurd (nI_le (show 8 ≤ 8 by omega) (by omega)) g⟩
              rw [nI_l]
              refine Nat.lt_of_le_of_lt (Nat.div_le_self _ _) ?_
              split <;> omega
            | succ m ih =>
              intro i K hi hK
              have nx := fun K2 h2 => ih (i + 1) K2 (by omega) h2
              have hKw : RW K 65 s n w := RW_kp (wkp_of hK (by decide)) h
              refine r_C_odds_21 (by omega) _ _ _ (x_man_now (by omega)).1 _ _ ⟨fun g => absurd g (nI_ge (show i < 8 by omega) (by decide)), fun _ => (c_ghost hKw hp (by omega)).mono (fun v K1 hv => ?_)⟩
              obtain ⟨hv, hg1, k1⟩ := hv
              rw [hv]
              refine r_C_odds_28 (by omega) _ _ _ (x_man_now (by omega)).1 _ _ (fun I1 e1 => ?_)
              rw [(mnR_dyn hg1).1] at e1
              have hm1 : mnR I1 129 (offS s p i) p := by
                rw [e1]
                exact mnR_su (fld := 4) (off := 1) (by omega) (by unfold fo; omega) hg1
              have k2 : kp [72, 129, 130] I I1 := hK.trans ((k1.mono (by simp)).trans (by rw [e1]; exact kp.up (by simp)))
              have hI1 : RW I1 65 s n w := RW_kp (wkp_of k2 (by decide)) h
              refine (c_ghostOn (s := offS s p i) (k := k) (off_tow (by omega) hI1.2.2.1) hI1.1.2.2.2.2.2 hm1 (off_ok (by omega) (by omega) ok) (by omega) (by omega)).mono (fun v K2 hv => ?_)
              obtain ⟨hv, hm⟩ := hv
              rw [hv]
              refine r_C_odds_42 (by omega) _ _ _ (x_man_now (by omega)).1 _ _ ?_
              rw [show K2 129 6 = (trjM (offS s p i) w k p).2.2 from congrArg (fun x => x.2.2) hm.1]
              have e : nI (odN s w k p i) + x_bi (¬ (trjM (offS s p i) w k p).2.2 = 0) = nI (odN s w k p (i + 1)) := by
                rw [odN, bi_b1 (hg i (by omega))]
                rcases hg i (by omega) with c | c
                · rw [c, if_neg (by decide)]
                  show nI _ + nI 0 = _
                  rw [nI_add]
                · rw [c, if_pos rfl, nI_1]
              rw [e, nI_1]
              exact nx K2 (k2.trans (hm.2.2.mono (by simp)))
          have kk := key 8 0 I rfl kp.rfl'
          have e0 : nI (odN s w k p 0) = 0 := nI_0
          rw [e0, nI_0] at kk
          exact kk
        · subst hJ
          rw [h31]
          refine ⟨fun _ => ⟨fun _ => ⟨fun _ => ?_, fun g => absurd h3 g⟩, fun g => absurd h2 g⟩, fun g => absurd hin g⟩
          have key : ∀ m i (K : Nat → Nat → Int32), i + m = 8 → K 143 = J 143 → kp [143, 145, 146, 147] J K → x_P E d 170 20 [.ref 142, .int (nI p), .int (nI k), .int a3, .long (lN (odN (J 143) w k p i)), x_jk, .int (nI i), x_jk] [] K (fun v K => v = some (.long (lN ((if a3 = 0 then odN (J 143) w k p 8 else 8) / Nat.gcd (odN (J 143) w k p 8) 8))) ∧ K 143 = J 143 ∧ mkp J K) := by
            intro m
            induction m with
            | zero =>
              intro i K hi hK hkp
              have ei : i = 8 := by omega
              subst ei
              exact r_M_odds_20 (by omega) _ _ _ _ _ ⟨fun _ => (c_lowM (b := 8) (by omega) (by omega) (by omega) (by omega)).pu (r_M_odds_65 (by omega) _ ⟨rfl, hK, mkp_of hkp (by decide)⟩), fun g => absurd (nI_le (show 8 ≤ 8 by omega) (by omega)) g⟩
            | succ m ih =>
              intro i K hi hK hkp
              refine r_M_odds_20 (by omega) _ _ _ _ _ ⟨fun g => absurd g (nI_ge (show i < 8 by omega) (by decide)), fun _ => (c_keeps (by omega)).mono (fun v K1 hv => ?_)⟩
              obtain ⟨hv, q145, k1⟩ := hv
              rw [hv]
              have s1 : K1 143 = J 143 := by rw [k1 143 (by simp), hK]
              refine r_M_odds_25 (by omega) _ _ _ _ _ ⟨vi_c (c' := 1) rfl (by omega) (by decide), vi_c (c' := 1) rfl (by omega) (by decide), fun I3 e3 => ?_⟩
              rw [ix_c (c := 1) (c' := 1) rfl (by omega)] at e3
              have s3 : I3 143 = offS (J 143) p i := by rw [e3, up_su, s1]; rfl
              have k3 : kp [143, 145, 146, 147] J I3 := hkp.trans ((k1.mono (by simp)).trans (by rw [e3]; exact kp.up (by simp)))
              have b3 : ∀ j, j < 31 → I3 145 j = J 143 j := fun j hj => by rw [e3, up_ne (by decide), q145 j hj, hK]
              have htw : twM (offS (J 143) p i) := (off_tow (by omega) h.2.2.1).1
              have inner : ∀ m2 j (K2 : Nat → Nat → Int32), j + m2 = k → alR (offS (J 143) p i) (K2 143) w j p → (∀ j, j < 31 → K2 145 j = J 143 j) → kp [143, 145, 146, 147] J K2 → x_P E d 170 39 [.ref 142, .int (nI p), .int (nI k), .int a3, .long (lN (odN (J 143) w k p i)), x_jk, .int (nI i), .int (nI j)] [] K2 (fun v K => v = some (.long (lN ((if a3 = 0 then odN (J 143) w k p 8 else 8) / Nat.gcd (odN (J 143) w k p 8) 8))) ∧ K 143 = J 143 ∧ mkp J K) := by
                intro m2
                induction m2 with
                | zero =>
                  intro j K2 hj hal b2 kk2
                  have ej : j = k := by omega
                  subst ej
                  refine r_M_odds_39 (by omega) _ _ _ _ _ _ ⟨fun _ => ⟨vi_c (c' := 13) rfl (by omega) (by decide), ?_⟩, fun g => absurd (nI_le (Nat.le_refl _) (by omega)) g⟩
                  rw [ix_c (c := 13) (c' := 13) rfl (by omega), show K2 143 (13 + p) = (trjM (offS (J 143) p i) w j p).2.2 from congrArg (fun x => x.2.2) hal.2.2]
                  refine (m_back b2 (fun q hq => by rw [hal.2.1 q (by omega)]; exact su_ne (by omega)) kk2 (by omega)).mono (fun v K3 hv => ?_)
                  obtain ⟨hv, s5, k5⟩ := hv
                  rw [hv]
                  refine r_M_odds_59 (by omega) _ _ _ _ _ ?_
                  have e : lN (odN (J 143) w j p i) + ((trjM (offS (J 143) p i) w j p).2.2).toInt64 = lN (odN (J 143) w j p (i + 1)) := by
                    rw [odN]
                    rcases hg i (by omega) with c | c
                    · rw [c, if_neg (by decide)]
                      show lN _ + lN 0 = _
                      rw [lN_add]
                    · rw [c, if_pos rfl]
                      show lN _ + lN 1 = _
                      rw [lN_add]
                  rw [e, nI_1]
                  exact ih (i + 1) K3 (by omega) s5 k5
                | succ m2 ih2 =>
                  intro j K2 hj hal b2 kk2
                  refine r_M_odds_39 (by omega) _ _ _ _ _ _ ⟨fun g => absurd g (nI_ge (by omega) (by omega)), fun _ => (c_alone (by omega) htw hal (by omega) (by omega)).mono (fun v K3 hv => ?_)⟩
                  obtain ⟨hv, hal3, k3'⟩ := hv
                  rw [hv]
                  refine r_M_odds_45 (by omega) _ _ _ _ _ _ ?_
                  rw [nI_1]
                  exact ih2 (j + 1) K3 (by omega) hal3 (fun q hq => by rw [k3' 145 (by simp)]; exact b2 q hq) (kk2.trans (k3'.mono (by simp)))
              have kk := inner k 0 I3 (by omega) (by rw [s3]; exact alR_0 (by show su _ _ _ 0 = _; rw [su_ne (by omega)]; exact h.1.2.2.2.1)) b3 k3
              rw [nI_0] at kk
              exact kk
          have kk := key 8 0 J rfl rfl kp.rfl'
          rw [nI_0] at kk
          exact kk
      · refine ⟨.long (-9223372036854775808 : Int64), s, n, w, x_K.of (by decide) (by decide) rfl rfl rfl (r_C_odds_0 (by omega) _ _ _ ((c_find1 h65 hn hp (by omega)).pu (r_C_odds_4 (by omega) _ _ _ (x_man_now (by omega)).1 ⟨fun _ => ⟨fun g => absurd g h3, fun _ => ⟨rfl, h, ckp.rfl'⟩⟩, fun g => absurd h2 g⟩))), fun J hJ => x_K.of (by decide) (by decide) rfl rfl rfl (r_M_odds_0 (by omega) _ _ _ ?_)⟩
        subst hJ
        rw [h31]
        exact ⟨fun _ => ⟨fun _ => ⟨fun g => absurd g h3, fun _ => ⟨rfl, rfl, mkp.rfl'⟩⟩, fun g => absurd h2 g⟩, fun g => absurd hin g⟩
    · refine ⟨.long (-9223372036854775808 : Int64), s, n, w, x_K.of (by decide) (by decide) rfl rfl rfl (r_C_odds_0 (by omega) _ _ _ ((c_find1 h65 hn hp (by omega)).pu (r_C_odds_4 (by omega) _ _ _ (x_man_now (by omega)).1 ⟨fun g => absurd g h2, fun _ => ⟨rfl, h, ckp.rfl'⟩⟩))), fun J hJ => x_K.of (by decide) (by decide) rfl rfl rfl (r_M_odds_0 (by omega) _ _ _ ?_)⟩
      subst hJ
      rw [h31]
      exact ⟨fun _ => ⟨fun g => absurd g h2, fun _ => ⟨rfl, rfl, mkp.rfl'⟩⟩, fun g => absurd hin g⟩
  · refine ⟨.long (-9223372036854775808 : Int64), s, n, w, x_K.of (by decide) (by decide) rfl rfl rfl (r_C_odds_0 (by omega) _ _ _ ((c_find0 h65 hno2 (by omega)).pu (r_C_odds_4N (by omega) _ _ ⟨rfl, h, ckp.rfl'⟩))), fun J hJ => x_K.of (by decide) (by decide) rfl rfl rfl (r_M_odds_0 (by omega) _ _ _ ?_)⟩
    subst hJ
    rw [h31]
    exact ⟨fun g => absurd g hno, fun _ => ⟨rfl, rfl, mkp.rfl'⟩⟩
end OPM
