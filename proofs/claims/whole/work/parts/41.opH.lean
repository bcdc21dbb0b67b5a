/-! ===== one call to both: on, when ===== -/
theorem sub_of {a D : Int32} {p e : Nat} (hD : D = nI e) (h : a - D = nI p) : a = nI (p + e) := by
  rw [← Int32.sub_add_cancel a D, h, hD, nI_add]
theorem nI_sub {a b : Nat} : nI (a + b) - nI b = nI a := by
  rw [← nI_add, Int32.add_sub_cancel]
def fwF (g : Nat → Bool) : Nat → Nat → Int32
  | 0, _ => (-5 : Int32)
  | m + 1, k => if g k = true then nI k else fwF g m (k + 1)
theorem nI_ne_neg {n : Nat} {x : Int32} (h : n < 2 ^ 31) (hx : x.toInt < 0) : ¬ nI n = x := by
  intro e
  rw [← e, nI_toInt h] at hx
  omega
section OPH
variable {E : XE} {d : Nat} {I : Nat → Nat → Int32} {s : Nat → Int32} {n w : Nat}
theorem c_ghostStep {J0 K : Nat → Nat → Int32} {p k : Nat} (hJ : RW J0 65 s n w) (hg : mnR J0 129 s p) (ok : mnOK s p) (hK : manR 129 (trjM s w k p) J0 K) (hw : w + k < 2 ^ 31) (hd : 5 ≤ d) :
    x_K E d 28 [.ref 129, .ref 68, .int (nI (w + k))] K (fun v K2 => v = none ∧ manR 129 (trjM s w (k + 1) p) J0 K2) := by
  have e4 : K 129 4 = (trjM s w k p).1 := congrArg Prod.fst hK.1
  have e6 : K 129 6 = (trjM s w k p).2.2 := congrArg (fun x => x.2.2) hK.1
  have e7 : K 129 7 = J0 129 7 := hK.2.1 7 (by decide) (by decide) (by decide)
  refine (c_live (w := w + k) x_man_129 (manR_tcW x_man_129 hK hJ.2.2.1.2.1) (by rw [e4]; exact trj_u8 ok.2.2.2.1 k) (by rw [e6]; exact trj_b1 ok.2.2.2.2.2.1 k) (by rw [e7, hg.2.2.2.2.2.1]; exact ok.2.2.2.2.2.2) hw hd).mono (fun v K2 hv => ?_)
  obtain ⟨hv, hK2⟩ := hv
  have e : stpR K 129 (w + k) (dynC K 129) = trjM s w (k + 1) p := by rw [manR_stpR x_man_129 hK, hK.1, stp_rel hJ.2.2.1 hg]; rfl
  rw [e] at hK2
  exact ⟨hv, hK.trans hK2⟩
theorem m_back {J K : Nat → Nat → Int32} (h145 : ∀ j, j < 31 → K 145 j = J 143 j) (hhi : ∀ j, 31 ≤ j → K 143 j = J 143 j) (hk : kp [143, 145, 146, 147] J K) (hd : 1 ≤ d) :
    x_K E d 113 [.ref 142] K (fun v K2 => v = none ∧ K2 143 = J 143 ∧ kp [143, 145, 146, 147] J K2) :=
  (c_goesBack hd).mono (fun v K2 ⟨h1, h2, h3⟩ => ⟨h1, back_eq h145 hhi h2, hk.trans (h3.mono (by simp))⟩)
theorem m_onTail {J : Nat → Nat → Int32} {k : Nat} {v2 z : Int32} (h : RW I 65 (J 143) n w) (hk : k ≤ 60) (hd : 12 ≤ d)
    (hz : (v2 = 0 ∧ z = gnF (J 143) w k n) ∨ (∃ p, p < n ∧ v2 = nI (p + 10) ∧ z = (trjM (J 143) w k p).2.1) ∨ (∃ p, p < n ∧ v2 = nI (p + 20) ∧ z = (trjM (J 143) w k p).1)) :
    x_K E (d - 1) 112 [.ref 142] J (fun v I2 => x_P E d 153 25 [.ref 142, .int (nI k), .int v2, x_jk] (v.toList ++ []) I2 (fun v K => v = some (.int z) ∧ K 143 = J 143 ∧ mkp J K)) := by
  have hn := h.1.1
  have hw := h.1.2.1
  have h31 := h.1.2.2.1
  have h0 := h.1.2.2.2.1
  refine (c_keeps (by omega)).mono (fun v J1 hv => ?_)
  obtain ⟨hv, q145, k1⟩ := hv
  rw [hv]
  have s1 : J1 143 = J 143 := k1 143 (by simp)
  refine r_M_on_25 (by omega) _ _ ((c_goesOn (n := n) (w := w) (k := k) hn (by rw [s1]; exact h.2.2.1.1) (by rw [s1]; exact h0) (by rw [s1]; exact h31) (by omega) (by omega)).mono (fun v K hv => ?_))
  obtain ⟨hv, hg, k2⟩ := hv
  rw [hv]
  rw [s1] at hg
  obtain ⟨g0, ga, gd⟩ := hg
  have kk : kp [143, 145, 146, 147] J K := (k1.mono (by simp)).trans (k2.mono (by simp))
  have b145 : ∀ j, j < 31 → K 145 j = J 143 j := fun j hj => by rw [k2 145 (by simp)]; exact q145 j hj
  have bhi : ∀ j, 31 ≤ j → K 143 j = J 143 j := fun j hj => ga j (by omega)
  have gp : ∀ p, p < n → dynM (K 143) p = trjM (J 143) w k p := fun p hp => by rw [gd p (by omega), if_pos hp]
  have back : x_K E (d - 1) 113 [.ref 142] K (fun v I2 => x_P E d 153 57 [x_jk, x_jk, x_jk, .int z] (v.toList ++ []) I2 (fun v K => v = some (.int z) ∧ K 143 = J 143 ∧ mkp J K)) := by
    refine (m_back b145 bhi kk (by omega)).mono (fun v K2 hv => ?_)
    obtain ⟨hv, e1, e2⟩ := hv
    rw [hv]
    exact r_M_on_57 (by omega) _ ⟨rfl, e1, mkp_of e2 (by decide)⟩
  rcases hz with ⟨rfl, hz⟩ | ⟨p, hp, rfl, hz⟩ | ⟨p, hp, rfl, hz⟩
  · refine r_M_on_28 (by omega) _ ⟨fun _ => ?_, fun c => absurd rfl c⟩
    have hb : ∀ p, p < n → K 143 (13 + p) = (trjM (J 143) w k p).2.2 := fun p hp => congrArg (fun x => x.2.2) (gp p hp)
    have e : orF (fun p => decide (K 143 (13 + p) = 1)) n = z := by
      rw [hz]
      exact orF_congr n (fun p hp => by rw [hb p hp])
    refine (show x_K E (d - 1) 145 [.ref 142, .int (nI 13)] K _ from (c_ones (c := 13) hn (by rw [bhi 31 (by omega)]; exact h31) (by decide) (fun p hp => by rw [hb p hp]; exact trj_b1 (h.2.1.1 p hp).2.2.2.2.2.2.1 k) (by omega)).pu ?_)
    rw [e]
    exact r_M_on_33 (by omega) _ back
  · have e1 : ((((7 : Int32) + nI (p + 10)) - (10 : Int32))) = nI (7 + p) := by
      rw [show (7 : Int32) = nI 7 from rfl, nI_add, show (10 : Int32) = nI 10 from rfl, show 7 + (p + 10) = (7 + p) + 10 by omega, nI_sub]
    have e2 : ¬ (20 : Int32) ≤ nI (p + 10) := nI_ge (b := 20) (show p + 10 < 20 by omega) (by decide)
    refine r_M_on_28 (by omega) _ ⟨fun c => absurd c (nI_ne0 (by omega) (by omega)), fun _ => ⟨fun c => absurd c e2, fun _ => ?_, fun z5 hz5 => ?_⟩⟩
    · rw [e1]
      exact vp_in_nI (by omega) (by decide)
    · rw [if_neg e2, e1, nI_clamp (by omega), show K 143 (7 + p) = z from by rw [hz]; exact congrArg (fun x => x.2.1) (gp p hp)] at hz5
      rw [hz5]
      exact back
  · have e1 : ((((1 : Int32) + nI (p + 20)) - (20 : Int32))) = nI (1 + p) := by
      rw [show (1 : Int32) = nI 1 from rfl, nI_add, show (20 : Int32) = nI 20 from rfl, show 1 + (p + 20) = (1 + p) + 20 by omega, nI_sub]
    have e2 : (20 : Int32) ≤ nI (p + 20) := nI_le (a := 20) (by omega) (by omega)
    refine r_M_on_28 (by omega) _ ⟨fun c => absurd c (nI_ne0 (by omega) (by omega)), fun _ => ⟨fun _ => ?_, fun c => absurd e2 c, fun z5 hz5 => ?_⟩⟩
    · rw [e1]
      exact vp_in_nI (by omega) (by decide)
    · rw [if_pos e2, e1, nI_clamp (by omega), show K 143 (1 + p) = z from by rw [hz]; exact congrArg Prod.fst (gp p hp)] at hz5
      rw [hz5]
      exact back
/-- the class's half: the ghost of man p, k weeks on -/
theorem c_onTail {p k : Nat} {v2 v3 z : Int32} {J : Nat → Nat → Int32} (h : RW J 65 s n w) (hp : p < n) (hk : k ≤ 60) (hd : 12 ≤ d)
    (hz : z = if v3 = 0 then (trjM s w k p).2.1 else (trjM s w k p).1) :
    x_P E d 74 17 [.ref 64, .int (nI k), .int v2, .int v3, x_jk] [.ref (85 + 2 * p)] J (fun v K => v = some (.int z) ∧ RW K 65 s n w ∧ ckp J K) := by
  have hw := h.1.2.1
  have hn := h.1.1
  have hr : 0 ≤ nI k ∧ nI k ≤ (60 : Int32) := ⟨nI_pos' (by omega), nI_le (b := 60) hk (by decide)⟩
  refine r_C_on_17 (by omega) _ _ _ _ (x_man_now (by omega)).1 ⟨fun _ => (c_ghost h hp (by omega)).mono (fun v K hv => ?_), fun c => absurd hr c⟩
  obtain ⟨hv, hg, k1⟩ := hv
  rw [hv]
  have hK : RW K 65 s n w := RW_kp (wkp_of k1 (by decide)) h
  refine r_C_on_40 (by omega) _ _ ((c_ghostOn hK.2.2.1 hK.1.2.2.2.2.2 hg (hK.2.1.1 p hp).2 (by omega) (by omega)).mono (fun v K2 hv => ?_))
  obtain ⟨hv, hm⟩ := hv
  rw [hv]
  have k2 : kp [72, 129, 130] J K2 := (k1.mono (by simp)).trans (hm.2.2.mono (by simp))
  refine r_C_on_45 (by omega) _ (fun z2 hz2 => ⟨?_, RW_kp (wkp_of k2 (by decide)) h, ckp_of k2 (by decide)⟩)
  rw [show K2 129 5 = (trjM s w k p).2.1 from congrArg (fun x => x.2.1) hm.1, show K2 129 4 = (trjM s w k p).1 from congrArg Prod.fst hm.1, ← hz] at hz2
  rw [hz2]
theorem op_on {a1 a2 : Int32} (h : RW I 65 s n w) (hd : 20 ≤ d) : op2 E d I s 74 153 [.int a1, .int a2] := by
  have hn := h.1.1
  have h65 := h.1.2.2.2.2.1
  have h31 := h.1.2.2.1
  by_cases c0 : a2 = 0
  · subst c0
    have hz3 : (if ¬ ((0 : Int32) < (20 : Int32)) then (20 : Int32) else (10 : Int32)) = (10 : Int32) := rfl
    by_cases h1 : 0 ≤ a1 ∧ a1 ≤ (60 : Int32)
    · obtain ⟨k, hk, rfl⟩ := upto_of (m := 60) rfl h1
      refine ⟨.int (gnF s w k n), s, n, w, x_K.of (by decide) (by decide) rfl rfl rfl (r_C_on_0 (by omega) _ _ (fun z hz => ?_)), fun J hJ => x_K.of (by decide) (by decide) rfl rfl rfl (r_M_on_0 (by omega) _ _ ⟨fun _ => ⟨fun _ => ?_, fun c => absurd h1 c⟩, fun c => absurd rfl c⟩)⟩
      · rw [hz3] at hz
        rw [hz]
        refine (c_find0 h65 (Or.inl (by decide)) (by omega)).pu (r_C_on_17N (by omega) _ _ _ ⟨fun _ => ⟨fun _ => (c_goneBehind h hk (by omega)).mono (fun v J hv => ?_), fun c => absurd h1 c⟩, fun c => absurd rfl c⟩)
        rw [hv.1]
        exact r_C_on_35 (by omega) _ ⟨rfl, RW_kp (wkp_of hv.2 (by decide)) h, ckp_of hv.2 (by decide)⟩
      · subst hJ
        exact m_onTail h hk (by omega) (Or.inl ⟨rfl, rfl⟩)
    · refine ⟨.int (-2), s, n, w, x_K.of (by decide) (by decide) rfl rfl rfl (r_C_on_0 (by omega) _ _ (fun z hz => ?_)), fun J hJ => x_K.of (by decide) (by decide) rfl rfl rfl (r_M_on_0 (by omega) _ _ ⟨fun _ => ⟨fun c => absurd c h1, fun _ => ⟨rfl, hJ, mkp.rfl'⟩⟩, fun c => absurd rfl c⟩)⟩
      rw [hz3] at hz
      rw [hz]
      exact (c_find0 h65 (Or.inl (by decide)) (by omega)).pu (r_C_on_17N (by omega) _ _ _ ⟨fun _ => ⟨fun c => absurd c h1, fun _ => ⟨rfl, h, ckp.rfl'⟩⟩, fun c => absurd rfl c⟩)
  · rcases mn_cases (a2 - (10 : Int32)) hn with ⟨p, hp, hpe, hin⟩ | ⟨hno, hno2⟩
    · have ea := sub_of (e := 10) rfl hpe
      have hlt : a2 < (20 : Int32) := by rw [ea]; exact nI_lt (b := 20) (by omega) (by decide)
      have hz3 : (if ¬ (a2 < (20 : Int32)) then (20 : Int32) else (10 : Int32)) = (10 : Int32) := if_neg (fun c => c hlt)
      have hv3 : x_bi (¬ (a2 < (20 : Int32))) = 0 := x_bi_f (fun c => c hlt)
      by_cases h1 : 0 ≤ a1 ∧ a1 ≤ (60 : Int32)
      · obtain ⟨k, hk, rfl⟩ := upto_of (m := 60) rfl h1
        refine ⟨.int (trjM s w k p).2.1, s, n, w, x_K.of (by decide) (by decide) rfl rfl rfl (r_C_on_0 (by omega) _ _ (fun z hz => ?_)), fun J hJ => x_K.of (by decide) (by decide) rfl rfl rfl (r_M_on_0 (by omega) _ _ ?_)⟩
        · rw [hz3] at hz
          rw [hz, hpe, hv3]
          exact (c_find1 h65 hn hp (by omega)).pu (c_onTail h hp hk (by omega) (by rw [if_pos rfl]))
        · subst hJ
          rw [h31]
          exact ⟨fun c => absurd c c0, fun _ => ⟨fun _ => ⟨fun _ => m_onTail h hk (by omega) (Or.inr (Or.inl ⟨p, hp, ea, rfl⟩)), fun c => absurd h1 c⟩, fun c => absurd hin c⟩⟩
      · refine ⟨.int (-2), s, n, w, x_K.of (by decide) (by decide) rfl rfl rfl (r_C_on_0 (by omega) _ _ (fun z hz => ?_)), fun J hJ => x_K.of (by decide) (by decide) rfl rfl rfl (r_M_on_0 (by omega) _ _ ?_)⟩
        · rw [hz3] at hz
          rw [hz, hpe]
          exact (c_find1 h65 hn hp (by omega)).pu (r_C_on_17 (by omega) _ _ _ _ (x_man_now (by omega)).1 ⟨fun c => absurd c h1, fun _ => ⟨rfl, h, ckp.rfl'⟩⟩)
        · subst hJ
          rw [h31]
          exact ⟨fun c => absurd c c0, fun _ => ⟨fun _ => ⟨fun c => absurd c h1, fun _ => ⟨rfl, rfl, mkp.rfl'⟩⟩, fun c => absurd hin c⟩⟩
    · rcases mn_cases (a2 - (20 : Int32)) hn with ⟨p, hp, hpe, hin⟩ | ⟨hno3, hno4⟩
      · have ea := sub_of (e := 20) rfl hpe
        have hlt : ¬ a2 < (20 : Int32) := by rw [ea]; exact nI_nlt (b := 20) (by omega) (by omega)
        have hz3 : (if ¬ (a2 < (20 : Int32)) then (20 : Int32) else (10 : Int32)) = (20 : Int32) := if_pos hlt
        have hv3 : x_bi (¬ (a2 < (20 : Int32))) = 1 := x_bi_t hlt
        by_cases h1 : 0 ≤ a1 ∧ a1 ≤ (60 : Int32)
        · obtain ⟨k, hk, rfl⟩ := upto_of (m := 60) rfl h1
          refine ⟨.int (trjM s w k p).1, s, n, w, x_K.of (by decide) (by decide) rfl rfl rfl (r_C_on_0 (by omega) _ _ (fun z hz => ?_)), fun J hJ => x_K.of (by decide) (by decide) rfl rfl rfl (r_M_on_0 (by omega) _ _ ?_)⟩
          · rw [hz3] at hz
            rw [hz, hpe, hv3]
            exact (c_find1 h65 hn hp (by omega)).pu (c_onTail h hp hk (by omega) (by rw [if_neg (by decide)]))
          · subst hJ
            rw [h31]
            exact ⟨fun c => absurd c c0, fun _ => ⟨fun c => absurd c hno, fun _ => ⟨fun _ => ⟨fun _ => m_onTail h hk (by omega) (Or.inr (Or.inr ⟨p, hp, ea, rfl⟩)), fun c => absurd h1 c⟩, fun c => absurd hin c⟩⟩⟩
        · refine ⟨.int (-2), s, n, w, x_K.of (by decide) (by decide) rfl rfl rfl (r_C_on_0 (by omega) _ _ (fun z hz => ?_)), fun J hJ => x_K.of (by decide) (by decide) rfl rfl rfl (r_M_on_0 (by omega) _ _ ?_)⟩
          · rw [hz3] at hz
            rw [hz, hpe]
            exact (c_find1 h65 hn hp (by omega)).pu (r_C_on_17 (by omega) _ _ _ _ (x_man_now (by omega)).1 ⟨fun c => absurd c h1, fun _ => ⟨rfl, h, ckp.rfl'⟩⟩)
          · subst hJ
            rw [h31]
            exact ⟨fun c => absurd c c0, fun _ => ⟨fun c => absurd c hno, fun _ => ⟨fun _ => ⟨fun c => absurd c h1, fun _ => ⟨rfl, rfl, mkp.rfl'⟩⟩, fun c => absurd hin c⟩⟩⟩
      · refine ⟨.int (-1), s, n, w, x_K.of (by decide) (by decide) rfl rfl rfl (r_C_on_0 (by omega) _ _ (fun z hz => ?_)), fun J hJ => x_K.of (by decide) (by decide) rfl rfl rfl (r_M_on_0 (by omega) _ _ ?_)⟩
        · have hz0 : a2 - z < 0 ∨ (¬ a2 - z < 0 ∧ nI n ≤ a2 - z) := by
            rw [hz]
            by_cases hl : a2 < (20 : Int32)
            · rw [if_neg (fun c => c hl)]; exact hno2
            · rw [if_pos hl]; exact hno4
          exact (c_find0 h65 hz0 (by omega)).pu (r_C_on_17N (by omega) _ _ _ ⟨fun c => absurd c c0, fun _ => ⟨rfl, h, ckp.rfl'⟩⟩)
        · subst hJ
          rw [h31]
          exact ⟨fun c => absurd c c0, fun _ => ⟨fun c => absurd c hno, fun _ => ⟨fun c => absurd c hno3, fun _ => ⟨rfl, rfl, mkp.rfl'⟩⟩⟩⟩
end OPH
