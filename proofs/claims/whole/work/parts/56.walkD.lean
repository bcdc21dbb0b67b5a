/-! ===== walk: with whom, for the class ===== -/
theorem fL_out {D : Nat → Nat → Nat} {n k : Nat} (hn : n ≤ 6) (hD : ∀ p q, p < n → q < n → D p q ≤ 8) (hk : k < 6) : ∀ f u L, u < 2 ^ n → u.testBit k = false → fL D n f u L k = L k
  | 0, _, _, _, _ => rfl
  | f + 1, u, L, hu, hb => by
    have hp2 : 2 ^ n ≤ 64 := Nat.pow_le_pow_right (n := 2) (by decide) hn
    unfold fL
    by_cases h0 : u = 0
    · rw [if_pos h0]
    rw [if_neg h0]
    obtain ⟨l1, l2, l3⟩ := lo_fin u (by omega) (by omega)
    obtain ⟨_, r2, r3, r4⟩ := rm_fin u (by omega) (lo u) l1
    have hkl : k ≠ lo u := fun e => by rw [e, l2] at hb; exact absurd hb (by decide)
    have hb1 : (rm u (lo u)).testBit k = false := by rw [r4 k hk, hb, Bool.false_and]
    by_cases c : al (vV D n) (rm u (lo u)) < cm D (vV D n) u (lo u) n
    · rw [if_pos c, fL_out hn hD hk f _ _ (by omega) hb1, su_ne hkl]
    · rw [if_neg c]
      have hv := vV_le hn hD u hu
      have hk6 := (kN_fin u (by omega)).2
      have ev := vV_eq (D := D) hn (by omega) (show u < 64 by omega)
      unfold vs at ev
      obtain ⟨b1, b2, b3, b4, b5⟩ := bq_ok (D := D) (W := vV D n) (u := u) (p := lo u) n (by unfold xfar; omega)
      obtain ⟨_, q2, _, q4⟩ := rm_fin (rm u (lo u)) (by omega) (bq D (vV D n) u (lo u) n) (by omega)
      have hkq : k ≠ bq D (vV D n) u (lo u) n := fun e => by rw [e, b3] at hb; exact absurd hb (by decide)
      rw [fL_out hn hD hk f _ _ (by omega) (by rw [q4 k hk, hb1, Bool.false_and]), su_ne hkq, su_ne hkl]
/-- 9 is alone -/
def rsp (x : Int32) : Int32 := if x = (9 : Int32) then (-5 : Int32) else x
section WKD
variable {E : XE} {d : Nat} {I : Nat → Nat → Int32} {s : Nat → Int32} {n w : Nat}
theorem c_firstP {K : Nat → Nat → Int32} {u : Nat} (h : RW K 65 s n w) (h0 : 0 < u) (hu : u < 2 ^ n) (hT : ∀ x, x ≤ u → K 141 x = nI (vV (dN s) n x)) (hd : 4 ≤ d) :
    x_K E d 33 [.ref 140, .ref 65, .int (nI u), .int (nI (lo u))] K (x_pu (.int (if al (vV (dN s) n) (rm u (lo u)) < cm (dN s) (vV (dN s) n) u (lo u) n then (-5 : Int32) else nI (bq (dN s) (vV (dN s) n) u (lo u) n))) K) := by
  have hn := h.1.1
  have h65 := h.1.2.2.2.2.1
  have hp2 : 2 ^ n ≤ 64 := Nat.pow_le_pow_right (n := 2) (by decide) hn
  have hD := tb_u8 h
  have hV := vV_le hn hD u hu
  have hk6 := (kN_fin u (by omega)).2
  have ev := vV_eq (D := dN s) hn h0 (show u < 64 by omega)
  unfold vs at ev
  obtain ⟨l1, l2, l3⟩ := lo_fin u (by omega) h0
  have lN : lo u < n := bitn_fin n (by omega) u hu _ l1 l2
  have ha : (if al (vV (dN s) n) (rm u (lo u)) < cm (dN s) (vV (dN s) n) u (lo u) n then (-5 : Int32) else nI (bq (dN s) (vV (dN s) n) u (lo u) n)) = fwF (fun q => decide (tg s n u (lo u) q = vV (dN s) n u)) (n - (lo u + 1)) (lo u + 1) := by
    by_cases c : al (vV (dN s) n) (rm u (lo u)) < cm (dN s) (vV (dN s) n) u (lo u) n
    · rw [if_pos c]
      refine (fwF_none _ _ (fun i h1 h2 => decide_eq_false ?_)).symm
      unfold tg
      split
      · rename_i b
        have := cm_le (D := dN s) (W := vV (dN s) n) (u := u) (p := lo u) n i (by omega) (by omega) b
        omega
      · omega
    · rw [if_neg c]
      obtain ⟨b1, b2, b3, b4, b5⟩ := bq_ok (D := dN s) (W := vV (dN s) n) (u := u) (p := lo u) n (by unfold xfar; omega)
      refine (fwF_first _ _ _ (by omega) (by omega) (decide_eq_true ?_) (fun i h1 h2 => decide_eq_false ?_)).symm
      · unfold tg
        rw [if_pos b3]
        omega
      · unfold tg
        split
        · rename_i b
          have := b5 i (by omega) h2 b
          omega
        · omega
  rw [ha]
  refine x_K.of (by decide) (by decide) rfl rfl rfl (r_Pairing_firstPartner_0 (by omega) _ _ ?_)
  have key : ∀ r j, j + r = n → lo u < j → fwF (fun q => decide (tg s n u (lo u) q = vV (dN s) n u)) r j = fwF (fun q => decide (tg s n u (lo u) q = vV (dN s) n u)) (n - (lo u + 1)) (lo u + 1) →
      x_P E d 33 4 [.ref 140, .ref 65, .int (nI u), .int (nI (lo u)), .int (nI j)] [] K (x_pu (.int (fwF (fun q => decide (tg s n u (lo u) q = vV (dN s) n u)) (n - (lo u + 1)) (lo u + 1))) K) := by
    intro r
    induction r with
    | zero =>
      intro j hj hlj hf
      refine r_Pairing_firstPartner_4 (by omega) _ _ _ ⟨fun _ => ⟨by rw [← hf]; rfl, rfl⟩, fun g => absurd ?_ g⟩
      rw [h65]
      exact nI_le (by omega) (by omega)
    | succ r ih =>
      intro j hj hlj hf
      refine r_Pairing_firstPartner_4 (by omega) _ _ _ ⟨fun g => absurd g ?_, fun _ => (c_together h (by omega) hlj (by omega) l2 (fun x hx => hT x (by omega)) (by omega)).pu (r_Pairing_firstPartner_14 (by omega) _ _ _ _ ?_)⟩
      · rw [h65]
        exact nI_ge (by omega) (by omega)
      rw [nI_clamp (by omega), hT u (Nat.le_refl _), nI_1]
      rw [fwF] at hf
      have htg : tg s n u (lo u) j < 1000 := by
        unfold tg
        split
        · have q1 := (rm_fin u (by omega) (lo u) l1).2.1
          have q2 := (rm_fin (rm u (lo u)) (by omega) j (by omega)).2.1
          have := vV_le hn hD (rm (rm u (lo u)) j) (by omega)
          have := (kN_fin (rm (rm u (lo u)) j) (by omega)).2
          have := hD (lo u) j lN (by omega)
          omega
        · omega
      have he := nI_eq (a := tg s n u (lo u) j) (b := vV (dN s) n u) (by omega) (by omega)
      refine ⟨vp_in_nI (by omega) (by decide), fun g => ⟨?_, rfl⟩, fun g => ih (j + 1) (by omega) (by omega) ?_⟩
      · rw [if_pos (decide_eq_true (he.mp g))] at hf
        rw [← hf]
      · rw [if_neg (by rw [decide_eq_false (fun z => g (he.mpr z))]; decide)] at hf
        exact hf
  rw [nI_1]
  exact key (n - (lo u + 1)) (lo u + 1) (by omega) (by omega) rfl
theorem c_partner {K : Nat → Nat → Int32} {P k : Nat} (h : RW K 65 s n w) (hP : P < 2 ^ n) (hk : k < 6) (hT : ∀ x, x ≤ P → K 141 x = nI (vV (dN s) n x)) (L0 : Nat → Int32) (hd : 6 ≤ d) :
    x_K E d 32 [.ref 140, .ref 65, .int (nI P), .int (nI k)] K (x_pu (.int (if P.testBit k = true then rsp (fL (dN s) n 6 P L0 k) else (-5 : Int32))) K) := by
  have hn := h.1.1
  have hp2 : 2 ^ n ≤ 64 := Nat.pow_le_pow_right (n := 2) (by decide) hn
  have hD := tb_u8 h
  refine x_K.of (by decide) (by decide) rfl rfl rfl (r_Pairing_partner_0 (by omega) _ _ ?_)
  have key : ∀ f i u (L : Nat → Int32), i + f = 6 → u ≤ P → kN u ≤ f → (if u.testBit k = true then rsp (fL (dN s) n f u L k) else (-5 : Int32)) = (if P.testBit k = true then rsp (fL (dN s) n 6 P L0 k) else (-5 : Int32)) →
      x_P E d 32 4 [.ref 140, .ref 65, x_jk, .int (nI k), .int (nI u), .int (nI i), x_jk, x_jk] [] K (x_pu (.int (if P.testBit k = true then rsp (fL (dN s) n 6 P L0 k) else (-5 : Int32))) K) := by
    intro f
    induction f with
    | zero =>
      intro i u L hi huP hkn hf
      have hu0 : u = 0 := (kN_0 u (by omega)).mp (by omega)
      rw [hu0, if_neg (by simp)] at hf
      exact r_Pairing_partner_4 (by omega) _ _ _ ⟨fun _ => ⟨by rw [← hf], rfl⟩, fun g => absurd (nI_le (show 6 ≤ i by omega) (by omega)) g⟩
    | succ f ih =>
      intro i u L hi huP hkn hf
      refine r_Pairing_partner_4 (by omega) _ _ _ ⟨fun g => absurd g (nI_ge (show i < 6 by omega) (by decide)), fun _ => ⟨fun g => ?_, fun g => ?_⟩⟩
      · have hu0 : u = 0 := (nI_eq (b := 0) (by omega) (by omega)).mp g
        rw [hu0, if_neg (by simp)] at hf
        exact ⟨by rw [← hf], rfl⟩
      have h0 : 0 < u := by
        rcases Nat.eq_zero_or_pos u with e | e
        · exact absurd (by rw [e]; rfl) g
        · exact e
      have hV := vV_le hn hD u (by omega)
      have hk6 := (kN_fin u (by omega)).2
      have ev := vV_eq (D := dN s) hn h0 (show u < 64 by omega)
      unfold vs at ev
      obtain ⟨l1, l2, l3⟩ := lo_fin u (by omega) h0
      obtain ⟨_, r2, r3, r4⟩ := rm_fin u (by omega) (lo u) l1
      obtain ⟨r3, r5⟩ := r3 l2
      refine (c_ntz h0 (by omega) (by omega)).pu (r_Pairing_partner_11 (by omega) _ _ _ _ ((c_firstP h h0 (by omega) (fun x hx => hT x (by omega)) (by omega)).pu ?_))
      by_cases c : al (vV (dN s) n) (rm u (lo u)) < cm (dN s) (vV (dN s) n) u (lo u) n
      · rw [if_pos c]
        have hF : fL (dN s) n (f + 1) u L = fL (dN s) n f (rm u (lo u)) (su L (lo u) (9 : Int32)) := by
          rw [fL, if_neg (by omega), if_pos c]
        rw [hF] at hf
        refine r_Pairing_partner_17 (by omega) _ _ _ _ _ ⟨fun g => ⟨?_, rfl⟩, fun g => ⟨fun g2 => absurd g2.symm (nI_ne_neg (by omega) (by decide)), fun _ z hz => ?_⟩⟩
        · have e : lo u = k := (nI_eq (by omega) (by omega)).mp g
          rw [← hf, if_pos (by rw [← e]; exact l2), fL_out hn hD hk f _ _ (by omega) (by rw [r4 k hk, e, decide_eq_false (by simp), Bool.and_false]), e, su_eq]
          rfl
        · have e : k ≠ lo u := fun e => g (by rw [e])
          rw [if_neg (by decide)] at hz
          rw [hz, rmz_fin u (by omega) (lo u) l1, nI_1]
          refine ih (i + 1) _ (su L (lo u) (9 : Int32)) (by omega) (by omega) (by omega) ?_
          rw [← hf, r4 k hk, decide_eq_true e, Bool.and_true]
      · rw [if_neg c]
        obtain ⟨b1, b2, b3, b4, b5⟩ := bq_ok (D := dN s) (W := vV (dN s) n) (u := u) (p := lo u) n (by unfold xfar; omega)
        have hF : fL (dN s) n (f + 1) u L = fL (dN s) n f (rm (rm u (lo u)) (bq (dN s) (vV (dN s) n) u (lo u) n)) (su (su L (lo u) (nI (bq (dN s) (vV (dN s) n) u (lo u) n))) (bq (dN s) (vV (dN s) n) u (lo u) n) (nI (lo u))) := by
          rw [fL, if_neg (by omega), if_neg c]
        generalize bq (dN s) (vV (dN s) n) u (lo u) n = q at hF b1 b2 b3 b4 b5 ⊢
        obtain ⟨_, q2, q3, q4⟩ := rm_fin (rm u (lo u)) (by omega) q (by omega)
        obtain ⟨q3, q5⟩ := q3 (by rw [r4 q (by omega), b3, decide_eq_true (by omega)]; rfl)
        have hbk : (rm (rm u (lo u)) q).testBit k = (u.testBit k && decide (k ≠ lo u) && decide (k ≠ q)) := by rw [q4 k hk, r4 k hk]
        rw [hF] at hf
        refine r_Pairing_partner_17 (by omega) _ _ _ _ _ ⟨fun g => ⟨?_, rfl⟩, fun g => ⟨fun g2 => ⟨?_, rfl⟩, fun g2 z hz => ?_⟩⟩
        · have e : lo u = k := (nI_eq (by omega) (by omega)).mp g
          rw [← hf, if_pos (by rw [← e]; exact l2), fL_out hn hD hk f _ _ (by omega) (by rw [hbk, decide_eq_false (p := k ≠ lo u) (by simp [e])]; simp), su_ne (by omega), e, su_eq]
          unfold rsp
          rw [if_neg (fun z => by have := (nI_eq (b := 9) (by omega) (by omega)).mp z; omega)]
        · have e : q = k := (nI_eq (by omega) (by omega)).mp g2
          rw [← hf, if_pos (by rw [← e]; exact b3), fL_out hn hD hk f _ _ (by omega) (by rw [hbk, decide_eq_false (p := k ≠ q) (by simp [e])]; simp), e, su_eq]
          unfold rsp
          rw [if_neg (fun z => by have := (nI_eq (b := 9) (by omega) (by omega)).mp z; omega)]
        · have e : k ≠ lo u := fun e => g (by rw [e])
          have e2 : k ≠ q := fun e => g2 (by rw [e])
          rw [if_pos (nI_pos' (by omega))] at hz
          rw [hz, rm2_fin u (by omega) (lo u) l1 q (by omega), nI_1]
          refine ih (i + 1) _ (su (su L (lo u) (nI q)) q (nI (lo u))) (by omega) (by omega) (by omega) ?_
          rw [← hf, hbk, decide_eq_true e, decide_eq_true e2, Bool.and_true, Bool.and_true]
  have kk := key 6 0 P L0 (by omega) (Nat.le_refl _) (kN_fin P (by omega)).2 rfl
  rw [nI_0] at kk
  exact kk
end WKD
