/-! ===== walk: the model's search ===== -/
theorem fL_0 {D : Nat → Nat → Nat} {n : Nat} {L : Nat → Int32} : ∀ k, fL D n k 0 L = L
  | 0 => rfl
  | k + 1 => by
    unfold fL
    rw [if_pos rfl]
theorem fL_congr {D : Nat → Nat → Nat} {n : Nat} : ∀ f u (L L' : Nat → Int32), (∀ i, i < 6 → L i = L' i) → ∀ i, i < 6 → fL D n f u L i = fL D n f u L' i
  | 0, _, _, _, h, i, hi => h i hi
  | f + 1, u, L, L', h, i, hi => by
    unfold fL
    by_cases h0 : u = 0
    · rw [if_pos h0, if_pos h0]
      exact h i hi
    rw [if_neg h0, if_neg h0]
    by_cases c : al (vV D n) (rm u (lo u)) < cm D (vV D n) u (lo u) n
    · rw [if_pos c, if_pos c]
      refine fL_congr f _ _ _ (fun j hj => ?_) i hi
      unfold su
      split
      · rfl
      · exact h j hj
    · rw [if_neg c, if_neg c]
      refine fL_congr f _ _ _ (fun j hj => ?_) i hi
      unfold su
      split
      · rfl
      · split
        · rfl
        · exact h j hj
/-- who is without another: the men of u -/
def lnR (L : Nat → Int32) (u : Nat) : Prop := ∀ p, p < 6 → (L p = (-1 : Int32) ↔ u.testBit p = true)
/-- what the search leaves -/
def wkQ (s : Nat → Int32) (n k u sum N : Nat) (K : Nat → Nat → Int32) : Option Value → (Nat → Nat → Int32) → Prop := fun v K2 => v = none ∧ K2 143 = s ∧ K2 148 = K 148 ∧ K2 142 14 = nI (min N (sum + vV (dN s) n u)) ∧ (∀ i, i < 6 → K2 149 i = if sum + vV (dN s) n u < N then fL (dN s) n k u (K 148) i else K 149 i) ∧ (∀ j, j ≠ 14 → K2 142 j = K 142 j) ∧ kp [142, 148, 149] K K2
section WKM
variable {E : XE} {s : Nat → Int32} {n : Nat}
theorem m_first {d u : Nat} {K : Nat → Nat → Int32} (hn : n ≤ 6) (hu : u < 2 ^ n) (h31 : K 143 31 = nI n) (hL : lnR (K 148) u) (hp : ∀ p, p < n → u.testBit p = true → K 143 (19 + p) = 0) (hd : 1 ≤ d) :
    x_K E d 155 [.ref 142] K (x_pu (.int (if u = 0 then (-1 : Int32) else nI (lo u))) K) := by
  have hp2 : 2 ^ n ≤ 64 := Nat.pow_le_pow_right (n := 2) (by decide) hn
  refine x_K.of (by decide) (by decide) rfl rfl rfl (r_M_firstWithout_0 (by omega) ?_)
  have key : ∀ r j, j + r = n → (∀ i, i < j → u.testBit i = false) → x_P E d 155 2 [.ref 142, .int (nI j)] [] K (x_pu (.int (if u = 0 then (-1 : Int32) else nI (lo u))) K) := by
    intro r
    induction r with
    | zero =>
      intro j hj hb
      refine r_M_firstWithout_2 (by omega) _ ⟨fun _ => ⟨?_, rfl⟩, fun g => absurd ?_ g⟩
      · rcases Nat.eq_zero_or_pos u with e | e
        · rw [if_pos e]
        · obtain ⟨l1, l2, l3⟩ := lo_fin u (by omega) e
          have := bitn_fin n (by omega) u hu _ l1 l2
          rw [hb _ (by omega)] at l2
          exact absurd l2 (by decide)
      · rw [h31]
        exact nI_le (by omega) (by omega)
    | succ r ih =>
      intro j hj hb
      have nx : u.testBit j = false → x_P E d 155 2 [.ref 142, .int (nI j + 1)] [] K (x_pu (.int (if u = 0 then (-1 : Int32) else nI (lo u))) K) := fun g => by
        rw [nI_1]
        refine ih (j + 1) (by omega) (fun i hi => ?_)
        by_cases e : i = j
        · rw [e]; exact g
        · exact hb i (by omega)
      refine r_M_firstWithout_2 (by omega) _ ⟨fun g => absurd g ?_, fun _ => ⟨vi_c (c' := 19) rfl (by omega) (by decide), ?_⟩⟩
      · rw [h31]
        exact nI_ge (by omega) (by omega)
      rw [ix_c (c := 19) (c' := 19) rfl (by omega), nI_clamp (by omega)]
      refine ⟨fun _ => ⟨vp_in_nI (by omega) (by decide), fun g => ⟨?_, rfl⟩, fun g => nx ?_⟩, fun g => nx ?_⟩
      · have hbj := (hL j (by omega)).mp g
        have e : 0 < u := by
          rcases Nat.eq_zero_or_pos u with e | e
          · rw [e] at hbj
            exact absurd hbj (by simp)
          · exact e
        obtain ⟨l1, l2, l3⟩ := lo_fin u (by omega) e
        rw [if_neg (by omega)]
        have : lo u = j := by
          rcases Nat.lt_trichotomy (lo u) j with g | g | g
          · rw [hb _ g] at l2
            exact absurd l2 (by decide)
          · exact g
          · rw [l3 j g] at hbj
            exact absurd hbj (by decide)
        rw [this]
      · cases e : u.testBit j
        · rfl
        · exact absurd ((hL j (by omega)).mpr e) g
      · cases e : u.testBit j
        · rfl
        · exact absurd (hp j (by omega) e) g
  have kk := key n 0 (by omega) (fun i hi => absurd hi (by omega))
  rw [nI_0] at kk
  exact kk
theorem m_walks0 {k d sum N : Nat} {K : Nat → Nat → Int32} (hn : n ≤ 6) (hd : 4 ≤ d) (h31 : s 31 = nI n) (hs : K 143 = s) (hL : lnR (K 148) 0) (hN : K 142 14 = nI N) (hNx : N ≤ xfar) (hsum : sum ≤ 100) {l : Int32} :
    x_K E d 156 [.ref 142, .int (nI sum), .int l] K (wkQ s n k 0 sum N K) := by
  have hx : xfar = 1000000000 := rfl
  refine x_K.of (by decide) (by decide) rfl rfl rfl (r_M_walksFrom_0 (by omega) _ _ ((m_first (n := n) (u := 0) hn (Nat.two_pow_pos n) (by rw [hs]; exact h31) hL (fun p _ g => absurd g (by simp)) (by omega)).pu ?_))
  rw [if_pos rfl]
  refine r_M_walksFrom_2 (by omega) _ _ _ ⟨fun _ z hz I5 e5 => ?_, fun g => absurd rfl g⟩
  have hle := nI_leI (a := N) (b := sum) (by omega) (by omega)
  rw [hN] at hz ⊢
  by_cases c : N ≤ sum
  · rw [if_neg (fun g => g (hle.mpr c))] at hz
    rw [x_bi_f (fun g => g (hle.mpr c))]
    refine r_M_walksFrom_24 (by omega) _ _ ⟨fun g => absurd g (by decide), fun _ => ⟨fun _ => ?_, fun g => absurd rfl g⟩⟩
    refine ⟨rfl, by rw [e5, up_ne (by decide)]; exact hs, by rw [e5, up_ne (by decide)], ?_, fun i hi => ?_, fun j hj => ?_, by rw [e5]; exact kp.up (by simp)⟩
    · rw [e5, up_su, su_eq, hz, vV_0, show min N (sum + 0) = N by omega]
    · rw [vV_0, if_neg (by omega), e5, up_ne (by decide)]
    · rw [e5, up_su, su_ne hj]
  · rw [if_pos (fun g => c (hle.mp g))] at hz
    rw [x_bi_t (c := ¬ nI N ≤ nI sum) (fun g => c (hle.mp g))]
    have key : ∀ r j (K2 : Nat → Nat → Int32), j + r = 6 → (∀ i, i < j → K2 149 i = K 148 i) → kp [149] I5 K2 → x_P E d 156 24 [.ref 142, x_jk, x_jk, x_jk, .int 1, .int (nI j)] [] K2 (wkQ s n k 0 sum N K) := by
      intro r
      induction r with
      | zero =>
        intro j K2 hj h1 k1
        refine r_M_walksFrom_24 (by omega) _ _ ⟨fun _ => ?_, fun g => absurd (nI_le (show 6 ≤ j by omega) (by omega)) g⟩
        refine ⟨rfl, by rw [k1 143 (by simp), e5, up_ne (by decide)]; exact hs, by rw [k1 148 (by simp), e5, up_ne (by decide)], ?_, fun i hi => ?_, fun j hj => ?_, ?_⟩
        · rw [k1 142 (by simp), e5, up_su, su_eq, hz, vV_0, show min N (sum + 0) = sum by omega]
        · rw [vV_0, if_pos (by omega), fL_0]
          exact h1 i (by omega)
        · rw [k1 142 (by simp), e5, up_su, su_ne hj]
        · exact kp.trans (I1 := I5) (by rw [e5]; exact kp.up (by simp)) (k1.mono (by simp))
      | succ r ih =>
        intro j K2 hj h1 k1
        refine r_M_walksFrom_24 (by omega) _ _ ⟨fun g => absurd g (nI_ge (show j < 6 by omega) (by decide)), fun _ => ⟨fun g => absurd g (by decide), fun _ => ⟨vp_in_nI (by omega) (by decide), vp_in_nI (by omega) (by decide), fun I6 e6 => ?_⟩⟩⟩
        rw [nI_clamp (by omega)] at e6
        rw [nI_1]
        refine ih (j + 1) I6 (by omega) (fun i hi => ?_) (k1.trans (by rw [e6]; exact kp.up (by simp)))
        rw [e6, up_su]
        by_cases e : i = j
        · rw [e, su_eq, k1 148 (by simp), e5, up_ne (by decide)]
        · rw [su_ne e]
          exact h1 i (by omega)
    have kk := key 6 0 I5 (by omega) (fun i hi => absurd hi (by omega)) kp.rfl'
    rw [nI_0] at kk
    exact kk
theorem m_walks (hn : n ≤ 6) (h31 : s 31 = nI n) (h8 : ∀ p, p < n → u8 (s (1 + p))) : ∀ k d u sum N (K : Nat → Nat → Int32), kN u ≤ k → u < 2 ^ n → k + 4 ≤ d → K 143 = s → lnR (K 148) u → (∀ p, p < n → u.testBit p = true → s (19 + p) = 0) → K 142 14 = nI N → N ≤ xfar → sum + 8 * k ≤ 100 →
    x_K E d 156 [.ref 142, .int (nI sum), .int (nI (kN u % 2))] K (wkQ s n k u sum N K) := by
  have hp2 : 2 ^ n ≤ 64 := Nat.pow_le_pow_right (n := 2) (by decide) hn
  have hx : xfar = 1000000000 := rfl
  have hD : ∀ p q, p < n → q < n → dN s p q ≤ 8 := fun p q a b => (dN_ok (h8 p a) (h8 q b)).2
  intro k
  induction k with
  | zero =>
    intro d u sum N K hk hu hd hs hL hpr hN hNx hsum
    have u0 : u = 0 := (kN_0 u (by omega)).mp (by omega)
    subst u0
    exact m_walks0 hn (by omega) h31 hs hL hN hNx (by omega)
  | succ k ih =>
    intro d u sum N K hk hu hd hs hL hpr hN hNx hsum
    rcases Nat.eq_zero_or_pos u with u0 | u0
    · subst u0
      exact m_walks0 hn (by omega) h31 hs hL hN hNx (by omega)
    obtain ⟨l1, l2, l3⟩ := lo_fin u (by omega) u0
    have lN : lo u < n := bitn_fin n (by omega) u hu _ l1 l2
    obtain ⟨_, r2, r3, r4⟩ := rm_fin u (by omega) (lo u) l1
    obtain ⟨r3, r5⟩ := r3 l2
    have hk6 := (kN_fin u (by omega)).2
    have hV := vV_le hn hD
    have ev := vV_eq (D := dN s) hn u0 (show u < 64 by omega)
    unfold vs at ev
    have hfL : ∀ L, fL (dN s) n (k + 1) u L = if al (vV (dN s) n) (rm u (lo u)) < cm (dN s) (vV (dN s) n) u (lo u) n then fL (dN s) n k (rm u (lo u)) (su L (lo u) (9 : Int32)) else fL (dN s) n k (rm (rm u (lo u)) (bq (dN s) (vV (dN s) n) u (lo u) n)) (su (su L (lo u) (nI (bq (dN s) (vV (dN s) n) u (lo u) n))) (bq (dN s) (vV (dN s) n) u (lo u) n) (nI (lo u))) := fun L => by
      rw [fL, if_neg (by omega)]
    have hLp : K 148 (lo u) = (-1 : Int32) := (hL _ l1).mpr l2
    refine x_K.of (by decide) (by decide) rfl rfl rfl (r_M_walksFrom_0 (by omega) _ _ ((m_first (n := n) (u := u) hn hu (by rw [hs]; exact h31) hL (by rw [hs]; exact hpr) (by omega)).pu ?_))
    rw [if_neg (by omega)]
    refine r_M_walksFrom_2 (by omega) _ _ _ ⟨fun g => absurd g (nI_ne_neg (by omega) (by decide)), fun _ => ?_⟩
    generalize hp : lo u = p at *
    have key : ∀ r j (K2 : Nat → Nat → Int32), j + r = n → p < j → (∀ i, i ≠ p → K2 148 i = K 148 i) → K2 143 = s → K2 142 14 = nI (min N (sum + cm (dN s) (vV (dN s) n) u p j)) →
        (∀ i, i < 6 → K2 149 i = if sum + cm (dN s) (vV (dN s) n) u p j < N then fL (dN s) n k (rm (rm u p) (bq (dN s) (vV (dN s) n) u p j)) (su (su (K 148) p (nI (bq (dN s) (vV (dN s) n) u p j))) (bq (dN s) (vV (dN s) n) u p j) (nI p)) i else K 149 i) →
        (∀ j, j ≠ 14 → K2 142 j = K 142 j) → kp [142, 148, 149] K K2 →
        x_P E d 156 44 [.ref 142, .int (nI sum), .int (nI (kN u % 2)), .int (nI p), .int (nI j), x_jk] [] K2 (wkQ s n (k + 1) u sum N K) := by
      intro r
      induction r with
      | zero =>
        intro j K2 hj hpj b148 b143 b14 b149 b142 k2
        have ej : j = n := by omega
        subst ej
        refine r_M_walksFrom_44 (by omega) _ _ _ _ ⟨fun _ => ⟨vp_in_nI (by omega) (by decide), fun I3 e3 => ?_⟩, fun g => absurd ?_ g⟩
        · rw [nI_clamp (by omega)] at e3
          have g3 : kp [148] K2 I3 := by rw [e3]; exact kp.up (by simp)
          have fin148 : ∀ I6 : Nat → Nat → Int32, I6 148 = su (I3 148) p (-1) → I6 148 = K 148 := fun I6 e => by
            rw [e, e3, up_su]
            funext i
            by_cases c : i = p
            · rw [c, su_eq, hLp]
            · rw [su_ne c, su_ne c, b148 i c]
          refine ⟨fun g => ⟨vp_in_nI (by omega) (by decide), fun I6 e6 => ?_⟩, fun g => ?_⟩
          · rw [nI_clamp (by omega)] at e6
            have par : kN u % 2 = 0 := by
              have := (nI_leI (a := kN u % 2) (b := 0) (by omega) (by omega)).mp g
              omega
            have ea : al (vV (dN s) j) (rm u p) = xfar := if_neg (by omega)
            have hc := cm_far (D := dN s) (W := vV (dN s) j) (u := u) (p := p) j
            have hvc : vV (dN s) j u = cm (dN s) (vV (dN s) j) u p j := by omega
            refine ⟨rfl, by rw [e6, up_ne (by decide), e3, up_ne (by decide)]; exact b143, fin148 I6 (by rw [e6, up_su]), ?_, fun i hi => ?_, fun q hq => ?_, ?_⟩
            · rw [e6, up_ne (by decide), e3, up_ne (by decide), b14, hvc]
            · rw [e6, up_ne (by decide), e3, up_ne (by decide), b149 i hi, hvc, hfL, if_neg (show ¬ (al (vV (dN s) j) (rm u p) < cm (dN s) (vV (dN s) j) u p j) by omega)]
            · rw [e6, up_ne (by decide), e3, up_ne (by decide)]
              exact b142 q hq
            · rw [e6, e3]
              exact (k2.trans (kp.up (by simp))).trans (kp.up (by simp))
          · have par : kN u % 2 = 1 := by
              rcases Nat.mod_two_eq_zero_or_one (kN u) with e | e
              · exact absurd (by rw [e]; decide) g
              · exact e
            have ea : al (vV (dN s) j) (rm u p) = vV (dN s) j (rm u p) := if_pos (by omega)
            rw [par, show nI 1 - 1 = nI (kN (rm u p) % 2) by rw [show kN (rm u p) % 2 = 0 by omega]; rfl]
            have hL3 : lnR (I3 148) (rm u p) := fun i hi => by
              rw [e3, up_su, r4 i hi]
              by_cases c : i = p
              · rw [c, su_eq, decide_eq_false (by simp), Bool.and_false]
                exact ⟨fun z => absurd z (by decide), fun z => absurd z (by decide)⟩
              · rw [su_ne c, b148 i c, decide_eq_true c, Bool.and_true]
                exact hL i hi
            refine (ih (d - 1) (rm u p) sum (min N (sum + cm (dN s) (vV (dN s) j) u p j)) I3 (by omega) (by omega) (by omega) (by rw [e3, up_ne (by decide)]; exact b143) hL3 (fun i hi hb => hpr i hi (by rw [r4 i (by omega)] at hb; exact (Bool.and_eq_true _ _ ▸ hb).1)) (by rw [e3, up_ne (by decide)]; exact b14) (by omega) (by omega)).mono (fun v K4 hv => ?_)
            obtain ⟨hv, c143, c148, c14, c149, c142, k4⟩ := hv
            rw [hv]
            refine r_M_walksFrom_102 (by omega) _ ⟨vp_in_nI (by omega) (by decide), fun I6 e6 => ?_⟩
            rw [nI_clamp (by omega)] at e6
            refine ⟨rfl, by rw [e6, up_ne (by decide)]; exact c143, fin148 I6 (by rw [e6, up_su, c148]), ?_, fun i hi => ?_, fun q hq => ?_, ?_⟩
            · rw [e6, up_ne (by decide), c14]
              congr 1
              omega
            · rw [e6, up_ne (by decide), c149 i hi, e3, up_ne (show (149 : Nat) ≠ 148 by decide), b149 i hi, hfL, up_su]
              have e148 : su (K2 148) p (9 : Int32) = su (K 148) p (9 : Int32) := by
                funext q
                by_cases c : q = p
                · rw [c, su_eq, su_eq]
                · rw [su_ne c, su_ne c, b148 q c]
              rw [e148]
              by_cases c1 : al (vV (dN s) j) (rm u p) < cm (dN s) (vV (dN s) j) u p j
              · rw [if_pos c1]
                by_cases c2 : sum + vV (dN s) j u < N
                · rw [if_pos c2, if_pos (by omega)]
                · rw [if_neg c2, if_neg (by omega), if_neg (by omega)]
              · rw [if_neg c1, if_neg (by omega), show vV (dN s) j u = cm (dN s) (vV (dN s) j) u p j by omega]
            · rw [e6, up_ne (by decide), c142 q hq, e3, up_ne (by decide)]
              exact b142 q hq
            · rw [e6]
              exact ((k2.trans (g3.mono (by simp))).trans k4).trans (kp.up (by simp))
        · rw [b143, h31]
          exact nI_le (by omega) (by omega)
      | succ r ih2 =>
        intro j K2 hj hpj b148 b143 b14 b149 b142 k2
        have ec : cm (dN s) (vV (dN s) n) u p (j + 1) = if p < j ∧ u.testBit j = true then min (cm (dN s) (vV (dN s) n) u p j) (vV (dN s) n (rm (rm u p) j) + dN s p j) else cm (dN s) (vV (dN s) n) u p j := rfl
        have eb : bq (dN s) (vV (dN s) n) u p (j + 1) = if (p < j ∧ u.testBit j = true) ∧ vV (dN s) n (rm (rm u p) j) + dN s p j < cm (dN s) (vV (dN s) n) u p j then j else bq (dN s) (vV (dN s) n) u p j := rfl
        have skip : u.testBit j = false → x_P E d 156 44 [.ref 142, .int (nI sum), .int (nI (kN u % 2)), .int (nI p), .int (nI j + 1), x_jk] [] K2 (wkQ s n (k + 1) u sum N K) := fun g => by
          rw [nI_1]
          rw [if_neg (by rw [g]; simp)] at ec eb
          exact ih2 (j + 1) K2 (by omega) (by omega) b148 b143 (by rw [ec]; exact b14) (by rw [ec, eb]; exact b149) b142 k2
        refine r_M_walksFrom_44 (by omega) _ _ _ _ ⟨fun g => absurd g ?_, fun _ => ⟨vi_c (c' := 19) rfl (by omega) (by decide), ?_⟩⟩
        · rw [b143, h31]
          exact nI_ge (by omega) (by omega)
        rw [ix_c (c := 19) (c' := 19) rfl (by omega), nI_clamp (by omega), nI_clamp (by omega), b143]
        refine ⟨fun _ => ⟨vp_in_nI (by omega) (by decide), fun g => ?_, fun g => skip ?_⟩, fun g => skip ?_⟩
        · have hbj : u.testBit j = true := (hL j (by omega)).mp (by rw [← b148 j (by omega)]; exact g)
          rw [if_pos ⟨hpj, hbj⟩] at ec
          obtain ⟨_, q2, q3, q4⟩ := rm_fin (rm u p) (by omega) j (by omega)
          obtain ⟨q3, q5⟩ := q3 (by rw [r4 j (by omega), hbj, decide_eq_true (by omega)]; rfl)
          refine ⟨vp_in_nI (by omega) (by decide), fun I12 e12 => ⟨vp_in_nI (by omega) (by decide), fun I14 e14 => ?_⟩⟩
          have e148 : I14 148 = su (su (K 148) p (nI j)) j (nI p) := by
            rw [e14, up_su, e12, up_su]
            funext i
            by_cases c : i = j
            · rw [c, su_eq, su_eq]
            · rw [su_ne c, su_ne c]
              by_cases c2 : i = p
              · rw [c2, su_eq, su_eq]
              · rw [su_ne c2, su_ne c2, b148 i c2]
          have g14 : kp [148] K2 I14 := by
            rw [e14, e12]
            exact (kp.up (by simp)).trans (kp.up (by simp))
          have e143 : I14 143 = s := (g14 143 (by simp)).trans b143
          refine (c_apartOf (by omega) (by omega) (by omega)).pu (r_M_walksFrom_79 (by omega) _ _ _ _ _ _ ?_)
          rw [e143, (dN_ok (h8 p (by omega)) (h8 j (by omega))).1, nI_add, show kN u % 2 = kN (rm (rm u p) j) % 2 by omega]
          have hDpj := hD p j (by omega) (by omega)
          have hL14 : lnR (I14 148) (rm (rm u p) j) := fun i hi => by
            rw [e148, q4 i hi, r4 i hi]
            by_cases c : i = j
            · rw [c, su_eq, decide_eq_false (p := j ≠ j) (by simp), Bool.and_false]
              exact ⟨fun z => absurd z (nI_ne_neg (by omega) (by decide)), fun z => absurd z (by decide)⟩
            · rw [su_ne c, decide_eq_true (p := i ≠ j) c, Bool.and_true]
              by_cases c2 : i = p
              · rw [c2, su_eq, decide_eq_false (p := p ≠ p) (by simp), Bool.and_false]
                exact ⟨fun z => absurd z (nI_ne_neg (by omega) (by decide)), fun z => absurd z (by decide)⟩
              · rw [su_ne c2, decide_eq_true (p := i ≠ p) c2, Bool.and_true]
                exact hL i hi
          refine (ih (d - 1) (rm (rm u p) j) (sum + dN s p j) (min N (sum + cm (dN s) (vV (dN s) n) u p j)) I14 (by omega) (by omega) (by omega) e143 hL14 (fun i hi hb => hpr i hi (by
            rw [q4 i (by omega), r4 i (by omega)] at hb
            cases e : u.testBit i
            · rw [e] at hb
              exact absurd hb (by simp)
            · rfl)) (by rw [g14 142 (by simp)]; exact b14) (by omega) (by omega)).mono (fun v K4 hv => ?_)
          obtain ⟨hv, c143, c148, c14, c149, c142, k4⟩ := hv
          rw [hv, show kN (rm (rm u p) j) % 2 = kN u % 2 by omega]
          refine r_M_walksFrom_82 (by omega) _ _ _ _ ⟨vp_in_nI (by omega) (by decide), fun I6 e6 => ?_⟩
          rw [nI_clamp (by omega)] at e6
          rw [nI_1]
          refine ih2 (j + 1) I6 (by omega) (by omega) (fun i hi => ?_) (by rw [e6, up_ne (by decide)]; exact c143) ?_ (fun i hi => ?_) (fun q hq => ?_) ?_
          · rw [e6, up_su, c148, e148]
            by_cases c : i = j
            · rw [c, su_eq]
              exact ((hL j (by omega)).mpr hbj).symm
            · rw [su_ne c, su_ne c, su_ne hi]
          · rw [e6, up_ne (by decide), c14, ec]
            congr 1
            omega
          · rw [e6, up_ne (by decide), c149 i hi, g14 149 (by simp), b149 i hi, ec, eb, e148]
            by_cases c1 : vV (dN s) n (rm (rm u p) j) + dN s p j < cm (dN s) (vV (dN s) n) u p j
            · rw [if_pos (⟨⟨hpj, hbj⟩, c1⟩ : (p < j ∧ u.testBit j = true) ∧ _)]
              by_cases c2 : sum + dN s p j + vV (dN s) n (rm (rm u p) j) < N
              · rw [if_pos (by omega), if_pos (by omega)]
              · rw [if_neg (by omega), if_neg (by omega), if_neg (by omega)]
            · rw [if_neg (fun z : (p < j ∧ u.testBit j = true) ∧ _ => c1 z.2), if_neg (by omega), show min (cm (dN s) (vV (dN s) n) u p j) (vV (dN s) n (rm (rm u p) j) + dN s p j) = cm (dN s) (vV (dN s) n) u p j by omega]
          · rw [e6, up_ne (by decide), c142 q hq, g14 142 (by simp)]
            exact b142 q hq
          · rw [e6]
            exact ((k2.trans (g14.mono (by simp))).trans k4).trans (kp.up (by simp))
        · cases e : u.testBit j
          · rfl
          · exact absurd ((b148 j (by omega)).trans ((hL j (by omega)).mpr e)) g
        · cases e : u.testBit j
          · rfl
          · exact absurd (hpr j (by omega) e) g
    rw [nI_1]
    have c0 : cm (dN s) (vV (dN s) n) u p (p + 1) = xfar := cm_lo _ (Nat.le_refl _)
    exact key (n - (p + 1)) (p + 1) K (by omega) (by omega) (fun _ _ => rfl) hs (by rw [c0, hN, show min N (sum + xfar) = N by omega]) (fun i _ => by rw [c0, if_neg (by omega)]) (fun _ _ => rfl) kp.rfl'
end WKM
