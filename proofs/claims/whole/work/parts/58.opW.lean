/-! ===== one call to both: walk ===== -/
theorem cntB_n {c : Nat → Bool} {n : Nat} : ∀ k, cntB (fun p => decide (p < n) && c p) (n + k) = cntB c n
  | 0 => cntB_congr n (fun p hp => by rw [decide_eq_true hp, Bool.true_and])
  | k + 1 => by
    show cntB (fun p => decide (p < n) && c p) (n + k) + (if (decide (n + k < n) && c (n + k)) = true then 1 else 0) = _
    rw [cntB_n k, if_neg (show ¬ ((decide (n + k < n) && c (n + k)) = true) by rw [decide_eq_false (by omega), Bool.false_and]; decide)]
    rfl
theorem lt_m1 {a : Int32} (h : a < 0) (h1 : ¬ a = (-1 : Int32)) : a < (-1 : Int32) := by
  have : ¬ a.toInt = -1 := fun e => h1 (Int32.toInt_inj.mp (e.trans (by decide)))
  have e1 : (-1 : Int32).toInt = -1 := by decide
  have e0 : (0 : Int32).toInt = 0 := by decide
  rw [Int32.lt_iff_toInt_lt] at h ⊢
  omega
section OPW
variable {E : XE} {d : Nat} {I : Nat → Nat → Int32} {s : Nat → Int32} {n w : Nat}
/-- the present as bits -/
theorem prs_of (h : RW I 65 s n w) : ∃ P, P < 2 ^ n ∧ prF s n = nI P ∧ (∀ p, p < 6 → (P.testBit p = true ↔ p < n ∧ s (19 + p) = 0)) ∧ kN P = cntB (fun k => decide (s (19 + k) = 0)) n := by
  have hn := h.1.1
  have hp2 : 2 ^ n ≤ 64 := Nat.pow_le_pow_right (n := 2) (by decide) hn
  obtain ⟨m, hm, hk⟩ := mask_of (fun k => decide (s (19 + k) = 0))
  have e : prF s n = nI (m % 2 ^ n) := by
    unfold prF
    rw [orF_congr (c := fun k => m.testBit k) n (fun k hkn => hk k (by omega)), orF_fin n (by omega) m hm]
  have hlt : m % 2 ^ n < 2 ^ n := Nat.mod_lt _ (Nat.two_pow_pos n)
  refine ⟨m % 2 ^ n, hlt, e, fun p hp => ?_, ?_⟩
  · rw [Nat.testBit_mod_two_pow, ← hk p hp, Bool.and_eq_true, decide_eq_true_iff, decide_eq_true_iff]
  · have h1 := (cnt_eq (c := fun k => decide (s (19 + k) = 0)) hn).1
    have h2 := (kN_fin (m % 2 ^ n) (by omega))
    have h3 : orF (fun k => decide (s (19 + k) = 0)) n = nI (m % 2 ^ n) := e
    rw [h3, h2.1] at h1
    have := cntB_le (c := fun k => decide (s (19 + k) = 0)) n
    exact (nI_eq (by omega) (by omega)).mp h1
theorem m_looks {J : Nat → Nat → Int32} {P : Nat} (hJ : J 143 = s) (h : RW I 65 s n w) (hP : P < 2 ^ n) (hb : ∀ p, p < 6 → (P.testBit p = true ↔ p < n ∧ s (19 + p) = 0)) (hc : kN P = cntB (fun k => decide (s (19 + k) = 0)) n) (hd : 12 ≤ d) :
    x_K E d 157 [.ref 142] J (fun v K => v = none ∧ K 143 = s ∧ K 142 14 = nI (vV (dN s) n P) ∧ (∀ i, i < 6 → K 149 i = fL (dN s) n 6 P (fun p => if P.testBit p = true then (-1 : Int32) else (9 : Int32)) i) ∧ (∀ j, j ≠ 14 → K 142 j = J 142 j) ∧ kp [142, 148, 149] J K) := by
  have hn := h.1.1
  have h31 := h.1.2.2.1
  have hp2 : 2 ^ n ≤ 64 := Nat.pow_le_pow_right (n := 2) (by decide) hn
  have hx : xfar = 1000000000 := rfl
  have hD := tb_u8 h
  have hV := vV_le hn hD P hP
  have hk6 := (kN_fin P (by omega)).2
  refine x_K.of (by decide) (by decide) rfl rfl rfl (r_M_looksForWalk_0 (by omega) ?_)
  have key : ∀ r j (K : Nat → Nat → Int32), j + r = 6 → (∀ i, i < j → K 148 i = if P.testBit i = true then (-1 : Int32) else (9 : Int32)) → kp [148] J K →
      x_P E d 157 4 [.ref 142, .int (nI (cntB (fun p => decide (p < n) && decide (s (19 + p) = 0)) j)), .int (nI j), x_jk] [] K (fun v K => v = none ∧ K 143 = s ∧ K 142 14 = nI (vV (dN s) n P) ∧ (∀ i, i < 6 → K 149 i = fL (dN s) n 6 P (fun p => if P.testBit p = true then (-1 : Int32) else (9 : Int32)) i) ∧ (∀ j, j ≠ 14 → K 142 j = J 142 j) ∧ kp [142, 148, 149] J K) := by
    intro r
    induction r with
    | zero =>
      intro j K hj hl k1
      have ej : j = 6 := by omega
      subst ej
      refine r_M_looksForWalk_4 (by omega) _ _ ⟨fun _ I2 e2 => ?_, fun g => absurd (nI_le (show 6 ≤ 6 by omega) (by decide)) g⟩
      have ecn := cntB_n (c := fun k => decide (s (19 + k) = 0)) (n := n) (6 - n)
      rw [show n + (6 - n) = 6 by omega] at ecn
      rw [ecn, ← hc, (par_fin (kN P) (by omega)).2]
      have e148 : I2 148 = K 148 := by rw [e2, up_ne (by decide)]
      refine (m_walks hn h31 (fun p hp => (h.2.1.1 p hp).2.2.2.2.1) 6 (d - 1) P 0 xfar I2 (by omega) hP (by omega) (by rw [e2, up_ne (by decide), k1 143 (by simp)]; exact hJ) (fun p hp => ?_) (fun p hp hbp => ((hb p (by omega)).mp hbp).2) (by rw [e2, up_su, su_eq]; rfl) (Nat.le_refl _) (by omega)).mono (fun v K2 hv => ?_)
      · rw [e148, hl p hp]
        cases P.testBit p
        · exact ⟨fun z => absurd z (by decide), fun z => absurd z (by decide)⟩
        · exact ⟨fun _ => rfl, fun _ => rfl⟩
      · obtain ⟨hv, c143, c148, c14, c149, c142, k2⟩ := hv
        rw [hv]
        refine r_M_looksForWalk_52 (by omega) ⟨rfl, c143, ?_, fun i hi => ?_, fun q hq => ?_, ?_⟩
        · rw [c14]
          congr 1
          omega
        · rw [c149 i hi, if_pos (by omega)]
          exact fL_congr 6 P _ _ (fun q hq => by rw [e148]; exact hl q hq) i hi
        · rw [c142 q hq, e2, up_su, su_ne hq, k1 142 (by simp)]
        · exact ((k1.mono (by simp)).trans (I1 := K) (by rw [show I2 = x_up K 142 14 (1000000000 : Int32) from e2] at k2; exact kp.trans (kp.up (by simp)) k2))
    | succ r ih =>
      intro j K hj hl k1
      refine r_M_looksForWalk_4 (by omega) _ _ ⟨fun g => absurd g (nI_ge (show j < 6 by omega) (by decide)), fun _ => ⟨fun _ => vi_c (c' := 19) rfl (by omega) (by decide), fun z hz => ⟨vp_in_nI (by omega) (by decide), fun I9 e9 => ?_⟩⟩⟩
      rw [ix_c (c := 19) (c' := 19) rfl (by omega), k1 143 (by simp), hJ, h31] at hz ⊢
      rw [nI_clamp (by omega)] at e9
      have hle := nI_leI (a := n) (b := j) (by omega) (by omega)
      have hcond : (¬ (nI n ≤ nI j) ∧ s (19 + j) = 0) ↔ P.testBit j = true := by
        rw [hb j (by omega), hle]
        constructor
        · intro ⟨a, b⟩
          exact ⟨by omega, b⟩
        · intro ⟨a, b⟩
          exact ⟨by omega, b⟩
      have ecj : nI (cntB (fun p => decide (p < n) && decide (s (19 + p) = 0)) j) + x_bi (¬ (nI n ≤ nI j) ∧ s (19 + j) = 0) = nI (cntB (fun p => decide (p < n) && decide (s (19 + p) = 0)) (j + 1)) := by
        show _ = nI (cntB _ j + _)
        rw [← nI_add]
        congr 1
        by_cases c : ¬ (nI n ≤ nI j) ∧ s (19 + j) = 0
        · rw [x_bi_t c]
          have c2 := (hb j (by omega)).mp (hcond.mp c)
          rw [if_pos (show (decide (j < n) && decide (s (19 + j) = 0)) = true by rw [decide_eq_true c2.1, decide_eq_true c2.2]; rfl)]
          rfl
        · rw [x_bi_f c, if_neg]
          · rfl
          · intro g
            have g : (decide (j < n) && decide (s (19 + j) = 0)) = true := g
            rw [Bool.and_eq_true, decide_eq_true_iff, decide_eq_true_iff] at g
            exact c (hcond.mpr ((hb j (by omega)).mpr g))
      rw [ecj, nI_1]
      refine ih (j + 1) I9 (by omega) (fun i hi => ?_) (k1.trans (by rw [e9]; exact kp.up (by simp)))
      rw [e9, up_su]
      by_cases e : i = j
      · rw [e, su_eq, hz]
        by_cases c : ¬ (nI n ≤ nI j) ∧ s (19 + j) = 0
        · rw [if_pos c, if_pos (hcond.mp c)]
        · rw [if_neg c, if_neg (fun g => c (hcond.mpr g))]
      · rw [su_ne e]
        exact hl i (by omega)
  have kk := key 6 0 J (by omega) (fun i hi => absurd hi (by omega)) kp.rfl'
  rw [nI_0] at kk
  exact kk
theorem op_walk {a1 : Int32} (h : RW I 65 s n w) (h0 : I 141 0 = 0) (hd : 20 ≤ d) : op2 E d I s 76 158 [.int a1] := by
  have hn := h.1.1
  have h31 := h.1.2.2.1
  have h65 := h.1.2.2.2.2.1
  have hp2 : 2 ^ n ≤ 64 := Nat.pow_le_pow_right (n := 2) (by decide) hn
  have hD := tb_u8 h
  obtain ⟨P, hP, eP, hb, hc⟩ := prs_of h
  have hV := vV_le hn hD P hP
  -- the class behind its table
  have cw : ∀ Q, (∀ K, RW K 65 s n w → (∀ x, x ≤ P → K 141 x = nI (vV (dN s) n x)) → ckp I K → x_P E d 76 20 [.ref 64, .int a1, .int (nI P)] [] K Q) → x_K E (d - 1) 61 [.ref 65] I (fun v I2 => x_P E d 76 13 [.ref 64, .int a1, x_jk] (v.toList ++ []) I2 Q) := by
    intro Q hQ
    refine (c_presentBits h (by omega)).pu ?_
    rw [eP]
    refine r_C_walk_13 (by omega) _ _ ((c_weigh h hP h0 (by omega)).mono (fun v K hv => ?_))
    obtain ⟨hv, hT, k1⟩ := hv
    rw [hv]
    refine hQ K (RW_kp (fun q a b c => k1 q (by simp; omega)) h) hT ⟨k1 64 (by simp), ?_, fun q h1 h2 h3 h4 => k1 q (by simp; omega)⟩
    rw [hT 0 (by omega), vV_0, h0]
    rfl
  have mw : ∀ (J : Nat → Nat → Int32), J 143 = s → ∀ Q, (∀ K, K 143 = s → K 142 14 = nI (vV (dN s) n P) → (∀ i, i < 6 → K 149 i = fL (dN s) n 6 P (fun p => if P.testBit p = true then (-1 : Int32) else (9 : Int32)) i) → mkp J K → x_P E d 158 11 [.ref 142, .int a1] [] K Q) → x_K E (d - 1) 157 [.ref 142] J (fun v I2 => x_P E d 158 11 [.ref 142, .int a1] (v.toList ++ []) I2 Q) := by
    intro J hJ Q hQ
    refine (m_looks hJ h hP hb hc (by omega)).mono (fun v K hv => ?_)
    obtain ⟨hv, c143, c14, c149, c142, k1⟩ := hv
    rw [hv]
    exact hQ K c143 c14 c149 ⟨fun q hq => k1 q (by simp; omega), k1 144 (by simp), k1 150 (by simp), c142 4 (by decide), c142 16 (by decide)⟩
  by_cases e1 : a1 = (-1 : Int32)
  · subst e1
    refine ⟨.int (nI (vV (dN s) n P)), s, n, w, x_K.of (by decide) (by decide) rfl rfl rfl (r_C_walk_0 (by omega) _ ⟨fun g => absurd g (by decide), fun _ => ⟨fun _ => cw _ (fun K hK hT k1 => r_C_walk_20 (by omega) _ _ ⟨fun _ => ⟨vp_in_nI (by omega) (by decide), ?_⟩, fun g => absurd rfl g⟩), fun g => absurd ?_ g⟩⟩), fun J hJ => x_K.of (by decide) (by decide) rfl rfl rfl (r_M_walk_0 (by omega) _ ⟨fun _ => mw J hJ _ (fun K c143 c14 c149 k1 => r_M_walk_11 (by omega) _ ⟨fun g => absurd rfl g, fun g => absurd rfl g, fun z hz => ⟨?_, c143, k1⟩⟩), fun g => absurd rfl g⟩)⟩
    · rw [nI_clamp (by omega), hT P (Nat.le_refl _)]
      exact ⟨rfl, hK, k1⟩
    · rw [h65]
      rw [Int32.lt_iff_toInt_lt, nI_toInt (by omega), show (-1 : Int32).toInt = -1 by decide]
      omega
    · rw [hz, if_pos rfl, c14]
  rcases mn_cases a1 hn with ⟨p, hp, rfl, hin⟩ | ⟨hno, hno2⟩
  · have ans : (if P.testBit p = true then rsp (fL (dN s) n 6 P (fun p => if P.testBit p = true then (-1 : Int32) else (9 : Int32)) p) else (-5 : Int32)) = rsp (fL (dN s) n 6 P (fun p => if P.testBit p = true then (-1 : Int32) else (9 : Int32)) p) := by
      cases c : P.testBit p
      · rw [fL_out hn hD (by omega) 6 P _ hP c]
        rw [c]
        rfl
      · rw [if_pos rfl]
    refine ⟨.int (rsp (fL (dN s) n 6 P (fun p => if P.testBit p = true then (-1 : Int32) else (9 : Int32)) p)), s, n, w, x_K.of (by decide) (by decide) rfl rfl rfl (r_C_walk_0 (by omega) _ ⟨fun g => absurd g ?_, fun _ => ⟨fun _ => cw _ (fun K hK hT k1 => r_C_walk_20 (by omega) _ _ ⟨fun g => absurd g e1, fun _ => (c_partner (k := p) hK hP (by omega) hT (fun p => if P.testBit p = true then (-1 : Int32) else (9 : Int32)) (by omega)).pu (r_C_walk_36 (by omega) _ ⟨by rw [ans], hK, k1⟩)⟩), fun g => absurd ?_ g⟩⟩), fun J hJ => x_K.of (by decide) (by decide) rfl rfl rfl (r_M_walk_0 (by omega) _ ⟨fun g => absurd g e1, fun _ => ?_⟩)⟩
    · rw [Int32.lt_iff_toInt_lt, nI_toInt (by omega), show (-1 : Int32).toInt = -1 by decide]
      omega
    · rw [h65]
      exact nI_lt hp (by omega)
    · rw [hJ, h31]
      refine ⟨fun _ => mw J hJ _ (fun K c143 c14 c149 k1 => r_M_walk_11 (by omega) _ ⟨fun _ => vp_in_nI (by omega) (by decide), fun _ _ => vp_in_nI (by omega) (by decide), fun z hz => ⟨?_, c143, k1⟩⟩), fun g => absurd hin g⟩
      rw [if_neg e1, nI_clamp (by omega), c149 p (by omega)] at hz
      rw [hz]
      rfl
  · refine ⟨.int (-1), s, n, w, x_K.of (by decide) (by decide) rfl rfl rfl (r_C_walk_0 (by omega) _ ⟨fun _ => ⟨rfl, h, ckp.rfl'⟩, fun g => ⟨fun g2 => ?_, fun _ => ⟨rfl, h, ckp.rfl'⟩⟩⟩), fun J hJ => x_K.of (by decide) (by decide) rfl rfl rfl (r_M_walk_0 (by omega) _ ⟨fun g => absurd g e1, fun _ => ?_⟩)⟩
    · exfalso
      rcases hno2 with a | ⟨a, b⟩
      · exact g (lt_m1 a e1)
      · rw [h65] at g2
        exact (le_nlt _ _).mp b g2
    · rw [hJ, h31]
      exact ⟨fun g => absurd g hno, fun _ => ⟨rfl, rfl, mkp.rfl'⟩⟩
end OPW
