/-! ===== the town's text: a clause, both sides ===== -/
def scl (tv : Nat → Nat) (e p : Nat) : Prop := ∃ (T : List Nat) (p' : Nat) (ok isB st : Bool) (n : Nat), p ≤ p' ∧ p' ≤ e ∧ T.length ≤ p' - p ∧ (ok = true → p < p' ∧ (isB = false → T.length + 1 ≤ p' - p ∧ okK T 0 1)) ∧ n ≤ 99 ∧
    (∀ (E : XE) (d : Nat) (J : Nat → Nat → Int32) (c nc : Nat), 30 ≤ d → RdR tv e J p → J 132 5 = nI c → c ≤ p → J 132 1 = nI nc → nc < 10 → x_K E d 36 [.ref 131] J (ccQ tv e T p' ok isB st n c nc J)) ∧
    ∀ (E : XE) (d : Nat) (J : Nat → Nat → Int32) (t : Nat → Int32) (a c : Nat), 30 ≤ d → MdR J t e p false 0 a → tpR t tv e → t (226 + a) = nI c → c ≤ p → a < 5 → x_K E d 127 [.ref 142] J (mcQ t e T p' ok isB st n a c J)
section CL2
variable {tv : Nat → Nat} {e : Nat}
/-- the model, once the word is wrong -/
theorem m_muchW {E : XE} {d q a c : Nat} {J K : Nat → Nat → Int32} {t : Nat → Int32} {st isB st' : Bool} {n : Nat} (hd : 28 ≤ d) (hK : MdR K t e q true 0 a) (hc : t (226 + a) = nI c) (k1 : mfr J K) : x_P E d 124 3 [.ref 142, .int (kd st), x_jk, x_jk] [] K (mcQ t e [] q false isB st' n a c J) := by
  refine r_M_much_3 (by omega) _ ((m_figW hK (by omega)).mono (fun v K2 hv => ?_))
  obtain ⟨hv, hK2, k2⟩ := hv
  rw [hv]
  refine r_M_much_5 (by omega) _ _ ((m_mustW hK2 (by omega)).mono (fun v K3 hv => ?_))
  obtain ⟨hv, hK3, k3⟩ := hv
  rw [hv]
  refine r_M_much_9 (by omega) _ _ ((m_someW hK3 (by omega)).mono (fun v K4 hv => ?_))
  obtain ⟨hv, e4⟩ := hv
  rw [hv, e4]
  refine r_M_much_11 (by omega) _ _ ((m_emitsW hK3 (by omega)).mono (fun v K5 hv => ?_))
  obtain ⟨hv, e5⟩ := hv
  rw [hv, e5]
  exact r_M_much_16 (by omega) (mcQ_no hK3 hc ((k1.trans k2).trans k3))
theorem s_word (he : e ≤ 100) (ht : ∀ i, i < e → tv i < 128) (st : Bool) {p r kw km : Nat} (hkw : kw < 8) (hkm : km < 8) (hp : p ≤ e) (hr : p + r ≤ e) (h1 : 1 ≤ r) (hm : mt tv e p (x_sl km) = mt tv e (p + r) (x_sl kw) + r) (hl : (x_sl km).length = (x_sl kw).length + r) :
    ∃ (T : List Nat) (p' : Nat) (ok : Bool) (n : Nat), p ≤ p' ∧ p' ≤ e ∧ T.length ≤ p' - p ∧ (ok = true → p < p' ∧ (T.length + 1 ≤ p' - p ∧ okK T 0 1)) ∧ n ≤ 99 ∧
    (∀ (E : XE) (d : Nat) (J : Nat → Nat → Int32) (c nc : Nat), 30 ≤ d → RdR tv e J (p + r) → J 132 5 = nI c → c ≤ p → J 132 1 = nI nc → nc < 10 → x_K E (d - 1) 43 [.ref 131, .ref (8 + kw)] J (fun v I2 => x_P E d 36 45 [.ref 131, .int (bI st), x_jk] (v.toList ++ []) I2 (ccQ tv e T p' ok false st n c nc J))) ∧
    ∀ (E : XE) (d : Nat) (J : Nat → Nat → Int32) (t : Nat → Int32) (a c : Nat), 29 ≤ d → MdR J t e p false 0 a → tpR t tv e → t (226 + a) = nI c → c ≤ p → a < 5 → x_K E d 124 [.ref 142, .int (kd st), .ref (8 + km)] J (mcQ t e T p' ok false st n a c J) := by
  have m1 := mt_e (tv := tv) (e := e) (x_sl kw) (p + r) (sl_fin kw hkw) hr
  have hw := hm
  by_cases g : mt tv e (p + r) (x_sl kw) = (x_sl kw).length
  · obtain ⟨T, p', ok, n, l1, l2, l3, l4, l5, l6, l7⟩ := s_much he ht st m1
    refine ⟨T, p', ok, n, by omega, l2, by omega, fun z => ⟨by have := l4 z; omega, by have := l4 z; omega, (l4 z).2⟩, l5, fun E d J c nc hd hJ h5 hc h1' hn => ?_, fun E d J t a c hd hJ hT hc hcp ha => ?_⟩
    · refine (c_takesAll hJ he hr hkw (by omega)).mono (fun v K hv => ?_)
      obtain ⟨hv, hK, k1⟩ := hv
      rw [hv, decide_eq_true g]
      refine r_Reader_readsClause_45 (by omega) _ _ ⟨fun z => absurd z (by decide), fun _ => ?_⟩
      have e132 : K 132 = J 132 := k1 132 (by simp)
      refine (l6 E d K c nc (by omega) hK (by rw [e132]; exact h5) (by omega) (by rw [e132]; exact h1') hn).mono (fun v K2 hv => x_P.mono hv (fun v K3 hv => ?_))
      obtain ⟨w1, w2, w3, w4, w5⟩ := hv
      refine ⟨w1, w2, fun _ z => absurd z (by decide), fun z1 z2 => ?_, (k1.mono (by simp)).trans w5⟩
      have w4 := w4 z1 z2
      rw [e132, k1 135 (by simp), k1 133 (by simp), k1 134 (by simp)] at w4
      exact w4
    · refine x_K.of (by decide) (by decide) rfl rfl rfl (r_M_much_0 (by omega) _ km hkm ((m_spells hJ hT he hp hkm (by omega)).mono (fun v K hv => ?_)))
      obtain ⟨hv, hK, k1⟩ := hv
      rw [hm, decide_eq_false (by omega), show p + (mt tv e (p + r) (x_sl kw) + r) = p + r + mt tv e (p + r) (x_sl kw) by omega] at hK
      rw [hv]
      refine x_P.mono (l7 E d K t a c (by omega) hK hT hc (by omega) ha) (fun v K2 hv => ?_)
      obtain ⟨w1, w2, w3⟩ := hv
      exact ⟨w1, w2, k1.trans w3⟩
  · refine ⟨[], p + r + mt tv e (p + r) (x_sl kw), false, 0, by omega, m1, Nat.zero_le _, fun z => absurd z (by decide), by omega, fun E d J c nc hd hJ h5 hc h1' hn => ?_, fun E d J t a c hd hJ hT hc hcp ha => ?_⟩
    · refine (c_takesAll hJ he hr hkw (by omega)).mono (fun v K hv => ?_)
      obtain ⟨hv, hK, k1⟩ := hv
      rw [hv, decide_eq_false g]
      exact r_Reader_readsClause_45 (by omega) _ _ ⟨fun _ => ccQ_no hK (k1.mono (by simp)), fun z => absurd rfl z⟩
    · refine x_K.of (by decide) (by decide) rfl rfl rfl (r_M_much_0 (by omega) _ km hkm ((m_spells hJ hT he hp hkm (by omega)).mono (fun v K hv => ?_)))
      obtain ⟨hv, hK, k1⟩ := hv
      rw [hm, decide_eq_true (by omega), show p + (mt tv e (p + r) (x_sl kw) + r) = p + r + mt tv e (p + r) (x_sl kw) by omega] at hK
      rw [hv]
      exact m_muchW (by omega) hK hc k1
theorem s_clause (he : e ≤ 100) (ht : ∀ i, i < e → tv i < 128) {p : Nat} (hp : p ≤ e) : scl tv e p := by
  by_cases g98 : hC tv e p = (98 : Int32)
  · have c0 : p < e := hC_ne g98 (by decide)
    have hm : mt tv e p (x_sl 5) = mt tv e (p + 1) (x_sl 0) + 1 := by
      show mt tv e p ((98 : Int32) :: x_sl 0) = _
      rw [mt_cons, if_pos g98]
    have m1 := mt_e (tv := tv) (e := e) (x_sl 0) (p + 1) (sl_fin 0 (by decide)) c0
    have hl0 : (x_sl 0).length = 5 := rfl
    have hl5 : (x_sl 5).length = 6 := rfl
    -- the class up to the word's end
    have cS : ∀ (E : XE) (d : Nat) (J : Nat → Nat → Int32) Q, 30 ≤ d → RdR tv e J p → (∀ K, RdR tv e K (p + 1 + mt tv e (p + 1) (x_sl 0)) → kp [131] J K → x_P E d 36 7 [.ref 131, x_jk, x_jk] [.int (bI (decide (mt tv e (p + 1) (x_sl 0) = (x_sl 0).length)))] K Q) → x_K E d 36 [.ref 131] J Q := by
      intro E d J Q hd hJ hQ
      refine x_K.of (by decide) (by decide) rfl rfl rfl (r_Reader_readsClause_0 (by omega) ((c_takes hJ he hp (by decide) (by omega)).mono (fun v K hv => ?_)))
      obtain ⟨hv, hK, _, k1⟩ := hv
      rw [if_pos g98] at hK
      rw [hv, decide_eq_true g98]
      refine r_Reader_readsClause_3 (by omega) _ ⟨fun z => absurd z (by decide), fun _ => (c_takesAll (k := 0) hK he c0 (by decide) (by omega)).mono (fun v K2 hv => ?_)⟩
      obtain ⟨hv, hK2, k2⟩ := hv
      rw [hv]
      exact hQ K2 hK2 (k1.trans k2)
    have mS : ∀ (E : XE) (d : Nat) (J : Nat → Nat → Int32) (t : Nat → Int32) (a c : Nat) T p' ok isB st n, 30 ≤ d → MdR J t e p false 0 a → tpR t tv e → (∀ K, MdR K t e (p + 1 + mt tv e (p + 1) (x_sl 0)) (decide (¬ mt tv e (p + 1) (x_sl 0) = (x_sl 0).length)) 0 a → mfr J K → x_P E (d - 1) 125 3 [.ref 142, .int (221 : Int32), x_jk, x_jk] [] K (mcQ t e T p' ok isB st n a c J)) → x_K E d 127 [.ref 142] J (mcQ t e T p' ok isB st n a c J) := by
      intro E d J t a c T p' ok isB st n hd hJ hT hQ
      refine x_K.of (by decide) (by decide) rfl rfl rfl (r_M_clauseHere_0 (by omega) ((m_here hJ hT he hp (by omega)).pu (r_M_clauseHere_2 (by omega) _ ⟨fun _ => ?_, fun z => absurd g98 z⟩)))
      refine (x_K.of (by decide) (by decide) rfl rfl rfl (r_M_tellsHere_0 (by omega) _ 5 (by decide) ((m_spells (k := 5) hJ hT he hp (by decide) (by omega)).mono (fun v K hv => ?_))) : x_K E (d - 1) 125 [.ref 142, .int (221 : Int32), .ref 13] J (mcQ t e T p' ok isB st n a c J)).mono (fun v K hv => ?_)
      · obtain ⟨hv, hK, k1⟩ := hv
        rw [hv]
        refine hQ K ?_ k1
        rw [hm, show p + (mt tv e (p + 1) (x_sl 0) + 1) = p + 1 + mt tv e (p + 1) (x_sl 0) by omega] at hK
        rw [show decide (¬ mt tv e (p + 1) (x_sl 0) = (x_sl 0).length) = decide (¬ mt tv e (p + 1) (x_sl 0) + 1 = (x_sl 5).length) from decide_eq_decide.mpr (by rw [hl0, hl5]; omega)]
        exact hK
      · have hvn : v = none := hv.1
        rw [hvn] at hv ⊢
        exact r_M_clauseHere_8 (by omega) hv
    by_cases g : mt tv e (p + 1) (x_sl 0) = (x_sl 0).length
    · rw [decide_eq_true g] at cS
      rw [decide_eq_false (fun z => z g)] at mS
      obtain ⟨f1, f2, f3, f4⟩ := fg_le (tv := tv) m1
      generalize hq : p + 1 + mt tv e (p + 1) (x_sl 0) = q at *
      cases hD : isD tv e q
      · have hz := f4 hD
        refine ⟨[], q, false, true, true, fgV tv e q, by omega, m1, Nat.zero_le _, fun z => absurd z (by decide), f2, fun E d J c nc hd hJ h5 hc h1' hn => cS E d J _ hd hJ (fun K hK k1 => ?_), fun E d J t a c hd hJ hT hc hcp ha => mS E d J t a c _ _ _ _ _ _ hd hJ hT (fun K hK k1 => ?_)⟩
        · refine r_Reader_readsClause_7 (by omega) _ ⟨fun z => absurd z (by decide), fun _ => (c_number hK he m1 ht (by omega)).mono (fun v K2 hv => ?_)⟩
          obtain ⟨hv, hK2, h4, k2⟩ := hv
          rw [hD] at hv
          rw [hz] at hK2
          rw [hv]
          refine r_Reader_readsClause_10 (by omega) _ (fun z3 hz3 I4 e4 => ?_)
          exact ccQ_no (RdR_k hK2 (by rw [e4, up_ne (by decide)]) (by rw [e4, up_ne (by decide)])) (((k1.mono (by simp)).trans (k2.mono (by simp))).trans (by rw [e4]; exact kp.up (by simp)))
        · refine r_M_tellsHere_3 (by omega) _ ((m_figures hK hT he m1 ht (by omega)).mono (fun v K2 hv => ?_))
          obtain ⟨hv, hK2, k2⟩ := hv
          rw [hD, hz] at hK2
          have h8 : K2 142 8 = 1 := hK2.2.2.2.1
          rw [hv]
          exact r_M_tellsHere_5 (by omega) _ _ ⟨fun z => absurd (h8.symm.trans z) (by decide), fun _ => mcQ_no hK2 hc (k1.trans k2)⟩
      · have f3 := f3 hD
        refine ⟨[], q + fgD tv e q, true, true, true, fgV tv e q, by omega, f1, Nat.zero_le _, fun _ => ⟨by omega, fun z => absurd z (by decide)⟩, f2, fun E d J c nc hd hJ h5 hc h1' hn => cS E d J _ hd hJ (fun K hK k1 => ?_), fun E d J t a c hd hJ hT hc hcp ha => mS E d J t a c _ _ _ _ _ _ hd hJ hT (fun K hK k1 => ?_)⟩
        · refine r_Reader_readsClause_7 (by omega) _ ⟨fun z => absurd z (by decide), fun _ => (c_number hK he m1 ht (by omega)).mono (fun v K2 hv => ?_)⟩
          obtain ⟨hv, hK2, h4, k2⟩ := hv
          rw [hD] at hv
          rw [hv]
          refine r_Reader_readsClause_10 (by omega) _ (fun z3 hz3 I4 e4 => ?_)
          rw [if_pos (by decide), h4] at hz3
          rw [hz3] at e4
          refine ⟨rfl, RdR_k hK2 (by rw [e4, up_ne (by decide)]) (by rw [e4, up_ne (by decide)]), fun _ _ => ⟨?_, ?_, ?_, ?_⟩, fun _ z => absurd z (by decide), ((k1.mono (by simp)).trans (k2.mono (by simp))).trans (by rw [e4]; exact kp.up (by simp))⟩
          · rw [e4, up_su, k2 132 (by simp), k1 132 (by simp)]
          · rw [e4, up_ne (by decide), k2 133 (by simp), k1 133 (by simp)]
          · rw [e4, up_ne (by decide), k2 134 (by simp), k1 134 (by simp)]
          · rw [e4, up_ne (by decide), k2 135 (by simp), k1 135 (by simp)]
        · refine r_M_tellsHere_3 (by omega) _ ((m_figures hK hT he m1 ht (by omega)).mono (fun v K2 hv => ?_))
          obtain ⟨hv, hK2, k2⟩ := hv
          rw [hD] at hK2
          have h8 : K2 142 8 = 0 := hK2.2.2.2.1
          have h5 : K2 142 5 = nI a := hK2.2.2.2.2.2
          rw [hv]
          refine r_M_tellsHere_5 (by omega) _ _ ⟨fun _ => ?_, fun z => absurd h8 z⟩
          rw [h5, ix_c (c := 221) (c' := 221) rfl (by omega)]
          refine ⟨vi_c (c' := 221) rfl (by omega) (by decide), fun I3 e3 => ⟨rfl, ?_, (k1.trans k2).trans ?_⟩⟩
          · obtain ⟨g1, g2, g3, g4, g5, g6⟩ := hK2
            have f : I3 142 = K2 142 := by rw [e3, up_ne (by decide)]
            unfold MdR mcT
            rw [f, e3, up_su, g1, if_pos rfl, if_pos rfl]
            exact ⟨rfl, g2, g3, g4, g5, g6⟩
          · exact ⟨fun j _ _ _ => by rw [e3, up_ne (by decide)], by rw [e3]; exact kp.up (by simp)⟩
    · rw [decide_eq_false g] at cS
      rw [decide_eq_true g] at mS
      refine ⟨[], p + 1 + mt tv e (p + 1) (x_sl 0), false, true, true, 0, by omega, m1, Nat.zero_le _, fun z => absurd z (by decide), by omega, fun E d J c nc hd hJ h5 hc h1' hn => cS E d J _ hd hJ (fun K hK k1 => ?_), fun E d J t a c hd hJ hT hc hcp ha => mS E d J t a c _ _ _ _ _ _ hd hJ hT (fun K hK k1 => ?_)⟩
      · refine r_Reader_readsClause_7 (by omega) _ ⟨fun _ I2 e2 => ?_, fun z => absurd rfl z⟩
        exact ccQ_no (RdR_k hK (by rw [e2, up_ne (by decide)]) (by rw [e2, up_ne (by decide)])) ((k1.mono (by simp)).trans (by rw [e2]; exact kp.up (by simp)))
      · refine r_M_tellsHere_3 (by omega) _ ((m_figW hK (by omega)).mono (fun v K2 hv => ?_))
        obtain ⟨hv, hK2, k2⟩ := hv
        have h8 : K2 142 8 = 1 := hK2.2.2.2.1
        rw [hv]
        exact r_M_tellsHere_5 (by omega) _ _ ⟨fun z => absurd (h8.symm.trans z) (by decide), fun _ => mcQ_no hK2 hc (k1.trans k2)⟩
  by_cases g115 : hC tv e p = (115 : Int32)
  · have c0 : p < e := hC_ne g115 (by decide)
    -- the class up to the second sign
    have cS : ∀ (E : XE) (d : Nat) (J : Nat → Nat → Int32) Q, 30 ≤ d → RdR tv e J p → (∀ K, RdR tv e K (if hC tv e (p + 1) = (116 : Int32) then p + 1 + 1 else p + 1) → kp [131] J K → x_P E d 36 37 [.ref 131, x_jk, x_jk] [.int (bI (decide (hC tv e (p + 1) = (116 : Int32))))] K Q) → x_K E d 36 [.ref 131] J Q := by
      intro E d J Q hd hJ hQ
      refine x_K.of (by decide) (by decide) rfl rfl rfl (r_Reader_readsClause_0 (by omega) ((c_takes hJ he hp (by decide) (by omega)).mono (fun v K hv => ?_)))
      obtain ⟨hv, hK, _, k1⟩ := hv
      rw [if_neg g98] at hK
      rw [hv, decide_eq_false g98]
      refine r_Reader_readsClause_3 (by omega) _ ⟨fun _ => (c_takes hK he hp (by decide) (by omega)).mono (fun v K2 hv => ?_), fun z => absurd rfl z⟩
      obtain ⟨hv, hK2, _, k2⟩ := hv
      rw [if_pos g115] at hK2
      rw [hv, decide_eq_true g115]
      refine r_Reader_readsClause_31 (by omega) _ ⟨fun z => absurd z (by decide), fun _ => (c_takes hK2 he c0 (by decide) (by omega)).mono (fun v K3 hv => ?_)⟩
      obtain ⟨hv, hK3, _, k3⟩ := hv
      rw [hv]
      exact hQ K3 hK3 ((k1.trans k2).trans k3)
    have fin : ∀ (T : List Nat) (p' : Nat) (ok st : Bool) (n c nc : Nat) (J K : Nat → Nat → Int32), kp [131] J K → ∀ v K2, ccQ tv e T p' ok false st n c nc K v K2 → ccQ tv e T p' ok false st n c nc J v K2 := by
      intro T p' ok st n c nc J K k1 v K2 hv
      obtain ⟨w1, w2, w3, w4, w5⟩ := hv
      refine ⟨w1, w2, fun _ z => absurd z (by decide), fun z1 z2 => ?_, (k1.mono (by simp)).trans w5⟩
      have w4 := w4 z1 z2
      rw [k1 132 (by simp), k1 135 (by simp), k1 133 (by simp), k1 134 (by simp)] at w4
      exact w4
    by_cases g116 : hC tv e (p + 1) = (116 : Int32)
    · have c1 := hC_ne g116 (by decide)
      rw [if_pos g116, decide_eq_true g116] at cS
      have hm : mt tv e p (x_sl 6) = mt tv e (p + 2) (x_sl 1) + 2 := by
        show mt tv e p ((115 : Int32) :: (116 : Int32) :: x_sl 1) = _
        rw [mt_cons, if_pos g115, mt_cons, if_pos g116]
      obtain ⟨T, p', ok, n, l1, l2, l3, l4, l5, l6, l7⟩ := s_word he ht true (p := p) (r := 2) (kw := 1) (km := 6) (by decide) (by decide) hp (by omega) (by decide) hm rfl
      refine ⟨T, p', ok, false, true, n, l1, l2, l3, fun z => ⟨(l4 z).1, fun _ => (l4 z).2⟩, l5, fun E d J c nc hd hJ h5 hc h1' hn => cS E d J _ hd hJ (fun K hK k1 => ?_), fun E d J t a c hd hJ hT hc hcp ha => ?_⟩
      · refine r_Reader_readsClause_37 (by omega) _ ⟨fun z => absurd z (by decide), fun _ => ?_⟩
        refine (l6 E d K c nc hd hK (by rw [k1 132 (by simp)]; exact h5) hc (by rw [k1 132 (by simp)]; exact h1') hn).mono (fun v K2 hv => x_P.mono hv (fin T p' ok true n c nc J K k1))
      · refine x_K.of (by decide) (by decide) rfl rfl rfl (r_M_clauseHere_0 (by omega) ((m_here hJ hT he hp (by omega)).pu (r_M_clauseHere_2 (by omega) _ ⟨fun z => absurd z g98, fun _ => (m_here hJ hT he hp (by omega)).pu (r_M_clauseHere_11 (by omega) _ ⟨fun _ => (m_second hJ hT he hp (by omega)).pu (r_M_clauseHere_15 (by omega) _ ⟨fun _ => (l7 E (d - 1) J t a c (by omega) hJ hT hc hcp ha).mono (fun v K hv => ?_), fun z => absurd g116 z⟩), fun z => absurd g115 z⟩)⟩)))
        have hvn : v = none := hv.1
        rw [hvn] at hv ⊢
        exact r_M_clauseHere_21 (by omega) hv
    · rw [if_neg g116, decide_eq_false g116] at cS
      have hm : mt tv e p (x_sl 7) = mt tv e (p + 1) (x_sl 2) + 1 := by
        show mt tv e p ((115 : Int32) :: x_sl 2) = _
        rw [mt_cons, if_pos g115]
      obtain ⟨T, p', ok, n, l1, l2, l3, l4, l5, l6, l7⟩ := s_word he ht false (p := p) (r := 1) (kw := 2) (km := 7) (by decide) (by decide) hp (by omega) (by decide) hm rfl
      refine ⟨T, p', ok, false, false, n, l1, l2, l3, fun z => ⟨(l4 z).1, fun _ => (l4 z).2⟩, l5, fun E d J c nc hd hJ h5 hc h1' hn => cS E d J _ hd hJ (fun K hK k1 => ?_), fun E d J t a c hd hJ hT hc hcp ha => ?_⟩
      · refine r_Reader_readsClause_37 (by omega) _ ⟨fun _ => ?_, fun z => absurd rfl z⟩
        refine (l6 E d K c nc hd hK (by rw [k1 132 (by simp)]; exact h5) hc (by rw [k1 132 (by simp)]; exact h1') hn).mono (fun v K2 hv => x_P.mono hv (fin T p' ok false n c nc J K k1))
      · refine x_K.of (by decide) (by decide) rfl rfl rfl (r_M_clauseHere_0 (by omega) ((m_here hJ hT he hp (by omega)).pu (r_M_clauseHere_2 (by omega) _ ⟨fun z => absurd z g98, fun _ => (m_here hJ hT he hp (by omega)).pu (r_M_clauseHere_11 (by omega) _ ⟨fun _ => (m_second hJ hT he hp (by omega)).pu (r_M_clauseHere_15 (by omega) _ ⟨fun z => absurd z g116, fun _ => (m_here hJ hT he hp (by omega)).pu (r_M_clauseHere_24 (by omega) _ ⟨fun _ => (l7 E (d - 1) J t a c (by omega) hJ hT hc hcp ha).mono (fun v K hv => ?_), fun z => absurd g115 z⟩)⟩), fun z => absurd g115 z⟩)⟩)))
        have hvn : v = none := hv.1
        rw [hvn] at hv ⊢
        exact r_M_clauseHere_30 (by omega) hv
  · refine ⟨[], p, false, false, true, 0, Nat.le_refl _, hp, Nat.zero_le _, fun z => absurd z (by decide), by omega, fun E d J c nc hd hJ h5 hc h1' hn => ?_, fun E d J t a c hd hJ hT hc hcp ha => ?_⟩
    · refine x_K.of (by decide) (by decide) rfl rfl rfl (r_Reader_readsClause_0 (by omega) ((c_takes hJ he hp (by decide) (by omega)).mono (fun v K hv => ?_)))
      obtain ⟨hv, hK, _, k1⟩ := hv
      rw [if_neg g98] at hK
      rw [hv, decide_eq_false g98]
      refine r_Reader_readsClause_3 (by omega) _ ⟨fun _ => (c_takes hK he hp (by decide) (by omega)).mono (fun v K2 hv => ?_), fun z => absurd rfl z⟩
      obtain ⟨hv, hK2, _, k2⟩ := hv
      rw [if_neg g115] at hK2
      rw [hv, decide_eq_false g115]
      exact r_Reader_readsClause_31 (by omega) _ ⟨fun _ => ccQ_no hK2 ((k1.trans k2).mono (by simp)), fun z => absurd rfl z⟩
    · refine x_K.of (by decide) (by decide) rfl rfl rfl (r_M_clauseHere_0 (by omega) ((m_here hJ hT he hp (by omega)).pu (r_M_clauseHere_2 (by omega) _ ⟨fun z => absurd z g98, fun _ => (m_here hJ hT he hp (by omega)).pu (r_M_clauseHere_11 (by omega) _ ⟨fun z => absurd z g115, fun _ => (m_here hJ hT he hp (by omega)).pu (r_M_clauseHere_24 (by omega) _ ⟨fun z => absurd z g115, fun _ I2 e2 => ?_⟩)⟩)⟩)))
      exact mcQ_no (MdR_8 (b' := true) hJ e2) hc (mfr.f (Or.inr (Or.inl rfl)) e2)
end CL2
