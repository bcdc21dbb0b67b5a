/-! ===== the town's text: what the model reads with ===== -/
section RDM
variable {E : XE} {d e p o a : Nat} {J : Nat → Nat → Int32} {t : Nat → Int32} {tv : Nat → Nat}
theorem m_here {b : Bool} (h : MdR J t e p b o a) (ht : tpR t tv e) (he : e ≤ 100) (hp : p ≤ e) (hd : 1 ≤ d) : x_K E d 115 [.ref 142] J (x_pu (.int (hC tv e p)) J) := by
  obtain ⟨h1, h2, h3, h4, h5, h6⟩ := h
  refine x_K.of (by decide) (by decide) rfl rfl rfl (r_M_here_0 (by omega) ⟨fun _ => ?_, fun z hz => ⟨?_, rfl⟩⟩)
  · rw [h3]
    exact vi_c (c' := 121) rfl (by omega) (by decide)
  · rw [hz, h2, h3, ix_c (c := 121) (c' := 121) rfl (by omega), h1]
    unfold hC
    by_cases c : p < e
    · rw [if_neg (nI_ge c (by omega)), if_pos c, ht p c]
    · rw [if_pos (nI_le (by omega) (by omega)), if_neg c]
theorem m_second {b : Bool} (h : MdR J t e p b o a) (ht : tpR t tv e) (he : e ≤ 100) (hp : p ≤ e) (hd : 1 ≤ d) : x_K E d 126 [.ref 142] J (x_pu (.int (hC tv e (p + 1))) J) := by
  obtain ⟨h1, h2, h3, h4, h5, h6⟩ := h
  have e1 : (121 : Int32) + nI p + 1 = nI (121 + p + 1) := by rw [show (121 : Int32) = nI 121 from rfl, nI_add, nI_1]
  refine x_K.of (by decide) (by decide) rfl rfl rfl (r_M_second_0 (by omega) ⟨fun _ => ?_, fun z hz => ⟨?_, rfl⟩⟩)
  · rw [h3, e1]
    exact vp_in_nI (by omega) (by decide)
  · rw [hz, h2, h3, e1, nI_1, nI_clamp (by omega), h1]
    unfold hC
    by_cases c : p + 1 < e
    · rw [if_neg (nI_ge c (by omega)), if_pos c, show 121 + p + 1 = 121 + (p + 1) by omega, ht _ c]
    · rw [if_pos (nI_le (by omega) (by omega)), if_neg c]
theorem MdR_68 {b b' : Bool} {K : Nat → Nat → Int32} {q : Nat} (h : MdR J t e p b o a) (h6 : K 142 = su (su (J 142) 8 (bI b')) 6 (nI q)) (h3 : K 143 = J 143) : MdR K t e q b' o a := by
  obtain ⟨g1, g2, g3, g4, g5, g6⟩ := h
  unfold MdR
  rw [h3, h6, su_ne (by decide), su_ne (by decide), su_eq, su_ne (by decide), su_eq, su_ne (by decide), su_ne (by decide), su_ne (by decide), su_ne (by decide)]
  exact ⟨g1, g2, rfl, rfl, g5, g6⟩
theorem m_must {ch : Int32} (h : MdR J t e p false o a) (ht : tpR t tv e) (he : e ≤ 100) (hp : p ≤ e) (hd : 2 ≤ d) :
    x_K E d 116 [.ref 142, .int ch] J (fun v K => v = none ∧ MdR K t e (if hC tv e p = ch then p + 1 else p) (decide (¬ hC tv e p = ch)) o a ∧ mfr J K) := by
  have h8 : J 142 8 = 0 := h.2.2.2.1
  have h6 : J 142 6 = nI p := h.2.2.1
  refine x_K.of (by decide) (by decide) rfl rfl rfl (r_M_must_0 (by omega) _ ⟨fun _ => (m_here h ht he hp (by omega)).pu (r_M_must_6 (by omega) _ _ (fun I2 e2 I4 e4 => ?_)), fun g => absurd h8 g⟩)
  rw [x_bi_bI] at e2
  have f6 : I2 142 6 = nI p := by rw [e2, up_su, su_ne (by decide)]; exact h6
  have f8 : I2 142 8 = bI (decide (¬ hC tv e p = ch)) := by rw [e2, up_su, su_eq]
  rw [f6, f8] at e4
  refine ⟨rfl, MdR_68 h ?_ (by rw [e4, up_ne (by decide), e2, up_ne (by decide)]), (mfr.f (Or.inr (Or.inl rfl)) e2).trans (mfr.f (Or.inl rfl) e4)⟩
  rw [e4, up_su, e2, up_su]
  congr 1
  by_cases g : hC tv e p = ch
  · rw [if_pos g, decide_eq_false (fun z => z g), x_bi_t (show bI false = 0 from rfl), nI_1]
  · rw [if_neg g, decide_eq_true g, x_bi_f (show ¬ bI true = 0 by decide)]
    exact nI_add p 0
theorem m_mustW {ch : Int32} (h : MdR J t e p true o a) (hd : 1 ≤ d) :
    x_K E d 116 [.ref 142, .int ch] J (fun v K => v = none ∧ MdR K t e p true o a ∧ mfr J K) := by
  have h8 : J 142 8 = 1 := h.2.2.2.1
  have h6 : J 142 6 = nI p := h.2.2.1
  refine x_K.of (by decide) (by decide) rfl rfl rfl (r_M_must_0 (by omega) _ ⟨fun g => absurd (h8.symm.trans g) (by decide), fun _ I2 e2 I4 e4 => ?_⟩)
  have f6 : I2 142 6 = nI p := by rw [e2, up_su, su_ne (by decide)]; exact h6
  have f8 : I2 142 8 = 1 := by rw [e2, up_su, su_eq]
  rw [f6, f8, x_bi_f (show ¬ (1 : Int32) = 0 by decide), show nI p + 0 = nI p from nI_add p 0] at e4
  refine ⟨rfl, MdR_68 h ?_ (by rw [e4, up_ne (by decide), e2, up_ne (by decide)]), (mfr.f (Or.inr (Or.inl rfl)) e2).trans (mfr.f (Or.inl rfl) e4)⟩
  rw [e4, up_su, e2, up_su]
  rfl
theorem m_spells {k : Nat} (h : MdR J t e p false o a) (ht : tpR t tv e) (he : e ≤ 100) (hp : p ≤ e) (hk : k < 8) (hd : 5 ≤ d) :
    x_K E d 117 [.ref 142, .ref (8 + k)] J (fun v K => v = none ∧ MdR K t e (p + mt tv e p (x_sl k)) (decide (¬ mt tv e p (x_sl k) = (x_sl k).length)) o a ∧ mfr J K) := by
  have hlen := (x_sl_len k hk).1
  have keyW : ∀ r j q (K : Nat → Nat → Int32), j + r = (x_sl k).length → MdR K t e q true o a → ∀ Q, (∀ K2, MdR K2 t e q true o a → mfr K K2 → Q none K2) → x_P E d 117 2 [.ref 142, .ref (8 + k), .int (nI j)] [] K Q := by
    intro r
    induction r with
    | zero =>
      intro j q K hj hK Q hQ
      exact r_M_spells_2 (by omega) k hk _ ((c_len hk (by omega)).pu (r_M_spells_5 (by omega) k hk _ _ _ ⟨fun _ => hQ K hK mfr.rfl', fun g => absurd (nI_le (by omega) (by omega)) g⟩))
    | succ r ih =>
      intro j q K hj hK Q hQ
      refine r_M_spells_2 (by omega) k hk _ ((c_len hk (by omega)).pu (r_M_spells_5 (by omega) k hk _ _ _ ⟨fun g => absurd g (nI_ge (by omega) (by omega)), fun _ => (c_charAt hk (by omega) (by omega)).pu (r_M_spells_10 (by omega) k hk _ _ ((m_mustW hK (by omega)).mono (fun v K2 hv => ?_)))⟩))
      obtain ⟨hv, hK2, k2⟩ := hv
      rw [hv]
      refine r_M_spells_11 (by omega) k hk _ ?_
      rw [nI_1]
      exact ih (j + 1) q K2 (by omega) hK2 Q (fun K3 h3 k3 => hQ K3 h3 (k2.trans k3))
  refine x_K.of (by decide) (by decide) rfl rfl rfl (r_M_spells_0 (by omega) k hk ?_)
  have key : ∀ r j (K : Nat → Nat → Int32), j + r = (x_sl k).length → MdR K t e (p + j) false o a → p + j ≤ e → mfr J K → mt tv e p (x_sl k) = j + mt tv e (p + j) ((x_sl k).drop j) →
      x_P E d 117 2 [.ref 142, .ref (8 + k), .int (nI j)] [] K (fun v K => v = none ∧ MdR K t e (p + mt tv e p (x_sl k)) (decide (¬ mt tv e p (x_sl k) = (x_sl k).length)) o a ∧ mfr J K) := by
    intro r
    induction r with
    | zero =>
      intro j K hj hK hpj k1 hm
      have ed : (x_sl k).drop j = [] := List.drop_eq_nil_of_le (by omega)
      rw [ed] at hm
      have hm : mt tv e p (x_sl k) = j := hm
      refine r_M_spells_2 (by omega) k hk _ ((c_len hk (by omega)).pu (r_M_spells_5 (by omega) k hk _ _ _ ⟨fun _ => ?_, fun g => absurd (nI_le (by omega) (by omega)) g⟩))
      rw [decide_eq_false (by omega), hm]
      exact ⟨rfl, hK, k1⟩
    | succ r ih =>
      intro j K hj hK hpj k1 hm
      have hc1 : (x_sl k).getD j 0 ≠ (-1 : Int32) := by
        refine sl_fin k hk _ ?_
        rw [List.getD_eq_getElem?_getD, List.getElem?_eq_getElem (by omega)]
        exact List.getElem_mem _
      rw [getD_drop (by omega), mt_cons] at hm
      refine r_M_spells_2 (by omega) k hk _ ((c_len hk (by omega)).pu (r_M_spells_5 (by omega) k hk _ _ _ ⟨fun g => absurd g (nI_ge (by omega) (by omega)), fun _ => (c_charAt hk (by omega) (by omega)).pu (r_M_spells_10 (by omega) k hk _ _ ((m_must hK ht he hpj (by omega)).mono (fun v K2 hv => ?_)))⟩))
      obtain ⟨hv, hK2, k2⟩ := hv
      rw [hv]
      refine r_M_spells_11 (by omega) k hk _ ?_
      rw [nI_1]
      by_cases g : hC tv e (p + j) = (x_sl k).getD j 0
      · rw [if_pos g] at hm hK2
        rw [decide_eq_false (fun z => z g)] at hK2
        have := hC_ne g hc1
        exact ih (j + 1) K2 (by omega) hK2 (by omega) (k1.trans k2) (by rw [show p + (j + 1) = p + j + 1 by omega]; omega)
      · rw [if_neg g] at hm hK2
        rw [decide_eq_true g] at hK2
        refine keyW r (j + 1) (p + j) K2 (by omega) hK2 _ (fun K3 h3 k3 => ?_)
        rw [decide_eq_true (by omega), show mt tv e p (x_sl k) = j by omega]
        exact ⟨rfl, h3, (k1.trans k2).trans k3⟩
  have kk := key (x_sl k).length 0 J (by omega) h (by omega) mfr.rfl' (by rw [List.drop_zero, Nat.add_zero, Nat.zero_add])
  rw [nI_0] at kk
  exact kk
theorem m_figW (h : MdR J t e p true o a) (hd : 1 ≤ d) : x_K E d 118 [.ref 142] J (fun v K => v = some (.int 0) ∧ MdR K t e p true o a ∧ mfr J K) := by
  have h8 : J 142 8 = 1 := h.2.2.2.1
  refine x_K.of (by decide) (by decide) rfl rfl rfl (r_M_figures_0 (by omega) ⟨fun g => absurd (h8.symm.trans g) (by decide), fun _ I2 e2 => r_M_figures_18 (by omega) _ _ ⟨fun g => absurd g (by decide), fun _ => ⟨fun g => ?_, fun _ => ⟨rfl, ?_, mfr.f (Or.inr (Or.inl rfl)) e2⟩⟩⟩⟩)
  · rw [e2, up_su, su_eq] at g
    exact absurd g (by decide)
  · obtain ⟨g1, g2, g3, g4, g5, g6⟩ := h
    unfold MdR
    rw [e2, up_ne (by decide), up_su, su_ne (by decide), su_ne (by decide), su_eq, su_ne (by decide), su_ne (by decide)]
    exact ⟨g1, g2, g3, rfl, g5, g6⟩
theorem hC_dig {q : Nat} (ht : ∀ i, i < e → tv i < 128) : ((48 : Int32) ≤ hC tv e q ∧ hC tv e q ≤ (57 : Int32)) ↔ isD tv e q = true := by
  rw [isD_iff]
  unfold hC
  by_cases c : q < e
  · rw [if_pos c]
    have := ht q c
    have a := nI_leI (a := 48) (b := tv q) (by omega) (by omega)
    have b := nI_leI (a := tv q) (b := 57) (by omega) (by omega)
    exact ⟨fun g => ⟨c, a.mp g.1, b.mp g.2⟩, fun g => ⟨a.mpr g.2.1, b.mpr g.2.2⟩⟩
  · rw [if_neg c]
    exact ⟨fun g => absurd g.1 (by decide), fun g => absurd g.1 c⟩
theorem m_figures (h : MdR J t e p false o a) (ht : tpR t tv e) (he : e ≤ 100) (hp : p ≤ e) (hv : ∀ i, i < e → tv i < 128) (hd : 2 ≤ d) :
    x_K E d 118 [.ref 142] J (fun v K => v = some (.int (nI (fgV tv e p))) ∧ MdR K t e (p + fgD tv e p) (!isD tv e p) o a ∧ mfr J K) := by
  have h8 : J 142 8 = 0 := h.2.2.2.1
  refine x_K.of (by decide) (by decide) rfl rfl rfl (r_M_figures_0 (by omega) ⟨fun _ => (m_here h ht he hp (by omega)).pu (r_M_figures_6 (by omega) _ (fun I2 e2 => ?_)), fun g => absurd h8 g⟩)
  rw [x_bi_bI] at e2
  have hdg := hC_dig (q := p) hv
  have hI2 : MdR I2 t e p (!isD tv e p) o a := by
    obtain ⟨g1, g2, g3, g4, g5, g6⟩ := h
    unfold MdR
    rw [e2, up_ne (by decide), up_su, su_ne (by decide), su_ne (by decide), su_eq, su_ne (by decide), su_ne (by decide)]
    refine ⟨g1, g2, g3, ?_, g5, g6⟩
    cases c : isD tv e p
    · rw [decide_eq_true (p := ¬ ((48 : Int32) ≤ hC tv e p ∧ hC tv e p ≤ (57 : Int32))) (fun z => by rw [hdg.mp z] at c; exact absurd c (by decide))]; rfl
    · rw [decide_eq_false (fun z => z (hdg.mpr c))]; rfl
  have k2 : mfr J I2 := mfr.f (Or.inr (Or.inl rfl)) e2
  cases c : isD tv e p
  · rw [c] at hI2
    have hI8 : I2 142 8 = 1 := hI2.2.2.2.1
    have hz := (fg_le (tv := tv) hp).2.2.2 c
    have hv0 : fgV tv e p = 0 := by unfold fgV; rw [c]; rfl
    refine r_M_figures_18 (by omega) _ _ ⟨fun g => absurd g (by decide), fun _ => ⟨fun g => absurd (hI8.symm.trans g) (by decide), fun _ => ?_⟩⟩
    rw [hz, hv0]
    exact ⟨rfl, hI2, k2⟩
  · rw [c] at hI2
    have hI2 : MdR I2 t e p false o a := hI2
    have hI8 : I2 142 8 = 0 := hI2.2.2.2.1
    obtain ⟨c1, d1, d2⟩ := isD_iff.mp c
    have hCp : hC tv e p = nI (tv p) := if_pos c1
    refine r_M_figures_18 (by omega) _ _ ⟨fun g => absurd g (by decide), fun _ => ⟨fun _ => (m_here hI2 ht he hp (by omega)).pu (r_M_figures_26 (by omega) _ _ _ ⟨fun _ => ⟨fun _ => (m_here hI2 ht he hp (by omega)).pu (r_M_figures_39 (by omega) _ _ _ (fun I3 e3 => ?_)), fun g => absurd rfl g⟩, fun g => absurd (hdg.mpr c) g⟩), fun g => absurd hI8 g⟩⟩
    have v1 : ((10 : Int32) * 0 + hC tv e p) - (48 : Int32) = nI (tv p - 48) := by
      rw [hCp, show (10 : Int32) * 0 = nI 0 by decide, nI_add, show 0 + tv p = (tv p - 48) + 48 by omega]
      exact nI_sub
    rw [v1]
    have hI26 : I2 142 6 = nI p := hI2.2.2.1
    rw [hI26, nI_1] at e3
    have up6 : ∀ {K K3 : Nat → Nat → Int32} {q : Nat}, MdR K t e q false o a → K3 = x_up K 142 6 (nI (q + 1)) → MdR K3 t e (q + 1) false o a := fun {K K3 q} hK e => by
      obtain ⟨g1, g2, g3, g4, g5, g6⟩ := hK
      unfold MdR
      rw [e, up_ne (by decide), up_su, su_ne (by decide), su_eq, su_ne (by decide), su_ne (by decide), su_ne (by decide)]
      exact ⟨g1, g2, rfl, g4, g5, g6⟩
    have hI3 : MdR I3 t e (p + 1) false o a := up6 hI2 e3
    have hI38 : I3 142 8 = 0 := hI3.2.2.2.1
    have k3 : mfr J I3 := k2.trans (mfr.f (Or.inl rfl) e3)
    have fin1 : ¬ (¬ tv p = 48 ∧ isD tv e (p + 1) = true) → ((some (Value.int (nI (tv p - 48))) = some (Value.int (nI (fgV tv e p)))) ∧ MdR I3 t e (p + fgD tv e p) (!true) o a ∧ mfr J I3) := fun g => by
      unfold fgD fgV
      rw [c, if_pos rfl, if_pos rfl, if_neg g, if_neg g]
      exact ⟨rfl, hI3, k3⟩
    have hdg1 := hC_dig (q := p + 1) hv
    refine r_M_figures_18 (by omega) _ _ ⟨fun g => absurd g (by decide), fun _ => ⟨fun _ => (m_here hI3 ht he (by omega) (by omega)).pu (r_M_figures_26 (by omega) _ _ _ ⟨fun g => ⟨fun z => absurd z (by decide), fun _ => ⟨fun z => fin1 (fun y => ?_), fun z => (m_here hI3 ht he (by omega) (by omega)).pu (r_M_figures_39 (by omega) _ _ _ (fun I4 e4 => ?_))⟩⟩, fun g => fin1 (fun y => g (hdg1.mpr y.2))⟩), fun g => absurd hI38 g⟩⟩
    · have := (nI_leI (a := tv p - 48) (b := 0) (by omega) (by omega)).mp z
      exact y.1 (by omega)
    · have c2 := hdg1.mp g
      obtain ⟨c3, d3, d4⟩ := isD_iff.mp c2
      have n48 : ¬ tv p = 48 := fun y => z (by rw [y]; decide)
      have v2 : ((10 : Int32) * nI (tv p - 48) + hC tv e (p + 1)) - (48 : Int32) = nI (10 * (tv p - 48) + (tv (p + 1) - 48)) := by
        have : ∀ z, z < 10 → (10 : Int32) * nI z = nI (10 * z) := by decide
        rw [this _ (by omega), show hC tv e (p + 1) = nI (tv (p + 1)) from if_pos c3, nI_add, show 10 * (tv p - 48) + tv (p + 1) = (10 * (tv p - 48) + (tv (p + 1) - 48)) + 48 by omega]
        exact nI_sub
      rw [v2]
      have hI36 : I3 142 6 = nI (p + 1) := hI3.2.2.1
      rw [hI36, nI_1] at e4
      have hI4 : MdR I4 t e (p + 1 + 1) false o a := up6 hI3 e4
      refine r_M_figures_18 (by omega) _ _ ⟨fun _ => ?_, fun g => absurd (by decide) g⟩
      unfold fgD fgV
      rw [c, if_pos rfl, if_pos rfl, if_pos ⟨n48, c2⟩, if_pos ⟨n48, c2⟩]
      exact ⟨rfl, hI4, k3.trans (mfr.f (Or.inl rfl) e4)⟩
theorem m_among {k : Nat} {b : Bool} (h : MdR J t e p b o a) (ht : tpR t tv e) (he : e ≤ 100) (hp : p ≤ e) (hk : k < 8) (hd : 5 ≤ d) :
    x_K E d 119 [.ref 142, .ref (8 + k)] J (fun v K => v = some (.int (x_ixl (hC tv e p) (x_sl k) 0)) ∧ MdR K t e (if x_ixl (hC tv e p) (x_sl k) 0 = (-1 : Int32) then p else p + 1) b o a ∧ mfr J K) := by
  have hlen := (x_sl_len k hk).1
  refine x_K.of (by decide) (by decide) rfl rfl rfl (r_M_among_0 (by omega) k hk ?_)
  have key : ∀ r j, j + r = (x_sl k).length → x_ixl (hC tv e p) ((x_sl k).drop j) j = x_ixl (hC tv e p) (x_sl k) 0 →
      x_P E d 119 2 [.ref 142, .ref (8 + k), .int (nI j)] [] J (fun v K => v = some (.int (x_ixl (hC tv e p) (x_sl k) 0)) ∧ MdR K t e (if x_ixl (hC tv e p) (x_sl k) 0 = (-1 : Int32) then p else p + 1) b o a ∧ mfr J K) := by
    intro r
    induction r with
    | zero =>
      intro j hj hm
      have ed : (x_sl k).drop j = [] := List.drop_eq_nil_of_le (by omega)
      rw [ed] at hm
      have hm : (-1 : Int32) = x_ixl (hC tv e p) (x_sl k) 0 := hm
      rw [← hm]
      refine r_M_among_2 (by omega) k hk _ ((c_len hk (by omega)).pu (r_M_among_5 (by omega) k hk _ _ _ ⟨fun _ => ?_, fun g => absurd (nI_le (by omega) (by omega)) g⟩))
      exact ⟨rfl, h, mfr.rfl'⟩
    | succ r ih =>
      intro j hj hm
      rw [getD_drop (by omega)] at hm
      have hm : (if (x_sl k).getD j 0 = hC tv e p then nI j else x_ixl (hC tv e p) ((x_sl k).drop (j + 1)) (j + 1)) = x_ixl (hC tv e p) (x_sl k) 0 := hm
      refine r_M_among_2 (by omega) k hk _ ((c_len hk (by omega)).pu (r_M_among_5 (by omega) k hk _ _ _ ⟨fun g => absurd g (nI_ge (by omega) (by omega)), fun _ => (m_here h ht he hp (by omega)).pu (r_M_among_8 (by omega) k hk _ _ ((c_charAt hk (by omega) (by omega)).pu (r_M_among_11 (by omega) k hk _ _ _ ⟨fun g I2 e2 => ?_, fun g => ?_⟩)))⟩))
      · rw [if_pos g.symm] at hm
        rw [← hm, if_neg (nI_ne_neg (by omega) (by decide))]
        refine ⟨rfl, ?_, mfr.f (Or.inl rfl) e2⟩
        obtain ⟨g1, g2, g3, g4, g5, g6⟩ := h
        unfold MdR
        rw [e2, up_ne (by decide), up_su, su_ne (by decide), su_eq, su_ne (by decide), su_ne (by decide), su_ne (by decide), g3, nI_1]
        exact ⟨g1, g2, rfl, g4, g5, g6⟩
      · rw [if_neg (fun z => g z.symm)] at hm
        rw [nI_1]
        exact ih (j + 1) (by omega) hm
  have kk := key (x_sl k).length 0 (by omega) (by rw [List.drop_zero])
  rw [nI_0] at kk
  exact kk
theorem m_emits {c : Nat} {x : Int32} (h : MdR J t e p false o a) (ha : a < 5) (hc : t (226 + a) = nI c) (hc2 : c < 140) (hd : 1 ≤ d) :
    x_K E d 120 [.ref 142, .int x] J (fun v K => v = none ∧ MdR K (emS a c [x] t) e p false o a ∧ mfr J K) := by
  obtain ⟨g1, g2, g3, g4, g5, g6⟩ := h
  have e1 : ((231 : Int32) + (140 : Int32) * nI a) + nI c = nI (231 + 140 * a + c) := by
    have : ∀ a, a < 5 → (231 : Int32) + (140 : Int32) * nI a = nI (231 + 140 * a) := by decide
    rw [this a ha, nI_add]
  refine x_K.of (by decide) (by decide) rfl rfl rfl (r_M_emits_0 (by omega) _ ⟨fun _ => ?_, fun g => absurd g4 g⟩)
  rw [g6, ix_c (c := 226) (c' := 226) rfl (by omega), g1, hc, e1]
  refine ⟨vi_c (c' := 226) rfl (by omega) (by decide), vp_in_nI (by omega) (by decide), fun I4 e4 => ?_⟩
  rw [nI_clamp (by omega)] at e4
  have f5 : I4 142 = J 142 := by rw [e4, up_ne (by decide)]
  have f3 : I4 143 = su t (231 + 140 * a + c) x := by rw [e4, up_su, g1]
  rw [f5, g6, ix_c (c := 226) (c' := 226) rfl (by omega), f3, su_ne (by omega), hc]
  refine ⟨vi_c (c' := 226) rfl (by omega) (by decide), vi_c (c' := 226) rfl (by omega) (by decide), fun I7 e7 => ?_⟩
  rw [nI_1] at e7
  have f7 : I7 142 = J 142 := by rw [e7, up_ne (by decide)]; exact f5
  refine ⟨rfl, ?_, fun j _ _ _ => by rw [f7], ?_⟩
  · unfold MdR
    rw [f7]
    refine ⟨?_, g2, g3, g4, g5, g6⟩
    rw [e7, up_su, f3]
    exact emS_one
  · rw [e7, e4]
    exact (kp.up (by simp)).trans (kp.up (by simp))
theorem m_emitsW {x : Int32} (h : MdR J t e p true o a) (hd : 1 ≤ d) : x_K E d 120 [.ref 142, .int x] J (fun v K => v = none ∧ K = J) := by
  have h8 : J 142 8 = 1 := h.2.2.2.1
  exact x_K.of (by decide) (by decide) rfl rfl rfl (r_M_emits_0 (by omega) _ ⟨fun g => absurd (h8.symm.trans g) (by decide), fun _ => ⟨rfl, rfl⟩⟩)
end RDM
