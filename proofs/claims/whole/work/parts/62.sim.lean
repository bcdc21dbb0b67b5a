/-! ===== the town's text: one call to both, inside a clause ===== -/
def clQ (tv : Nat → Nat) (e : Nat) (T : List Nat) (p' : Nat) (ok : Bool) (c : Nat) (J : Nat → Nat → Int32) : Option Value → (Nat → Nat → Int32) → Prop := fun v K =>
  v = some (.int (bI ok)) ∧ RdR tv e K p' ∧ (∃ c', c' ≤ 100 ∧ K 132 5 = nI c') ∧ (ok = true → K 132 5 = nI (c + T.length) ∧ K 135 = wr c (T.map cC) (J 135)) ∧ (∀ j, j ≠ 5 → K 132 j = J 132 j) ∧ kp [131, 132, 135] J K
def mdQ (t : Nat → Int32) (e : Nat) (T : List Nat) (p' : Nat) (ok : Bool) (o a c : Nat) (J : Nat → Nat → Int32) : Option Value → (Nat → Nat → Int32) → Prop := fun v K =>
  v = none ∧ MdR K (emS a c (T.map cM) t) e p' (!ok) o a ∧ mfr J K
/-- the class's draft has got the tokens A -/
def clA (J K : Nat → Nat → Int32) (c : Nat) (A : List Nat) : Prop := K 132 5 = nI (c + A.length) ∧ K 135 = wr c (A.map cC) (J 135) ∧ (∀ j, j ≠ 5 → K 132 j = J 132 j) ∧ kp [131, 132, 135] J K
theorem clA_nil {J K : Nat → Nat → Int32} {c : Nat} (h5 : J 132 5 = nI c) (k : kp [131] J K) : clA J K c [] := by
  refine ⟨?_, ?_, fun j _ => by rw [k 132 (by simp)], k.mono (by simp)⟩
  · rw [k 132 (by simp)]
    exact h5
  · rw [k 135 (by simp)]
    exact wr_nil.symm
theorem clA_put {J K K2 : Nat → Nat → Int32} {c x : Nat} {A : List Nat} (h : clA J K c A) (h1 : K2 132 = su (K 132) 5 (nI (c + A.length + 1))) (h2 : K2 135 = su (K 135) (c + A.length) (cC x)) (h3 : kp [132, 135] K K2) : clA J K2 c (A ++ [x]) := by
  obtain ⟨g1, g2, g3, g4⟩ := h
  refine ⟨?_, ?_, fun j hj => ?_, g4.trans (h3.mono (by simp))⟩
  · rw [h1, su_eq, List.length_append]
    rfl
  · rw [h2, g2, List.map_append, ← wr_app, List.length_map, ← wr_one]
    rfl
  · rw [h1, su_ne hj]
    exact g3 j hj
theorem clA_trans {J K K2 : Nat → Nat → Int32} {c : Nat} {A B : List Nat} (h : clA J K c A) (g : clA K K2 (c + A.length) B) : clA J K2 c (A ++ B) := by
  obtain ⟨g1, g2, g3, g4⟩ := h
  obtain ⟨f1, f2, f3, f4⟩ := g
  refine ⟨?_, ?_, fun j hj => (f3 j hj).trans (g3 j hj), g4.trans f4⟩
  · rw [f1, List.length_append, Nat.add_assoc]
  · rw [f2, g2, List.map_append, ← wr_app, List.length_map]
theorem clQ_A {tv : Nat → Nat} {e p' c : Nat} {T : List Nat} {J K : Nat → Nat → Int32} {v : Option Value} (h : clQ tv e T p' true c J v K) : clA J K c T := ⟨(h.2.2.2.1 rfl).1, (h.2.2.2.1 rfl).2, h.2.2.2.2.1, h.2.2.2.2.2⟩
theorem clQ_app {tv : Nat → Nat} {e p' c : Nat} {ok : Bool} {A B : List Nat} {J K K2 : Nat → Nat → Int32} {v : Option Value} (h : clA J K c A) (g : clQ tv e B p' ok (c + A.length) K v K2) : clQ tv e (A ++ B) p' ok c J v K2 := by
  obtain ⟨f1, f2, f3, f4, f5, f6⟩ := g
  refine ⟨f1, f2, f3, fun hk => ?_, fun j hj => (f5 j hj).trans (h.2.2.1 j hj), h.2.2.2.trans f6⟩
  have z := clA_trans h ⟨(f4 hk).1, (f4 hk).2, f5, f6⟩
  exact ⟨z.1, z.2.1⟩
theorem clQ_no {tv : Nat → Nat} {e p' c : Nat} {A B : List Nat} {J K K2 : Nat → Nat → Int32} {v : Option Value} (h : clA J K c A) (g : clQ tv e B p' false (c + A.length) K v K2) {T : List Nat} : clQ tv e T p' false c J v K2 := by
  obtain ⟨f1, f2, f3, f4, f5, f6⟩ := g
  exact ⟨f1, f2, f3, fun hk => absurd hk (by decide), fun j hj => (f5 j hj).trans (h.2.2.1 j hj), h.2.2.2.trans f6⟩
theorem clQ_of {tv : Nat → Nat} {e p' c : Nat} {A : List Nat} {J K : Nat → Nat → Int32} {ok : Bool} (h : clA J K c A) (hr : RdR tv e K p') (hc : c + A.length ≤ 100) : clQ tv e A p' ok c J (some (.int (bI ok))) K :=
  ⟨rfl, hr, ⟨_, hc, h.1⟩, fun _ => ⟨h.1, h.2.1⟩, h.2.2.1, h.2.2.2⟩
theorem mdQ_app {t : Nat → Int32} {e p' o a c : Nat} {ok : Bool} {A B : List Nat} {J J' K : Nat → Nat → Int32} {v : Option Value} (ha : a < 5) (hf : mfr J J') (h : mdQ (emS a c (A.map cM) t) e B p' ok o a (c + A.length) J' v K) : mdQ t e (A ++ B) p' ok o a c J v K := by
  obtain ⟨f1, f2, f3⟩ := h
  refine ⟨f1, ?_, hf.trans f3⟩
  rw [List.map_append, ← emS_app ha, List.length_map]
  exact f2
def clK (tv : Nat → Nat) (e dd m : Nat) (as : List Value) (T : List Nat) (p p' : Nat) (ok : Bool) : Prop := ∀ (E : XE) (d : Nat) (J : Nat → Nat → Int32) (c : Nat), dd ≤ d → RdR tv e J p → J 132 5 = nI c → c ≤ p → x_K E d m as J (clQ tv e T p' ok c J)
def mdK (tv : Nat → Nat) (e dd m : Nat) (T : List Nat) (p p' : Nat) (ok : Bool) (o : Nat) : Prop := ∀ (E : XE) (d : Nat) (J : Nat → Nat → Int32) (t : Nat → Int32) (a c : Nat), dd ≤ d → MdR J t e p false o a → tpR t tv e → t (226 + a) = nI c → c ≤ p → a < 5 → x_K E d m [.ref 142] J (mdQ t e T p' ok o a c J)
def sim (tv : Nat → Nat) (e dd kk cm mm o p : Nat) : Prop := ∃ (T : List Nat) (p' : Nat) (ok : Bool), p ≤ p' ∧ p' ≤ e ∧ T.length ≤ p' - p ∧ (ok = true → p < p' ∧ ∀ k, k ≤ kk → okK T k (k + 1)) ∧ clK tv e dd cm [.ref 131, .int (nI o)] T p p' ok ∧ mdK tv e dd mm T p p' ok o
section SIM
variable {tv : Nat → Nat} {e : Nat}
theorem c_testNo {E : XE} {d p : Nat} {J : Nat → Nat → Int32} (h : RdR tv e J p) (he : e ≤ 100) (hp : p ≤ e) (ht : ∀ i, i < e → tv i < 128) (hx : x_ixl (hC tv e p) (x_sl 3) 0 = (-1 : Int32)) (hd : 6 ≤ d) : x_K E d 40 [.ref 131] J (x_pu (.int 0) J) := by
  obtain ⟨h2, h3, h7⟩ := h
  refine x_K.of (by decide) (by decide) rfl rfl rfl (r_Reader_readsTest_0 (by omega) ?_)
  rw [h2, h3]
  refine ⟨fun _ => ⟨rfl, rfl⟩, fun g => ⟨?_, ?_⟩⟩
  · refine vp_in_nI ?_ (by decide)
    rcases Nat.lt_or_ge p e with z | z
    · omega
    · exact absurd (nI_le z (by omega)) g
  have c : p < e := by
    rcases Nat.lt_or_ge p e with z | z
    · exact z
    · exact absurd (nI_le z (by omega)) g
  rw [nI_clamp (by omega), h7 p c, ch_fin _ (ht p c)]
  refine (c_indexOf (e := 3) (n := tv p) (by decide) (ht p c) (by omega)).pu (r_Reader_readsTest_13 (by omega) _ ?_)
  have e1 : x_ixl (nI (tv p)) (x_sl 3) 0 = (-1 : Int32) := by
    unfold hC at hx
    rw [if_pos c] at hx
    exact hx
  rw [e1]
  exact ⟨fun z => absurd z (by decide), fun _ => ⟨rfl, rfl⟩⟩
theorem MdR_8 {J K : Nat → Nat → Int32} {t : Nat → Int32} {p o a : Nat} {b b' : Bool} (h : MdR J t e p b o a) (e8 : K = x_up J 142 8 (bI b')) : MdR K t e p b' o a := by
  obtain ⟨g1, g2, g3, g4, g5, g6⟩ := h
  unfold MdR
  rw [e8, up_ne (by decide), up_su, su_ne (by decide), su_ne (by decide), su_eq, su_ne (by decide), su_ne (by decide)]
  exact ⟨g1, g2, g3, rfl, g5, g6⟩
/-- a test -/
theorem s_test (he : e ≤ 100) (ht : ∀ i, i < e → tv i < 128) {p : Nat} (hp : p ≤ e) : ∃ (T : List Nat) (p' : Nat) (ok : Bool), p ≤ p' ∧ p' ≤ e ∧ T.length ≤ p' - p ∧ (ok = true → p < p' ∧ ∀ k, k < 60 → okK T k (k + 1)) ∧ clK tv e 7 40 [.ref 131] T p p' ok ∧
    ∀ (E : XE) (d : Nat) (J : Nat → Nat → Int32) (t : Nat → Int32) (o a c : Nat), 7 ≤ d → MdR J t e p false o a → tpR t tv e → t (226 + a) = nI c → c ≤ p → a < 5 → x_K E (d - 1) 119 [.ref 142, .ref 11] J (fun v I2 => x_P E d 121 63 [.ref 142, x_jk, x_jk, x_jk, x_jk] (v.toList ++ []) I2 (mdQ t e T p' ok o a c J)) := by
  -- what the model does once it is wrong
  have mW : ∀ (E : XE) (d : Nat) (J K : Nat → Nat → Int32) (t : Nat → Int32) (o a c q : Nat) (w v : Int32), 7 ≤ d → MdR K t e q true o a → mfr J K → t (226 + a) = nI c → x_K E (d - 1) 118 [.ref 142] K (fun v2 I2 => x_P E d 121 94 [.ref 142, x_jk, .int w, .int v, x_jk] (v2.toList ++ []) I2 (mdQ t e [] q false o a c J)) := by
    intro E d J K t o a c q w v hd hK k1 hc
    refine (m_figW hK (by omega)).mono (fun v2 K2 hv => ?_)
    obtain ⟨hv, hK2, k2⟩ := hv
    rw [hv]
    refine r_M_factor_94 (by omega) _ _ _ ((m_emitsW hK2 (by omega)).mono (fun v3 K3 hv => ?_))
    obtain ⟨hv, e3⟩ := hv
    rw [hv, e3]
    refine r_M_factor_106 (by omega) ⟨rfl, ?_, k1.trans k2⟩
    rw [show ([] : List Nat).map cM = [] from rfl, emS_nil hc]
    exact hK2
  by_cases hx : x_ixl (hC tv e p) (x_sl 3) 0 = (-1 : Int32)
  · refine ⟨[], p, false, Nat.le_refl _, hp, Nat.zero_le _, fun g => absurd g (by decide), fun E d J c hd hJ h5 hc => ?_, fun E d J t o a c hd hJ hT hc hcp ha => ?_⟩
    · exact (c_testNo hJ he hp ht hx (by omega)).pu (clQ_of (clA_nil h5 kp.rfl') hJ (by show c + 0 ≤ 100; omega))
    · refine (m_among (k := 3) hJ hT he hp (by decide) (by omega)).mono (fun v K hv => ?_)
      obtain ⟨hv, hK, k1⟩ := hv
      rw [hv, hx]
      rw [if_pos hx] at hK
      refine r_M_factor_63 (by omega) _ (fun I2 e2 => ?_)
      have e2 : I2 = x_up K 142 8 (bI true) := e2
      have hI2 := MdR_8 hK e2
      have h8 : I2 142 8 = 1 := hI2.2.2.2.1
      refine ⟨fun g => absurd (h8.symm.trans g) (by decide), fun _ I6 e6 => ?_⟩
      have e6 : I6 = x_up I2 142 8 (bI true) := by rw [e6, h8]; rfl
      exact mW E d J I6 t o a c p _ _ hd (MdR_8 hI2 e6) ((k1.trans (mfr.f (Or.inr (Or.inl rfl)) e2)).trans (mfr.f (Or.inr (Or.inl rfl)) e6)) hc
  have c : p < e := by
    rcases Nat.lt_or_ge p e with z | z
    · exact z
    · exfalso
      apply hx
      unfold hC
      rw [if_neg (by omega)]
      decide
  have hCp : hC tv e p = nI (tv p) := if_pos c
  obtain ⟨A, hA, eA⟩ := (ix3_fin (tv p) (ht p c)).resolve_left (by rw [← hCp]; exact hx)
  rw [hCp] at hx
  -- the class up to the sign
  have cA : ∀ (E : XE) (d : Nat) (J : Nat → Nat → Int32) Q, 7 ≤ d → RdR tv e J p → (∀ I2, I2 = x_up J 131 3 (nI (p + 1)) → (((I2 131 2) ≤ (I2 131 3) → Q (some (.int 0)) I2) ∧ (¬ ((I2 131 2) ≤ (I2 131 3)) → (vp_in (I2 131 3) 100) ∧ x_K E (d - 1) 8 [.ref 12, .int (((I2 137 (I2 131 3).toNatClampNeg).toUInt32 % 65536).toInt32)] I2 (fun v I3 => x_P E d 40 39 [.ref 131, .int (nI A), x_jk] (v.toList ++ []) I3 Q)))) → x_K E d 40 [.ref 131] J Q := by
    intro E d J Q hd hJ hQ
    obtain ⟨h2, h3, h7⟩ := hJ
    refine x_K.of (by decide) (by decide) rfl rfl rfl (r_Reader_readsTest_0 (by omega) ?_)
    rw [h2, h3]
    refine ⟨fun g => absurd g (nI_ge c (by omega)), fun _ => ⟨vp_in_nI (by omega) (by decide), ?_⟩⟩
    rw [nI_clamp (by omega), h7 p c, ch_fin _ (ht p c)]
    refine (c_indexOf (e := 3) (n := tv p) (by decide) (ht p c) (by omega)).pu (r_Reader_readsTest_13 (by omega) _ ?_)
    rw [eA]
    refine ⟨fun _ I2 e2 => hQ I2 ?_, fun g => absurd (nI_pos' (by omega)) g⟩
    rw [e2, h3, nI_1]
  -- the model up to the sign
  have mA : ∀ (E : XE) (d : Nat) (J : Nat → Nat → Int32) (t : Nat → Int32) (o a : Nat) Q, 7 ≤ d → MdR J t e p false o a → tpR t tv e → (∀ K, MdR K t e (p + 1) false o a → mfr J K → x_K E (d - 1) 119 [.ref 142, .ref 12] K (fun v I3 => x_P E d 121 80 [.ref 142, x_jk, .int (nI A), x_jk, x_jk] (v.toList ++ []) I3 Q)) → x_K E (d - 1) 119 [.ref 142, .ref 11] J (fun v I2 => x_P E d 121 63 [.ref 142, x_jk, x_jk, x_jk, x_jk] (v.toList ++ []) I2 Q) := by
    intro E d J t o a Q hd hJ hT hQ
    refine (m_among (k := 3) hJ hT he hp (by decide) (by omega)).mono (fun v K hv => ?_)
    obtain ⟨hv, hK, k1⟩ := hv
    rw [hCp, eA, if_neg (nI_ne_neg (by omega) (by decide))] at hK
    rw [hv, hCp, eA]
    refine r_M_factor_63 (by omega) _ (fun I2 e2 => ?_)
    rw [x_bi_f (nI_ne_neg (by omega) (by decide))] at e2
    have e2 : I2 = x_up K 142 8 (bI false) := e2
    have hI2 := MdR_8 hK e2
    exact ⟨fun _ => hQ I2 hI2 (k1.trans (mfr.f (Or.inr (Or.inl rfl)) e2)), fun g => absurd hI2.2.2.2.1 g⟩
  by_cases hy : x_ixl (hC tv e (p + 1)) (x_sl 4) 0 = (-1 : Int32)
  · refine ⟨[], p + 1, false, by omega, c, Nat.zero_le _, fun g => absurd g (by decide), fun E d J c' hd hJ h5 hc => cA E d J _ hd hJ (fun I2 e2 => ?_), fun E d J t o a c' hd hJ hT hc hcp ha => mA E d J t o a _ hd hJ hT (fun K hK k1 => ?_)⟩
    · have hI2 : RdR tv e I2 (p + 1) := RdR_up hJ (by rw [e2, up_su]) (by rw [e2, up_ne (by decide)])
      have fin : clQ tv e [] (p + 1) false c' J (some (.int 0)) I2 := clQ_of (ok := false) (clA_nil h5 (by rw [e2]; exact kp.up (by simp))) hI2 (by show c' + 0 ≤ 100; omega)
      obtain ⟨h2, h3, h7⟩ := hI2
      rw [h2, h3]
      refine ⟨fun _ => fin, fun g => ?_⟩
      have c1 : p + 1 < e := by
        rcases Nat.lt_or_ge (p + 1) e with z | z
        · exact z
        · exact absurd (nI_le z (by omega)) g
      refine ⟨vp_in_nI (by omega) (by decide), ?_⟩
      rw [nI_clamp (by omega), h7 _ c1, ch_fin _ (ht _ c1)]
      refine (c_indexOf (e := 4) (n := tv (p + 1)) (by decide) (ht _ c1) (by omega)).pu (r_Reader_readsTest_39 (by omega) _ _ ?_)
      have e1 : x_ixl (nI (tv (p + 1))) (x_sl 4) 0 = (-1 : Int32) := by
        unfold hC at hy
        rw [if_pos c1] at hy
        exact hy
      rw [e1]
      exact ⟨fun z => absurd z (by decide), fun _ => fin⟩
    · refine (m_among (k := 4) hK hT he c (by decide) (by omega)).mono (fun v K2 hv => ?_)
      obtain ⟨hv, hK2, k2⟩ := hv
      rw [hv, hy]
      rw [if_pos hy] at hK2
      refine r_M_factor_80 (by omega) _ _ (fun I3 e3 => ?_)
      have h8 : K2 142 8 = 0 := hK2.2.2.2.1
      have e3 : I3 = x_up K2 142 8 (bI true) := by rw [e3, h8]; rfl
      exact mW E d J I3 t o a c' (p + 1) _ _ hd (MdR_8 hK2 e3) ((k1.trans k2).trans (mfr.f (Or.inr (Or.inl rfl)) e3)) hc
  have c1 : p + 1 < e := by
    rcases Nat.lt_or_ge (p + 1) e with z | z
    · exact z
    · exfalso
      apply hy
      unfold hC
      rw [if_neg (by omega)]
      decide
  have hCp1 : hC tv e (p + 1) = nI (tv (p + 1)) := if_pos c1
  obtain ⟨B, hB, eB⟩ := (ix4_fin (tv (p + 1)) (ht _ c1)).resolve_left (by rw [← hCp1]; exact hy)
  obtain ⟨f1, f2, f3, f4⟩ := fg_le (tv := tv) (e := e) (p := p + 2) (by omega)
  -- the class up to the number
  have cB : ∀ (E : XE) (d : Nat) (J : Nat → Nat → Int32) Q, 7 ≤ d → RdR tv e J p → (∀ K, RdR tv e K (p + 2 + fgD tv e (p + 2)) → K 131 4 = nI (fgV tv e (p + 2)) → kp [131] J K → x_P E d 40 54 [.ref 131, .int (nI A), .int (nI B)] [.int (bI (isD tv e (p + 2)))] K Q) → x_K E d 40 [.ref 131] J Q := by
    intro E d J Q hd hJ hQ
    refine cA E d J _ hd hJ (fun I2 e2 => ?_)
    have hI2 : RdR tv e I2 (p + 1) := RdR_up hJ (by rw [e2, up_su]) (by rw [e2, up_ne (by decide)])
    obtain ⟨h2, h3, h7⟩ := hI2
    rw [h2, h3]
    refine ⟨fun g => absurd g (nI_ge c1 (by omega)), fun _ => ⟨vp_in_nI (by omega) (by decide), ?_⟩⟩
    rw [nI_clamp (by omega), h7 _ c1, ch_fin _ (ht _ c1)]
    refine (c_indexOf (e := 4) (n := tv (p + 1)) (by decide) (ht _ c1) (by omega)).pu (r_Reader_readsTest_39 (by omega) _ _ ?_)
    rw [eB]
    refine ⟨fun _ I3 e3 => ?_, fun g => absurd (nI_pos' (by omega)) g⟩
    rw [h3, nI_1] at e3
    have hI3 : RdR tv e I3 (p + 2) := RdR_up ⟨h2, h3, h7⟩ (by rw [e3, up_su]) (by rw [e3, up_ne (by decide)])
    refine (c_number hI3 he (by omega) ht (by omega)).mono (fun v K hv => ?_)
    obtain ⟨hv, hK, h4, k1⟩ := hv
    rw [hv]
    exact hQ K hK h4 (by rw [e3, e2] at k1; exact ((kp.up (by simp)).trans (kp.up (by simp))).trans k1)
  have mB : ∀ (E : XE) (d : Nat) (J : Nat → Nat → Int32) (t : Nat → Int32) (o a : Nat) Q, 7 ≤ d → MdR J t e p false o a → tpR t tv e → (∀ K, MdR K t e (p + 2 + fgD tv e (p + 2)) (!isD tv e (p + 2)) o a → mfr J K → x_P E d 121 94 [.ref 142, x_jk, .int (nI A), .int (nI B), x_jk] [.int (nI (fgV tv e (p + 2)))] K Q) → x_K E (d - 1) 119 [.ref 142, .ref 11] J (fun v I2 => x_P E d 121 63 [.ref 142, x_jk, x_jk, x_jk, x_jk] (v.toList ++ []) I2 Q) := by
    intro E d J t o a Q hd hJ hT hQ
    refine mA E d J t o a _ hd hJ hT (fun K hK k1 => (m_among (k := 4) hK hT he c (by decide) (by omega)).mono (fun v K2 hv => ?_))
    obtain ⟨hv, hK2, k2⟩ := hv
    rw [hCp1, eB, if_neg (nI_ne_neg (by omega) (by decide))] at hK2
    rw [hv, hCp1, eB]
    refine r_M_factor_80 (by omega) _ _ (fun I3 e3 => ?_)
    have h8 : K2 142 8 = 0 := hK2.2.2.2.1
    have e3 : I3 = x_up K2 142 8 (bI false) := by
      rw [e3, h8, x_bi_f (fun g => by
        rcases g with g | g
        · exact g rfl
        · exact nI_ne_neg (by omega) (by decide) g)]
      rfl
    refine (m_figures (MdR_8 hK2 e3) hT he (by omega) ht (by omega)).mono (fun v K4 hv => ?_)
    obtain ⟨hv, hK4, k4⟩ := hv
    rw [hv]
    exact hQ K4 hK4 (((k1.trans k2).trans (mfr.f (Or.inr (Or.inl rfl)) e3)).trans k4)
  cases hD : isD tv e (p + 2)
  · rw [hD] at cB mB
    rw [f4 hD] at cB mB
    refine ⟨[], p + 2, false, by omega, by omega, Nat.zero_le _, fun g => absurd g (by decide), fun E d J c' hd hJ h5 hc => cB E d J _ hd hJ (fun K hK h4 k1 => ?_), fun E d J t o a c' hd hJ hT hc hcp ha => mB E d J t o a _ hd hJ hT (fun K hK k1 => ?_)⟩
    · refine r_Reader_readsTest_54 (by omega) _ _ _ ⟨fun _ => clQ_of (ok := false) (clA_nil h5 k1) hK (by show c' + 0 ≤ 100; omega), fun g => absurd rfl g⟩
    · refine r_M_factor_94 (by omega) _ _ _ ((m_emitsW hK (by omega)).mono (fun v3 K3 hv => ?_))
      obtain ⟨hv, e3⟩ := hv
      rw [hv, e3]
      refine r_M_factor_106 (by omega) ⟨rfl, ?_, k1⟩
      rw [show ([] : List Nat).map cM = [] from rfl, emS_nil hc]
      exact hK
  · rw [hD] at cB mB
    have f3 := f3 hD
    refine ⟨[tsN A B (fgV tv e (p + 2))], p + 2 + fgD tv e (p + 2), true, by omega, f1, by show 1 ≤ _; omega, fun _ => ⟨by omega, fun k hk => okK_tst ⟨A, B, _, hA, hB, by omega, rfl⟩ hk⟩, fun E d J c' hd hJ h5 hc => cB E d J _ hd hJ (fun K hK h4 k1 => ?_), fun E d J t o a c' hd hJ hT hc hcp ha => mB E d J t o a _ hd hJ hT (fun K hK k1 => ?_)⟩
    · refine r_Reader_readsTest_54 (by omega) _ _ _ ⟨fun g => absurd g (by decide), fun _ => ?_⟩
      have ex : ((nI A * (3 : Int32) + nI B) * (100 : Int32)) + nI (fgV tv e (p + 2)) = cC (tsN A B (fgV tv e (p + 2))) := by
        rw [cC_ts hA hB]
        have : ∀ A, A < 6 → ∀ B, B < 3 → (nI A * (3 : Int32) + nI B) * (100 : Int32) = nI ((A * 3 + B) * 100) := by decide
        rw [this A hA B hB, nI_add]
      rw [h4]
      have hA0 := clA_nil h5 k1
      have h5K : K 132 5 = nI c' := hA0.1
      refine x_K.of (by decide) (by decide) rfl rfl rfl (r_Town_testCode_0 (by omega) _ _ _ ?_)
      rw [ex]
      refine r_Reader_readsTest_64 (by omega) _ ((c_put51 h5K (by omega) (by omega)).mono (fun v K2 hv => ?_))
      obtain ⟨hv, hp1, _, k2⟩ := hv
      obtain ⟨q1, q2⟩ := hp1 (by omega)
      rw [hv]
      exact r_Reader_readsTest_65 (by omega) (clQ_of (ok := true) (A := [tsN A B (fgV tv e (p + 2))]) (clA_put (A := []) hA0 q1 q2 k2) (RdR_k hK (k2 131 (by simp)) (k2 137 (by simp))) (by show c' + 1 ≤ 100; omega))
    · have ex : (nI A + (8 : Int32) * nI B) + (32 : Int32) * nI (fgV tv e (p + 2)) = cM (tsN A B (fgV tv e (p + 2))) := by
        rw [cM_ts]
        have h1 : ∀ B, B < 3 → (8 : Int32) * nI B = nI (8 * B) := by decide
        have h2 : ∀ n, n < 100 → (32 : Int32) * nI n = nI (32 * n) := by decide
        rw [h1 B hB, h2 _ (by omega), nI_add, nI_add]
      refine r_M_factor_94 (by omega) _ _ _ ?_
      rw [ex]
      refine (m_emits hK ha hc (by omega) (by omega)).mono (fun v3 K3 hv => ?_)
      obtain ⟨hv, hK3, k3⟩ := hv
      rw [hv]
      exact r_M_factor_106 (by omega) ⟨rfl, hK3, k1.trans k3⟩
end SIM
