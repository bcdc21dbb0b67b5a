/-! ===== the town's text: factors joined by & and by | ===== -/
section JOI
variable {tv : Nat → Nat} {e : Nat}
theorem s_tailB (he : e ≤ 100) (ht : ∀ i, i < e → tv i < 128) {o dd kk : Nat} (h10 : 10 ≤ dd) (one : ∀ p, p ≤ e → sim tv e dd (kk + 1) 39 121 o p) : ∀ m p i, e - p = m → p ≤ e → 2 * i ≤ p →
    ∃ (T : List Nat) (p' : Nat) (ok : Bool), p ≤ p' ∧ p' ≤ e ∧ T.length ≤ p' - p ∧ (ok = true → ∀ k, k ≤ kk → okK T (k + 1) (k + 1)) ∧
      (∀ (E : XE) (d : Nat) (J : Nat → Nat → Int32) (c : Nat), dd + 1 ≤ d → RdR tv e J p → J 132 5 = nI c → c ≤ p → x_K E (d - 1) 42 [.ref 131, .int (38 : Int32)] J (fun v I2 => x_P E d 38 20 [.ref 131, .int (nI o), .int (nI i)] (v.toList ++ []) I2 (clQ tv e T p' ok c J))) ∧
      ∀ (E : XE) (d : Nat) (J : Nat → Nat → Int32) (t : Nat → Int32) (a c : Nat), dd + 1 ≤ d → MdR J t e p false o a → tpR t tv e → t (226 + a) = nI c → c ≤ p → a < 5 → x_P E d 122 2 [.ref 142] [] J (mdQ t e T p' ok o a c J) := by
  intro m
  induction m using Nat.strongRecOn with
  | ind m ih =>
    intro p i hm hp hi
    by_cases g : hC tv e p = (38 : Int32)
    · have c0 : p < e := hC_ne g (by decide)
      obtain ⟨T1, p1, ok1, l1, l2, l3, l4, l5, l6⟩ := one (p + 1) c0
      -- the model at the sign
      have mS : ∀ (E : XE) (d : Nat) (J : Nat → Nat → Int32) (t : Nat → Int32) (a c : Nat) Q, dd + 1 ≤ d → MdR J t e p false o a → tpR t tv e → t (226 + a) = nI c → c ≤ p → a < 5 → (∀ K J1, mfr J J1 → mdQ t e T1 p1 ok1 o a c J1 none K → x_P E d 122 17 [.ref 142] [] K Q) → x_P E d 122 2 [.ref 142] [] J Q := by
        intro E d J t a c Q hd hJ hT hc hcp ha hQ
        have h8 : J 142 8 = 0 := hJ.2.2.2.1
        refine r_M_every_2 (by omega) ⟨fun _ => (m_here hJ hT he hp (by omega)).pu (r_M_every_7 (by omega) _ ⟨fun _ I2 e2 => ?_, fun z => absurd g z⟩), fun z => absurd h8 z⟩
        have h6 : J 142 6 = nI p := hJ.2.2.1
        rw [h6, nI_1] at e2
        have hI2 : MdR I2 t e (p + 1) false o a := by
          obtain ⟨g1, g2, g3, g4, g5, g6⟩ := hJ
          unfold MdR
          rw [e2, up_ne (by decide), up_su, su_ne (by decide), su_eq, su_ne (by decide), su_ne (by decide), su_ne (by decide)]
          exact ⟨g1, g2, rfl, g4, g5, g6⟩
        refine (l6 E (d - 1) I2 t a c (by omega) hI2 hT hc (by omega) ha).mono (fun v K hv => ?_)
        have hvn : v = none := hv.1
        rw [hvn] at hv ⊢
        exact hQ K I2 (mfr.f (Or.inl rfl) e2) hv
      -- the class at the sign
      have cS : ∀ (E : XE) (d : Nat) (J : Nat → Nat → Int32) (c : Nat) Q, dd + 1 ≤ d → RdR tv e J p → J 132 5 = nI c → c ≤ p → (∀ K J1, clA J J1 c [] → clQ tv e T1 p1 ok1 c J1 (some (.int (bI ok1))) K → x_P E d 38 8 [.ref 131, .int (nI o), .int (nI (i + 1))] [.int (bI ok1)] K Q) → x_K E (d - 1) 42 [.ref 131, .int (38 : Int32)] J (fun v I2 => x_P E d 38 20 [.ref 131, .int (nI o), .int (nI i)] (v.toList ++ []) I2 Q) := by
        intro E d J c Q hd hJ h5 hc hQ
        refine (c_takes hJ he hp (by decide) (by omega)).mono (fun v K hv => ?_)
        obtain ⟨hv, hK, _, k1⟩ := hv
        rw [if_pos g] at hK
        rw [decide_eq_true g] at hv
        rw [hv]
        refine r_Reader_readsBoth_20 (by omega) _ _ _ ⟨fun z => absurd z (by decide), fun _ => ?_⟩
        rw [nI_1]
        refine r_Reader_readsBoth_2 (by omega) _ _ ⟨fun z => absurd z (nI_ge (a := i + 1) (b := 100) (by omega) (by decide)), fun _ => ?_⟩
        have hA := clA_nil h5 k1
        refine (l5 E (d - 1) K c (by omega) hK hA.1 (by omega)).mono (fun v K2 hv => ?_)
        have hvs : v = some (.int (bI ok1)) := hv.1
        rw [hvs] at hv ⊢
        exact hQ K2 K hA hv
      cases hok : ok1
      · rw [hok] at cS mS
        refine ⟨T1, p1, false, by omega, l2, by omega, fun z => absurd z (by decide), fun E d J c hd hJ h5 hc => cS E d J c _ hd hJ h5 hc (fun K J1 hA hq => ?_), fun E d J t a c hd hJ hT hc hcp ha => mS E d J t a c _ hd hJ hT hc hcp ha (fun K J1 hf hq => ?_)⟩
        · refine r_Reader_readsBoth_8 (by omega) _ _ _ ⟨fun _ => ?_, fun z => absurd rfl z⟩
          exact clQ_no hA (B := T1) hq
        · obtain ⟨_, q2, q3⟩ := hq
          refine r_M_every_17 (by omega) ((m_emitsW q2 (by omega)).mono (fun v3 K3 hv => ?_))
          obtain ⟨hv, e3⟩ := hv
          rw [hv, e3]
          have h8 : K 142 8 = 1 := q2.2.2.2.1
          refine r_M_every_20 (by omega) (r_M_every_2 (by omega) ⟨fun z => absurd (h8.symm.trans z) (by decide), fun _ => ⟨rfl, q2, hf.trans q3⟩⟩)
      · rw [hok] at cS mS
        obtain ⟨l7, l8⟩ := l4 hok
        obtain ⟨T2, p2, ok2, n1, n2, n3, n4, n5, n6⟩ := ih (e - p1) (by omega) p1 (i + 1) rfl l2 (by omega)
        refine ⟨(T1 ++ [1]) ++ T2, p2, ok2, by omega, n2, by rw [List.length_append, List.length_append]; show T1.length + 1 + T2.length ≤ _; omega, fun z k hk => okK_app (okK_app (l8 (k + 1) (by omega)) (okK_bin (by decide) (by omega))) (n4 z k hk), fun E d J c hd hJ h5 hc => cS E d J c _ hd hJ h5 hc (fun K J1 hA hq => ?_), fun E d J t a c hd hJ hT hc hcp ha => mS E d J t a c _ hd hJ hT hc hcp ha (fun K J1 hf hq => ?_)⟩
        · refine r_Reader_readsBoth_8 (by omega) _ _ _ ⟨fun z => absurd z (by decide), fun _ => ⟨fun z => absurd z (nI_nle (by omega) (by omega)), fun _ => ?_⟩⟩
          have hA1 : clA J K c T1 := clA_trans (A := []) hA (clQ_A hq)
          refine (c_put51 hA1.1 (by omega) (by omega)).mono (fun v K2 hv => ?_)
          obtain ⟨hv, hp1, _, k2⟩ := hv
          obtain ⟨q1, q2⟩ := hp1 (by omega)
          rw [hv]
          have hA2 : clA J K2 c (T1 ++ [1]) := clA_put hA1 q1 q2 k2
          have hR2 : RdR tv e K2 p1 := RdR_k hq.2.1 (k2 131 (by simp)) (k2 137 (by simp))
          refine r_Reader_readsBoth_17 (by omega) _ _ ((n5 E d K2 (c + (T1 ++ [1]).length) hd hR2 hA2.1 (by rw [List.length_append]; show c + (T1.length + 1) ≤ _; omega)).mono (fun v K3 hv => ?_))
          exact x_P.mono hv (fun v K4 hv4 => clQ_app hA2 hv4)
        · obtain ⟨_, q2, q3⟩ := hq
          refine r_M_every_17 (by omega) ((m_emits (c := c + T1.length) q2 ha (by rw [emS_cnt, List.length_map]) (by omega) (by omega)).mono (fun v3 K3 hv => ?_))
          obtain ⟨hv, hK3, k3⟩ := hv
          rw [hv]
          have ee : emS a (c + T1.length) [(-2 : Int32)] (emS a c (T1.map cM) t) = emS a c ((T1 ++ [1]).map cM) t := by
            rw [List.map_append, ← emS_app ha, List.length_map]
            rfl
          rw [ee] at hK3
          refine r_M_every_20 (by omega) (x_P.mono (n6 E d K3 _ a (c + (T1 ++ [1]).length) hd hK3 (tpR_em he hT) (by rw [emS_cnt, List.length_map]) (by rw [List.length_append]; show c + (T1.length + 1) ≤ _; omega) ha) (fun v K4 hv4 => mdQ_app ha ((hf.trans q3).trans k3) hv4))
    · refine ⟨[], p, true, Nat.le_refl _, hp, Nat.zero_le _, fun _ k _ => rfl, fun E d J c hd hJ h5 hc => ?_, fun E d J t a c hd hJ hT hc hcp ha => ?_⟩
      · refine (c_takes hJ he hp (by decide) (by omega)).mono (fun v K hv => ?_)
        obtain ⟨hv, hK, _, k1⟩ := hv
        rw [if_neg g] at hK
        rw [decide_eq_false g] at hv
        rw [hv]
        exact r_Reader_readsBoth_20 (by omega) _ _ _ ⟨fun _ => clQ_of (ok := true) (clA_nil h5 k1) hK (by show c + 0 ≤ 100; omega), fun z => absurd rfl z⟩
      · have h8 : J 142 8 = 0 := hJ.2.2.2.1
        refine r_M_every_2 (by omega) ⟨fun _ => (m_here hJ hT he hp (by omega)).pu (r_M_every_7 (by omega) _ ⟨fun z => absurd z g, fun _ => ⟨rfl, ?_, mfr.rfl'⟩⟩), fun z => absurd h8 z⟩
        rw [show ([] : List Nat).map cM = [] from rfl, emS_nil hc]
        exact hJ
theorem s_every (he : e ≤ 100) (ht : ∀ i, i < e → tv i < 128) {o dd kk : Nat} (h10 : 10 ≤ dd) (one : ∀ p, p ≤ e → sim tv e dd (kk + 1) 39 121 o p) : ∀ p, p ≤ e → sim tv e (dd + 1) kk 38 122 o p := by
  intro p hp
  obtain ⟨T1, p1, ok1, l1, l2, l3, l4, l5, l6⟩ := one p hp
  cases hok : ok1
  · rw [hok] at l5 l6
    refine ⟨T1, p1, false, l1, l2, l3, fun z => absurd z (by decide), fun E d J c hd hJ h5 hc => ?_, fun E d J t a c hd hJ hT hc hcp ha => ?_⟩
    · refine x_K.of (by decide) (by decide) rfl rfl rfl (r_Reader_readsBoth_0 (by omega) _ (r_Reader_readsBoth_2 (by omega) _ _ ⟨fun z => absurd z (by decide), fun _ => (l5 E (d - 1) J c (by omega) hJ h5 hc).mono (fun v K hv => ?_)⟩))
      have hvs : v = some (.int (bI false)) := hv.1
      rw [hvs] at hv ⊢
      exact r_Reader_readsBoth_8 (by omega) _ _ _ ⟨fun _ => hv, fun z => absurd rfl z⟩
    · refine x_K.of (by decide) (by decide) rfl rfl rfl (r_M_every_0 (by omega) ((l6 E (d - 1) J t a c (by omega) hJ hT hc hcp ha).mono (fun v K hv => ?_)))
      obtain ⟨hv, q2, q3⟩ := hv
      rw [hv]
      have h8 : K 142 8 = 1 := q2.2.2.2.1
      exact r_M_every_2 (by omega) ⟨fun z => absurd (h8.symm.trans z) (by decide), fun _ => ⟨rfl, q2, q3⟩⟩
  · rw [hok] at l5 l6
    obtain ⟨l7, l8⟩ := l4 hok
    obtain ⟨T2, p2, ok2, n1, n2, n3, n4, n5, n6⟩ := s_tailB he ht h10 one (e - p1) p1 0 rfl l2 (by omega)
    refine ⟨T1 ++ T2, p2, ok2, by omega, n2, by rw [List.length_append]; omega, fun z => ⟨by omega, fun k hk => okK_app (l8 k (by omega)) (n4 z k hk)⟩, fun E d J c hd hJ h5 hc => ?_, fun E d J t a c hd hJ hT hc hcp ha => ?_⟩
    · refine x_K.of (by decide) (by decide) rfl rfl rfl (r_Reader_readsBoth_0 (by omega) _ (r_Reader_readsBoth_2 (by omega) _ _ ⟨fun z => absurd z (by decide), fun _ => (l5 E (d - 1) J c (by omega) hJ h5 hc).mono (fun v K hv => ?_)⟩))
      have hvs : v = some (.int (bI true)) := hv.1
      rw [hvs] at hv ⊢
      have hA1 : clA J K c T1 := clQ_A hv
      refine r_Reader_readsBoth_8 (by omega) _ _ _ ⟨fun z => absurd z (by decide), fun _ => ⟨fun _ => ?_, fun z => absurd (Int32.le_refl 0) z⟩⟩
      refine (n5 E d K (c + T1.length) hd hv.2.1 hA1.1 (by omega)).mono (fun v K3 hv3 => ?_)
      rw [nI_0] at hv3
      exact x_P.mono hv3 (fun v K4 hv4 => clQ_app hA1 hv4)
    · refine x_K.of (by decide) (by decide) rfl rfl rfl (r_M_every_0 (by omega) ((l6 E (d - 1) J t a c (by omega) hJ hT hc hcp ha).mono (fun v K hv => ?_)))
      obtain ⟨hv, q2, q3⟩ := hv
      rw [hv]
      exact x_P.mono (n6 E d K _ a (c + T1.length) hd q2 (tpR_em he hT) (by rw [emS_cnt, List.length_map]) (by omega) ha) (fun v K4 hv4 => mdQ_app ha q3 hv4)
theorem s_tailE (he : e ≤ 100) (ht : ∀ i, i < e → tv i < 128) {o dd kk : Nat} (h10 : 10 ≤ dd) (one : ∀ p, p ≤ e → sim tv e dd (kk + 1) 38 122 o p) : ∀ m p i, e - p = m → p ≤ e → 2 * i ≤ p →
    ∃ (T : List Nat) (p' : Nat) (ok : Bool), p ≤ p' ∧ p' ≤ e ∧ T.length ≤ p' - p ∧ (ok = true → ∀ k, k ≤ kk → okK T (k + 1) (k + 1)) ∧
      (∀ (E : XE) (d : Nat) (J : Nat → Nat → Int32) (c : Nat), dd + 1 ≤ d → RdR tv e J p → J 132 5 = nI c → c ≤ p → x_K E (d - 1) 42 [.ref 131, .int (124 : Int32)] J (fun v I2 => x_P E d 37 20 [.ref 131, .int (nI o), .int (nI i)] (v.toList ++ []) I2 (clQ tv e T p' ok c J))) ∧
      ∀ (E : XE) (d : Nat) (J : Nat → Nat → Int32) (t : Nat → Int32) (a c : Nat), dd + 1 ≤ d → MdR J t e p false o a → tpR t tv e → t (226 + a) = nI c → c ≤ p → a < 5 → x_P E d 123 2 [.ref 142] [] J (mdQ t e T p' ok o a c J) := by
  intro m
  induction m using Nat.strongRecOn with
  | ind m ih =>
    intro p i hm hp hi
    by_cases g : hC tv e p = (124 : Int32)
    · have c0 : p < e := hC_ne g (by decide)
      obtain ⟨T1, p1, ok1, l1, l2, l3, l4, l5, l6⟩ := one (p + 1) c0
      -- the model at the sign
      have mS : ∀ (E : XE) (d : Nat) (J : Nat → Nat → Int32) (t : Nat → Int32) (a c : Nat) Q, dd + 1 ≤ d → MdR J t e p false o a → tpR t tv e → t (226 + a) = nI c → c ≤ p → a < 5 → (∀ K J1, mfr J J1 → mdQ t e T1 p1 ok1 o a c J1 none K → x_P E d 123 17 [.ref 142] [] K Q) → x_P E d 123 2 [.ref 142] [] J Q := by
        intro E d J t a c Q hd hJ hT hc hcp ha hQ
        have h8 : J 142 8 = 0 := hJ.2.2.2.1
        refine r_M_some_2 (by omega) ⟨fun _ => (m_here hJ hT he hp (by omega)).pu (r_M_some_7 (by omega) _ ⟨fun _ I2 e2 => ?_, fun z => absurd g z⟩), fun z => absurd h8 z⟩
        have h6 : J 142 6 = nI p := hJ.2.2.1
        rw [h6, nI_1] at e2
        have hI2 : MdR I2 t e (p + 1) false o a := by
          obtain ⟨g1, g2, g3, g4, g5, g6⟩ := hJ
          unfold MdR
          rw [e2, up_ne (by decide), up_su, su_ne (by decide), su_eq, su_ne (by decide), su_ne (by decide), su_ne (by decide)]
          exact ⟨g1, g2, rfl, g4, g5, g6⟩
        refine (l6 E (d - 1) I2 t a c (by omega) hI2 hT hc (by omega) ha).mono (fun v K hv => ?_)
        have hvn : v = none := hv.1
        rw [hvn] at hv ⊢
        exact hQ K I2 (mfr.f (Or.inl rfl) e2) hv
      -- the class at the sign
      have cS : ∀ (E : XE) (d : Nat) (J : Nat → Nat → Int32) (c : Nat) Q, dd + 1 ≤ d → RdR tv e J p → J 132 5 = nI c → c ≤ p → (∀ K J1, clA J J1 c [] → clQ tv e T1 p1 ok1 c J1 (some (.int (bI ok1))) K → x_P E d 37 8 [.ref 131, .int (nI o), .int (nI (i + 1))] [.int (bI ok1)] K Q) → x_K E (d - 1) 42 [.ref 131, .int (124 : Int32)] J (fun v I2 => x_P E d 37 20 [.ref 131, .int (nI o), .int (nI i)] (v.toList ++ []) I2 Q) := by
        intro E d J c Q hd hJ h5 hc hQ
        refine (c_takes hJ he hp (by decide) (by omega)).mono (fun v K hv => ?_)
        obtain ⟨hv, hK, _, k1⟩ := hv
        rw [if_pos g] at hK
        rw [decide_eq_true g] at hv
        rw [hv]
        refine r_Reader_readsEither_20 (by omega) _ _ _ ⟨fun z => absurd z (by decide), fun _ => ?_⟩
        rw [nI_1]
        refine r_Reader_readsEither_2 (by omega) _ _ ⟨fun z => absurd z (nI_ge (a := i + 1) (b := 100) (by omega) (by decide)), fun _ => ?_⟩
        have hA := clA_nil h5 k1
        refine (l5 E (d - 1) K c (by omega) hK hA.1 (by omega)).mono (fun v K2 hv => ?_)
        have hvs : v = some (.int (bI ok1)) := hv.1
        rw [hvs] at hv ⊢
        exact hQ K2 K hA hv
      cases hok : ok1
      · rw [hok] at cS mS
        refine ⟨T1, p1, false, by omega, l2, by omega, fun z => absurd z (by decide), fun E d J c hd hJ h5 hc => cS E d J c _ hd hJ h5 hc (fun K J1 hA hq => ?_), fun E d J t a c hd hJ hT hc hcp ha => mS E d J t a c _ hd hJ hT hc hcp ha (fun K J1 hf hq => ?_)⟩
        · refine r_Reader_readsEither_8 (by omega) _ _ _ ⟨fun _ => ?_, fun z => absurd rfl z⟩
          exact clQ_no hA (B := T1) hq
        · obtain ⟨_, q2, q3⟩ := hq
          refine r_M_some_17 (by omega) ((m_emitsW q2 (by omega)).mono (fun v3 K3 hv => ?_))
          obtain ⟨hv, e3⟩ := hv
          rw [hv, e3]
          have h8 : K 142 8 = 1 := q2.2.2.2.1
          refine r_M_some_20 (by omega) (r_M_some_2 (by omega) ⟨fun z => absurd (h8.symm.trans z) (by decide), fun _ => ⟨rfl, q2, hf.trans q3⟩⟩)
      · rw [hok] at cS mS
        obtain ⟨l7, l8⟩ := l4 hok
        obtain ⟨T2, p2, ok2, n1, n2, n3, n4, n5, n6⟩ := ih (e - p1) (by omega) p1 (i + 1) rfl l2 (by omega)
        refine ⟨(T1 ++ [2]) ++ T2, p2, ok2, by omega, n2, by rw [List.length_append, List.length_append]; show T1.length + 1 + T2.length ≤ _; omega, fun z k hk => okK_app (okK_app (l8 (k + 1) (by omega)) (okK_bin (by decide) (by omega))) (n4 z k hk), fun E d J c hd hJ h5 hc => cS E d J c _ hd hJ h5 hc (fun K J1 hA hq => ?_), fun E d J t a c hd hJ hT hc hcp ha => mS E d J t a c _ hd hJ hT hc hcp ha (fun K J1 hf hq => ?_)⟩
        · refine r_Reader_readsEither_8 (by omega) _ _ _ ⟨fun z => absurd z (by decide), fun _ => ⟨fun z => absurd z (nI_nle (by omega) (by omega)), fun _ => ?_⟩⟩
          have hA1 : clA J K c T1 := clA_trans (A := []) hA (clQ_A hq)
          refine (c_put51 hA1.1 (by omega) (by omega)).mono (fun v K2 hv => ?_)
          obtain ⟨hv, hp1, _, k2⟩ := hv
          obtain ⟨q1, q2⟩ := hp1 (by omega)
          rw [hv]
          have hA2 : clA J K2 c (T1 ++ [2]) := clA_put hA1 q1 q2 k2
          have hR2 : RdR tv e K2 p1 := RdR_k hq.2.1 (k2 131 (by simp)) (k2 137 (by simp))
          refine r_Reader_readsEither_17 (by omega) _ _ ((n5 E d K2 (c + (T1 ++ [2]).length) hd hR2 hA2.1 (by rw [List.length_append]; show c + (T1.length + 1) ≤ _; omega)).mono (fun v K3 hv => ?_))
          exact x_P.mono hv (fun v K4 hv4 => clQ_app hA2 hv4)
        · obtain ⟨_, q2, q3⟩ := hq
          refine r_M_some_17 (by omega) ((m_emits (c := c + T1.length) q2 ha (by rw [emS_cnt, List.length_map]) (by omega) (by omega)).mono (fun v3 K3 hv => ?_))
          obtain ⟨hv, hK3, k3⟩ := hv
          rw [hv]
          have ee : emS a (c + T1.length) [(-3 : Int32)] (emS a c (T1.map cM) t) = emS a c ((T1 ++ [2]).map cM) t := by
            rw [List.map_append, ← emS_app ha, List.length_map]
            rfl
          rw [ee] at hK3
          refine r_M_some_20 (by omega) (x_P.mono (n6 E d K3 _ a (c + (T1 ++ [2]).length) hd hK3 (tpR_em he hT) (by rw [emS_cnt, List.length_map]) (by rw [List.length_append]; show c + (T1.length + 1) ≤ _; omega) ha) (fun v K4 hv4 => mdQ_app ha ((hf.trans q3).trans k3) hv4))
    · refine ⟨[], p, true, Nat.le_refl _, hp, Nat.zero_le _, fun _ k _ => rfl, fun E d J c hd hJ h5 hc => ?_, fun E d J t a c hd hJ hT hc hcp ha => ?_⟩
      · refine (c_takes hJ he hp (by decide) (by omega)).mono (fun v K hv => ?_)
        obtain ⟨hv, hK, _, k1⟩ := hv
        rw [if_neg g] at hK
        rw [decide_eq_false g] at hv
        rw [hv]
        exact r_Reader_readsEither_20 (by omega) _ _ _ ⟨fun _ => clQ_of (ok := true) (clA_nil h5 k1) hK (by show c + 0 ≤ 100; omega), fun z => absurd rfl z⟩
      · have h8 : J 142 8 = 0 := hJ.2.2.2.1
        refine r_M_some_2 (by omega) ⟨fun _ => (m_here hJ hT he hp (by omega)).pu (r_M_some_7 (by omega) _ ⟨fun z => absurd z g, fun _ => ⟨rfl, ?_, mfr.rfl'⟩⟩), fun z => absurd h8 z⟩
        rw [show ([] : List Nat).map cM = [] from rfl, emS_nil hc]
        exact hJ
theorem s_some (he : e ≤ 100) (ht : ∀ i, i < e → tv i < 128) {o dd kk : Nat} (h10 : 10 ≤ dd) (one : ∀ p, p ≤ e → sim tv e dd (kk + 1) 38 122 o p) : ∀ p, p ≤ e → sim tv e (dd + 1) kk 37 123 o p := by
  intro p hp
  obtain ⟨T1, p1, ok1, l1, l2, l3, l4, l5, l6⟩ := one p hp
  cases hok : ok1
  · rw [hok] at l5 l6
    refine ⟨T1, p1, false, l1, l2, l3, fun z => absurd z (by decide), fun E d J c hd hJ h5 hc => ?_, fun E d J t a c hd hJ hT hc hcp ha => ?_⟩
    · refine x_K.of (by decide) (by decide) rfl rfl rfl (r_Reader_readsEither_0 (by omega) _ (r_Reader_readsEither_2 (by omega) _ _ ⟨fun z => absurd z (by decide), fun _ => (l5 E (d - 1) J c (by omega) hJ h5 hc).mono (fun v K hv => ?_)⟩))
      have hvs : v = some (.int (bI false)) := hv.1
      rw [hvs] at hv ⊢
      exact r_Reader_readsEither_8 (by omega) _ _ _ ⟨fun _ => hv, fun z => absurd rfl z⟩
    · refine x_K.of (by decide) (by decide) rfl rfl rfl (r_M_some_0 (by omega) ((l6 E (d - 1) J t a c (by omega) hJ hT hc hcp ha).mono (fun v K hv => ?_)))
      obtain ⟨hv, q2, q3⟩ := hv
      rw [hv]
      have h8 : K 142 8 = 1 := q2.2.2.2.1
      exact r_M_some_2 (by omega) ⟨fun z => absurd (h8.symm.trans z) (by decide), fun _ => ⟨rfl, q2, q3⟩⟩
  · rw [hok] at l5 l6
    obtain ⟨l7, l8⟩ := l4 hok
    obtain ⟨T2, p2, ok2, n1, n2, n3, n4, n5, n6⟩ := s_tailE he ht h10 one (e - p1) p1 0 rfl l2 (by omega)
    refine ⟨T1 ++ T2, p2, ok2, by omega, n2, by rw [List.length_append]; omega, fun z => ⟨by omega, fun k hk => okK_app (l8 k (by omega)) (n4 z k hk)⟩, fun E d J c hd hJ h5 hc => ?_, fun E d J t a c hd hJ hT hc hcp ha => ?_⟩
    · refine x_K.of (by decide) (by decide) rfl rfl rfl (r_Reader_readsEither_0 (by omega) _ (r_Reader_readsEither_2 (by omega) _ _ ⟨fun z => absurd z (by decide), fun _ => (l5 E (d - 1) J c (by omega) hJ h5 hc).mono (fun v K hv => ?_)⟩))
      have hvs : v = some (.int (bI true)) := hv.1
      rw [hvs] at hv ⊢
      have hA1 : clA J K c T1 := clQ_A hv
      refine r_Reader_readsEither_8 (by omega) _ _ _ ⟨fun z => absurd z (by decide), fun _ => ⟨fun _ => ?_, fun z => absurd (Int32.le_refl 0) z⟩⟩
      refine (n5 E d K (c + T1.length) hd hv.2.1 hA1.1 (by omega)).mono (fun v K3 hv3 => ?_)
      rw [nI_0] at hv3
      exact x_P.mono hv3 (fun v K4 hv4 => clQ_app hA1 hv4)
    · refine x_K.of (by decide) (by decide) rfl rfl rfl (r_M_some_0 (by omega) ((l6 E (d - 1) J t a c (by omega) hJ hT hc hcp ha).mono (fun v K hv => ?_)))
      obtain ⟨hv, q2, q3⟩ := hv
      rw [hv]
      exact x_P.mono (n6 E d K _ a (c + T1.length) hd q2 (tpR_em he hT) (by rw [emS_cnt, List.length_map]) (by omega) ha) (fun v K4 hv4 => mdQ_app ha q3 hv4)
end JOI
