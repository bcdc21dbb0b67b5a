/-! ===== the town's text: a factor; the whole expression ===== -/
section ONE
variable {tv : Nat → Nat} {e : Nat}
theorem m_oneW {E : XE} {d q o a : Nat} {K : Nat → Nat → Int32} {t : Nat → Int32} (h : MdR K t e q true o a) (hd : 1 ≤ d) : x_K E d 121 [.ref 142] K (fun v K2 => v = none ∧ K2 = K) := by
  have h8 : K 142 8 = 1 := h.2.2.2.1
  exact x_K.of (by decide) (by decide) rfl rfl rfl (r_M_factor_0 (by omega) ⟨fun z => absurd (h8.symm.trans z) (by decide), fun _ => ⟨rfl, rfl⟩⟩)
theorem m_everyW {E : XE} {d q o a : Nat} {K : Nat → Nat → Int32} {t : Nat → Int32} (h : MdR K t e q true o a) (hd : 2 ≤ d) : x_K E d 122 [.ref 142] K (fun v K2 => v = none ∧ K2 = K) := by
  have h8 : K 142 8 = 1 := h.2.2.2.1
  refine x_K.of (by decide) (by decide) rfl rfl rfl (r_M_every_0 (by omega) ((m_oneW h (by omega)).mono (fun v K2 hv => ?_)))
  obtain ⟨hv, e2⟩ := hv
  rw [hv, e2]
  exact r_M_every_2 (by omega) ⟨fun z => absurd (h8.symm.trans z) (by decide), fun _ => ⟨rfl, rfl⟩⟩
theorem m_someW {E : XE} {d q o a : Nat} {K : Nat → Nat → Int32} {t : Nat → Int32} (h : MdR K t e q true o a) (hd : 3 ≤ d) : x_K E d 123 [.ref 142] K (fun v K2 => v = none ∧ K2 = K) := by
  have h8 : K 142 8 = 1 := h.2.2.2.1
  refine x_K.of (by decide) (by decide) rfl rfl rfl (r_M_some_0 (by omega) ((m_everyW h (by omega)).mono (fun v K2 hv => ?_)))
  obtain ⟨hv, e2⟩ := hv
  rw [hv, e2]
  exact r_M_some_2 (by omega) ⟨fun z => absurd (h8.symm.trans z) (by decide), fun _ => ⟨rfl, rfl⟩⟩
/-- one more is open -/
theorem MdR_in {J I3 I4 I6 : Nat → Nat → Int32} {t : Nat → Int32} {p o a : Nat} {b : Bool} (h : MdR J t e p false o a) (e3 : I3 = x_up J 142 8 (bI b)) (e4 : I4 = x_up I3 142 9 ((I3 142 9) + 1)) (e6 : I6 = x_up I4 142 6 ((I4 142 6) + (x_bi ((I4 142 8) = 0)))) : MdR I6 t e (if b = true then p else p + 1) b (o + 1) a := by
  obtain ⟨g1, g2, g3, g4, g5, g6⟩ := h
  have f3 : I3 142 = su (J 142) 8 (bI b) := by rw [e3, up_su]
  have f4 : I4 142 = su (su (J 142) 8 (bI b)) 9 (nI (o + 1)) := by rw [e4, up_su, f3, su_ne (by decide), g5, nI_1]
  have f6 : I6 142 = su (su (su (J 142) 8 (bI b)) 9 (nI (o + 1))) 6 (nI p + x_bi (bI b = 0)) := by rw [e6, up_su, f4, su_ne (by decide), su_ne (by decide), su_ne (by decide), su_eq, g3]
  unfold MdR
  rw [f6, su_ne (by decide), su_ne (by decide), su_ne (by decide), su_eq, su_ne (by decide), su_ne (by decide), su_eq, su_ne (by decide), su_eq, su_ne (by decide), su_ne (by decide), su_ne (by decide), e6, up_ne (by decide), e4, up_ne (by decide), e3, up_ne (by decide)]
  refine ⟨g1, g2, ?_, rfl, rfl, g6⟩
  cases b
  · rw [x_bi_t (show bI false = 0 from rfl)]
    exact nI_1 p
  · rw [x_bi_f (show ¬ bI true = 0 by decide)]
    exact nI_add p 0
theorem mfr_in {J I3 I4 I6 : Nat → Nat → Int32} {x y z : Int32} (e3 : I3 = x_up J 142 8 x) (e4 : I4 = x_up I3 142 9 y) (e6 : I6 = x_up I4 142 6 z) : mfr J I6 := ((mfr.f (Or.inr (Or.inl rfl)) e3).trans (mfr.f (Or.inr (Or.inr rfl)) e4)).trans (mfr.f (Or.inl rfl) e6)
/-- and closed -/
theorem MdR_out {K I1 : Nat → Nat → Int32} {t : Nat → Int32} {p o a : Nat} {b : Bool} (h : MdR K t e p b (o + 1) a) (e1 : I1 = x_up K 142 9 ((K 142 9) - 1)) : MdR I1 t e p b o a ∧ mfr K I1 := by
  obtain ⟨g1, g2, g3, g4, g5, g6⟩ := h
  refine ⟨?_, mfr.f (Or.inr (Or.inr rfl)) e1⟩
  unfold MdR
  rw [e1, up_ne (by decide), up_su, su_ne (by decide), su_ne (by decide), su_ne (by decide), su_eq, su_ne (by decide), g5, nI_pred]
  exact ⟨g1, g2, g3, g4, rfl, g6⟩
theorem s_one (he : e ≤ 100) (ht : ∀ i, i < e → tv i < 128) {o dd : Nat} (h10 : 10 ≤ dd) (ho : o ≤ 5)
    (nxt : o < 5 → 13 ≤ dd ∧ (∀ p, p ≤ e → sim tv e (dd - 3) (3 * (o + 1) + 2) 39 121 (o + 1) p) ∧ ∀ p, p ≤ e → sim tv e (dd - 1) (3 * (o + 1)) 37 123 (o + 1) p) : ∀ p, p ≤ e → sim tv e dd (3 * o + 2) 39 121 o p := by
  intro p hp
  by_cases g33 : hC tv e p = (33 : Int32)
  · have c0 : p < e := hC_ne g33 (by decide)
    rcases Nat.lt_or_ge o 5 with o5 | o5
    · obtain ⟨hd3, one, _⟩ := nxt o5
      obtain ⟨T1, p1, ok1, l1, l2, l3, l4, l5, l6⟩ := one (p + 1) c0
      have cS : ∀ (E : XE) (d : Nat) (J : Nat → Nat → Int32) (c : Nat) Q, dd ≤ d → RdR tv e J p → J 132 5 = nI c → c ≤ p → (∀ K J1, clA J J1 c [] → clQ tv e T1 p1 ok1 c J1 (some (.int (bI ok1))) K → x_P E d 39 12 [.ref 131, x_jk, x_jk] [.int (bI ok1)] K Q) → x_K E d 39 [.ref 131, .int (nI o)] J Q := by
        intro E d J c Q hd hJ h5 hc hQ
        refine x_K.of (by decide) (by decide) rfl rfl rfl (r_Reader_readsOne_0 (by omega) _ ⟨fun z => absurd z (nI_ge (a := o) (b := 5) o5 (by decide)), fun _ => (c_takes hJ he hp (by decide) (by omega)).mono (fun v K hv => ?_)⟩)
        obtain ⟨hv, hK, _, k1⟩ := hv
        rw [if_pos g33] at hK
        rw [decide_eq_true g33] at hv
        rw [hv]
        refine r_Reader_readsOne_6 (by omega) _ _ ⟨fun z => absurd z (by decide), fun _ => ?_⟩
        rw [nI_1]
        have hA := clA_nil h5 k1
        refine (l5 E (d - 1) K c (by omega) hK hA.1 (by omega)).mono (fun v K2 hv => ?_)
        have hvs : v = some (.int (bI ok1)) := hv.1
        rw [hvs] at hv ⊢
        exact hQ K2 K hA hv
      have mS : ∀ (E : XE) (d : Nat) (J : Nat → Nat → Int32) (t : Nat → Int32) (a c : Nat) Q, dd ≤ d → MdR J t e p false o a → tpR t tv e → t (226 + a) = nI c → c ≤ p → a < 5 → (∀ K J1, mfr J J1 → mdQ t e T1 p1 ok1 (o + 1) a c J1 none K → x_P E d 121 44 [.ref 142, x_jk, x_jk, x_jk, x_jk] [] K Q) → x_K E d 121 [.ref 142] J Q := by
        intro E d J t a c Q hd hJ hT hc hcp ha hQ
        have h8 : J 142 8 = 0 := hJ.2.2.2.1
        have h9 : J 142 9 = nI o := hJ.2.2.2.2.1
        refine x_K.of (by decide) (by decide) rfl rfl rfl (r_M_factor_0 (by omega) ⟨fun _ => (m_here hJ hT he hp (by omega)).pu (r_M_factor_6 (by omega) _ ⟨fun _ I3 e3 I4 e4 I6 e6 => ⟨fun _ => ?_, fun z => absurd g33 z⟩, fun z => absurd g33 z⟩), fun z => absurd h8 z⟩)
        have e3 : I3 = x_up J 142 8 (bI false) := by rw [e3, h9, x_bi_f (fun z => by have := (nI_eq (a := o) (b := 5) (by omega) (by omega)).mp z; omega)]; rfl
        have hI6 : MdR I6 t e (p + 1) false (o + 1) a := MdR_in hJ e3 e4 e6
        refine (l6 E (d - 1) I6 t a c (by omega) hI6 hT hc (by omega) ha).mono (fun v K hv => ?_)
        have hvn : v = none := hv.1
        rw [hvn] at hv ⊢
        exact hQ K I6 (mfr_in e3 e4 e6) hv
      cases hok : ok1
      · rw [hok] at cS mS
        refine ⟨T1, p1, false, by omega, l2, by omega, fun z => absurd z (by decide), fun E d J c hd hJ h5 hc => cS E d J c _ hd hJ h5 hc (fun K J1 hA hq => ?_), fun E d J t a c hd hJ hT hc hcp ha => mS E d J t a c _ hd hJ hT hc hcp ha (fun K J1 hf hq => ?_)⟩
        · obtain ⟨c', hc', h5'⟩ := hq.2.2.1
          refine r_Reader_readsOne_12 (by omega) _ ((c_put51 h5' hc' (by omega)).mono (fun v K2 hv => ?_))
          obtain ⟨hv, hp1, hp2, k2⟩ := hv
          rw [hv]
          have hz := clQ_no hA hq (T := T1)
          refine r_Reader_readsOne_17 (by omega) _ ⟨rfl, rfl, RdR_k hq.2.1 (k2 131 (by simp)) (k2 137 (by simp)), ?_, fun z => absurd z (by decide), fun j hj => ?_, hz.2.2.2.2.2.trans (k2.mono (by simp))⟩
          · rcases Nat.lt_or_ge c' 100 with z | z
            · exact ⟨c' + 1, z, by rw [(hp1 z).1, su_eq]⟩
            · exact ⟨c', hc', by rw [hp2 z]; exact h5'⟩
          · rcases Nat.lt_or_ge c' 100 with z | z
            · rw [(hp1 z).1, su_ne hj]
              exact hz.2.2.2.2.1 j hj
            · rw [hp2 z]
              exact hz.2.2.2.2.1 j hj
        · obtain ⟨_, q2, q3⟩ := hq
          refine r_M_factor_44 (by omega) ((m_emitsW q2 (by omega)).mono (fun v3 K3 hv => ?_))
          obtain ⟨hv, e3⟩ := hv
          rw [hv, e3]
          refine r_M_factor_47 (by omega) (fun I1 e1 => ?_)
          obtain ⟨u1, u2⟩ := MdR_out q2 e1
          exact ⟨rfl, u1, (hf.trans q3).trans u2⟩
      · rw [hok] at cS mS
        obtain ⟨l7, l8⟩ := l4 hok
        refine ⟨T1 ++ [0], p1, true, by omega, l2, by rw [List.length_append]; show T1.length + 1 ≤ _; omega, fun z => ⟨by omega, fun k hk => okK_app (l8 k (by omega)) (okK_not (by omega))⟩, fun E d J c hd hJ h5 hc => cS E d J c _ hd hJ h5 hc (fun K J1 hA hq => ?_), fun E d J t a c hd hJ hT hc hcp ha => mS E d J t a c _ hd hJ hT hc hcp ha (fun K J1 hf hq => ?_)⟩
        · have hA1 : clA J K c T1 := clA_trans (A := []) hA (clQ_A hq)
          refine r_Reader_readsOne_12 (by omega) _ ((c_put51 hA1.1 (by omega) (by omega)).mono (fun v K2 hv => ?_))
          obtain ⟨hv, hp1, _, k2⟩ := hv
          obtain ⟨q1, q2⟩ := hp1 (by omega)
          rw [hv]
          have hA2 : clA J K2 c (T1 ++ [0]) := clA_put hA1 q1 q2 k2
          exact r_Reader_readsOne_17 (by omega) _ ⟨rfl, clQ_of (ok := true) hA2 (RdR_k hq.2.1 (k2 131 (by simp)) (k2 137 (by simp))) (by rw [List.length_append]; show c + (T1.length + 1) ≤ 100; omega)⟩
        · obtain ⟨_, q2, q3⟩ := hq
          refine r_M_factor_44 (by omega) ((m_emits (c := c + T1.length) q2 ha (by rw [emS_cnt, List.length_map]) (by omega) (by omega)).mono (fun v3 K3 hv => ?_))
          obtain ⟨hv, hK3, k3⟩ := hv
          rw [hv]
          have ee : emS a (c + T1.length) [(-1 : Int32)] (emS a c (T1.map cM) t) = emS a c ((T1 ++ [0]).map cM) t := by
            rw [List.map_append, ← emS_app ha, List.length_map]
            rfl
          rw [ee] at hK3
          refine r_M_factor_47 (by omega) (fun I1 e1 => ?_)
          obtain ⟨u1, u2⟩ := MdR_out hK3 e1
          exact ⟨rfl, u1, ((hf.trans q3).trans k3).trans u2⟩
    · have o5 : o = 5 := by omega
      subst o5
      refine ⟨[], p, false, Nat.le_refl _, hp, Nat.zero_le _, fun z => absurd z (by decide), fun E d J c hd hJ h5 hc => ?_, fun E d J t a c hd hJ hT hc hcp ha => ?_⟩
      · refine x_K.of (by decide) (by decide) rfl rfl rfl (r_Reader_readsOne_0 (by omega) _ ⟨fun _ => ⟨fun _ => (c_testNo hJ he hp ht (by rw [g33]; decide) (by omega)).pu (r_Reader_readsOne_42 (by omega) _ ⟨rfl, clQ_of (ok := false) (clA_nil h5 kp.rfl') hJ (by show c + 0 ≤ 100; omega)⟩), fun z => absurd (by decide) z⟩, fun z => absurd (by decide) z⟩)
      · have h8 : J 142 8 = 0 := hJ.2.2.2.1
        have h9 : J 142 9 = nI 5 := hJ.2.2.2.2.1
        refine x_K.of (by decide) (by decide) rfl rfl rfl (r_M_factor_0 (by omega) ⟨fun _ => (m_here hJ hT he hp (by omega)).pu (r_M_factor_6 (by omega) _ ⟨fun _ I3 e3 I4 e4 I6 e6 => ⟨fun _ => ?_, fun z => absurd g33 z⟩, fun z => absurd g33 z⟩), fun z => absurd h8 z⟩)
        have e3 : I3 = x_up J 142 8 (bI true) := by rw [e3, h9]; rfl
        have hI6 : MdR I6 t e p true (5 + 1) a := MdR_in hJ e3 e4 e6
        refine (m_oneW hI6 (by omega)).mono (fun v K hv => ?_)
        obtain ⟨hv, eK⟩ := hv
        rw [hv, eK]
        refine r_M_factor_44 (by omega) ((m_emitsW hI6 (by omega)).mono (fun v3 K3 hv => ?_))
        obtain ⟨hv, e5⟩ := hv
        rw [hv, e5]
        refine r_M_factor_47 (by omega) (fun I1 e1 => ?_)
        obtain ⟨u1, u2⟩ := MdR_out hI6 e1
        refine ⟨rfl, ?_, (mfr_in e3 e4 e6).trans u2⟩
        rw [show ([] : List Nat).map cM = [] from rfl, emS_nil hc]
        exact u1
  by_cases g40 : hC tv e p = (40 : Int32)
  · have c0 : p < e := hC_ne g40 (by decide)
    rcases Nat.lt_or_ge o 5 with o5 | o5
    · obtain ⟨hd3, _, eit⟩ := nxt o5
      obtain ⟨T1, p1, ok1, l1, l2, l3, l4, l5, l6⟩ := eit (p + 1) c0
      have cS : ∀ (E : XE) (d : Nat) (J : Nat → Nat → Int32) (c : Nat) Q, dd ≤ d → RdR tv e J p → J 132 5 = nI c → c ≤ p → (∀ K J1, clA J J1 c [] → clQ tv e T1 p1 ok1 c J1 (some (.int (bI ok1))) K → x_P E d 39 31 [.ref 131, x_jk, x_jk] [.int (bI ok1)] K Q) → x_K E d 39 [.ref 131, .int (nI o)] J Q := by
        intro E d J c Q hd hJ h5 hc hQ
        refine x_K.of (by decide) (by decide) rfl rfl rfl (r_Reader_readsOne_0 (by omega) _ ⟨fun z => absurd z (nI_ge (a := o) (b := 5) o5 (by decide)), fun _ => (c_takes hJ he hp (by decide) (by omega)).mono (fun v K0 hv => ?_)⟩)
        obtain ⟨hv, hK0, _, k0⟩ := hv
        rw [if_neg g33] at hK0
        rw [decide_eq_false g33] at hv
        rw [hv]
        refine r_Reader_readsOne_6 (by omega) _ _ ⟨fun _ => ⟨fun z => absurd z (nI_ge (a := o) (b := 5) o5 (by decide)), fun _ => (c_takes hK0 he hp (by decide) (by omega)).mono (fun v K hv => ?_)⟩, fun z => absurd rfl z⟩
        obtain ⟨hv, hK, _, k1⟩ := hv
        rw [if_pos g40] at hK
        rw [decide_eq_true g40] at hv
        rw [hv]
        refine r_Reader_readsOne_25 (by omega) _ _ ⟨fun z => absurd z (by decide), fun _ => ?_⟩
        rw [nI_1]
        have hA := clA_nil h5 (k0.trans k1)
        refine (l5 E (d - 1) K c (by omega) hK hA.1 (by omega)).mono (fun v K2 hv => ?_)
        have hvs : v = some (.int (bI ok1)) := hv.1
        rw [hvs] at hv ⊢
        exact hQ K2 K hA hv
      have mS : ∀ (E : XE) (d : Nat) (J : Nat → Nat → Int32) (t : Nat → Int32) (a c : Nat) Q, dd ≤ d → MdR J t e p false o a → tpR t tv e → t (226 + a) = nI c → c ≤ p → a < 5 → (∀ K J1, mfr J J1 → mdQ t e T1 p1 ok1 (o + 1) a c J1 none K → x_P E d 121 50 [.ref 142, x_jk, x_jk, x_jk, x_jk] [] K Q) → x_K E d 121 [.ref 142] J Q := by
        intro E d J t a c Q hd hJ hT hc hcp ha hQ
        have h8 : J 142 8 = 0 := hJ.2.2.2.1
        have h9 : J 142 9 = nI o := hJ.2.2.2.2.1
        refine x_K.of (by decide) (by decide) rfl rfl rfl (r_M_factor_0 (by omega) ⟨fun _ => (m_here hJ hT he hp (by omega)).pu (r_M_factor_6 (by omega) _ ⟨fun z => absurd z g33, fun _ => ⟨fun _ I3 e3 I4 e4 I6 e6 => ⟨fun z => absurd z g33, fun _ => ?_⟩, fun z => absurd g40 z⟩⟩), fun z => absurd h8 z⟩)
        have e3 : I3 = x_up J 142 8 (bI false) := by rw [e3, h9, x_bi_f (fun z => by have := (nI_eq (a := o) (b := 5) (by omega) (by omega)).mp z; omega)]; rfl
        have hI6 : MdR I6 t e (p + 1) false (o + 1) a := MdR_in hJ e3 e4 e6
        refine (l6 E (d - 1) I6 t a c (by omega) hI6 hT hc (by omega) ha).mono (fun v K hv => ?_)
        have hvn : v = none := hv.1
        rw [hvn] at hv ⊢
        exact hQ K I6 (mfr_in e3 e4 e6) hv
      cases hok : ok1
      · rw [hok] at cS mS
        refine ⟨T1, p1, false, by omega, l2, by omega, fun z => absurd z (by decide), fun E d J c hd hJ h5 hc => cS E d J c _ hd hJ h5 hc (fun K J1 hA hq => ?_), fun E d J t a c hd hJ hT hc hcp ha => mS E d J t a c _ hd hJ hT hc hcp ha (fun K J1 hf hq => ?_)⟩
        · exact r_Reader_readsOne_31 (by omega) _ ⟨fun _ => clQ_no hA (B := T1) hq, fun z => absurd rfl z⟩
        · obtain ⟨_, q2, q3⟩ := hq
          refine r_M_factor_50 (by omega) ((m_mustW q2 (by omega)).mono (fun v3 K3 hv => ?_))
          obtain ⟨hv, hK3, k3⟩ := hv
          rw [hv]
          refine r_M_factor_53 (by omega) (fun I1 e1 => ?_)
          obtain ⟨u1, u2⟩ := MdR_out hK3 e1
          exact ⟨rfl, u1, ((hf.trans q3).trans k3).trans u2⟩
      · rw [hok] at cS mS
        obtain ⟨l7, l8⟩ := l4 hok
        refine ⟨T1, if hC tv e p1 = (41 : Int32) then p1 + 1 else p1, decide (hC tv e p1 = (41 : Int32)), by split <;> omega, ?_, by split <;> omega, fun z => ⟨by split <;> omega, fun k hk => l8 k (by omega)⟩, fun E d J c hd hJ h5 hc => cS E d J c _ hd hJ h5 hc (fun K J1 hA hq => ?_), fun E d J t a c hd hJ hT hc hcp ha => mS E d J t a c _ hd hJ hT hc hcp ha (fun K J1 hf hq => ?_)⟩
        · split
          · rename_i z
            exact hC_ne z (by decide)
          · exact l2
        · have hA1 : clA J K c T1 := clA_trans (A := []) hA (clQ_A hq)
          refine r_Reader_readsOne_31 (by omega) _ ⟨fun z => absurd z (by decide), fun _ => (c_takes hq.2.1 he l2 (by decide) (by omega)).mono (fun v K2 hv => ?_)⟩
          obtain ⟨hv, hK2, _, k2⟩ := hv
          rw [hv]
          refine r_Reader_readsOne_35 (by omega) _ ?_
          have hA2 : clA J K2 c T1 := by
            have := clA_trans hA1 (clA_nil (J := K) (c := c + T1.length) hA1.1 k2)
            rw [List.append_nil] at this
            exact this
          rw [show x_bi (¬ (bI (decide (hC tv e p1 = (41 : Int32))) = 0)) = bI (decide (hC tv e p1 = (41 : Int32))) by cases decide (hC tv e p1 = (41 : Int32)) <;> rfl]
          exact clQ_of hA2 hK2 (by omega)
        · obtain ⟨_, q2, q3⟩ := hq
          refine r_M_factor_50 (by omega) ((m_must q2 (tpR_em he hT) he l2 (by omega)).mono (fun v3 K3 hv => ?_))
          obtain ⟨hv, hK3, k3⟩ := hv
          rw [hv]
          refine r_M_factor_53 (by omega) (fun I1 e1 => ?_)
          obtain ⟨u1, u2⟩ := MdR_out hK3 e1
          refine ⟨rfl, ?_, ((hf.trans q3).trans k3).trans u2⟩
          by_cases z : hC tv e p1 = (41 : Int32)
          · rw [decide_eq_true z]
            rw [decide_eq_false (fun y => y z)] at u1
            exact u1
          · rw [decide_eq_false z]
            rw [decide_eq_true z] at u1
            exact u1
    · have o5 : o = 5 := by omega
      subst o5
      refine ⟨[], p, false, Nat.le_refl _, hp, Nat.zero_le _, fun z => absurd z (by decide), fun E d J c hd hJ h5 hc => ?_, fun E d J t a c hd hJ hT hc hcp ha => ?_⟩
      · refine x_K.of (by decide) (by decide) rfl rfl rfl (r_Reader_readsOne_0 (by omega) _ ⟨fun _ => ⟨fun _ => (c_testNo hJ he hp ht (by rw [g40]; decide) (by omega)).pu (r_Reader_readsOne_42 (by omega) _ ⟨rfl, clQ_of (ok := false) (clA_nil h5 kp.rfl') hJ (by show c + 0 ≤ 100; omega)⟩), fun z => absurd (by decide) z⟩, fun z => absurd (by decide) z⟩)
      · have h8 : J 142 8 = 0 := hJ.2.2.2.1
        have h9 : J 142 9 = nI 5 := hJ.2.2.2.2.1
        refine x_K.of (by decide) (by decide) rfl rfl rfl (r_M_factor_0 (by omega) ⟨fun _ => (m_here hJ hT he hp (by omega)).pu (r_M_factor_6 (by omega) _ ⟨fun z => absurd z g33, fun _ => ⟨fun _ I3 e3 I4 e4 I6 e6 => ⟨fun z => absurd z g33, fun _ => ?_⟩, fun z => absurd g40 z⟩⟩), fun z => absurd h8 z⟩)
        have e3 : I3 = x_up J 142 8 (bI true) := by rw [e3, h9]; rfl
        have hI6 : MdR I6 t e p true (5 + 1) a := MdR_in hJ e3 e4 e6
        refine (m_someW hI6 (by omega)).mono (fun v K hv => ?_)
        obtain ⟨hv, eK⟩ := hv
        rw [hv, eK]
        refine r_M_factor_50 (by omega) ((m_mustW hI6 (by omega)).mono (fun v3 K3 hv => ?_))
        obtain ⟨hv, hK3, k3⟩ := hv
        rw [hv]
        refine r_M_factor_53 (by omega) (fun I1 e1 => ?_)
        obtain ⟨u1, u2⟩ := MdR_out hK3 e1
        refine ⟨rfl, ?_, ((mfr_in e3 e4 e6).trans k3).trans u2⟩
        rw [show ([] : List Nat).map cM = [] from rfl, emS_nil hc]
        exact u1
  · obtain ⟨T1, p1, ok1, l1, l2, l3, l4, l5, l6⟩ := s_test he ht hp
    refine ⟨T1, p1, ok1, l1, l2, l3, fun z => ⟨(l4 z).1, fun k hk => (l4 z).2 k (by omega)⟩, fun E d J c hd hJ h5 hc => ?_, fun E d J t a c hd hJ hT hc hcp ha => ?_⟩
    · have fin : ∀ (J2 : Nat → Nat → Int32), RdR tv e J2 p → clA J J2 c [] → x_K E (d - 1) 40 [.ref 131] J2 (fun v I2 => x_P E d 39 42 [x_jk, x_jk, x_jk] (v.toList ++ []) I2 (clQ tv e T1 p1 ok1 c J)) := by
        intro J2 hJ2 hA
        refine (l5 E (d - 1) J2 c (by omega) hJ2 hA.1 hc).mono (fun v K hv => ?_)
        have hvs : v = some (.int (bI ok1)) := hv.1
        rw [hvs] at hv ⊢
        exact r_Reader_readsOne_42 (by omega) _ ⟨bI_nar _, clQ_app (A := []) hA hv⟩
      refine x_K.of (by decide) (by decide) rfl rfl rfl (r_Reader_readsOne_0 (by omega) _ ⟨fun _ => ⟨fun _ => fin J hJ (clA_nil h5 kp.rfl'), fun z => ?_⟩, fun z0 => (c_takes hJ he hp (by decide) (by omega)).mono (fun v K0 hv => ?_)⟩)
      · rename_i z0
        exact absurd z0 z
      obtain ⟨hv, hK0, _, k0⟩ := hv
      rw [if_neg g33] at hK0
      rw [decide_eq_false g33] at hv
      rw [hv]
      refine r_Reader_readsOne_6 (by omega) _ _ ⟨fun _ => ⟨fun z => absurd z z0, fun _ => (c_takes hK0 he hp (by decide) (by omega)).mono (fun v K hv => ?_)⟩, fun z => absurd rfl z⟩
      obtain ⟨hv, hK, _, k1⟩ := hv
      rw [if_neg g40] at hK
      rw [decide_eq_false g40] at hv
      rw [hv]
      exact r_Reader_readsOne_25 (by omega) _ _ ⟨fun _ => fin K hK (clA_nil h5 (k0.trans k1)), fun z => absurd rfl z⟩
    · have h8 : J 142 8 = 0 := hJ.2.2.2.1
      exact x_K.of (by decide) (by decide) rfl rfl rfl (r_M_factor_0 (by omega) ⟨fun _ => (m_here hJ hT he hp (by omega)).pu (r_M_factor_6 (by omega) _ ⟨fun z => absurd z g33, fun _ => ⟨fun z => absurd z g40, fun _ => l6 E d J t o a c (by omega) hJ hT hc hcp ha⟩⟩), fun z => absurd h8 z⟩)
/-- an expression -/
theorem s_all (he : e ≤ 100) (ht : ∀ i, i < e → tv i < 128) : ∀ k, k ≤ 5 → ∀ p, p ≤ e → sim tv e (10 + 3 * k) (3 * (5 - k) + 2) 39 121 (5 - k) p := by
  intro k
  induction k with
  | zero =>
    intro _
    exact s_one he ht (by omega) (by omega) (fun g => absurd g (by omega))
  | succ k ih =>
    intro hk
    have one := ih (by omega)
    refine s_one he ht (by omega) (by omega) (fun _ => ⟨by omega, ?_, ?_⟩)
    · rw [show 5 - (k + 1) + 1 = 5 - k by omega, show 10 + 3 * (k + 1) - 3 = 10 + 3 * k by omega]
      exact one
    · rw [show 5 - (k + 1) + 1 = 5 - k by omega, show 10 + 3 * (k + 1) - 1 = (10 + 3 * k + 1) + 1 by omega]
      exact s_some he ht (by omega) (s_every he ht (by omega) one)
theorem s_expr (he : e ≤ 100) (ht : ∀ i, i < e → tv i < 128) : ∀ p, p ≤ e → sim tv e 27 0 37 123 0 p :=
  s_some he ht (dd := 26) (kk := 0) (by omega) (s_every he ht (dd := 25) (kk := 1) (by omega) (s_all he ht 5 (by omega)))
end ONE
