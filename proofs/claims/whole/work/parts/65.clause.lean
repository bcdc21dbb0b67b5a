/-! ===== the town's text: a clause ===== -/
def amt (st : Bool) (n : Nat) : Int32 := if st = true then nI n else -(nI n)
def kd (st : Bool) : Int32 := if st = true then (-10 : Int32) else (-200 : Int32)
def ccQ (tv : Nat → Nat) (e : Nat) (T : List Nat) (p' : Nat) (ok isB st : Bool) (n c nc : Nat) (J : Nat → Nat → Int32) : Option Value → (Nat → Nat → Int32) → Prop := fun v K =>
  v = some (.int (bI ok)) ∧ RdR tv e K p' ∧ (ok = true → isB = true → K 132 = su (J 132) 0 (nI n) ∧ K 133 = J 133 ∧ K 134 = J 134 ∧ K 135 = J 135)
    ∧ (ok = true → isB = false → K 132 0 = J 132 0 ∧ K 132 1 = nI (nc + 1) ∧ K 132 5 = nI (c + T.length) ∧ K 135 = wr c (T.map cC) (J 135) ∧ K 133 = su (J 133) nc (amt st n) ∧ K 134 = su (J 134) nc (nI (c + T.length))) ∧ kp [131, 132, 133, 134, 135] J K
def mcT (t : Nat → Int32) (T : List Nat) (ok isB st : Bool) (n a c : Nat) : Nat → Int32 := if ok = true then (if isB = true then su t (221 + a) (nI n) else emS a c (T.map cM ++ [kd st - nI n]) t) else emS a c (T.map cM) t
def mcQ (t : Nat → Int32) (e : Nat) (T : List Nat) (p' : Nat) (ok isB st : Bool) (n a c : Nat) (J : Nat → Nat → Int32) : Option Value → (Nat → Nat → Int32) → Prop := fun v K =>
  v = none ∧ MdR K (mcT t T ok isB st n a c) e p' (!ok) 0 a ∧ mfr J K
section CLS
variable {tv : Nat → Nat} {e : Nat}
theorem ccQ_no {T : List Nat} {p' c nc n : Nat} {isB st : Bool} {J K : Nat → Nat → Int32} (h : RdR tv e K p') (k : kp [131, 132, 133, 134, 135] J K) : ccQ tv e T p' false isB st n c nc J (some (.int 0)) K :=
  ⟨rfl, h, fun z => absurd z (by decide), fun z => absurd z (by decide), k⟩
theorem mcQ_no {t : Nat → Int32} {p' c n a : Nat} {isB st : Bool} {J K : Nat → Nat → Int32} (h : MdR K t e p' true 0 a) (hc : t (226 + a) = nI c) (k : mfr J K) : mcQ t e [] p' false isB st n a c J none K := by
  refine ⟨rfl, ?_, k⟩
  unfold mcT
  rw [if_neg (by decide), show ([] : List Nat).map cM = [] from rfl, emS_nil hc]
  exact h
theorem c_endC {E : XE} {d nc cc : Nat} {J : Nat → Nat → Int32} {x : Int32} (h1 : J 132 1 = nI nc) (hn : nc < 10) (h5 : J 132 5 = nI cc) (hd : 1 ≤ d) :
    x_K E d 52 [.ref 132, .int x] J (fun v K => v = none ∧ K 133 = su (J 133) nc x ∧ K 134 = su (J 134) nc (nI cc) ∧ K 132 = su (J 132) 1 (nI (nc + 1)) ∧ kp [132, 133, 134] J K) := by
  refine x_K.of (by decide) (by decide) rfl rfl rfl (r_Town_endClause_0 (by omega) _ ?_)
  rw [h1]
  refine ⟨fun z => absurd z (nI_ge (a := nc) (b := 10) hn (by decide)), fun _ => ⟨vp_in_nI hn (by decide), fun I3 e3 => ?_⟩⟩
  rw [nI_clamp (by omega)] at e3
  have f3 : I3 132 = J 132 := by rw [e3, up_ne (by decide)]
  rw [f3, h1, h5]
  refine ⟨vp_in_nI hn (by decide), fun I5 e5 I6 e6 => ?_⟩
  rw [nI_clamp (by omega)] at e5
  have f5 : I5 132 = J 132 := by rw [e5, up_ne (by decide)]; exact f3
  rw [f5, h1, nI_1] at e6
  refine ⟨rfl, ?_, ?_, ?_, ?_⟩
  · rw [e6, up_ne (by decide), e5, up_ne (by decide), e3, up_su]
  · rw [e6, up_ne (by decide), e5, up_su, e3, up_ne (by decide)]
  · rw [e6, up_su, f5]
  · rw [e6, e5, e3]
    exact ((kp.up (by simp)).trans (kp.up (by simp))).trans (kp.up (by simp))
/-- behind the word: the amount, a space, the expression -/
theorem s_much (he : e ≤ 100) (ht : ∀ i, i < e → tv i < 128) (st : Bool) {q : Nat} (hq : q ≤ e) : ∃ (T : List Nat) (p' : Nat) (ok : Bool) (n : Nat), q ≤ p' ∧ p' ≤ e ∧ T.length ≤ p' - q ∧ (ok = true → T.length + 1 ≤ p' - q ∧ okK T 0 1) ∧ n ≤ 99 ∧
    (∀ (E : XE) (d : Nat) (J : Nat → Nat → Int32) (c nc : Nat), 28 ≤ d → RdR tv e J q → J 132 5 = nI c → c ≤ q → J 132 1 = nI nc → nc < 10 → x_K E (d - 1) 41 [.ref 131] J (fun v I2 => x_P E d 36 48 [.ref 131, .int (bI st), x_jk] (v.toList ++ []) I2 (ccQ tv e T p' ok false st n c nc J))) ∧
    ∀ (E : XE) (d : Nat) (J : Nat → Nat → Int32) (t : Nat → Int32) (a c : Nat), 28 ≤ d → MdR J t e q false 0 a → tpR t tv e → t (226 + a) = nI c → c ≤ q → a < 5 → x_P E d 124 3 [.ref 142, .int (kd st), x_jk, x_jk] [] J (mcQ t e T p' ok false st n a c J) := by
  obtain ⟨f1, f2, f3, f4⟩ := fg_le (tv := tv) hq
  -- the model once it is wrong
  have mW2 : ∀ (E : XE) (d : Nat) (J K : Nat → Nat → Int32) (t t' : Nat → Int32) (a c q' : Nat) (v3 : Int32) (T : List Nat), 28 ≤ d → MdR K t' e q' true 0 a → t' = emS a c (T.map cM) t → mfr J K → x_P E d 124 11 [.ref 142, .int (kd st), x_jk, .int v3] [] K (mcQ t e T q' false false st (fgV tv e q) a c J) := by
    intro E d J K t t' a c q' v3 T hd hK et k1
    refine r_M_much_11 (by omega) _ _ ((m_emitsW hK (by omega)).mono (fun v K2 hv => ?_))
    obtain ⟨hv, e2⟩ := hv
    rw [hv, e2]
    refine r_M_much_16 (by omega) ⟨rfl, ?_, k1⟩
    unfold mcT
    rw [if_neg (by decide), ← et]
    exact hK
  have mW : ∀ (E : XE) (d : Nat) (J K : Nat → Nat → Int32) (t : Nat → Int32) (a c q' : Nat) (v3 : Int32), 28 ≤ d → MdR K t e q' true 0 a → t (226 + a) = nI c → mfr J K → x_P E d 124 9 [.ref 142, .int (kd st), x_jk, .int v3] [] K (mcQ t e [] q' false false st (fgV tv e q) a c J) := by
    intro E d J K t a c q' v3 hd hK hc k1
    refine r_M_much_9 (by omega) _ _ ((m_someW hK (by omega)).mono (fun v K2 hv => ?_))
    obtain ⟨hv, e2⟩ := hv
    rw [hv, e2]
    exact mW2 E d J K t t a c q' v3 [] hd hK (by rw [show ([] : List Nat).map cM = [] from rfl, emS_nil hc]) k1
  cases hD : isD tv e q
  · have hz := f4 hD
    refine ⟨[], q, false, fgV tv e q, Nat.le_refl _, hq, Nat.zero_le _, fun z => absurd z (by decide), f2, fun E d J c nc hd hJ h5 hc h1 hn => ?_, fun E d J t a c hd hJ hT hc hcp ha => ?_⟩
    · refine (c_number hJ he hq ht (by omega)).mono (fun v K hv => ?_)
      obtain ⟨hv, hK, h4, k1⟩ := hv
      rw [hD] at hv
      rw [hz] at hK
      rw [hv]
      exact r_Reader_readsClause_48 (by omega) _ _ ⟨fun _ => ccQ_no hK (k1.mono (by simp)), fun z => absurd rfl z⟩
    · refine r_M_much_3 (by omega) _ ((m_figures hJ hT he hq ht (by omega)).mono (fun v K hv => ?_))
      obtain ⟨hv, hK, k1⟩ := hv
      rw [hD, hz] at hK
      rw [hv]
      refine r_M_much_5 (by omega) _ _ ((m_mustW hK (by omega)).mono (fun v K2 hv => ?_))
      obtain ⟨hv, hK2, k2⟩ := hv
      rw [hv]
      exact mW E d J K2 t a c q _ hd hK2 hc (k1.trans k2)
  have f3 := f3 hD
  -- the class up to the space
  have cS : ∀ (E : XE) (d : Nat) (J : Nat → Nat → Int32) Q, 28 ≤ d → RdR tv e J q → (∀ K, RdR tv e K (if hC tv e (q + fgD tv e q) = (32 : Int32) then q + fgD tv e q + 1 else q + fgD tv e q) → kp [131] J K → x_P E d 36 63 [.ref 131, x_jk, .int (amt st (fgV tv e q))] [.int (bI (decide (hC tv e (q + fgD tv e q) = (32 : Int32))))] K Q) → x_K E (d - 1) 41 [.ref 131] J (fun v I2 => x_P E d 36 48 [.ref 131, .int (bI st), x_jk] (v.toList ++ []) I2 Q) := by
    intro E d J Q hd hJ hQ
    refine (c_number hJ he hq ht (by omega)).mono (fun v K hv => ?_)
    obtain ⟨hv, hK, h4, k1⟩ := hv
    rw [hD] at hv
    rw [hv]
    refine r_Reader_readsClause_48 (by omega) _ _ ⟨fun z => absurd z (by decide), fun _ z hz => ?_⟩
    have hz : z = amt st (fgV tv e q) := by
      rw [hz, h4]
      cases st
      · rfl
      · rfl
    rw [hz]
    refine (c_takes hK he f1 (by decide) (by omega)).mono (fun v K2 hv => ?_)
    obtain ⟨hv, hK2, _, k2⟩ := hv
    rw [hv]
    exact hQ K2 hK2 (k1.trans k2)
  have mS : ∀ (E : XE) (d : Nat) (J : Nat → Nat → Int32) (t : Nat → Int32) (a : Nat) Q, 28 ≤ d → MdR J t e q false 0 a → tpR t tv e → (∀ K, MdR K t e (if hC tv e (q + fgD tv e q) = (32 : Int32) then q + fgD tv e q + 1 else q + fgD tv e q) (decide (¬ hC tv e (q + fgD tv e q) = (32 : Int32))) 0 a → mfr J K → x_P E d 124 9 [.ref 142, .int (kd st), x_jk, .int (nI (fgV tv e q))] [] K Q) → x_P E d 124 3 [.ref 142, .int (kd st), x_jk, x_jk] [] J Q := by
    intro E d J t a Q hd hJ hT hQ
    refine r_M_much_3 (by omega) _ ((m_figures hJ hT he hq ht (by omega)).mono (fun v K hv => ?_))
    obtain ⟨hv, hK, k1⟩ := hv
    rw [hD] at hK
    rw [hv]
    refine r_M_much_5 (by omega) _ _ ((m_must hK hT he f1 (by omega)).mono (fun v K2 hv => ?_))
    obtain ⟨hv, hK2, k2⟩ := hv
    rw [hv]
    exact hQ K2 hK2 (k1.trans k2)
  by_cases g : hC tv e (q + fgD tv e q) = (32 : Int32)
  · have c0 := hC_ne g (by decide)
    rw [if_pos g, decide_eq_true g] at cS
    rw [if_pos g, decide_eq_false (fun z => z g)] at mS
    obtain ⟨T1, p1, ok1, l1, l2, l3, l4, l5, l6⟩ := s_expr he ht (q + fgD tv e q + 1) c0
    cases hok : ok1
    · rw [hok] at l5 l6
      refine ⟨T1, p1, false, fgV tv e q, by omega, l2, by omega, fun z => absurd z (by decide), f2, fun E d J c nc hd hJ h5 hc h1 hn => cS E d J _ hd hJ (fun K hK k1 => ?_), fun E d J t a c hd hJ hT hc hcp ha => mS E d J t a _ hd hJ hT (fun K hK k1 => ?_)⟩
      · refine r_Reader_readsClause_63 (by omega) _ _ ⟨fun z => absurd z (by decide), fun _ => ?_⟩
        refine (l5 E (d - 1) K c (by omega) hK (by rw [k1 132 (by simp)]; exact h5) (by omega)).mono (fun v K2 hv => ?_)
        obtain ⟨hv, q1, q2, q3, q4, q5⟩ := hv
        rw [hv]
        exact r_Reader_readsClause_67 (by omega) _ _ ⟨fun _ => ccQ_no q1 ((k1.mono (by simp)).trans (q5.mono (by simp))), fun z => absurd rfl z⟩
      · refine r_M_much_9 (by omega) _ _ ((l6 E (d - 1) K t a c (by omega) hK hT hc (by omega) ha).mono (fun v K2 hv => ?_))
        obtain ⟨hv, q2, q3⟩ := hv
        rw [hv]
        exact mW2 E d J K2 t _ a c p1 _ T1 hd q2 rfl (k1.trans q3)
    · rw [hok] at l5 l6
      obtain ⟨l7, l8⟩ := l4 hok
      refine ⟨T1, p1, true, fgV tv e q, by omega, l2, by omega, fun _ => ⟨by omega, l8 0 (Nat.le_refl _)⟩, f2, fun E d J c nc hd hJ h5 hc h1 hn => cS E d J _ hd hJ (fun K hK k1 => ?_), fun E d J t a c hd hJ hT hc hcp ha => mS E d J t a _ hd hJ hT (fun K hK k1 => ?_)⟩
      · refine r_Reader_readsClause_63 (by omega) _ _ ⟨fun z => absurd z (by decide), fun _ => ?_⟩
        have e132 : K 132 = J 132 := k1 132 (by simp)
        refine (l5 E (d - 1) K c (by omega) hK (by rw [e132]; exact h5) (by omega)).mono (fun v K2 hv => ?_)
        obtain ⟨hv, q1, q2, q3, q4, q5⟩ := hv
        obtain ⟨q6, q7⟩ := q3 rfl
        rw [hv]
        refine r_Reader_readsClause_67 (by omega) _ _ ⟨fun z => absurd z (by decide), fun _ => ?_⟩
        refine (c_endC (nc := nc) (cc := c + T1.length) (by rw [q4 1 (by decide), e132]; exact h1) hn q6 (by omega)).mono (fun v K3 hv => ?_)
        obtain ⟨hv, w1, w2, w3, w4⟩ := hv
        rw [hv]
        refine r_Reader_readsClause_74 (by omega) ⟨rfl, RdR_k q1 (w4 131 (by simp)) (w4 137 (by simp)), fun _ z => absurd z (by decide), fun _ _ => ⟨?_, ?_, ?_, ?_, ?_, ?_⟩, ((k1.mono (by simp)).trans (q5.mono (by simp))).trans (w4.mono (by simp))⟩
        · rw [w3, su_ne (by decide), q4 0 (by decide), e132]
        · rw [w3, su_eq]
        · rw [w3, su_ne (by decide), q6]
        · rw [w4 135 (by simp), q7, k1 135 (by simp)]
        · rw [w1, q5 133 (by simp), k1 133 (by simp)]
        · rw [w2, q5 134 (by simp), k1 134 (by simp)]
      · refine r_M_much_9 (by omega) _ _ ((l6 E (d - 1) K t a c (by omega) hK hT hc (by omega) ha).mono (fun v K2 hv => ?_))
        obtain ⟨hv, q2, q3⟩ := hv
        rw [hv]
        refine r_M_much_11 (by omega) _ _ ((m_emits (c := c + T1.length) q2 ha (by rw [emS_cnt, List.length_map]) (by omega) (by omega)).mono (fun v3 K3 hv => ?_))
        obtain ⟨hv, hK3, k3⟩ := hv
        rw [hv]
        refine r_M_much_16 (by omega) ⟨rfl, ?_, (k1.trans q3).trans k3⟩
        unfold mcT
        rw [if_pos rfl, if_neg (by decide), ← emS_app ha, List.length_map]
        exact hK3
  · rw [if_neg g, decide_eq_false g] at cS
    rw [if_neg g, decide_eq_true g] at mS
    refine ⟨[], q + fgD tv e q, false, fgV tv e q, by omega, f1, Nat.zero_le _, fun z => absurd z (by decide), f2, fun E d J c nc hd hJ h5 hc h1 hn => cS E d J _ hd hJ (fun K hK k1 => ?_), fun E d J t a c hd hJ hT hc hcp ha => mS E d J t a _ hd hJ hT (fun K hK k1 => mW E d J K t a c _ _ hd hK hc k1)⟩
    exact r_Reader_readsClause_63 (by omega) _ _ ⟨fun _ => ccQ_no hK (k1.mono (by simp)), fun z => absurd rfl z⟩
end CLS
