/-! ===== one call to both: table ===== -/
theorem le_nlt (a b : Int32) : a ≤ b ↔ ¬ b < a := by
  rw [Int32.le_iff_toInt_le, Int32.lt_iff_toInt_lt]
  omega
theorem bit1 : ∀ m, m < 64 → ∀ i, i < 6 → (((nI m >>> (nI i &&& 31)) &&& 1) = 1 ↔ m.testBit i = true) := by decide +kernel
theorem bit2 : ∀ m, m < 64 → ∀ i, i < 6 → ∀ j, j < 6 → ((((nI m >>> (nI i &&& 31)) &&& (nI m >>> (nI j &&& 31))) &&& 1) = 0 ↔ ¬ (m.testBit i = true ∧ m.testBit j = true)) := by decide +kernel
theorem shl_fin : ∀ n, n < 7 → 1 <<< (nI n &&& 31) = nI (2 ^ n) := by decide +kernel
theorem sub_fin : ∀ P, P < 64 → ∀ m, m < 64 → P < m → ¬ ((nI m &&& (nI P ^^^ (-1))) = 0) := by decide +kernel
theorem awy_fin : ∀ n, n < 7 → ∀ x, x < 64 → ∀ m, m < 2 ^ n → ((nI m &&& (orF (fun k => !x.testBit k) n ^^^ (-1))) = 0 ↔ (nI m &&& orF (fun k => x.testBit k) n) = 0) := by decide +kernel
theorem awy_eq {s : Nat → Int32} {n m : Nat} (hn : n ≤ 6) (hb : ∀ k, k < n → b1 (s (19 + k))) (hm : m < 2 ^ n) : ((nI m &&& (prF s n ^^^ (-1))) = 0 ↔ (nI m &&& orF (fun k => decide (s (19 + k) = 1)) n) = 0) := by
  obtain ⟨x, hx, hk⟩ := mask_of (fun k => decide (s (19 + k) = 1))
  unfold prF
  rw [orF_congr (c := fun k => !x.testBit k) n (fun k hkn => ?_), orF_congr (c := fun k => x.testBit k) n (fun k hkn => hk k (by omega))]
  · exact awy_fin n (by omega) x hx m hm
  · rw [← hk k (by omega)]
    rcases hb k hkn with e | e <;> rw [e] <;> rfl
/-- a is near enough to every b below k, where both are in the set -/
def inB (s : Nat → Int32) (m : Nat) (q : Int32) (a : Nat) : Nat → Bool
  | 0 => true
  | b + 1 => inB s m q a b && (!(m.testBit a && m.testBit b) || decide (¬ (q < pc (s (1 + a) ^^^ s (1 + b)))))
def nrB (s : Nat → Int32) (m : Nat) (q : Int32) : Nat → Bool
  | 0 => true
  | a + 1 => nrB s m q a && inB s m q a a
theorem inB_iff {s : Nat → Int32} {m a : Nat} {q : Int32} : ∀ k, inB s m q a k = true ↔ ∀ b, b < k → m.testBit a = true → m.testBit b = true → ¬ (q < pc (s (1 + a) ^^^ s (1 + b)))
  | 0 => ⟨fun _ b hb => absurd hb (by omega), fun _ => rfl⟩
  | k + 1 => by
    have ih := inB_iff (s := s) (m := m) (a := a) (q := q) k
    rw [show inB s m q a (k + 1) = (inB s m q a k && (!(m.testBit a && m.testBit k) || decide (¬ (q < pc (s (1 + a) ^^^ s (1 + k)))))) from rfl, Bool.and_eq_true, ih]
    constructor
    · intro ⟨h1, h2⟩ b hb ha hbb
      by_cases e : b = k
      · subst e
        rw [ha, hbb] at h2
        exact of_decide_eq_true h2
      · exact h1 b (by omega) ha hbb
    · intro h
      refine ⟨fun b hb => h b (by omega), ?_⟩
      cases ea : m.testBit a
      · rfl
      cases eb : m.testBit k
      · rfl
      exact decide_eq_true (h k (by omega) ea eb)
theorem nrB_iff {s : Nat → Int32} {m : Nat} {q : Int32} : ∀ n, nrB s m q n = true ↔ ∀ a, a < n → ∀ b, b < a → m.testBit a = true → m.testBit b = true → ¬ (q < pc (s (1 + a) ^^^ s (1 + b)))
  | 0 => ⟨fun _ b hb => absurd hb (by omega), fun _ => rfl⟩
  | n + 1 => by
    rw [show nrB s m q (n + 1) = (nrB s m q n && inB s m q n n) from rfl, Bool.and_eq_true, nrB_iff n, inB_iff n]
    constructor
    · intro ⟨h1, h2⟩ a ha
      by_cases e : a = n
      · rw [e]; exact h2
      · exact h1 a (by omega)
    · intro h
      exact ⟨fun a ha => h a (by omega), h n (by omega)⟩
/-- the greatest of the sets below m -/
def tbF (ok : Nat → Bool) : Nat → Nat
  | 0 => 0
  | m + 1 => if (decide (¬ (pc (nI m) ≤ pc (nI (tbF ok m)))) && ok m) = true then m else tbF ok m
theorem tbF_le {ok : Nat → Bool} : ∀ m, tbF ok m ≤ m
  | 0 => Nat.le_refl _
  | m + 1 => by
    have := tbF_le (ok := ok) m
    unfold tbF
    split <;> omega
theorem tbF_stop {ok : Nat → Bool} {P : Nat} : ∀ k, (∀ m, P ≤ m → m < P + k → ok m = false) → tbF ok (P + k) = tbF ok P
  | 0, _ => rfl
  | k + 1, h => by
    have ih := tbF_stop (ok := ok) (P := P) k (fun m h1 h2 => h m h1 (by omega))
    rw [show P + (k + 1) = (P + k) + 1 from rfl, tbF, h (P + k) (by omega) (by omega), Bool.and_false, if_neg (by decide)]
    exact ih
def okT (s : Nat → Int32) (q : Int32) (n m : Nat) : Bool := decide ((nI m &&& (prF s n ^^^ (-1))) = 0) && nrB s m q n
section TAB
variable {E : XE} {d : Nat} {I : Nat → Nat → Int32} {s : Nat → Int32} {n w : Nat}
theorem m_isTable {J : Nat → Nat → Int32} {m : Nat} {q : Int32} (hJ : J 143 = s) (hn : n ≤ 6) (h31 : s 31 = nI n) (hb : ∀ k, k < n → b1 (s (19 + k))) (hm : m < 2 ^ n) (hm2 : m < 64) (hd : 3 ≤ d) :
    x_K E d 159 [.ref 142, .int (nI m), .int q] J (x_pu (.int (bI (okT s q n m))) J) := by
  refine x_K.of (by decide) (by decide) rfl rfl rfl (r_M_isTable_0 (by omega) _ _ ((c_ones (c := 19) (n := n) hn (by rw [hJ]; exact h31) (by decide) (fun k hk => by rw [hJ]; exact hb k hk) (by omega)).pu (r_M_isTable_4 (by omega) _ _ _ _ ?_)))
  rw [hJ, x_bi_bI]
  have eaw : decide ((nI m &&& orF (fun k => decide (s (19 + k) = 1)) n) = 0) = decide ((nI m &&& (prF s n ^^^ (-1))) = 0) := decide_eq_decide.mpr (awy_eq hn hb hm).symm
  rw [eaw]
  generalize haw : decide ((nI m &&& (prF s n ^^^ (-1))) = 0) = aw
  have eok : okT s q n m = (aw && nrB s m q n) := by rw [← haw]; rfl
  rw [eok]
  have key : ∀ r a, a + r = n → x_P E d 159 12 [.ref 142, .int (nI m), .int q, .int (bI (aw && nrB s m q a)), .int (nI a), x_jk, x_jk] [] J (x_pu (.int (bI (aw && nrB s m q n))) J) := by
    intro r
    induction r with
    | zero =>
      intro a ha
      refine r_M_isTable_12 (by omega) _ _ _ _ ⟨fun _ => ⟨bI_nar _, by rw [show n = a by omega], rfl⟩, fun g => absurd ?_ g⟩
      rw [hJ, h31]
      exact nI_le (by omega) (by omega)
    | succ r ih =>
      intro a ha
      refine r_M_isTable_12 (by omega) _ _ _ _ ⟨fun g => absurd g ?_, fun _ => ?_⟩
      · rw [hJ, h31]
        exact nI_ge (by omega) (by omega)
      have key2 : ∀ r b, b + r = a → x_P E d 159 20 [.ref 142, .int (nI m), .int q, .int (bI (aw && nrB s m q a && inB s m q a b)), .int (nI a), .int (nI b), x_jk] [] J (x_pu (.int (bI (aw && nrB s m q n))) J) := by
        intro r2
        induction r2 with
        | zero =>
          intro b hb2
          refine r_M_isTable_20 (by omega) _ _ _ _ _ ⟨fun _ => ?_, fun g => absurd (nI_le (by omega) (by omega)) g⟩
          have nx := ih (a + 1) (by omega)
          rw [show nrB s m q (a + 1) = (nrB s m q a && inB s m q a a) from rfl, ← Bool.and_assoc] at nx
          rw [nI_1, show b = a by omega]
          exact nx
        | succ r2 ih2 =>
          intro b hb2
          have nx := ih2 (b + 1) (by omega)
          rw [show inB s m q a (b + 1) = (inB s m q a b && (!(m.testBit a && m.testBit b) || decide (¬ (q < pc (s (1 + a) ^^^ s (1 + b)))))) from rfl, ← Bool.and_assoc] at nx
          refine r_M_isTable_20 (by omega) _ _ _ _ _ ⟨fun g => absurd g (nI_ge (by omega) (by omega)), fun _ => ?_⟩
          rw [nI_1]
          cases eX : (aw && nrB s m q a && inB s m q a b)
          · rw [eX, Bool.false_and] at nx
            exact ⟨fun _ => nx, fun g => absurd rfl g⟩
          · rw [eX, Bool.true_and] at nx
            refine ⟨fun g => absurd g (by decide), fun _ => ⟨fun g => (c_apartOf (by omega) (by omega) (by omega)).pu (r_M_isTable_49 (by omega) _ _ _ _ _ ?_), fun g => ?_⟩⟩
            · rw [(bit1 m hm2 a (by omega)).mp g.1, (bit1 m hm2 b (by omega)).mp g.2] at nx
              rw [nI_1, x_bi_bI, hJ]
              exact nx
            · have e : (m.testBit a && m.testBit b) = false := by
                cases ea : m.testBit a
                · rfl
                cases eb : m.testBit b
                · rfl
                exact absurd ⟨(bit1 m hm2 a (by omega)).mpr ea, (bit1 m hm2 b (by omega)).mpr eb⟩ g
              rw [e] at nx
              exact nx
      have kk := key2 a 0 (by omega)
      rw [nI_0, show inB s m q a 0 = true from rfl, Bool.and_true] at kk
      exact kk
  have kk := key n 0 (by omega)
  rw [nI_0, show nrB s m q 0 = true from rfl, Bool.and_true] at kk
  exact kk
theorem c_isNear {m : Nat} {q : Int32} (h : RW I 65 s n w) (hm2 : m < 64) (hd : 3 ≤ d) :
    x_K E d 102 [.ref 64, .int (nI m), .int q] I (x_pu (.int (bI (nrB s m q n))) I) := by
  have hn := h.1.1
  have h65 := h.1.2.2.2.2.1
  refine x_K.of (by decide) (by decide) rfl rfl rfl (r_C_isNear_0 (by omega) _ _ ?_)
  have key : ∀ r i, i + r = n → (∀ b, b < i → ∀ a, b < a → a < n → m.testBit a = true → m.testBit b = true → ¬ (q < pc (s (1 + a) ^^^ s (1 + b)))) → x_P E d 102 2 [.ref 64, .int (nI m), .int q, .int (nI i), x_jk, x_jk] [] I (x_pu (.int (bI (nrB s m q n))) I) := by
    intro r
    induction r with
    | zero =>
      intro i hi hok
      refine r_C_isNear_2 (by omega) _ _ _ ⟨fun _ => ⟨?_, rfl⟩, fun g => absurd ?_ g⟩
      · rw [(nrB_iff n).mpr (fun a ha b hb => hok b (by omega) a hb ha)]
        rfl
      · rw [h65]
        exact nI_le (by omega) (by omega)
    | succ r ih =>
      intro i hi hok
      refine r_C_isNear_2 (by omega) _ _ _ ⟨fun g => absurd g ?_, fun _ => ?_⟩
      · rw [h65]
        exact nI_ge (by omega) (by omega)
      have key2 : ∀ r j, j + r = n → i < j → (∀ a, i < a → a < j → m.testBit a = true → m.testBit i = true → ¬ (q < pc (s (1 + a) ^^^ s (1 + i)))) → x_P E d 102 11 [.ref 64, .int (nI m), .int q, .int (nI i), .int (nI j), x_jk] [] I (x_pu (.int (bI (nrB s m q n))) I) := by
        intro r2
        induction r2 with
        | zero =>
          intro j hj hij hok2
          refine r_C_isNear_11 (by omega) _ _ _ _ ⟨fun _ => ?_, fun g => absurd ?_ g⟩
          · rw [nI_1]
            refine ih (i + 1) (by omega) (fun b hb a hba ha => ?_)
            by_cases e : b = i
            · rw [e]
              exact hok2 a (by omega) (by omega)
            · exact hok b (by omega) a hba ha
          · rw [h65]
            exact nI_le (by omega) (by omega)
        | succ r2 ih2 =>
          intro j hj hij hok2
          refine r_C_isNear_11 (by omega) _ _ _ _ ⟨fun g => absurd g ?_, fun _ => ?_⟩
          · rw [h65]
            exact nI_ge (by omega) (by omega)
          rw [nI_1]
          have nx : (m.testBit j = true → m.testBit i = true → ¬ (q < pc (s (1 + j) ^^^ s (1 + i)))) → x_P E d 102 11 [.ref 64, .int (nI m), .int q, .int (nI i), .int (nI (j + 1)), x_jk] [] I (x_pu (.int (bI (nrB s m q n))) I) := fun g => ih2 (j + 1) (by omega) (by omega) (fun a h1 h2 => by
            by_cases e : a = j
            · rw [e]; exact g
            · exact hok2 a h1 (by omega))
          have hb2 := bit2 m hm2 i (by omega) j (by omega)
          refine ⟨fun g => ⟨vp_in_nI (by omega) (by decide), vp_in_nI (by omega) (by decide), ?_⟩, fun g => ?_⟩
          · have hbt : m.testBit i = true ∧ m.testBit j = true := by
              cases ei : m.testBit i
              · exact absurd (hb2.mpr (fun z => by rw [ei] at z; exact absurd z.1 (by decide))) g
              cases ej : m.testBit j
              · exact absurd (hb2.mpr (fun z => by rw [ej] at z; exact absurd z.2 (by decide))) g
              exact ⟨rfl, rfl⟩
            rw [nI_clamp (by omega), nI_clamp (by omega)]
            obtain ⟨m1, o1⟩ := h.2.1.1 i (by omega)
            obtain ⟨m2, o2⟩ := h.2.1.1 j (by omega)
            refine (c_distC (x_man_now (by omega)).1 (x_man_now (by omega)).1 m1 m2 o1 o2 (by omega)).pu (r_C_isNear_43 (by omega) _ _ _ _ _ ?_)
            rw [nI_1, Int32.xor_comm]
            refine ⟨fun g2 => nx (fun _ _ => (le_nlt _ _).mp g2), fun g2 => ⟨?_, rfl⟩⟩
            have : nrB s m q n = false := by
              cases e : nrB s m q n
              · rfl
              · exact absurd ((le_nlt _ _).mpr ((nrB_iff n).mp e j (by omega) i hij hbt.2 hbt.1)) g2
            rw [this]
            rfl
          · refine nx (fun h1 h2 => absurd ⟨h2, h1⟩ (hb2.mp ?_))
            exact Decidable.of_not_not g
      rw [nI_1]
      exact key2 r (i + 1) (by omega) (by omega) (fun a h1 h2 => absurd h1 (by omega))
  have kk := key n 0 (by omega) (fun b hb => absurd hb (by omega))
  rw [nI_0] at kk
  exact kk
theorem op_table {a1 : Int32} (h : RW I 65 s n w) (hd : 20 ≤ d) : op2 E d I s 77 160 [.int a1] := by
  have hn := h.1.1
  have h31 := h.1.2.2.1
  have hp2 : 2 ^ n ≤ 64 := Nat.pow_le_pow_right (n := 2) (by decide) hn
  have hb : ∀ k, k < n → b1 (s (19 + k)) := fun k hk => (h.2.1.1 k hk).2.2.2.2.2.2.2
  by_cases hin : 0 ≤ a1 ∧ a1 ≤ (8 : Int32)
  · obtain ⟨P, hP, hPn, eP⟩ := orF_nI (c := fun k => decide (s (19 + k) = 0)) hn
    have eP : prF s n = nI P := eP
    have stop : tbF (okT s a1 n) (2 ^ n) = tbF (okT s a1 n) (P + 1) := by
      have := tbF_stop (ok := okT s a1 n) (P := P + 1) (2 ^ n - (P + 1)) (fun m h1 h2 => by
        unfold okT
        rw [eP, decide_eq_false (sub_fin P hP m (by omega) (by omega))]
        rfl)
      rw [show P + 1 + (2 ^ n - (P + 1)) = 2 ^ n by omega] at this
      exact this
    refine ⟨.int (nI (tbF (okT s a1 n) (2 ^ n))), s, n, w, x_K.of (by decide) (by decide) rfl rfl rfl (r_C_table_0 (by omega) _ ⟨fun _ => (c_presentBits h (by omega)).pu (r_C_table_9 (by omega) _ _ ?_), fun g => absurd hin g⟩), fun J hJ => x_K.of (by decide) (by decide) rfl rfl rfl (r_M_table_0 (by omega) _ ⟨fun _ => ?_, fun g => absurd hin g⟩)⟩
    · rw [stop, eP]
      have key : ∀ r m, m + r = P + 1 → x_P E d 77 14 [.ref 64, .int a1, .int (nI P), .int (nI (tbF (okT s a1 n) m)), .int (nI m), x_jk] [] I (fun v K => v = some (.int (nI (tbF (okT s a1 n) (P + 1)))) ∧ RW K 65 s n w ∧ ckp I K) := by
        intro r
        induction r with
        | zero =>
          intro m hm
          exact r_C_table_14 (by omega) _ _ _ _ ⟨fun _ => ⟨by rw [show P + 1 = m by omega], h, ckp.rfl'⟩, fun g => absurd (nI_lt (by omega) (by omega)) g⟩
        | succ r ih =>
          intro m hm
          have nx := ih (m + 1) (by omega)
          have hle := tbF_le (ok := okT s a1 n) m
          rw [tbF] at nx
          refine r_C_table_14 (by omega) _ _ _ _ ⟨fun g => absurd g (nI_nlt (by omega) (by omega)), fun _ => (c_bitCount (n := m) (by omega) (by omega)).pu (r_C_table_19 (by omega) _ _ _ _ _ ((c_bitCount (n := tbF (okT s a1 n) m) (by omega) (by omega)).pu (r_C_table_21 (by omega) _ _ _ _ _ _ ?_)))⟩
          rw [nI_1]
          refine ⟨fun g => ⟨fun g2 => (c_isNear h (by omega) (by omega)).pu (r_C_table_38 (by omega) _ _ _ _ _ ⟨fun g3 => ?_, fun g3 => ?_⟩), fun g2 => ?_⟩, fun g => ?_⟩
          · rw [nI_1]
            have e : okT s a1 n m = false := by
              unfold okT
              rw [(bI_0 _).mp g3, Bool.and_false]
            rw [e, Bool.and_false, if_neg (by decide)] at nx
            exact nx
          · rw [nI_1]
            have e : okT s a1 n m = true := by
              unfold okT
              rw [eP, decide_eq_true g2, Bool.true_and]
              cases e : nrB s m a1 n
              · exact absurd (by rw [e]; rfl) g3
              · rfl
            rw [e, decide_eq_true g, if_pos (by decide)] at nx
            exact nx
          · have e : okT s a1 n m = false := by
              unfold okT
              rw [eP, decide_eq_false g2, Bool.false_and]
            rw [e, Bool.and_false, if_neg (by decide)] at nx
            exact nx
          · rw [decide_eq_false g, Bool.false_and, if_neg (by decide)] at nx
            exact nx
      have t1 : tbF (okT s a1 n) 1 = 0 := by
        have := tbF_le (ok := okT s a1 n) 0
        rw [tbF]
        split <;> omega
      have kk := key P 1 (by omega)
      rw [t1] at kk
      exact kk
    · subst hJ
      have key : ∀ r m, m + r = 2 ^ n → x_P E d 160 11 [.ref 142, .int a1, .int (nI (tbF (okT (J 143) a1 n) m)), .int (nI m)] [] J (fun v K => v = some (.int (nI (tbF (okT (J 143) a1 n) (2 ^ n)))) ∧ K 143 = J 143 ∧ mkp J K) := by
        intro r
        induction r with
        | zero =>
          intro m hm
          refine r_M_table_11 (by omega) _ _ _ ⟨fun _ => ⟨by rw [show 2 ^ n = m by omega], rfl, mkp.rfl'⟩, fun g => absurd ?_ g⟩
          rw [h31, shl_fin n (by omega)]
          exact nI_le (by omega) (by omega)
        | succ r ih =>
          intro m hm
          have nx := ih (m + 1) (by omega)
          rw [tbF] at nx
          refine r_M_table_11 (by omega) _ _ _ ⟨fun g => absurd g ?_, fun _ => (c_countOf (by omega)).pu (r_M_table_21 (by omega) _ _ _ _ ((c_countOf (by omega)).pu (r_M_table_23 (by omega) _ _ _ _ _ ?_)))⟩
          · rw [h31, shl_fin n (by omega)]
            exact nI_ge (by omega) (by omega)
          rw [nI_1]
          refine ⟨fun g => ?_, fun g => (m_isTable rfl hn h31 hb (by omega) (by omega) (by omega)).pu (r_M_table_28 (by omega) _ _ _ _ ?_)⟩
          · rw [decide_eq_false (fun z => z g), Bool.false_and, if_neg (by decide)] at nx
            exact nx
          · rw [nI_1]
            rw [decide_eq_true g, Bool.true_and] at nx
            cases e : okT (J 143) a1 n m
            · rw [e, if_neg (by decide)] at nx
              rw [if_pos (show bI false = 0 from rfl)]
              exact nx
            · rw [e, if_pos rfl] at nx
              rw [if_neg (show ¬ bI true = 0 by decide)]
              exact nx
      have kk := key (2 ^ n) 0 (by omega)
      rw [nI_0, show tbF (okT (J 143) a1 n) 0 = 0 from rfl, nI_0] at kk
      exact kk
  · refine ⟨.int (-2), s, n, w, x_K.of (by decide) (by decide) rfl rfl rfl (r_C_table_0 (by omega) _ ⟨fun g => absurd g hin, fun _ => ⟨rfl, h, ckp.rfl'⟩⟩), fun J hJ => x_K.of (by decide) (by decide) rfl rfl rfl (r_M_table_0 (by omega) _ ⟨fun g => absurd g hin, fun _ => ⟨rfl, hJ, mkp.rfl'⟩⟩)⟩
end TAB
