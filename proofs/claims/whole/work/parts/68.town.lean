/-! ===== one call to both: town ===== -/
/-- the model's town a: its bursting, its steps -/
def twS (a b : Nat) (L : List Int32) (t : Nat → Int32) : Nat → Int32 := emS a 0 L (su t (221 + a) (nI b))
theorem twS_app {a b : Nat} {A B : List Int32} {t : Nat → Int32} (ha : a < 5) : emS a A.length B (twS a b A t) = twS a b (A ++ B) t := by
  have := emS_app (c := 0) (A := A) (B := B) (t := su t (221 + a) (nI b)) ha
  rw [Nat.zero_add] at this
  exact this
theorem twS_cnt {a b : Nat} {L : List Int32} {t : Nat → Int32} : twS a b L t (226 + a) = nI L.length := by
  unfold twS
  rw [emS_cnt, Nat.zero_add]
theorem twS_bu {a b : Nat} {L : List Int32} {t : Nat → Int32} (ha : a < 5) : twS a b L t (221 + a) = nI b := by
  unfold twS
  rw [emS_lo (by omega), su_eq]
theorem twS_set {a b b' : Nat} {L : List Int32} {t : Nat → Int32} (ha : a < 5) : su (twS a b L t) (221 + a) (nI b') = twS a b' L t := by
  funext i
  unfold twS emS wr
  by_cases e : i = 221 + a
  · rw [e, su_eq, if_neg (by omega), if_neg (by omega), su_eq]
  · rw [su_ne e, su_ne e, su_ne e]
theorem twS_lo {a b i : Nat} {L : List Int32} {t : Nat → Int32} (hi : i < 221) : twS a b L t i = t i := by
  unfold twS
  rw [emS_lo (by omega), su_ne (by omega)]
theorem twS_h {a b h i : Nat} {L : List Int32} {t : Nat → Int32} (hh : h < a) (ha : a < 5) (hi : i = 221 + h ∨ i = 226 + h ∨ (231 + 140 * h ≤ i ∧ i < 231 + 140 * h + 140)) : twS a b L t i = t i := by
  unfold twS emS wr
  rw [if_neg (by omega), if_neg (by omega), su_ne (by omega)]
theorem twS_at {a b : Nat} {L : List Int32} {t : Nat → Int32} (ha : a < 5) : atL (twS a b L t) (231 + 140 * a) L := fun k hk => by
  unfold twS emS wr
  rw [if_neg (by omega), if_pos (by omega), show 231 + 140 * a + k - (231 + 140 * a + 0) = k by omega]
def clW (J0 K : Nat → Nat → Int32) (C : List Cl) (b : Nat) : Prop := K 132 0 = nI b ∧ K 132 1 = nI C.length ∧ K 132 5 = nI (cds C).length ∧ K 135 = wr 0 ((cds C).map cC) (J0 135) ∧ K 133 = wr 0 (ams C) (J0 133) ∧ K 134 = wr 0 (ens 0 C) (J0 134)
def twQ (tv : Nat → Nat) (e a b' p' : Nat) (ok : Bool) (L' : List Int32) (t0 : Nat → Int32) (J : Nat → Nat → Int32) : Option Value → (Nat → Nat → Int32) → Prop := fun v K =>
  v = some (.int (if ok = true then nI a else (-10 : Int32) - nI p')) ∧ K 143 = (if ok = true then su (su (twS a b' L' t0) 32 (nI (a + 1))) 37 (nI a) else twS a b' L' t0) ∧ mfr J K
section TWN
variable {tv : Nat → Nat} {e : Nat}
theorem s_loop (he : e ≤ 100) (ht : ∀ i, i < e → tv i < 128) : ∀ m j (C : List Cl) (b p : Nat), j + m = 10 → 0 < m → p ≤ e → C.length ≤ j → (sts C).length ≤ p → (cds C).length ≤ p → clOK C → b ≤ 99 →
    ∃ (C' : List Cl) (b' : Nat) (L' : List Int32) (p' : Nat) (ok : Bool), p' ≤ e ∧ L'.length ≤ 100 ∧ (ok = true → clOK C' ∧ C'.length ≤ 10 ∧ L' = sts C' ∧ (cds C').length ≤ 100) ∧
      (∀ (E : XE) (d : Nat) (J0 J : Nat → Nat → Int32), 31 ≤ d → clW J0 J C b → RdR tv e J p → x_P E d 35 20 [.ref 131, x_jk, x_jk, .int (nI (j + 1))] [] J (fun v K => v = some (.int (bI ok)) ∧ RdR tv e K p' ∧ (ok = true → clW J0 K C' b') ∧ kp [131, 132, 133, 134, 135] J K)) ∧
      ∀ (E : XE) (d : Nat) (J : Nat → Nat → Int32) (t0 : Nat → Int32) (a : Nat), 31 ≤ d → MdR J (twS a b (sts C) t0) e p false 0 a → tpR t0 tv e → a < 5 → t0 32 = nI a → x_K E (d - 1) 127 [.ref 142] J (fun v I2 => v = none ∧ x_P E d 128 54 [.ref 142, .int (nI (j + 1))] [] I2 (twQ tv e a b' p' ok L' t0 J)) := by
  intro m
  induction m with
  | zero => intro j C b p _ h0; exact absurd h0 (by omega)
  | succ m ih =>
    intro j C b p hj _ hp hCl hst hcd hok hb
    obtain ⟨T, p1, ok1, isB, st, n, l1, l2, l3, l4, l5, l6, l7⟩ := s_clause he ht hp
    -- the class behind the clause
    have cS : ∀ (E : XE) (d : Nat) (J0 J : Nat → Nat → Int32) Q, 31 ≤ d → clW J0 J C b → RdR tv e J p → (∀ K, ccQ tv e T p1 ok1 isB st n (cds C).length C.length J (some (.int (bI ok1))) K → x_P E d 35 25 [.ref 131, x_jk, x_jk, .int (nI (j + 1))] [.int (bI ok1)] K Q) → x_P E d 35 20 [.ref 131, x_jk, x_jk, .int (nI (j + 1))] [] J Q := by
      intro E d J0 J Q hd hW hJ hQ
      refine r_Reader_reads_20 (by omega) _ ⟨fun z => absurd z (nI_nlt (b := j + 1) (a := 10) (by omega) (by decide)), fun _ => ?_⟩
      refine (l6 E (d - 1) J (cds C).length C.length (by omega) hJ hW.2.2.1 hcd hW.2.1 (by omega)).mono (fun v K hv => ?_)
      have hvs : v = some (.int (bI ok1)) := hv.1
      rw [hvs] at hv ⊢
      exact hQ K hv
    have mS : ∀ (E : XE) (d : Nat) (J : Nat → Nat → Int32) (t0 : Nat → Int32) (a : Nat) (Q : Option Value → (Nat → Nat → Int32) → Prop), 31 ≤ d → MdR J (twS a b (sts C) t0) e p false 0 a → tpR t0 tv e → a < 5 → (∀ K, MdR K (mcT (twS a b (sts C) t0) T ok1 isB st n a (sts C).length) e p1 (!ok1) 0 a → mfr J K → x_P E d 128 54 [.ref 142, .int (nI (j + 1))] [] K Q) → x_K E (d - 1) 127 [.ref 142] J (fun v I2 => v = none ∧ x_P E d 128 54 [.ref 142, .int (nI (j + 1))] [] I2 Q) := by
      intro E d J t0 a Q hd hJ hT ha hQ
      refine (l7 E (d - 1) J _ a (sts C).length (by omega) hJ (fun i hi => by rw [twS_lo (by omega)]; exact hT i hi) twS_cnt hst ha).mono (fun v K hv => ?_)
      obtain ⟨hv, hK, k1⟩ := hv
      exact ⟨hv, hQ K hK k1⟩
    cases hk : ok1
    · rw [hk] at cS mS
      refine ⟨C, b, sts C ++ T.map cM, p1, false, l2, by rw [List.length_append, List.length_map]; omega, fun z => absurd z (by decide), fun E d J0 J hd hW hJ => cS E d J0 J _ hd hW hJ (fun K hK => ?_), fun E d J t0 a hd hJ hT ha h32 => mS E d J t0 a _ hd hJ hT ha (fun K hK k1 => ?_)⟩
      · obtain ⟨_, q1, _, _, q5⟩ := hK
        exact r_Reader_reads_25 (by omega) _ _ ⟨fun _ => ⟨rfl, q1, fun z => absurd z (by decide), q5⟩, fun z => absurd rfl z⟩
      · have h8 : K 142 8 = 1 := hK.2.2.2.1
        have h6 : K 142 6 = nI p1 := hK.2.2.1
        have h143 : K 143 = emS a (sts C).length (T.map cM) (twS a b (sts C) t0) := hK.1
        refine r_M_town_54 (by omega) _ ⟨fun z => absurd (h8.symm.trans z) (by decide), fun _ => ⟨fun z => absurd (h8.symm.trans z) (by decide), fun _ => ⟨by rw [h6]; rfl, ?_, k1⟩⟩⟩
        rw [h143, twS_app ha]
        rfl
    -- the clauses with it
    obtain ⟨l8, l9⟩ := l4 hk
    have nxt : ∃ (C1 : List Cl) (b1 : Nat), C1.length ≤ j + 1 ∧ (sts C1).length ≤ p1 ∧ (cds C1).length ≤ p1 ∧ clOK C1 ∧ b1 ≤ 99 ∧ (∀ J0 J K v, clW J0 J C b → ccQ tv e T p1 true isB st n (cds C).length C.length J v K → clW J0 K C1 b1) ∧ ∀ a t0, a < 5 → mcT (twS a b (sts C) t0) T true isB st n a (sts C).length = twS a b1 (sts C1) t0 := by
      cases hB : isB
      · obtain ⟨l10, l11⟩ := l9 hB
        refine ⟨C ++ [(T, st, n)], b, by rw [List.length_append]; show C.length + 1 ≤ _; omega, ?_, ?_, ?_, hb, fun J0 J K v hW hq => ?_, fun a t0 ha => ?_⟩
        · rw [sts_app, List.length_append, List.length_append, List.length_map]
          show _ + (T.length + 1) ≤ _
          omega
        · rw [cds_app, List.length_append]
          show _ + T.length ≤ _
          omega
        · intro x hx
          rw [List.mem_append] at hx
          rcases hx with hx | hx
          · exact hok x hx
          · rw [List.mem_singleton.mp hx]
            exact ⟨l11, by show n < 100; omega⟩
        · obtain ⟨w0, w1, w5, w35, w33, w34⟩ := hW
          obtain ⟨q0, q1, q5, q35, q33, q34⟩ := hq.2.2.2.1 rfl rfl
          refine ⟨q0.trans w0, ?_, ?_, ?_, ?_, ?_⟩
          · rw [q1, List.length_append]
            rfl
          · rw [q5, cds_app, List.length_append]
          · rw [q35, w35, cds_app, List.map_append, ← wr_app, List.length_map, Nat.zero_add]
          · rw [q33, w33, ams_app, ← wr_app, ← wr_one, ams_len, Nat.zero_add]
          · rw [q34, w34, ens_app, ← wr_app, ← wr_one, ens_len, Nat.zero_add, Nat.zero_add, cds_app, List.length_append]
        · unfold mcT
          rw [if_pos rfl, if_neg (by decide), twS_app ha, sts_app]
      · refine ⟨C, n, by omega, by omega, by omega, hok, by omega, fun J0 J K v hW hq => ?_, fun a t0 ha => ?_⟩
        · obtain ⟨w0, w1, w5, w35, w33, w34⟩ := hW
          obtain ⟨q2, q33, q34, q35⟩ := hq.2.2.1 rfl rfl
          refine ⟨by rw [q2, su_eq], by rw [q2, su_ne (by decide)]; exact w1, by rw [q2, su_ne (by decide)]; exact w5, q35.trans w35, q33.trans w33, q34.trans w34⟩
        · unfold mcT
          rw [if_pos rfl, if_pos rfl, twS_set ha]
    obtain ⟨C1, b1, c1, c2, c3, c4, c5, c6, c7⟩ := nxt
    rw [hk] at cS mS
    -- the model's good end and its bad end
    have good : ∀ (E : XE) (d : Nat) (J K : Nat → Nat → Int32) (t0 : Nat → Int32) (a : Nat), MdR K (twS a b1 (sts C1) t0) e e false 0 a → mfr J K → a < 5 → t0 32 = nI a → (((K 142 8) = 0 → (((K 142 6) = (K 142 7) → (∀ I4, I4 = x_up K 143 32 ((K 143 32) + 1) → (∀ I5, I5 = x_up I4 143 37 (I4 142 5) → twQ tv e a b1 e true (sts C1) t0 J (some (.int (I5 142 5))) I5))) ∧ (¬ ((K 142 6) = (K 142 7)) → twQ tv e a b1 e true (sts C1) t0 J (some (.int ((-10 : Int32) - (K 142 6)))) K))) ∧ (¬ ((K 142 8) = 0) → twQ tv e a b1 e true (sts C1) t0 J (some (.int ((-10 : Int32) - (K 142 6)))) K)) := by
      intro E d J K t0 a hK k1 ha h32
      obtain ⟨g1, g2, g3, g4, g5, g6⟩ := hK
      refine ⟨fun _ => ⟨fun _ I4 e4 I5 e5 => ?_, fun z => absurd (g3.trans g2.symm) z⟩, fun z => absurd g4 z⟩
      have f4 : I4 142 = K 142 := by rw [e4, up_ne (by decide)]
      have f5 : I5 142 = K 142 := by rw [e5, up_ne (by decide)]; exact f4
      rw [g1, twS_lo (by omega), h32, nI_1] at e4
      rw [f4, g6] at e5
      refine ⟨by rw [f5, g6]; rfl, ?_, k1.trans ⟨fun q _ _ _ => by rw [f5], by rw [e5, e4]; exact (kp.up (by simp)).trans (kp.up (by simp))⟩⟩
      rw [e5, up_su, e4, up_su, g1]
      rfl
    have bad : ∀ (J K : Nat → Nat → Int32) (t0 : Nat → Int32) (a : Nat), p1 < e → MdR K (twS a b1 (sts C1) t0) e p1 false 0 a → mfr J K → (((K 142 8) = 0 → (((K 142 6) = (K 142 7) → (∀ I4, I4 = x_up K 143 32 ((K 143 32) + 1) → (∀ I5, I5 = x_up I4 143 37 (I4 142 5) → twQ tv e a b1 p1 false (sts C1) t0 J (some (.int (I5 142 5))) I5))) ∧ (¬ ((K 142 6) = (K 142 7)) → twQ tv e a b1 p1 false (sts C1) t0 J (some (.int ((-10 : Int32) - (K 142 6)))) K))) ∧ (¬ ((K 142 8) = 0) → twQ tv e a b1 p1 false (sts C1) t0 J (some (.int ((-10 : Int32) - (K 142 6)))) K)) := by
      intro J K t0 a hlt hK k1
      obtain ⟨g1, g2, g3, g4, g5, g6⟩ := hK
      refine ⟨fun _ => ⟨fun z => ?_, fun _ => ⟨by rw [g3]; rfl, g1, k1⟩⟩, fun z => absurd g4 z⟩
      rw [g3, g2] at z
      have := (nI_eq (by omega) (by omega)).mp z
      omega
    by_cases hpe : p1 = e
    · subst hpe
      have hne : hC tv p1 p1 = (-1 : Int32) := if_neg (by omega)
      refine ⟨C1, b1, sts C1, p1, true, Nat.le_refl _, by omega, fun _ => ⟨c4, by omega, rfl, by omega⟩, fun E d J0 J hd hW hJ => cS E d J0 J _ hd hW hJ (fun K hK => ?_), fun E d J t0 a hd hJ hT ha h32 => mS E d J t0 a _ hd hJ hT ha (fun K hK k1 => ?_)⟩
      · have hK' := hK
        obtain ⟨_, q1, _, _, q5⟩ := hK'
        exact r_Reader_reads_25 (by omega) _ _ ⟨fun z => absurd z (by decide), fun _ => ⟨fun _ => ⟨rfl, q1, fun _ => c6 J0 J K _ hW hK, q5⟩, fun z => absurd (q1.2.1.trans q1.1.symm) z⟩⟩
      · rw [c7 a t0 ha] at hK
        have hg := good E d J K t0 a hK k1 ha h32
        have h8 : K 142 8 = 0 := hK.2.2.2.1
        refine r_M_town_54 (by omega) _ ⟨fun _ => ⟨fun _ => hg, fun _ => (m_here hK (fun i hi => by rw [twS_lo (by omega)]; exact hT i hi) he (Nat.le_refl _) (by omega)).pu (r_M_town_62 (by omega) _ _ ⟨fun z => absurd (hne.symm.trans z) (by decide), fun _ => hg⟩)⟩, fun z => absurd h8 z⟩
    have hlt : p1 < e := by omega
    by_cases hj9 : j + 1 = 10
    · refine ⟨C1, b1, sts C1, p1, false, l2, by omega, fun z => absurd z (by decide), fun E d J0 J hd hW hJ => cS E d J0 J _ hd hW hJ (fun K hK => ?_), fun E d J t0 a hd hJ hT ha h32 => mS E d J t0 a _ hd hJ hT ha (fun K hK k1 => ?_)⟩
      · obtain ⟨_, q1, _, _, q5⟩ := hK
        refine r_Reader_reads_25 (by omega) _ _ ⟨fun z => absurd z (by decide), fun _ => ⟨fun z => ?_, fun _ => ⟨fun _ => ⟨rfl, q1, fun z => absurd z (by decide), q5⟩, fun z => absurd (by rw [hj9]; rfl) z⟩⟩⟩
        rw [q1.1, q1.2.1] at z
        have := (nI_eq (by omega) (by omega)).mp z
        omega
      · rw [c7 a t0 ha] at hK
        have hg := bad J K t0 a hlt hK k1
        have h8 : K 142 8 = 0 := hK.2.2.2.1
        exact r_M_town_54 (by omega) _ ⟨fun _ => ⟨fun _ => hg, fun z => absurd (nI_le (a := 10) (b := j + 1) (by omega) (by omega)) z⟩, fun z => absurd h8 z⟩
    by_cases g59 : hC tv e p1 = (59 : Int32)
    · obtain ⟨C2, b2, L2, p2, ok2, n1, n2, n3, n4, n5⟩ := ih (j + 1) C1 b1 (p1 + 1) (by omega) (by omega) hlt c1 (by omega) (by omega) c4 c5
      refine ⟨C2, b2, L2, p2, ok2, n1, n2, n3, fun E d J0 J hd hW hJ => cS E d J0 J _ hd hW hJ (fun K hK => ?_), fun E d J t0 a hd hJ hT ha h32 => mS E d J t0 a _ hd hJ hT ha (fun K hK k1 => ?_)⟩
      · have hW1 := c6 J0 J K _ hW hK
        obtain ⟨_, q1, _, _, q5⟩ := hK
        refine r_Reader_reads_25 (by omega) _ _ ⟨fun z => absurd z (by decide), fun _ => ⟨fun z => ?_, fun _ => ⟨fun z => ?_, fun _ => (c_takes q1 he l2 (by decide) (by omega)).mono (fun v K2 hv => ?_)⟩⟩⟩
        · rw [q1.1, q1.2.1] at z
          have := (nI_eq (by omega) (by omega)).mp z
          omega
        · exact absurd ((nI_eq (a := j + 1) (b := 10) (by omega) (by omega)).mp z) hj9
        · obtain ⟨hv, hK2, _, k2⟩ := hv
          rw [if_pos g59] at hK2
          rw [hv, decide_eq_true g59]
          refine r_Reader_reads_41 (by omega) _ _ ⟨fun z => absurd z (by decide), fun _ => ?_⟩
          rw [nI_1]
          have hW2 : clW J0 K2 C1 b1 := by
            unfold clW
            rw [k2 132 (by simp), k2 135 (by simp), k2 133 (by simp), k2 134 (by simp)]
            exact hW1
          refine x_P.mono (n4 E d J0 K2 hd hW2 hK2) (fun v K3 hv => ?_)
          obtain ⟨u1, u2, u3, u4⟩ := hv
          exact ⟨u1, u2, u3, (q5.trans (k2.mono (by simp))).trans u4⟩
      · rw [c7 a t0 ha] at hK
        have h8 : K 142 8 = 0 := hK.2.2.2.1
        have h6 : K 142 6 = nI p1 := hK.2.2.1
        refine r_M_town_54 (by omega) _ ⟨fun _ => ⟨fun z => absurd z (nI_ge (a := j + 1) (b := 10) (by omega) (by decide)), fun _ => (m_here hK (fun i hi => by rw [twS_lo (by omega)]; exact hT i hi) he l2 (by omega)).pu (r_M_town_62 (by omega) _ _ ⟨fun _ I6 e6 => ?_, fun z => absurd g59 z⟩)⟩, fun z => absurd h8 z⟩
        rw [h6, nI_1] at e6
        have hI6 : MdR I6 (twS a b1 (sts C1) t0) e (p1 + 1) false 0 a := by
          obtain ⟨g1, g2, g3, g4, g5, g6⟩ := hK
          unfold MdR
          rw [e6, up_ne (by decide), up_su, su_ne (by decide), su_eq, su_ne (by decide), su_ne (by decide), su_ne (by decide)]
          exact ⟨g1, g2, rfl, g4, g5, g6⟩
        refine (n5 E d I6 t0 a hd hI6 hT ha h32).mono (fun v K2 hv => ?_)
        obtain ⟨hv, hP⟩ := hv
        rw [hv]
        refine r_M_town_72 (by omega) _ ?_
        rw [nI_1]
        refine x_P.mono hP (fun v K3 hv => ?_)
        obtain ⟨u1, u2, u3⟩ := hv
        exact ⟨u1, u2, (k1.trans (mfr.f (Or.inl rfl) e6)).trans u3⟩
    · refine ⟨C1, b1, sts C1, p1, false, l2, by omega, fun z => absurd z (by decide), fun E d J0 J hd hW hJ => cS E d J0 J _ hd hW hJ (fun K hK => ?_), fun E d J t0 a hd hJ hT ha h32 => mS E d J t0 a _ hd hJ hT ha (fun K hK k1 => ?_)⟩
      · obtain ⟨_, q1, _, _, q5⟩ := hK
        refine r_Reader_reads_25 (by omega) _ _ ⟨fun z => absurd z (by decide), fun _ => ⟨fun z => ?_, fun _ => ⟨fun z => ?_, fun _ => (c_takes q1 he l2 (by decide) (by omega)).mono (fun v K2 hv => ?_)⟩⟩⟩
        · rw [q1.1, q1.2.1] at z
          have := (nI_eq (by omega) (by omega)).mp z
          omega
        · exact absurd ((nI_eq (a := j + 1) (b := 10) (by omega) (by omega)).mp z) hj9
        · obtain ⟨hv, hK2, _, k2⟩ := hv
          rw [if_neg g59] at hK2
          rw [hv, decide_eq_false g59]
          exact r_Reader_reads_41 (by omega) _ _ ⟨fun _ => ⟨rfl, hK2, fun z => absurd z (by decide), q5.trans (k2.mono (by simp))⟩, fun z => absurd rfl z⟩
      · rw [c7 a t0 ha] at hK
        have hg := bad J K t0 a hlt hK k1
        have h8 : K 142 8 = 0 := hK.2.2.2.1
        exact r_M_town_54 (by omega) _ ⟨fun _ => ⟨fun z => absurd z (nI_ge (a := j + 1) (b := 10) (by omega) (by decide)), fun _ => (m_here hK (fun i hi => by rw [twS_lo (by omega)]; exact hT i hi) he l2 (by omega)).pu (r_M_town_62 (by omega) _ _ ⟨fun z => absurd z g59, fun _ => hg⟩)⟩, fun z => absurd h8 z⟩
end TWN
