/-! ===== one call to both: town, put together ===== -/
theorem twS_0 {a : Nat} {t : Nat → Int32} : su (su t (221 + a) (90 : Int32)) (226 + a) 0 = twS a 90 [] t := by
  funext i
  unfold twS emS
  rw [wr_nil]
  rfl
theorem RW_town {I J : Nat → Nat → Int32} {s t : Nat → Int32} {n w : Nat} (h : RW I 65 s n w) (k : kp [65, 68, 69, 70, 71, 131, 132, 133, 134, 135, 137] I J) (e1 : J 65 1 = I 65 1) (e2 : J 65 2 = I 65 2) (e4 : J 65 4 = 0) (t36 : t 36 = 0)
    (hs : ∀ j, j < 221 → j ≠ 36 → j ≠ 32 → j ≠ 37 → t j = s j) (ht : towR J 65 t) : RW J 65 t n w := by
  obtain ⟨a1, a2, a3, a4, a5, a6, a7⟩ := h
  have kc : ∀ q, 66 ≤ q → q ≠ 68 → q ≠ 69 → q ≠ 70 → q ≠ 71 → q < 131 → J q = I q := fun q h1 h2 h3 h4 h5 h6 => k q (by simp; omega)
  refine ⟨hdR_c e1 e2 (hs _ (by omega) (by omega) (by omega) (by omega)) (hs _ (by omega) (by omega) (by omega) (by omega)) a1, mnsR_c a1.1 (fun q _ _ => kc q (by omega) (by omega) (by omega) (by omega) (by omega) (by omega)) (fun i _ _ => hs i (by omega) (by omega) (by omega) (by omega)) a2, ht, ⟨?_, 0, by omega, t36, e4, fun i hi => absurd hi (by omega)⟩,
    senR_c (Nat.le_refl _) (kc _ (by omega) (by omega) (by omega) (by omega) (by omega) (by omega)) (kc _ (by omega) (by omega) (by omega) (by omega) (by omega) (by omega)) (kc _ (by omega) (by omega) (by omega) (by omega) (by omega) (by omega)) (kc _ (by omega) (by omega) (by omega) (by omega) (by omega) (by omega)) (hs _ (by omega) (by omega) (by omega) (by omega)) (fun j _ _ => hs j (by omega) (by omega) (by omega) (by omega)) a5,
    plnR_c (Nat.le_refl _) (kc _ (by omega) (by omega) (by omega) (by omega) (by omega) (by omega)) (kc _ (by omega) (by omega) (by omega) (by omega) (by omega) (by omega)) (kc _ (by omega) (by omega) (by omega) (by omega) (by omega) (by omega)) (hs _ (by omega) (by omega) (by omega) (by omega)) (fun j _ _ => hs j (by omega) (by omega) (by omega) (by omega)) a6,
    bokR_c (Nat.le_refl _) (kc _ (by omega) (by omega) (by omega) (by omega) (by omega) (by omega)) (kc _ (by omega) (by omega) (by omega) (by omega) (by omega) (by omega)) (kc _ (by omega) (by omega) (by omega) (by omega) (by omega) (by omega)) (hs _ (by omega) (by omega) (by omega) (by omega)) (fun j _ _ => hs j (by omega) (by omega) (by omega) (by omega)) a7⟩
  intro j hj
  show fits .byte (.int (J 67 j)) = true
  rw [kc 67 (by omega) (by omega) (by omega) (by omega) (by omega) (by omega)]
  exact a4.1 j hj
section OPT
variable {E : XE} {d : Nat} {I : Nat → Nat → Int32} {s : Nat → Int32} {n w : Nat}
theorem cp_eq {I : Nat → Nat → Int32} {qs qd m j : Nat} (hj : j < m) : x_cp I qs qd m qd j = I qs j := if_pos ⟨rfl, hj⟩
theorem cp_ne {I : Nat → Nat → Int32} {qs qd m q : Nat} (hq : q ≠ qd) : x_cp I qs qd m q = I q := funext fun j => if_neg (fun g => hq g.1)
theorem c_copyT {K : Nat → Nat → Int32} (hd : 1 ≤ d) : x_K E d 50 [.ref 68, .ref 132] K (fun v J => v = none ∧ J 68 0 = K 132 0 ∧ J 68 1 = K 132 1 ∧ (∀ j, j < 10 → J 69 j = K 133 j) ∧ (∀ j, j < 10 → J 70 j = K 134 j) ∧ (∀ j, j < 100 → J 71 j = K 135 j) ∧ kp [68, 69, 70, 71] K J) := by
  refine x_K.of (by decide) (by decide) rfl rfl rfl (r_Town_copyFromt_0 (by omega) (fun I1 e1 I2 e2 I3 e3 I4 e4 I5 e5 I6 e6 => ?_))
  rw [show (10 : Int32).toNatClampNeg = 10 by decide] at e3 e4
  rw [show (100 : Int32).toNatClampNeg = 100 by decide] at e5
  refine ⟨rfl, ?_, ?_, fun j hj => ?_, fun j hj => ?_, fun j hj => ?_, fun q hq => ?_⟩
  · rw [e6, up_su, su_ne (by decide), e5, cp_ne (by decide), e4, cp_ne (by decide), e3, cp_ne (by decide), e2, up_su, su_ne (by decide), e1, up_su, su_eq]
  · rw [e6, up_su, su_ne (by decide), e5, cp_ne (by decide), e4, cp_ne (by decide), e3, cp_ne (by decide), e2, up_su, su_eq, e1, up_ne (by decide)]
  · rw [e6, up_ne (by decide), e5, cp_ne (by decide), e4, cp_ne (by decide), e3, cp_eq hj, e2, up_ne (by decide), e1, up_ne (by decide)]
  · rw [e6, up_ne (by decide), e5, cp_ne (by decide), e4, cp_eq hj, e3, cp_ne (by decide), e2, up_ne (by decide), e1, up_ne (by decide)]
  · rw [e6, up_ne (by decide), e5, cp_eq hj, e4, cp_ne (by decide), e3, cp_ne (by decide), e2, up_ne (by decide), e1, up_ne (by decide)]
  · have h4 : q ≠ 68 ∧ q ≠ 69 ∧ q ≠ 70 ∧ q ≠ 71 := by simpa using hq
    rw [e6, up_ne h4.1, e5, cp_ne h4.2.2.2, e4, cp_ne h4.2.2.1, e3, cp_ne h4.2.1, e2, up_ne h4.1, e1, up_ne h4.1]
theorem atL_w {g : Nat → Int32} {L : List Int32} {f : Nat → Int32} {m : Nat} (hm : L.length ≤ m) (h : ∀ j, j < m → f j = wr 0 L g j) : atL f 0 L := fun k hk => by
  rw [Nat.zero_add, h k (by omega)]
  have := atL_wr (g := g) (i := 0) (L := L) k hk
  rw [Nat.zero_add] at this
  exact this
theorem ens_le {C : List Cl} : ∀ s i, i < C.length → ∃ e, e ≤ s + (cds C).length ∧ (ens s C).getD i 0 = nI e := by
  induction C with
  | nil => intro s i hi; exact absurd hi (by simp)
  | cons c r ih =>
    intro s i hi
    match i, hi with
    | 0, _ => exact ⟨s + c.1.length, by show _ ≤ s + (c.1 ++ cds r).length; rw [List.length_append]; omega, rfl⟩
    | i + 1, hi =>
      obtain ⟨e, h1, h2⟩ := ih (s + c.1.length) i (by simpa using hi)
      exact ⟨e, by show _ ≤ s + (c.1 ++ cds r).length; rw [List.length_append]; omega, h2⟩
theorem op_town (h : RW I 65 s n w) (hd : 40 ≤ d) : op2 E d I s 64 128 [] := by
  obtain ⟨hw, htc, hbu, hsm, T, hT, h32, h66, h37⟩ := h.2.2.1
  obtain ⟨hfit, e, he, h36, h4, hrow⟩ := h.2.2.2.1
  have h66 : I 65 6 = nI T := h66
  have h4 : I 65 4 = nI e := h4
  by_cases h5 : T = 5
  · subst h5
    refine ⟨.int (-4), s, n, w, x_K.of (by decide) (by decide) rfl rfl rfl (r_C_town_0 (by omega) ⟨fun g => absurd g ?_, fun _ => ⟨rfl, h, ckp.rfl'⟩⟩), fun J hJ => x_K.of (by decide) (by decide) rfl rfl rfl (r_M_town_0 (by omega) ⟨fun _ => ⟨rfl, hJ, mkp.rfl'⟩, fun g => absurd ?_ g⟩)⟩
    · rw [h66]
      decide
    · rw [hJ, h32]
      rfl
  have hT5 : T < 5 := by omega
  -- the text
  generalize htv : (fun i => (s (121 + i)).toNatClampNeg) = tv
  have hs121 : ∀ i, i < e → s (121 + i) = nI (tv i) ∧ tv i < 128 := by
    intro i hi
    obtain ⟨_, c, hc, e1⟩ := hrow i hi
    rw [← htv]
    dsimp only
    rw [e1, nI_clamp (by omega)]
    exact ⟨rfl, by omega⟩
  have ht : ∀ i, i < e → tv i < 128 := fun i hi => (hs121 i hi).2
  obtain ⟨C, b, L, p', ok, l1, l2, l3, l4, l5⟩ := s_loop he ht 10 0 [] 90 0 (by omega) (by omega) (Nat.zero_le _) (Nat.zero_le _) (Nat.zero_le _) (Nat.zero_le _) (fun x hx => absurd hx (by simp)) (by omega)
  have tp0 : tpR (su s 36 0) tv e := fun i hi => by rw [su_ne (by omega)]; exact (hs121 i hi).1
  have t32 : su s 36 0 32 = nI T := (su_ne (by decide)).trans h32
  -- the class, up to its reader's answer
  have cR : ∀ Q : Option Value → (Nat → Nat → Int32) → Prop, (∀ K K0, kp [131, 132, 133, 134, 135, 137] I K → RdR tv e K p' → (ok = true → clW K0 K C b) → x_P E d 64 16 [.ref 64, x_jk] [.int (bI ok)] K Q) → x_K E (d - 1) 35 [.ref 131, .ref 67, .int (nI e)] I (fun v I2 => x_P E d 64 16 [.ref 64, x_jk] (v.toList ++ []) I2 Q) := by
    intro Q hQ
    refine x_K.of (by decide) (by decide) rfl rfl rfl (r_Reader_reads_0 (by omega) _ ⟨hfit, fun I2 e2 I3 e3 I4 e4 => x_K.of (by decide) (by decide) rfl rfl rfl (r_Town_clear_0 (by omega) (fun I5 e5 I6 e6 I7 e7 => r_Reader_reads_18 (by omega) ?_))⟩)
    rw [show (100 : Int32).toNatClampNeg = 100 by decide] at e2
    have e3 : I3 = x_up I2 131 2 (nI e) := by
      rw [e3, if_neg (show ¬ ((100 : Int32) < nI e) from nI_nlt (b := e) (a := 100) he (by decide))]
    have f131 : I7 131 = su (su (I 131) 2 (nI e)) 3 0 := by rw [e7, up_ne (by decide), e6, up_ne (by decide), e5, up_ne (by decide), e4, up_su, e3, up_su, e2, cp_ne (by decide)]
    have f132 : I7 132 = su (su (su (I 132) 0 90) 1 0) 5 0 := by rw [e7, up_su, e6, up_su, e5, up_su, e4, up_ne (by decide), e3, up_ne (by decide), e2, cp_ne (by decide)]
    have f137 : ∀ j, j < 100 → I7 137 j = I 67 j := fun j hj => by rw [e7, up_ne (by decide), e6, up_ne (by decide), e5, up_ne (by decide), e4, up_ne (by decide), e3, up_ne (by decide), e2, cp_eq hj]
    have fk : kp [131, 132, 137] I I7 := fun q hq => by
      have h4 : q ≠ 131 ∧ q ≠ 132 ∧ q ≠ 137 := by simpa using hq
      rw [e7, up_ne h4.2.1, e6, up_ne h4.2.1, e5, up_ne h4.2.1, e4, up_ne h4.1, e3, up_ne h4.1, e2, cp_ne h4.2.2]
    have hR : RdR tv e I7 0 := ⟨by rw [f131, su_ne (by decide), su_eq], by rw [f131, su_eq]; rfl, fun i hi => by rw [f137 i (by omega), (hrow i hi).1]; exact (hs121 i hi).1⟩
    have hW : clW I7 I7 [] 90 := ⟨by rw [f132, su_ne (by decide), su_ne (by decide), su_eq]; rfl, by rw [f132, su_ne (by decide), su_eq]; rfl, by rw [f132, su_eq]; rfl, wr_nil.symm, wr_nil.symm, wr_nil.symm⟩
    refine x_P.mono (l4 E (d - 1) I7 I7 (by omega) hW hR) (fun v K hv => ?_)
    obtain ⟨hv, h1, h2, h3⟩ := hv
    rw [hv]
    exact hQ K I7 ((fk.mono (by simp)).trans (h3.mono (by simp))) h1 h2
  -- the model, up to the end
  have mR : ∀ J, J 143 = s → x_K E d 128 [.ref 142] J (fun v K => v = some (.int (if ok = true then nI T else (-10 : Int32) - nI p')) ∧ K 143 = (if ok = true then su (su (twS T b L (su s 36 0)) 32 (nI (T + 1))) 37 (nI T) else twS T b L (su s 36 0)) ∧ mkp J K) := by
    intro J hJ
    refine x_K.of (by decide) (by decide) rfl rfl rfl (r_M_town_0 (by omega) ⟨fun g => ?_, fun _ => ?_⟩)
    · rw [hJ, h32] at g
      exact absurd ((nI_eq (a := T) (b := 5) (by omega) (by omega)).mp g) h5
    intro I2 e2 I3 e3 I4 e4
    rw [hJ, h32] at e2
    have f2 : I2 143 = s := by rw [e2, up_ne (by decide)]; exact hJ
    rw [f2, h36] at e3
    have f3 : I3 143 = s := by rw [e3, up_ne (by decide)]; exact f2
    have f43 : I4 143 = su s 36 0 := by rw [e4, up_su, f3]
    have f42 : I4 142 = su (su (J 142) 5 (nI T)) 7 (nI e) := by rw [e4, up_ne (by decide), e3, up_su, e2, up_su]
    have f45 : I4 142 5 = nI T := by rw [f42, su_ne (by decide), su_eq]
    rw [f45, ix_c (c := 221) (c' := 221) rfl (by omega)]
    refine ⟨vi_c (c' := 221) rfl (by omega) (by decide), fun I6 e6 => ?_⟩
    have f65 : I6 142 5 = nI T := by rw [e6, up_ne (by decide)]; exact f45
    rw [f65, ix_c (c := 226) (c' := 226) rfl (by omega)]
    refine ⟨vi_c (c' := 226) rfl (by omega) (by decide), fun I8 e8 I9 e9 I10 e10 I11 e11 => ?_⟩
    have f11 : I11 143 = twS T 90 [] (su s 36 0) := by
      rw [e11, up_ne (by decide), e10, up_ne (by decide), e9, up_ne (by decide), e8, up_su, e6, up_su, f43]
      exact twS_0
    have f12 : I11 142 = su (su (su (su (su (J 142) 5 (nI T)) 7 (nI e)) 6 0) 8 0) 9 0 := by rw [e11, up_su, e10, up_su, e9, up_su, e8, up_ne (by decide), e6, up_ne (by decide), f42]
    have fk : kp [142, 143] J I11 := fun q hq => by
      have h4 : q ≠ 142 ∧ q ≠ 143 := by simpa using hq
      rw [e11, up_ne h4.1, e10, up_ne h4.1, e9, up_ne h4.1, e8, up_ne h4.2, e6, up_ne h4.2, e4, up_ne h4.2, e3, up_ne h4.1, e2, up_ne h4.1]
    have hM : MdR I11 (twS T 90 (sts []) (su s 36 0)) e 0 false 0 T := by
      unfold MdR
      rw [f11, f12, su_ne (by decide), su_ne (by decide), su_ne (by decide), su_eq, su_ne (by decide), su_ne (by decide), su_eq, su_ne (by decide), su_eq, su_eq, su_ne (by decide), su_ne (by decide), su_ne (by decide), su_ne (by decide), su_eq]
      exact ⟨rfl, rfl, rfl, rfl, rfl, rfl⟩
    refine (l5 E d I11 (su s 36 0) T (by omega) hM tp0 hT5 t32).mono (fun v K hv => ?_)
    obtain ⟨hv, hP⟩ := hv
    rw [hv]
    refine x_P.mono hP (fun v K2 hv => ?_)
    obtain ⟨u1, u2, u3, u4⟩ := hv
    have e4' : ∀ q, q ≠ 142 → q ≠ 143 → K2 q = J q := fun q a c => (u4 q (by simp; omega)).trans (fk q (by simp; omega))
    refine ⟨u1, u2, fun q hq => e4' q (by omega) (by omega), e4' 144 (by decide) (by decide), e4' 150 (by decide) (by decide), ?_, ?_⟩
    · rw [u3 4 (by decide) (by decide) (by decide), f12, su_ne (by decide), su_ne (by decide), su_ne (by decide), su_ne (by decide), su_ne (by decide)]
    · rw [u3 16 (by decide) (by decide) (by decide), f12, su_ne (by decide), su_ne (by decide), su_ne (by decide), su_ne (by decide), su_ne (by decide)]
  have lo : ∀ i, i < 221 → i ≠ 36 → twS T b L (su s 36 0) i = s i := fun i h1 h2 => by rw [twS_lo h1, su_ne h2]
  have t36 : twS T b L (su s 36 0) 36 = 0 := by rw [twS_lo (by omega), su_eq]
  have hlt5 : I 65 6 < (5 : Int32) := by rw [h66]; exact nI_lt (b := 5) hT5 (by decide)
  refine ⟨.int (if ok = true then nI T else (-10 : Int32) - nI p'), if ok = true then su (su (twS T b L (su s 36 0)) 32 (nI (T + 1))) 37 (nI T) else twS T b L (su s 36 0), n, w, x_K.of (by decide) (by decide) rfl rfl rfl (r_C_town_0 (by omega) ⟨fun _ => ?_, fun g => absurd hlt5 g⟩), mR⟩
  rw [h4]
  refine cR _ (fun K K0 k1 hK hW => ?_)
  have e65 : K 65 = I 65 := k1 65 (by simp)
  refine r_C_town_16 (by omega) _ (fun I1 e1 => ?_)
  have f1 : I1 65 = su (I 65) 4 0 := by rw [e1, up_su, e65]
  have k2 : kp [65, 131, 132, 133, 134, 135, 137] I I1 := (k1.mono (by simp)).trans (by rw [e1]; exact kp.up (by simp))
  cases hk : ok
  · have F : ¬ (false = true) := by decide
    rw [if_neg F, if_neg F]
    refine ⟨fun _ => ⟨?_, ?_, ckp_of k2 (by decide)⟩, fun z => absurd rfl z⟩
    · rw [e1, up_ne (by decide), hK.2.1]
    · refine RW_town h (k2.mono (by simp)) (by rw [f1, su_ne (by decide)]) (by rw [f1, su_ne (by decide)]) (by rw [f1, su_eq]) t36 (fun j h1 h2 _ _ => lo j h1 h2) ?_
      obtain ⟨g1, g2, g3⟩ := tow_same (t := twS T b L (su s 36 0)) hw (lo 37 (by decide) (by decide)) (fun hh h1 h2 => by
        have hlt : hh < T := by
          rw [h37] at h1
          by_cases z : T = 0
          · rw [if_pos z] at h1
            exact absurd h1.symm (nI_ne_m1 (by omega))
          · rw [if_neg z] at h1
            have := (nI_eq (by omega) (by omega)).mp h1
            omega
        exact ⟨by rw [twS_h hlt hT5 (Or.inl rfl), su_ne (by omega)], by rw [twS_h hlt hT5 (Or.inr (Or.inl rfl)), su_ne (by omega)], fun j a c => by rw [twS_h hlt hT5 (Or.inr (Or.inr ⟨a, c⟩)), su_ne (by omega)]⟩)
      have q : ∀ x, 68 ≤ x → x < 72 → I1 x = I x := fun x a c => k2 x (by simp; omega)
      refine ⟨g1, tcW_c (q 68 (by decide) (by decide)) (q 70 (by decide) (by decide)) htc, ?_, fun f => ?_, T, hT, (lo 32 (by decide) (by decide)).trans h32, by rw [f1, su_ne (by decide)]; exact h66, (lo 37 (by decide) (by decide)).trans h37⟩
      · show I1 68 0 = _
        rw [q 68 (by decide) (by decide), g2]
        exact hbu
      · rw [smC_c (q 68 (by decide) (by decide)) (q 69 (by decide) (by decide)) (q 70 (by decide) (by decide)) (q 71 (by decide) (by decide)), g3]
        exact hsm f
  · obtain ⟨c1, c2, c3, c4⟩ := l3 hk
    obtain ⟨w0, w1, w5, w35, w33, w34⟩ := hW hk
    refine ⟨fun z => absurd z (by decide), fun _ => (c_copyT (by omega)).mono (fun v J2 hv => ?_)⟩
    obtain ⟨hv, d0, d1, d69, d70, d71, k3⟩ := hv
    rw [hv]
    refine r_C_town_36 (by omega) (fun J3 e3 => ?_)
    have g65 : J2 65 = su (I 65) 4 0 := (k3 65 (by simp)).trans f1
    have g6 : J2 65 6 = nI T := by rw [g65, su_ne (by decide)]; exact h66
    rw [g6, nI_1] at e3
    have f3 : J3 65 = su (su (I 65) 4 0) 6 (nI (T + 1)) := by rw [e3, up_su, g65]
    have k4 : kp [65, 68, 69, 70, 71, 131, 132, 133, 134, 135, 137] I J3 := ((k2.mono (by simp)).trans (k3.mono (by simp))).trans (by rw [e3]; exact kp.up (by simp))
    have q3 : ∀ x, x ≠ 65 → J3 x = J2 x := fun x hx => by rw [e3, up_ne hx]
    have q1 : ∀ x, x ≠ 65 → I1 x = K x := fun x hx => by rw [e1, up_ne hx]
    have r68 : J3 68 0 = nI b ∧ J3 68 1 = nI C.length := by
      rw [q3 68 (by decide), d0, d1, q1 132 (by decide)]
      exact ⟨w0, w1⟩
    have a69 : atL (J3 69) 0 (ams C) := atL_w (m := 10) (g := K0 133) (by rw [ams_len]; exact c2) (fun j hj => by rw [q3 69 (by decide), d69 j hj, q1 133 (by decide), w33])
    have a70 : atL (J3 70) 0 (ens 0 C) := atL_w (m := 10) (g := K0 134) (by rw [ens_len]; exact c2) (fun j hj => by rw [q3 70 (by decide), d70 j hj, q1 134 (by decide), w34])
    have a71 : atL (J3 71) 0 ((cds C).map cC) := atL_w (m := 100) (g := K0 135) (by rw [List.length_map]; exact c4) (fun j hj => by rw [q3 71 (by decide), d71 j hj, q1 135 (by decide), w35])
    rw [if_pos rfl, if_pos rfl]
    generalize hX : su (su (twS T b L (su s 36 0)) 32 (nI (T + 1))) 37 (nI T) = X
    have hi : ∀ i, 221 ≤ i → X i = twS T b L (su s 36 0) i := fun i h1 => by rw [← hX, su_ne (by omega), su_ne (by omega)]
    have x37 : X 37 = nI T := by rw [← hX, su_eq]
    have x32 : X 32 = nI (T + 1) := by rw [← hX, su_ne (by decide), su_eq]
    have xat : atL X (231 + 140 * T) (sts C) := fun k hk => by
      rw [hi _ (by omega), ← c3]
      exact twS_at hT5 k (by rw [c3]; exact hk)
    have x226 : X (226 + T) = nI (sts C).length := by rw [hi _ (by omega), twS_cnt, c3]
    have hLl : (sts C).length ≤ 100 := by rw [← c3]; exact l2
    refine ⟨by rw [f3, su_eq, nI_pred], RW_town h k4 (by rw [f3, su_ne (by decide), su_ne (by decide)]) (by rw [f3, su_ne (by decide), su_ne (by decide)]) (by rw [f3, su_ne (by decide), su_eq]) (by rw [← hX, su_ne (by decide), su_ne (by decide)]; exact t36) (fun j h1 h2 h3 h4 => by rw [← hX, su_ne h4, su_ne h3]; exact lo j h1 h2) ?_, ckp_of k4 (by decide)⟩
    refine ⟨Or.inr ⟨T, (sts C).length, hT5, by omega, x37, x226, ok_C C _ c1 xat⟩, ⟨C.length, c2, r68.2, fun i hi2 => ?_⟩, ?_, fun f => ?_, T + 1, by omega, x32, by rw [f3, su_eq], ?_⟩
    · obtain ⟨x, hx, ex⟩ := ens_le 0 i hi2
      refine ⟨x, by omega, ?_⟩
      have := a70 i (by rw [ens_len]; exact hi2)
      rw [Nat.zero_add] at this
      exact this.trans ex
    · show J3 68 0 = _
      unfold buM
      rw [r68.1, x37, if_neg (nI_ne_m1 (by omega)), nI_clamp (by omega), hi _ (by omega), twS_bu hT5]
    · show (csF (J3 69) (J3 70) (J3 71) f (J3 68 1).toNatClampNeg).1 = smF X f
      unfold smF
      rw [r68.2, nI_clamp (by omega), cs_C C.length C rfl c1 (by omega) a69 a70 a71, x37, if_neg (nI_ne_m1 (by omega)), nI_clamp (by omega), x226, nI_clamp (by omega), rn_C C _ _ c1 xat]
    · rw [x37, if_neg (by omega)]
      rfl
end OPT
