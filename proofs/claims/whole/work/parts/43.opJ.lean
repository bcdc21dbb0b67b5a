/-! ===== one call to both: of ===== -/
theorem orF_fin : ∀ n, n < 7 → ∀ m, m < 64 → orF (fun k => m.testBit k) n = nI (m % 2 ^ n) := by decide +kernel
theorem orF_nI {c : Nat → Bool} {n : Nat} (hn : n ≤ 6) : ∃ m, m < 64 ∧ m < 2 ^ n ∧ orF c n = nI m := by
  obtain ⟨m, hm, hk⟩ := mask_of c
  have : m % 2 ^ n < 2 ^ n := Nat.mod_lt _ (Nat.two_pow_pos n)
  exact ⟨m % 2 ^ n, Nat.lt_of_le_of_lt (Nat.mod_le _ _) hm, this, by rw [orF_congr (c := fun k => m.testBit k) n (fun k hkn => hk k (by omega)), orF_fin n (by omega) m hm]⟩
theorem orF_false : ∀ n, orF (fun _ => false) n = 0 := by
  intro n
  induction n with
  | zero => rfl
  | succ n ih =>
    unfold orF
    rw [ih, if_neg (by decide)]
    decide
theorem pc_nn : ∀ m, m < 64 → ¬ pc (nI m) ≤ (-1 : Int32) := by decide +kernel
theorem reach_fin : ∀ h, h < 100 → (9 : Int32) - nI h / (10 : Int32) = nI (9 - h / 10) := by decide +kernel
theorem near_fin : ∀ r, r < 10 → ∀ a, a < 10 → ∀ b, b < 10 → ((¬ nI r < (if 0 ≤ nI b - nI a then nI b - nI a else 0 - (nI b - nI a))) ↔ (¬ nI r < nI a - nI b ∧ ¬ nI r < -(nI a - nI b))) := by decide +kernel
section OPJ
variable {E : XE} {d : Nat} {I : Nat → Nat → Int32} {s : Nat → Int32} {n w : Nat}
theorem c_seenFrom {p a : Nat} (h : RW I 65 s n w) (hp : p < n) (ha : a ≤ 9) (hd : 2 ≤ d) : x_K E d 100 [.ref 64, .ref (85 + 2 * p), .int (nI a)] I (x_pu (.int (seenF s (nI a) p n)) I) := by
  have hn := h.1.1
  have hm := (h.2.1.1 p hp).1
  have ok := (h.2.1.1 p hp).2
  have e7 : I (85 + 2 * p) 7 = s (19 + p) := hm.2.2.2.2.2.1
  refine x_K.of (by decide) (by decide) rfl rfl rfl (r_C_seenFrom_0 (by omega) _ (x_man_now (by omega)).1 _ ⟨fun c => ?_, fun c => ?_⟩)
  · rw [e7] at c
    have key : ∀ m j, j + m = n → x_P E d 100 9 [.ref 64, .ref (85 + 2 * p), .int (nI a), .int (seenF s (nI a) p j), .int (nI j), x_jk, x_jk] [] I (x_pu (.int (seenF s (nI a) p n)) I) := by
      intro m
      induction m with
      | zero =>
        intro j hj
        refine r_C_seenFrom_9 (by omega) _ (x_man_now (by omega)).1 _ _ _ ⟨fun _ => ⟨by rw [show n = j by omega], rfl⟩, fun c => absurd ?_ c⟩
        rw [h.1.2.2.2.2.1]
        exact nI_le (by omega) (by omega)
      | succ m ih =>
        intro j hj
        have hmj := (h.2.1.1 j (by omega)).1
        have okj := (h.2.1.1 j (by omega)).2
        refine r_C_seenFrom_9 (by omega) _ (x_man_now (by omega)).1 _ _ _ ⟨fun c => absurd c ?_, fun _ => ⟨vp_in_nI (by omega) (by decide), ?_⟩⟩
        · rw [h.1.2.2.2.2.1]
          exact nI_ge (by omega) (by omega)
        rw [nI_clamp (by omega)]
        obtain ⟨hh, hh9, eh⟩ := ok.2.2.2.2.1
        obtain ⟨b, hb9, eb⟩ := okj.2.2.1
        have e5 : I (85 + 2 * p) 5 = nI hh := (mnR_dyn hm).2.1.trans eh
        have e3 : I (85 + 2 * j) 3 = nI b := hmj.2.2.2.1.trans eb
        have ej7 : I (85 + 2 * j) 7 = s (19 + j) := hmj.2.2.2.2.2.1
        have e0 : I (85 + 2 * p) 0 = nI p := hm.1
        have hrc : x_K E (d - 1) 25 [.ref (85 + 2 * p)] I (x_pu (.int (nI (9 - hh / 10))) I) := x_K.of (by decide) (by decide) rfl rfl rfl (r_Man_reach_0 (by omega) _ (x_man_now (by omega)).1 ⟨by rw [e5, reach_fin hh (by omega)], rfl⟩)
        refine hrc.pu (r_C_seenFrom_27 (by omega) _ (x_man_now (by omega)).1 _ _ _ _ (x_man_now (by omega)).1 _ _ (fun z hz => ?_))
        rw [e3, ej7, e0] at hz
        have hnf := near_fin (9 - hh / 10) (by omega) a (by omega) b (by omega)
        have e : seenF s (nI a) p j ||| z = seenF s (nI a) p (j + 1) := by
          refine orF_bit ?_
          rw [hz]
          unfold seeB
          rw [eh, reach_fin hh (by omega), eb]
          by_cases q1 : ¬ nI (9 - hh / 10) < (if 0 ≤ nI b - nI a then nI b - nI a else 0 - (nI b - nI a))
          · rw [if_pos q1]
            have q2 := hnf.mp q1
            by_cases q3 : s (19 + j) = 0
            · rw [if_pos q3]
              by_cases q4 : nI j = nI p
              · rw [if_pos q4, decide_eq_false (fun g => g.1 q4.symm)]
                rfl
              · rw [if_neg q4, decide_eq_true ⟨fun g => q4 g.symm, c, q3, q2.1, q2.2⟩, if_pos rfl]
            · rw [if_neg q3, decide_eq_false (fun g => q3 g.2.2.1)]
              rfl
          · rw [if_neg q1, decide_eq_false (fun g => q1 (hnf.mpr ⟨g.2.2.2.1, g.2.2.2.2⟩))]
            rfl
        rw [e, nI_1]
        exact ih (j + 1) (by omega)
    have kk := key n 0 (by omega)
    rw [nI_0] at kk
    exact kk
  · rw [e7] at c
    refine ⟨?_, rfl⟩
    have e : seenF s (nI a) p n = 0 := by
      unfold seenF
      rw [orF_congr (c := fun _ => false) n (fun k _ => ?_), orF_false]
      unfold seeB
      exact decide_eq_false (fun g => c g.2.1)
    rw [e]
theorem bnF_inv {p : Nat} (hn : n ≤ 6) : ∀ k, k < 10 → ∃ b, b ≤ 9 ∧ (bnF s p n (k + 1)).1 = nI b ∧ (bnF s p n (k + 1)).2 = pc (seenF s (nI b) p n) := by
  intro k
  induction k with
  | zero =>
    intro _
    obtain ⟨m, hm, -, e⟩ := orF_nI (c := seeB s (nI 0) p) hn
    refine ⟨0, by omega, ?_, ?_⟩
    · show (if pc (seenF s (nI 0) p n) ≤ (-1 : Int32) then ((0 : Int32), (-1 : Int32)) else (nI 0, pc (seenF s (nI 0) p n))).1 = nI 0
      rw [if_neg (by unfold seenF; rw [e]; exact pc_nn m hm)]
    · show (if pc (seenF s (nI 0) p n) ≤ (-1 : Int32) then ((0 : Int32), (-1 : Int32)) else (nI 0, pc (seenF s (nI 0) p n))).2 = pc (seenF s (nI 0) p n)
      rw [if_neg (by unfold seenF; rw [e]; exact pc_nn m hm)]
  | succ k ih =>
    intro hk
    obtain ⟨b, hb, e1, e2⟩ := ih (by omega)
    have e : bnF s p n (k + 1 + 1) = if pc (seenF s (nI (k + 1)) p n) ≤ (bnF s p n (k + 1)).2 then bnF s p n (k + 1) else (nI (k + 1), pc (seenF s (nI (k + 1)) p n)) := rfl
    by_cases c : pc (seenF s (nI (k + 1)) p n) ≤ (bnF s p n (k + 1)).2
    · rw [e, if_pos c]
      exact ⟨b, hb, e1, e2⟩
    · rw [e, if_neg c]
      exact ⟨k + 1, by omega, rfl, rfl⟩
theorem c_benchC {p : Nat} (h : RW I 65 s n w) (hp : p < n) (hd : 3 ≤ d) : x_K E d 101 [.ref 64, .ref (85 + 2 * p)] I (x_pu (.int (bnF s p n 10).1) I) := by
  have hn := h.1.1
  refine x_K.of (by decide) (by decide) rfl rfl rfl (r_C_bench_0 (by omega) _ (x_man_now (by omega)).1 ?_)
  have cnt : ∀ a, a ≤ 9 → x_K E (d - 1) 1 [.int (seenF s (nI a) p n)] I (x_pu (.int (pc (seenF s (nI a) p n))) I) := fun a ha => by
    obtain ⟨m, hm, -, e⟩ := orF_nI (c := seeB s (nI a) p) hn
    unfold seenF
    rw [e]
    exact c_bitCount (by omega) (by omega)
  have key : ∀ m k, k + m = 9 → x_P E d 101 4 [.ref 64, .ref (85 + 2 * p), .int (bnF s p n (k + 1)).1, .int (nI (k + 1))] [] I (x_pu (.int (bnF s p n 10).1) I) := by
    intro m
    induction m with
    | zero =>
      intro k hk
      refine r_C_bench_4 (by omega) _ (x_man_now (by omega)).1 _ _ ⟨fun _ => ⟨by rw [show k = 9 by omega], rfl⟩, fun c => absurd (nI_lt (a := 9) (by omega) (by omega)) c⟩
    | succ m ih =>
      intro k hk
      obtain ⟨b, hb, e1, e2⟩ := bnF_inv (s := s) (p := p) hn k (by omega)
      refine r_C_bench_4 (by omega) _ (x_man_now (by omega)).1 _ _ ⟨fun c => absurd c (nI_nlt (b := k + 1) (a := 9) (by omega) (by decide)), fun _ => (c_seenFrom h hp (by omega) (by omega)).pu (r_C_bench_11 (by omega) _ (x_man_now (by omega)).1 _ _ _ ((cnt (k + 1) (by omega)).pu (r_C_bench_12 (by omega) _ (x_man_now (by omega)).1 _ _ _ ?_)))⟩
      rw [e1]
      refine (c_seenFrom h hp hb (by omega)).pu (r_C_bench_16 (by omega) _ (x_man_now (by omega)).1 _ _ _ _ ((cnt b hb).pu (r_C_bench_17 (by omega) _ (x_man_now (by omega)).1 _ _ _ _ ?_)))
      have nx := ih (k + 1) (by omega)
      have e : bnF s p n (k + 1 + 1) = if pc (seenF s (nI (k + 1)) p n) ≤ (bnF s p n (k + 1)).2 then bnF s p n (k + 1) else (nI (k + 1), pc (seenF s (nI (k + 1)) p n)) := rfl
      rw [e, e2] at nx
      rw [nI_1]
      refine ⟨fun c => ?_, fun c => ?_⟩
      · rw [if_pos c, e1] at nx
        exact nx
      · rw [if_neg c] at nx
        exact nx
  have kk := key 9 0 rfl
  obtain ⟨m, hm, -, e⟩ := orF_nI (c := seeB s (nI 0) p) hn
  have e0 : (bnF s p n (0 + 1)).1 = 0 := by
    show (if pc (seenF s (nI 0) p n) ≤ (-1 : Int32) then ((0 : Int32), (-1 : Int32)) else (nI 0, pc (seenF s (nI 0) p n))).1 = 0
    rw [if_neg (by unfold seenF; rw [e]; exact pc_nn m hm)]
    exact nI_0
  rw [e0] at kk
  exact kk
theorem op_of {a1 a2 : Int32} (h : RW I 65 s n w) (hd : 20 ≤ d) : op2 E d I s 66 139 [.int a1, .int a2] := by
  have hn := h.1.1
  have hw := h.1.2.1
  have h65 := h.1.2.2.2.2.1
  have h652 := h.1.2.2.2.2.2
  have h31 := h.1.2.2.1
  have h0 := h.1.2.2.2.1
  rcases mn_cases a1 hn with ⟨p, hp, rfl, hin⟩ | ⟨hno, hno2⟩
  · have hm := (h.2.1.1 p hp).1
    have ok := (h.2.1.1 p hp).2
    by_cases c0 : a2 = 0
    · subst c0
      refine ⟨.int (s (38 + p)), s, n, w, x_K.of (by decide) (by decide) rfl rfl rfl (r_C_of_0 (by omega) _ _ ((c_find1 h65 hn hp (by omega)).pu (r_C_of_4 (by omega) _ _ (x_man_now (by omega)).1 ⟨fun _ => ⟨by rw [show I (85 + 2 * p) 1 = s (38 + p) from hm.2.1], h, ckp.rfl'⟩, fun c => absurd c (by decide), fun c => absurd c (by decide), fun c => absurd c (by decide), fun c => absurd c (by decide), fun c => absurd c (by decide), fun c => absurd c (by decide), fun c => absurd c (by decide), fun c => absurd c (by decide), fun c => absurd c (by decide), fun n0 n1 n2 n3 n4 n5 n6 n7 n8 n9 => absurd rfl n0⟩))), fun J hJ => x_K.of (by decide) (by decide) rfl rfl rfl (r_M_of_0 (by omega) _ _ ?_)⟩
      subst hJ
      rw [h31]
      exact ⟨fun _ => ⟨fun _ => ⟨vi_c (c' := 38) rfl (by omega) (by decide), by rw [ix_c (c := 38) (c' := 38) rfl (by omega)], rfl, mkp.rfl'⟩, fun c => absurd c (by decide), fun c => absurd c (by decide), fun c => absurd c (by decide), fun c => absurd c (by decide), fun c => absurd c (by decide), fun c => absurd c (by decide), fun c => absurd c (by decide), fun c => absurd c (by decide), fun c => absurd c (by decide), fun n0 n1 n2 n3 n4 n5 n6 n7 n8 n9 => absurd rfl n0⟩, fun c => absurd hin c⟩
    by_cases c1 : a2 = 1
    · subst c1
      refine ⟨.int (s (44 + p)), s, n, w, x_K.of (by decide) (by decide) rfl rfl rfl (r_C_of_0 (by omega) _ _ ((c_find1 h65 hn hp (by omega)).pu (r_C_of_4 (by omega) _ _ (x_man_now (by omega)).1 ⟨fun c => absurd c (by decide), fun _ => ⟨by rw [show I (85 + 2 * p) 2 = s (44 + p) from hm.2.2.1], h, ckp.rfl'⟩, fun c => absurd c (by decide), fun c => absurd c (by decide), fun c => absurd c (by decide), fun c => absurd c (by decide), fun c => absurd c (by decide), fun c => absurd c (by decide), fun c => absurd c (by decide), fun c => absurd c (by decide), fun n0 n1 n2 n3 n4 n5 n6 n7 n8 n9 => absurd rfl n1⟩))), fun J hJ => x_K.of (by decide) (by decide) rfl rfl rfl (r_M_of_0 (by omega) _ _ ?_)⟩
      subst hJ
      rw [h31]
      exact ⟨fun _ => ⟨fun c => absurd c (by decide), fun _ => ⟨vi_c (c' := 44) rfl (by omega) (by decide), by rw [ix_c (c := 44) (c' := 44) rfl (by omega)], rfl, mkp.rfl'⟩, fun c => absurd c (by decide), fun c => absurd c (by decide), fun c => absurd c (by decide), fun c => absurd c (by decide), fun c => absurd c (by decide), fun c => absurd c (by decide), fun c => absurd c (by decide), fun c => absurd c (by decide), fun n0 n1 n2 n3 n4 n5 n6 n7 n8 n9 => absurd rfl n1⟩, fun c => absurd hin c⟩
    by_cases c2 : a2 = (2 : Int32)
    · subst c2
      refine ⟨.int (s (25 + p)), s, n, w, x_K.of (by decide) (by decide) rfl rfl rfl (r_C_of_0 (by omega) _ _ ((c_find1 h65 hn hp (by omega)).pu (r_C_of_4 (by omega) _ _ (x_man_now (by omega)).1 ⟨fun c => absurd c (by decide), fun c => absurd c (by decide), fun _ => ⟨by rw [show I (85 + 2 * p) 3 = s (25 + p) from hm.2.2.2.1], h, ckp.rfl'⟩, fun c => absurd c (by decide), fun c => absurd c (by decide), fun c => absurd c (by decide), fun c => absurd c (by decide), fun c => absurd c (by decide), fun c => absurd c (by decide), fun c => absurd c (by decide), fun n0 n1 n2 n3 n4 n5 n6 n7 n8 n9 => absurd rfl n2⟩))), fun J hJ => x_K.of (by decide) (by decide) rfl rfl rfl (r_M_of_0 (by omega) _ _ ?_)⟩
      subst hJ
      rw [h31]
      exact ⟨fun _ => ⟨fun c => absurd c (by decide), fun c => absurd c (by decide), fun _ => ⟨vi_c (c' := 25) rfl (by omega) (by decide), by rw [ix_c (c := 25) (c' := 25) rfl (by omega)], rfl, mkp.rfl'⟩, fun c => absurd c (by decide), fun c => absurd c (by decide), fun c => absurd c (by decide), fun c => absurd c (by decide), fun c => absurd c (by decide), fun c => absurd c (by decide), fun c => absurd c (by decide), fun n0 n1 n2 n3 n4 n5 n6 n7 n8 n9 => absurd rfl n2⟩, fun c => absurd hin c⟩
    by_cases c3 : a2 = (3 : Int32)
    · subst c3
      refine ⟨.int (s (1 + p)), s, n, w, x_K.of (by decide) (by decide) rfl rfl rfl (r_C_of_0 (by omega) _ _ ((c_find1 h65 hn hp (by omega)).pu (r_C_of_4 (by omega) _ _ (x_man_now (by omega)).1 ⟨fun c => absurd c (by decide), fun c => absurd c (by decide), fun c => absurd c (by decide), fun _ => ⟨by rw [show I (85 + 2 * p) 4 = s (1 + p) from (mnR_dyn hm).1], h, ckp.rfl'⟩, fun c => absurd c (by decide), fun c => absurd c (by decide), fun c => absurd c (by decide), fun c => absurd c (by decide), fun c => absurd c (by decide), fun c => absurd c (by decide), fun n0 n1 n2 n3 n4 n5 n6 n7 n8 n9 => absurd rfl n3⟩))), fun J hJ => x_K.of (by decide) (by decide) rfl rfl rfl (r_M_of_0 (by omega) _ _ ?_)⟩
      subst hJ
      rw [h31]
      exact ⟨fun _ => ⟨fun c => absurd c (by decide), fun c => absurd c (by decide), fun c => absurd c (by decide), fun _ => ⟨vi_c (c' := 1) rfl (by omega) (by decide), by rw [ix_c (c := 1) (c' := 1) rfl (by omega)], rfl, mkp.rfl'⟩, fun c => absurd c (by decide), fun c => absurd c (by decide), fun c => absurd c (by decide), fun c => absurd c (by decide), fun c => absurd c (by decide), fun c => absurd c (by decide), fun n0 n1 n2 n3 n4 n5 n6 n7 n8 n9 => absurd rfl n3⟩, fun c => absurd hin c⟩
    by_cases c4 : a2 = (4 : Int32)
    · subst c4
      refine ⟨.int (s (7 + p)), s, n, w, x_K.of (by decide) (by decide) rfl rfl rfl (r_C_of_0 (by omega) _ _ ((c_find1 h65 hn hp (by omega)).pu (r_C_of_4 (by omega) _ _ (x_man_now (by omega)).1 ⟨fun c => absurd c (by decide), fun c => absurd c (by decide), fun c => absurd c (by decide), fun c => absurd c (by decide), fun _ => ⟨by rw [show I (85 + 2 * p) 5 = s (7 + p) from (mnR_dyn hm).2.1], h, ckp.rfl'⟩, fun c => absurd c (by decide), fun c => absurd c (by decide), fun c => absurd c (by decide), fun c => absurd c (by decide), fun c => absurd c (by decide), fun n0 n1 n2 n3 n4 n5 n6 n7 n8 n9 => absurd rfl n4⟩))), fun J hJ => x_K.of (by decide) (by decide) rfl rfl rfl (r_M_of_0 (by omega) _ _ ?_)⟩
      subst hJ
      rw [h31]
      exact ⟨fun _ => ⟨fun c => absurd c (by decide), fun c => absurd c (by decide), fun c => absurd c (by decide), fun c => absurd c (by decide), fun _ => ⟨vi_c (c' := 7) rfl (by omega) (by decide), by rw [ix_c (c := 7) (c' := 7) rfl (by omega)], rfl, mkp.rfl'⟩, fun c => absurd c (by decide), fun c => absurd c (by decide), fun c => absurd c (by decide), fun c => absurd c (by decide), fun c => absurd c (by decide), fun n0 n1 n2 n3 n4 n5 n6 n7 n8 n9 => absurd rfl n4⟩, fun c => absurd hin c⟩
    by_cases c5 : a2 = (5 : Int32)
    · subst c5
      refine ⟨.int (s (13 + p)), s, n, w, x_K.of (by decide) (by decide) rfl rfl rfl (r_C_of_0 (by omega) _ _ ((c_find1 h65 hn hp (by omega)).pu (r_C_of_4 (by omega) _ _ (x_man_now (by omega)).1 ⟨fun c => absurd c (by decide), fun c => absurd c (by decide), fun c => absurd c (by decide), fun c => absurd c (by decide), fun c => absurd c (by decide), fun _ => ⟨by rw [show I (85 + 2 * p) 6 = s (13 + p) from (mnR_dyn hm).2.2, bi_b1 ok.2.2.2.2.2.1], h, ckp.rfl'⟩, fun c => absurd c (by decide), fun c => absurd c (by decide), fun c => absurd c (by decide), fun c => absurd c (by decide), fun n0 n1 n2 n3 n4 n5 n6 n7 n8 n9 => absurd rfl n5⟩))), fun J hJ => x_K.of (by decide) (by decide) rfl rfl rfl (r_M_of_0 (by omega) _ _ ?_)⟩
      subst hJ
      rw [h31]
      exact ⟨fun _ => ⟨fun c => absurd c (by decide), fun c => absurd c (by decide), fun c => absurd c (by decide), fun c => absurd c (by decide), fun c => absurd c (by decide), fun _ => ⟨vi_c (c' := 13) rfl (by omega) (by decide), by rw [ix_c (c := 13) (c' := 13) rfl (by omega)], rfl, mkp.rfl'⟩, fun c => absurd c (by decide), fun c => absurd c (by decide), fun c => absurd c (by decide), fun c => absurd c (by decide), fun n0 n1 n2 n3 n4 n5 n6 n7 n8 n9 => absurd rfl n5⟩, fun c => absurd hin c⟩
    by_cases c6 : a2 = (6 : Int32)
    · subst c6
      refine ⟨.int (s (19 + p)), s, n, w, x_K.of (by decide) (by decide) rfl rfl rfl (r_C_of_0 (by omega) _ _ ((c_find1 h65 hn hp (by omega)).pu (r_C_of_4 (by omega) _ _ (x_man_now (by omega)).1 ⟨fun c => absurd c (by decide), fun c => absurd c (by decide), fun c => absurd c (by decide), fun c => absurd c (by decide), fun c => absurd c (by decide), fun c => absurd c (by decide), fun _ => ⟨by rw [show I (85 + 2 * p) 7 = s (19 + p) from hm.2.2.2.2.2.1, bi_b1 ok.2.2.2.2.2.2], h, ckp.rfl'⟩, fun c => absurd c (by decide), fun c => absurd c (by decide), fun c => absurd c (by decide), fun n0 n1 n2 n3 n4 n5 n6 n7 n8 n9 => absurd rfl n6⟩))), fun J hJ => x_K.of (by decide) (by decide) rfl rfl rfl (r_M_of_0 (by omega) _ _ ?_)⟩
      subst hJ
      rw [h31]
      exact ⟨fun _ => ⟨fun c => absurd c (by decide), fun c => absurd c (by decide), fun c => absurd c (by decide), fun c => absurd c (by decide), fun c => absurd c (by decide), fun c => absurd c (by decide), fun _ => ⟨vi_c (c' := 19) rfl (by omega) (by decide), by rw [ix_c (c := 19) (c' := 19) rfl (by omega)], rfl, mkp.rfl'⟩, fun c => absurd c (by decide), fun c => absurd c (by decide), fun c => absurd c (by decide), fun n0 n1 n2 n3 n4 n5 n6 n7 n8 n9 => absurd rfl n6⟩, fun c => absurd hin c⟩
    by_cases c7 : a2 = (7 : Int32)
    · subst c7
      obtain ⟨nc, hnc, hn1, hen⟩ := h.2.2.1.2.1
      obtain ⟨cc, hcc, ecc⟩ := ok.2.2.2.1
      have e4 : I (85 + 2 * p) 4 = s (1 + p) := (mnR_dyn hm).1
      have e5 : I (85 + 2 * p) 5 = s (7 + p) := (mnR_dyn hm).2.1
      have hsm : smC I 65 = smF s := funext h.2.2.1.2.2.2.1
      refine ⟨.int (riseF (s (38 + p)) (s (44 + p)) (pc (s (1 + p))) (s (7 + p)) (s (50 + 4 * p + w % 4)) (smF s (fct (nI p) (s (38 + p)) (s (44 + p)) (pc (s (1 + p))) (s (7 + p) / (10 : Int32)) (nI (w % 10))))), s, n, w, x_K.of (by decide) (by decide) rfl rfl rfl (r_C_of_0 (by omega) _ _ ((c_find1 h65 hn hp (by omega)).pu (r_C_of_4 (by omega) _ _ (x_man_now (by omega)).1 ⟨fun c => absurd c (by decide), fun c => absurd c (by decide), fun c => absurd c (by decide), fun c => absurd c (by decide), fun c => absurd c (by decide), fun c => absurd c (by decide), fun c => absurd c (by decide), fun _ => ?_, fun c => absurd c (by decide), fun c => absurd c (by decide), fun n0 n1 n2 n3 n4 n5 n6 n7 n8 n9 => absurd rfl n7⟩))), fun J hJ => x_K.of (by decide) (by decide) rfl rfl rfl (r_M_of_0 (by omega) _ _ ?_)⟩
      · rw [h652]
        refine (c_sumC (w := w) (x_man_now (j := p) (by omega)).1 hn1 hnc hen (by omega) hcc (e4.trans ecc) (by omega)).mono (fun v J hv => ?_)
        obtain ⟨hv, hk⟩ := hv
        rw [hv]
        have hJ : RW J 65 s n w := RW_kp (wkp_of hk (by decide)) h
        have hmJ := (hJ.2.1.1 p hp).1
        have hu : u8 (J (85 + 2 * p) 4) := by rw [show J (85 + 2 * p) 4 = s (1 + p) from (mnR_dyn hmJ).1]; exact ok.2.2.2.1
        refine r_C_of_49 (by omega) _ (x_man_now (by omega)).1 _ ?_
        rw [hJ.1.2.2.2.2.2]
        refine (c_riseC (w := w) (x_man_now (j := p) (by omega)).1 hu (by omega) (by omega)).pu (r_C_of_53 (by omega) _ ⟨?_, hJ, ckp_of hk (by decide)⟩)
        have es : (csF (I 69) (I 70) (I 71) (fct (I (85 + 2 * p) 0) (I (85 + 2 * p) 1) (I (85 + 2 * p) 2) (pc (I (85 + 2 * p) 4)) (I (85 + 2 * p) 5 / (10 : Int32)) (nI (w % 10))) nc).1 = smF s (fct (nI p) (s (38 + p)) (s (44 + p)) (pc (s (1 + p))) (s (7 + p) / (10 : Int32)) (nI (w % 10))) := by
          rw [← hsm, show I (85 + 2 * p) 0 = nI p from hm.1, show I (85 + 2 * p) 1 = s (38 + p) from hm.2.1, show I (85 + 2 * p) 2 = s (44 + p) from hm.2.2.1, e4, e5]
          unfold smC
          rw [hn1, nI_clamp (by omega)]
        rw [es, show J (85 + 2 * p) 1 = s (38 + p) from hmJ.2.1, show J (85 + 2 * p) 2 = s (44 + p) from hmJ.2.2.1, show J (85 + 2 * p) 4 = s (1 + p) from (mnR_dyn hmJ).1, show J (85 + 2 * p) 5 = s (7 + p) from (mnR_dyn hmJ).2.1,
          show J (85 + 2 * p + 1) (w % 4) = s (50 + 4 * p + w % 4) from hmJ.2.2.2.2.2.2 _ (Nat.mod_lt _ (by decide))]
      · subst hJ
        rw [h31]
        exact ⟨fun _ => ⟨fun c => absurd c (by decide), fun c => absurd c (by decide), fun c => absurd c (by decide), fun c => absurd c (by decide), fun c => absurd c (by decide), fun c => absurd c (by decide), fun c => absurd c (by decide), fun _ => (c_riseOf (w := w) (by omega) h.2.2.1.1 h0 (by omega) (by omega)).mono (fun v K hv => by rw [hv.1]; exact r_M_of_60 (by omega) _ ⟨rfl, hv.2 143 (by simp), mkp_of hv.2 (by decide)⟩), fun c => absurd c (by decide), fun c => absurd c (by decide), fun n0 n1 n2 n3 n4 n5 n6 n7 n8 n9 => absurd rfl n7⟩, fun c => absurd hin c⟩
    by_cases c8 : a2 = (8 : Int32)
    · subst c8
      obtain ⟨pl, hpl, epl⟩ := ok.2.2.1
      have e3 : I (85 + 2 * p) 3 = s (25 + p) := hm.2.2.2.1
      refine ⟨.int (seenF s (s (25 + p)) p n), s, n, w, x_K.of (by decide) (by decide) rfl rfl rfl (r_C_of_0 (by omega) _ _ ((c_find1 h65 hn hp (by omega)).pu (r_C_of_4 (by omega) _ _ (x_man_now (by omega)).1 ⟨fun c => absurd c (by decide), fun c => absurd c (by decide), fun c => absurd c (by decide), fun c => absurd c (by decide), fun c => absurd c (by decide), fun c => absurd c (by decide), fun c => absurd c (by decide), fun c => absurd c (by decide), fun _ => ?_, fun c => absurd c (by decide), fun n0 n1 n2 n3 n4 n5 n6 n7 n8 n9 => absurd rfl n8⟩))), fun J hJ => x_K.of (by decide) (by decide) rfl rfl rfl (r_M_of_0 (by omega) _ _ ?_)⟩
      · rw [e3, epl]
        exact (c_seenFrom h hp hpl (by omega)).pu (r_C_of_59 (by omega) _ ⟨rfl, h, ckp.rfl'⟩)
      · subst hJ
        rw [h31]
        exact ⟨fun _ => ⟨fun c => absurd c (by decide), fun c => absurd c (by decide), fun c => absurd c (by decide), fun c => absurd c (by decide), fun c => absurd c (by decide), fun c => absurd c (by decide), fun c => absurd c (by decide), fun c => absurd c (by decide), fun _ => (c_seenBy (by omega) hn h31 (by omega)).pu (r_M_of_64 (by omega) _ ⟨rfl, rfl, mkp.rfl'⟩), fun c => absurd c (by decide), fun n0 n1 n2 n3 n4 n5 n6 n7 n8 n9 => absurd rfl n8⟩, fun c => absurd hin c⟩
    by_cases c9 : a2 = (9 : Int32)
    · subst c9
      refine ⟨.int (bnF s p n 10).1, s, n, w, x_K.of (by decide) (by decide) rfl rfl rfl (r_C_of_0 (by omega) _ _ ((c_find1 h65 hn hp (by omega)).pu (r_C_of_4 (by omega) _ _ (x_man_now (by omega)).1 ⟨fun c => absurd c (by decide), fun c => absurd c (by decide), fun c => absurd c (by decide), fun c => absurd c (by decide), fun c => absurd c (by decide), fun c => absurd c (by decide), fun c => absurd c (by decide), fun c => absurd c (by decide), fun c => absurd c (by decide), fun _ => (c_benchC h hp (by omega)).pu (r_C_of_63 (by omega) _ ⟨rfl, h, ckp.rfl'⟩), fun n0 n1 n2 n3 n4 n5 n6 n7 n8 n9 => absurd rfl n9⟩))), fun J hJ => x_K.of (by decide) (by decide) rfl rfl rfl (r_M_of_0 (by omega) _ _ ?_)⟩
      subst hJ
      rw [h31]
      exact ⟨fun _ => ⟨fun c => absurd c (by decide), fun c => absurd c (by decide), fun c => absurd c (by decide), fun c => absurd c (by decide), fun c => absurd c (by decide), fun c => absurd c (by decide), fun c => absurd c (by decide), fun c => absurd c (by decide), fun c => absurd c (by decide), fun _ => (c_benchOf (by omega) hn h31 (by omega)).mono (fun v K hv => by rw [hv.1]; exact r_M_of_68 (by omega) _ ⟨rfl, hv.2.1, mkp_of hv.2.2 (by decide)⟩), fun n0 n1 n2 n3 n4 n5 n6 n7 n8 n9 => absurd rfl n9⟩, fun c => absurd hin c⟩
    · refine ⟨.int (-999999), s, n, w, x_K.of (by decide) (by decide) rfl rfl rfl (r_C_of_0 (by omega) _ _ ((c_find1 h65 hn hp (by omega)).pu (r_C_of_4 (by omega) _ _ (x_man_now (by omega)).1 ⟨fun c => absurd c c0, fun c => absurd c c1, fun c => absurd c c2, fun c => absurd c c3, fun c => absurd c c4, fun c => absurd c c5, fun c => absurd c c6, fun c => absurd c c7, fun c => absurd c c8, fun c => absurd c c9, fun _ _ _ _ _ _ _ _ _ _ => ⟨rfl, h, ckp.rfl'⟩⟩))), fun J hJ => x_K.of (by decide) (by decide) rfl rfl rfl (r_M_of_0 (by omega) _ _ ?_)⟩
      subst hJ
      rw [h31]
      exact ⟨fun _ => ⟨fun c => absurd c c0, fun c => absurd c c1, fun c => absurd c c2, fun c => absurd c c3, fun c => absurd c c4, fun c => absurd c c5, fun c => absurd c c6, fun c => absurd c c7, fun c => absurd c c8, fun c => absurd c c9, fun _ _ _ _ _ _ _ _ _ _ => ⟨rfl, rfl, mkp.rfl'⟩⟩, fun c => absurd hin c⟩
  · refine ⟨.int (-999999), s, n, w, x_K.of (by decide) (by decide) rfl rfl rfl (r_C_of_0 (by omega) _ _ ((c_find0 h65 hno2 (by omega)).pu (r_C_of_4N (by omega) _ ⟨rfl, h, ckp.rfl'⟩))), fun J hJ => x_K.of (by decide) (by decide) rfl rfl rfl (r_M_of_0 (by omega) _ _ ?_)⟩
    subst hJ
    rw [h31]
    exact ⟨fun c => absurd c hno, fun _ => ⟨rfl, rfl, mkp.rfl'⟩⟩
end OPJ
