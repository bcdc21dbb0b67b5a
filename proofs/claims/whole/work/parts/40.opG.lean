/-! ===== one call to both: told, apart, as ===== -/
theorem mask6 : ∀ b0 b1 b2 b3 b4 b5 : Bool, (let m := b0.toNat + 2 * b1.toNat + 4 * b2.toNat + 8 * b3.toNat + 16 * b4.toNat + 32 * b5.toNat
    m < 64 ∧ m.testBit 0 = b0 ∧ m.testBit 1 = b1 ∧ m.testBit 2 = b2 ∧ m.testBit 3 = b3 ∧ m.testBit 4 = b4 ∧ m.testBit 5 = b5) := by decide +kernel
theorem mask_of (c : Nat → Bool) : ∃ m, m < 64 ∧ ∀ k, k < 6 → c k = m.testBit k := by
  obtain ⟨h, h0, h1, h2, h3, h4, h5⟩ := mask6 (c 0) (c 1) (c 2) (c 3) (c 4) (c 5)
  refine ⟨_, h, fun k hk => ?_⟩
  match k, hk with
  | 0, _ => exact h0.symm
  | 1, _ => exact h1.symm
  | 2, _ => exact h2.symm
  | 3, _ => exact h3.symm
  | 4, _ => exact h4.symm
  | 5, _ => exact h5.symm
theorem away_fin : ∀ n, n < 7 → ∀ m, m < 64 → (((1 <<< ((nI n) &&& 31)) - 1) &&& ((orF (fun k => !m.testBit k) n) ^^^ (-1))) = orF (fun k => m.testBit k) n := by decide +kernel
/-- who is present -/
def prF (s : Nat → Int32) (n : Nat) : Int32 := orF (fun k => decide (s (19 + k) = 0)) n
theorem away_eq {s : Nat → Int32} {n : Nat} (hn : n ≤ 6) (hb : ∀ k, k < n → b1 (s (19 + k))) : (((1 <<< ((nI n) &&& 31)) - 1) &&& ((prF s n) ^^^ (-1))) = orF (fun k => decide (s (19 + k) = 1)) n := by
  obtain ⟨m, hm, hk⟩ := mask_of (fun k => decide (s (19 + k) = 1))
  unfold prF
  rw [orF_congr (c := fun k => !m.testBit k) n (fun k hkn => ?_), orF_congr (c := fun k => m.testBit k) n (fun k hkn => hk k (by omega)), away_fin n (by omega) m hm]
  rw [← hk k (by omega)]
  rcases hb k hkn with e | e <;> rw [e] <;> rfl
section OPG
variable {E : XE} {d : Nat} {I : Nat → Nat → Int32} {s : Nat → Int32} {n w : Nat}
theorem c_allBits (h : RW I 65 s n w) (hd : 1 ≤ d) : x_K E d 60 [.ref 65] I (x_pu (.int ((1 <<< ((nI n) &&& 31)) - 1)) I) := by
  refine x_K.of (by decide) (by decide) rfl rfl rfl (r_World_allBits_0 hd ⟨?_, rfl⟩)
  rw [h.1.2.2.2.2.1]
theorem c_presentBits (h : RW I 65 s n w) (hd : 1 ≤ d) : x_K E d 61 [.ref 65] I (x_pu (.int (prF s n)) I) := by
  have hn := h.1.1
  refine x_K.of (by decide) (by decide) rfl rfl rfl (r_World_presentBits_0 hd ?_)
  have key : ∀ m j, j + m = n → x_P E d 61 4 [.ref 65, .int (prF s j), .int (nI j)] [] I (x_pu (.int (prF s n)) I) := by
    intro m
    induction m with
    | zero =>
      intro j hj
      refine r_World_presentBits_4 hd _ _ ⟨fun _ => ⟨by rw [show n = j by omega], rfl⟩, fun c => absurd ?_ c⟩
      rw [h.1.2.2.2.2.1]
      exact nI_le (by omega) (by omega)
    | succ m ih =>
      intro j hj
      refine r_World_presentBits_4 hd _ _ ⟨fun c => absurd c ?_, fun _ => ⟨vp_in_nI (by omega) (by decide), fun z hz => ?_⟩⟩
      · rw [h.1.2.2.2.2.1]
        exact nI_ge (by omega) (by omega)
      rw [nI_clamp (by omega), show I (85 + 2 * j) 7 = s (19 + j) from (h.2.1.1 j (by omega)).1.2.2.2.2.2.1] at hz
      have e : prF s j ||| z = prF s (j + 1) := orF_bit (by rw [hz]; by_cases e : s (19 + j) = 0 <;> simp [e])
      rw [e, nI_1]
      exact ih (j + 1) (by omega)
  have kk := key n 0 (by omega)
  rw [nI_0] at kk
  exact kk
theorem c_sharedC (h : RW I 65 s n w) (hd : 1 ≤ d) : x_K E d 99 [.ref 64] I (x_pu (.int (shF s n)) I) := by
  have hn := h.1.1
  refine x_K.of (by decide) (by decide) rfl rfl rfl (r_C_sharedCreed_0 hd ?_)
  have key : ∀ m j, j + m = n → x_P E d 99 4 [.ref 64, .int (shF s j), .int (nI j)] [] I (x_pu (.int (shF s n)) I) := by
    intro m
    induction m with
    | zero =>
      intro j hj
      refine r_C_sharedCreed_4 hd _ _ ⟨fun _ => ⟨by rw [show n = j by omega], rfl⟩, fun c => absurd ?_ c⟩
      rw [h.1.2.2.2.2.1]
      exact nI_le (by omega) (by omega)
    | succ m ih =>
      intro j hj
      refine r_C_sharedCreed_4 hd _ _ ⟨fun c => absurd c ?_, fun _ => ⟨vp_in_nI (by omega) (by decide), fun _ => vp_in_nI (by omega) (by decide), fun z hz => ?_⟩⟩
      · rw [h.1.2.2.2.2.1]
        exact nI_ge (by omega) (by omega)
      have hm := (h.2.1.1 j (by omega)).1
      rw [nI_clamp (by omega), show I (85 + 2 * j) 7 = s (19 + j) from hm.2.2.2.2.2.1, show I (85 + 2 * j) 4 = s (1 + j) from (mnR_dyn hm).1] at hz
      rw [hz, nI_1]
      exact ih (j + 1) (by omega)
  have kk := key n 0 (by omega)
  rw [nI_0] at kk
  exact kk
theorem c_distC {r r1 p q : Nat} (hm : x_man r) (hm1 : x_man r1) (hp : mnR I r s p) (hq : mnR I r1 s q) (okp : mnOK s p) (okq : mnOK s q) (hd : 2 ≤ d) : x_K E d 26 [.ref r, .ref r1] I (x_pu (.int (pc (s (1 + p) ^^^ s (1 + q)))) I) := by
  refine x_K.of (by decide) (by decide) rfl rfl rfl (r_Man_distanceTo_0 (by omega) r hm r1 hm1 ?_)
  rw [(mnR_dyn hp).1, (mnR_dyn hq).1]
  obtain ⟨c, hc, e⟩ := u8_xor okp.2.2.2.1 okq.2.2.2.1
  rw [e]
  exact (c_bitCount hc (by omega)).pu (r_Man_distanceTo_6 (by omega) _ ⟨rfl, rfl⟩)
theorem op_told {a1 : Int32} (h : RW I 65 s n w) (hd : 20 ≤ d) : op2 E d I s 72 147 [.int a1] := by
  have hn := h.1.1
  have h652 := h.1.2.2.2.2.2
  have h31 := h.1.2.2.1
  have h0 := h.1.2.2.2.1
  by_cases c0 : a1 = 0
  · subst c0
    refine ⟨.int (nI w), s, n, w, x_K.of (by decide) (by decide) rfl rfl rfl (r_C_told_0 (by omega) _ ⟨fun _ => ⟨by rw [h652], h, ckp.rfl'⟩, fun c => absurd c (by decide), fun c => absurd c (by decide), fun c => absurd c (by decide), fun c => absurd c (by decide), fun n0 n1 n2 n3 n4 => absurd rfl n0⟩), fun J hJ => x_K.of (by decide) (by decide) rfl rfl rfl (r_M_told_0 (by omega) _ ?_)⟩
    subst hJ
    exact ⟨fun _ => ⟨by rw [h0], rfl, mkp.rfl'⟩, fun c => absurd c (by decide), fun c => absurd c (by decide), fun c => absurd c (by decide), fun c => absurd c (by decide), fun n0 n1 n2 n3 n4 => absurd rfl n0⟩
  by_cases c1 : a1 = 1
  · subst c1
    refine ⟨.int (buM s), s, n, w, x_K.of (by decide) (by decide) rfl rfl rfl (r_C_told_0 (by omega) _ ⟨fun c => absurd c (by decide), fun _ => ⟨by rw [show I 68 0 = buM s from h.2.2.1.2.2.1], h, ckp.rfl'⟩, fun c => absurd c (by decide), fun c => absurd c (by decide), fun c => absurd c (by decide), fun n0 n1 n2 n3 n4 => absurd rfl n1⟩), fun J hJ => x_K.of (by decide) (by decide) rfl rfl rfl (r_M_told_0 (by omega) _ ?_)⟩
    subst hJ
    exact ⟨fun c => absurd c (by decide), fun _ => (c_tellsOf (c' := 221) (by decide) (twM_h h.2.2.1.1) (by omega)).pu (r_M_told_11 (by omega) _ ⟨rfl, rfl, mkp.rfl'⟩), fun c => absurd c (by decide), fun c => absurd c (by decide), fun c => absurd c (by decide), fun n0 n1 n2 n3 n4 => absurd rfl n1⟩
  by_cases c2 : a1 = (2 : Int32)
  · subst c2
    refine ⟨.int (gnF s w 0 n), s, n, w, x_K.of (by decide) (by decide) rfl rfl rfl (r_C_told_0 (by omega) _ ⟨fun c => absurd c (by decide), fun c => absurd c (by decide), fun _ => (show x_K E (d - 1) 97 [.ref 64, .int (nI 0)] I _ from (c_goneBehind (k := 0) h (by omega) (by omega)).mono (fun v J hv => by rw [hv.1]; exact r_C_told_14 (by omega) _ ⟨rfl, RW_kp (wkp_of hv.2 (by decide)) h, ckp_of hv.2 (by decide)⟩)), fun c => absurd c (by decide), fun c => absurd c (by decide), fun n0 n1 n2 n3 n4 => absurd rfl n2⟩), fun J hJ => x_K.of (by decide) (by decide) rfl rfl rfl (r_M_told_0 (by omega) _ ?_)⟩
    subst hJ
    exact ⟨fun c => absurd c (by decide), fun c => absurd c (by decide), fun _ => (c_ones (c := 13) hn h31 (by decide) (fun k hk => (h.2.1.1 k hk).2.2.2.2.2.2.1) (by omega)).pu (r_M_told_15 (by omega) _ ⟨rfl, rfl, mkp.rfl'⟩), fun c => absurd c (by decide), fun c => absurd c (by decide), fun n0 n1 n2 n3 n4 => absurd rfl n2⟩
  by_cases c3 : a1 = (3 : Int32)
  · subst c3
    refine ⟨.int (orF (fun k => decide (s (19 + k) = 1)) n), s, n, w, x_K.of (by decide) (by decide) rfl rfl rfl (r_C_told_0 (by omega) _ ⟨fun c => absurd c (by decide), fun c => absurd c (by decide), fun c => absurd c (by decide), fun _ => (c_allBits h (by omega)).pu (r_C_told_18 (by omega) _ ((c_presentBits h (by omega)).pu (r_C_told_21 (by omega) _ _ ⟨by rw [away_eq hn (fun k hk => (h.2.1.1 k hk).2.2.2.2.2.2.2)], h, ckp.rfl'⟩))), fun c => absurd c (by decide), fun n0 n1 n2 n3 n4 => absurd rfl n3⟩), fun J hJ => x_K.of (by decide) (by decide) rfl rfl rfl (r_M_told_0 (by omega) _ ?_)⟩
    subst hJ
    exact ⟨fun c => absurd c (by decide), fun c => absurd c (by decide), fun c => absurd c (by decide), fun _ => (c_ones (c := 19) hn h31 (by decide) (fun k hk => (h.2.1.1 k hk).2.2.2.2.2.2.2) (by omega)).pu (r_M_told_19 (by omega) _ ⟨rfl, rfl, mkp.rfl'⟩), fun c => absurd c (by decide), fun n0 n1 n2 n3 n4 => absurd rfl n3⟩
  by_cases c4 : a1 = (4 : Int32)
  · subst c4
    refine ⟨.int (shF s n), s, n, w, x_K.of (by decide) (by decide) rfl rfl rfl (r_C_told_0 (by omega) _ ⟨fun c => absurd c (by decide), fun c => absurd c (by decide), fun c => absurd c (by decide), fun c => absurd c (by decide), fun _ => (c_sharedC h (by omega)).pu (r_C_told_27 (by omega) _ ⟨rfl, h, ckp.rfl'⟩), fun n0 n1 n2 n3 n4 => absurd rfl n4⟩), fun J hJ => x_K.of (by decide) (by decide) rfl rfl rfl (r_M_told_0 (by omega) _ ?_)⟩
    subst hJ
    exact ⟨fun c => absurd c (by decide), fun c => absurd c (by decide), fun c => absurd c (by decide), fun c => absurd c (by decide), fun _ => (c_shared hn h31 (by omega)).pu (r_M_told_22 (by omega) _ ⟨rfl, rfl, mkp.rfl'⟩), fun n0 n1 n2 n3 n4 => absurd rfl n4⟩
  exact ⟨.int (-1), s, n, w, x_K.of (by decide) (by decide) rfl rfl rfl (r_C_told_0 (by omega) _ ⟨fun c => absurd c c0, fun c => absurd c c1, fun c => absurd c c2, fun c => absurd c c3, fun c => absurd c c4, fun _ _ _ _ _ => ⟨rfl, h, ckp.rfl'⟩⟩), fun J hJ => x_K.of (by decide) (by decide) rfl rfl rfl (r_M_told_0 (by omega) _ ⟨fun c => absurd c c0, fun c => absurd c c1, fun c => absurd c c2, fun c => absurd c c3, fun c => absurd c c4, fun _ _ _ _ _ => ⟨rfl, hJ, mkp.rfl'⟩⟩)⟩
theorem op_apart {a1 a2 : Int32} (h : RW I 65 s n w) (hd : 20 ≤ d) : op2 E d I s 71 144 [.int a1, .int a2] := by
  have hn := h.1.1
  have h65 := h.1.2.2.2.2.1
  have h31 := h.1.2.2.1
  rcases mn_cases a1 hn with ⟨p, hp, rfl, hin⟩ | ⟨hno, hno2⟩
  · rcases mn_cases a2 hn with ⟨q, hq, rfl, hin2⟩ | ⟨hno, hno2⟩
    · by_cases e : nI p = nI q
      · refine ⟨.int (-2), s, n, w, x_K.of (by decide) (by decide) rfl rfl rfl (r_C_apart_0 (by omega) _ _ ((c_find1 h65 hn hp (by omega)).pu (r_C_apart_4 (by omega) _ _ _ (x_man_now (by omega)).1 ((c_find1 h65 hn hq (by omega)).pu (r_C_apart_9 (by omega) _ _ _ (x_man_now (by omega)).1 _ (x_man_now (by omega)).1 ⟨fun _ => ⟨rfl, h, ckp.rfl'⟩, fun c => absurd e c⟩))))), fun J hJ => x_K.of (by decide) (by decide) rfl rfl rfl (r_M_apart_0 (by omega) _ _ ?_)⟩
        subst hJ
        rw [h31]
        exact ⟨fun _ => ⟨fun _ => ⟨fun _ => ⟨rfl, rfl, mkp.rfl'⟩, fun c => absurd e c⟩, fun c => absurd hin2 c⟩, fun c => absurd hin c⟩
      · refine ⟨.int (pc (s (1 + p) ^^^ s (1 + q))), s, n, w, x_K.of (by decide) (by decide) rfl rfl rfl (r_C_apart_0 (by omega) _ _ ((c_find1 h65 hn hp (by omega)).pu (r_C_apart_4 (by omega) _ _ _ (x_man_now (by omega)).1 ((c_find1 h65 hn hq (by omega)).pu (r_C_apart_9 (by omega) _ _ _ (x_man_now (by omega)).1 _ (x_man_now (by omega)).1 ⟨fun c => absurd c e, fun _ => (c_distC (x_man_now (by omega)).1 (x_man_now (by omega)).1 (h.2.1.1 p hp).1 (h.2.1.1 q hq).1 (h.2.1.1 p hp).2 (h.2.1.1 q hq).2 (by omega)).pu (r_C_apart_24 (by omega) _ ⟨rfl, h, ckp.rfl'⟩)⟩))))), fun J hJ => x_K.of (by decide) (by decide) rfl rfl rfl (r_M_apart_0 (by omega) _ _ ?_)⟩
        subst hJ
        rw [h31]
        exact ⟨fun _ => ⟨fun _ => ⟨fun c => absurd c e, fun _ => (c_apartOf (by omega) (by omega) (by omega)).pu (r_M_apart_19 (by omega) _ ⟨rfl, rfl, mkp.rfl'⟩)⟩, fun c => absurd hin2 c⟩, fun c => absurd hin c⟩
    · refine ⟨.int (-1), s, n, w, x_K.of (by decide) (by decide) rfl rfl rfl (r_C_apart_0 (by omega) _ _ ((c_find1 h65 hn hp (by omega)).pu (r_C_apart_4 (by omega) _ _ _ (x_man_now (by omega)).1 ((c_find0 h65 hno2 (by omega)).pu (r_C_apart_9N (by omega) _ _ _ (x_man_now (by omega)).1 ⟨rfl, h, ckp.rfl'⟩))))), fun J hJ => x_K.of (by decide) (by decide) rfl rfl rfl (r_M_apart_0 (by omega) _ _ ?_)⟩
      subst hJ
      rw [h31]
      exact ⟨fun _ => ⟨fun c => absurd c hno, fun _ => ⟨rfl, rfl, mkp.rfl'⟩⟩, fun c => absurd hin c⟩
  · refine ⟨.int (-1), s, n, w, x_K.of (by decide) (by decide) rfl rfl rfl (r_C_apart_0 (by omega) _ _ ((c_find0 h65 hno2 (by omega)).pu (r_C_apart_4N (by omega) _ _ ?_))), fun J hJ => x_K.of (by decide) (by decide) rfl rfl rfl (r_M_apart_0 (by omega) _ _ ?_)⟩
    · rcases mn_cases a2 hn with ⟨q, hq, rfl, hin2⟩ | ⟨hno3, hno4⟩
      · exact (c_find1 h65 hn hq (by omega)).pu (r_C_apart_9X (by omega) _ _ _ (x_man_now (by omega)).1 ⟨rfl, h, ckp.rfl'⟩)
      · exact (c_find0 h65 hno4 (by omega)).pu (r_C_apart_9NX (by omega) _ _ ⟨rfl, h, ckp.rfl'⟩)
    · subst hJ
      rw [h31]
      exact ⟨fun c => absurd c hno, fun _ => ⟨rfl, rfl, mkp.rfl'⟩⟩
end OPG
