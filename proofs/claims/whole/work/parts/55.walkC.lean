/-! ===== walk: the class's table of sets ===== -/
theorem pc_fin : ∀ c, c < 256 → pc (nI c) = nI (pc (nI c)).toNatClampNeg ∧ (pc (nI c)).toNatClampNeg ≤ 8 := by decide +kernel
/-- how far apart two men are -/
def dN (s : Nat → Int32) (p q : Nat) : Nat := (pc (s (1 + p) ^^^ s (1 + q))).toNatClampNeg
theorem dN_ok {s : Nat → Int32} {p q : Nat} (hp : u8 (s (1 + p))) (hq : u8 (s (1 + q))) : pc (s (1 + p) ^^^ s (1 + q)) = nI (dN s p q) ∧ dN s p q ≤ 8 := by
  obtain ⟨c, hc, e⟩ := u8_xor hp hq
  unfold dN
  rw [e]
  exact pc_fin c hc
theorem fwF_first {g : Nat → Bool} : ∀ m k q, k ≤ q → q < k + m → g q = true → (∀ i, k ≤ i → i < q → g i = false) → fwF g m k = nI q
  | 0, k, q, h1, h2, _, _ => absurd h2 (by omega)
  | m + 1, k, q, h1, h2, h3, h4 => by
    unfold fwF
    by_cases e : k = q
    · rw [e, if_pos h3]
    · rw [h4 k (Nat.le_refl _) (by omega), if_neg (by decide)]
      exact fwF_first m (k + 1) q (by omega) (by omega) h3 (fun i h5 h6 => h4 i (by omega) h6)
theorem fwF_none {g : Nat → Bool} : ∀ m k, (∀ i, k ≤ i → i < k + m → g i = false) → fwF g m k = (-5 : Int32)
  | 0, _, _ => rfl
  | m + 1, k, h => by
    unfold fwF
    rw [h k (Nat.le_refl _) (by omega), if_neg (by decide)]
    exact fwF_none m (k + 1) (fun i h1 h2 => h i (by omega) (by omega))
section WKC
variable {E : XE} {d : Nat} {I : Nat → Nat → Int32} {s : Nat → Int32} {n w : Nat}
theorem c_ntz {m : Nat} (h0 : 0 < m) (hm : m < 64) (hd : 1 ≤ d) : x_K E d 2 [.int (nI m)] I (x_pu (.int (nI (lo m))) I) := by
  refine x_K.of (by decide) (by decide) rfl rfl rfl (r_JI_numberOfTrailingZeros_0 (by omega) _ ?_)
  rw [ntz_fin m hm h0]
  have h6 := (lo_fin m hm h0).1
  generalize lo m = p at h6
  match p, h6 with
  | 0, _ => exact ⟨fun c => absurd c (by decide), fun _ => ⟨congrArg (fun z => some (Value.int z)) (by decide +kernel), rfl⟩⟩
  | 1, _ => exact ⟨fun _ => ⟨fun _ => ⟨fun _ => ⟨fun _ => ⟨fun _ => ⟨congrArg (fun z => some (Value.int z)) (by decide +kernel), rfl⟩, fun g => absurd (by decide) g⟩, fun g => absurd (by decide) g⟩, fun g => absurd (by decide) g⟩, fun g => absurd (by decide) g⟩, fun g => absurd (by decide) g⟩
  | 2, _ => exact ⟨fun _ => ⟨fun _ => ⟨fun _ => ⟨fun _ => ⟨fun _ => ⟨congrArg (fun z => some (Value.int z)) (by decide +kernel), rfl⟩, fun g => absurd (by decide) g⟩, fun g => absurd (by decide) g⟩, fun g => absurd (by decide) g⟩, fun g => absurd (by decide) g⟩, fun g => absurd (by decide) g⟩
  | 3, _ => exact ⟨fun _ => ⟨fun _ => ⟨fun _ => ⟨fun _ => ⟨fun g => absurd g (by decide), fun _ => ⟨congrArg (fun z => some (Value.int z)) (by decide +kernel), rfl⟩⟩, fun g => absurd (by decide) g⟩, fun g => absurd (by decide) g⟩, fun g => absurd (by decide) g⟩, fun g => absurd (by decide) g⟩
  | 4, _ => exact ⟨fun _ => ⟨fun _ => ⟨fun _ => ⟨fun _ => ⟨fun g => absurd g (by decide), fun _ => ⟨congrArg (fun z => some (Value.int z)) (by decide +kernel), rfl⟩⟩, fun g => absurd (by decide) g⟩, fun g => absurd (by decide) g⟩, fun g => absurd (by decide) g⟩, fun g => absurd (by decide) g⟩
  | 5, _ => exact ⟨fun _ => ⟨fun _ => ⟨fun _ => ⟨fun g => absurd g (by decide), fun _ => ⟨fun _ => ⟨congrArg (fun z => some (Value.int z)) (by decide +kernel), rfl⟩, fun g => absurd (by decide) g⟩⟩, fun g => absurd (by decide) g⟩, fun g => absurd (by decide) g⟩, fun g => absurd (by decide) g⟩
/-- what a pair comes to, for the class -/
def tg (s : Nat → Int32) (n u p q : Nat) : Nat := if u.testBit q = true then vV (dN s) n (rm (rm u p) q) + dN s p q else 99
theorem c_together {K : Nat → Nat → Int32} {u p q : Nat} (h : RW K 65 s n w) (hu : u < 64) (hp : p < q) (hq : q < n) (hpu : u.testBit p = true) (hT : ∀ x, x < u → K 141 x = nI (vV (dN s) n x)) (hd : 3 ≤ d) :
    x_K E d 31 [.ref 140, .ref 65, .int (nI u), .int (nI p), .int (nI q)] K (x_pu (.int (nI (tg s n u p q))) K) := by
  have hn := h.1.1
  obtain ⟨r1, r2, r3, r4⟩ := rm_fin u hu p (by omega)
  obtain ⟨r3, r5⟩ := r3 hpu
  obtain ⟨q1, q2, q3, q4⟩ := rm_fin (rm u p) (by omega) q (by omega)
  have e : (rm u p).testBit q = u.testBit q := by rw [r4 q (by omega), decide_eq_true (by omega), Bool.and_true]
  obtain ⟨k1, k2⟩ := kN_fin u hu
  obtain ⟨k3, k4⟩ := kN_fin (rm (rm u p) q) (by omega)
  refine x_K.of (by decide) (by decide) rfl rfl rfl (r_Pairing_together_0 (by omega) _ _ _ ?_)
  rw [r1, q1]
  refine (c_bitCount (n := rm (rm u p) q) (by omega) (by omega)).pu (r_Pairing_together_16 (by omega) _ _ _ _ _ ((c_bitCount (n := u) (by omega) (by omega)).pu (r_Pairing_together_18 (by omega) _ _ _ _ _ ?_)))
  rw [k1, k3]
  have ht := two_fin (kN u) (by omega) (kN (rm (rm u p) q)) (by omega)
  unfold tg
  cases c : u.testBit q
  · rw [if_neg (by decide)]
    refine ⟨fun g => absurd (ht.mp g) ?_, fun _ => ⟨rfl, rfl⟩⟩
    have : rm (rm u p) q = rm u p := by
      rw [c] at e
      generalize rm u p = x at e ⊢
      unfold rm
      rw [e, if_neg (by decide)]
    rw [this]
    omega
  · rw [if_pos rfl]
    obtain ⟨q3, q5⟩ := q3 (by rw [e, c])
    refine ⟨fun _ => ⟨vp_in_nI (by omega) (by decide), vp_in_nI (by omega) (by decide), vp_in_nI (by omega) (by decide), ?_⟩, fun g => absurd (ht.mpr (by omega)) g⟩
    rw [nI_clamp (by omega), nI_clamp (by omega), nI_clamp (by omega)]
    obtain ⟨m1, o1⟩ := h.2.1.1 p (by omega)
    obtain ⟨m2, o2⟩ := h.2.1.1 q (by omega)
    refine (c_distC (x_man_now (by omega)).1 (x_man_now (by omega)).1 m1 m2 o1 o2 (by omega)).pu (r_Pairing_together_40 (by omega) _ _ ⟨?_, rfl⟩)
    rw [hT _ (by omega), (dN_ok o1.2.2.2.1 o2.2.2.2.1).1, nI_add]
theorem tb_u8 (h : RW I 65 s n w) : ∀ p q, p < n → q < n → dN s p q ≤ 8 := fun p q hp hq => (dN_ok (h.2.1.1 p hp).2.2.2.2.1 (h.2.1.1 q hq).2.2.2.2.1).2
theorem c_weigh {P : Nat} (h : RW I 65 s n w) (hP : P < 2 ^ n) (h0 : I 141 0 = 0) (hd : 5 ≤ d) :
    x_K E d 30 [.ref 140, .ref 65, .int (nI P)] I (fun v J => v = none ∧ (∀ x, x ≤ P → J 141 x = nI (vV (dN s) n x)) ∧ kp [141] I J) := by
  have hn := h.1.1
  have h65 := h.1.2.2.2.2.1
  have hp2 : 2 ^ n ≤ 64 := Nat.pow_le_pow_right (n := 2) (by decide) hn
  have hV := vV_le (D := dN s) hn (tb_u8 h)
  refine x_K.of (by decide) (by decide) rfl rfl rfl (r_Pairing_weigh_0 (by omega) _ ?_)
  have key : ∀ r m (K : Nat → Nat → Int32), m + r = P + 1 → 1 ≤ m → (∀ x, x < m → K 141 x = nI (vV (dN s) n x)) → kp [141] I K →
      x_P E d 30 2 [.ref 140, .ref 65, .int (nI P), .int (nI m), x_jk, x_jk, x_jk, x_jk] [] K (fun v J => v = none ∧ (∀ x, x ≤ P → J 141 x = nI (vV (dN s) n x)) ∧ kp [141] I J) := by
    intro r
    induction r with
    | zero =>
      intro m K hm h1 hT k1
      exact r_Pairing_weigh_2 (by omega) _ _ ⟨fun _ => ⟨rfl, fun x hx => hT x (by omega), k1⟩, fun g => absurd (nI_lt (by omega) (by omega)) g⟩
    | succ r ih =>
      intro m K hm h1 hT k1
      have hK : RW K 65 s n w := RW_kp (fun q a b c => k1 q (by simp; omega)) h
      obtain ⟨l1, l2, l3⟩ := lo_fin m (by omega) (by omega)
      have lN : lo m < n := bitn_fin n (by omega) m (by omega) _ l1 l2
      obtain ⟨r1, r2, r3, r4⟩ := rm_fin m (by omega) (lo m) l1
      obtain ⟨r3, r5⟩ := r3 l2
      obtain ⟨k3, k4⟩ := kN_fin (rm m (lo m)) (by omega)
      refine r_Pairing_weigh_2 (by omega) _ _ ⟨fun g => absurd g (nI_nlt (by omega) (by omega)), fun _ => ⟨fun g => absurd g (nI_ge (a := m) (b := 64) (by omega) (by decide)), fun _ => (c_ntz (by omega) (by omega) (by omega)).pu (r_Pairing_weigh_12 (by omega) _ _ _ ?_)⟩⟩
      rw [r1]
      refine (c_bitCount (n := rm m (lo m)) (by omega) (by omega)).pu (r_Pairing_weigh_23 (by omega) _ _ _ _ _ ⟨fun _ => vp_in_nI (by omega) (by decide), fun z hz => ?_⟩)
      rw [k3, nI_clamp (by omega), hT _ r3] at hz
      have hz : z = nI (min (min (al (vV (dN s) n) (rm m (lo m))) (cm (dN s) (vV (dN s) n) m (lo m) (lo m + 1))) 99) := by
        rw [cm_lo _ (Nat.le_refl _), hz]
        unfold al
        have hp := (par_fin (kN (rm m (lo m))) (by omega)).1
        have hv := hV (rm m (lo m)) (by omega)
        by_cases c : kN (rm m (lo m)) % 2 = 0
        · rw [if_pos (hp.mpr c), if_pos c, show min (min (vV (dN s) n (rm m (lo m))) xfar) 99 = vV (dN s) n (rm m (lo m)) by unfold xfar; omega]
        · rw [if_neg (fun z => c (hp.mp z)), if_neg c]
          rfl
      rw [hz, nI_1]
      have key2 : ∀ r2 j, j + r2 = n → lo m < j →
          x_P E d 30 37 [.ref 140, .ref 65, .int (nI P), .int (nI m), .int (nI (lo m)), x_jk, .int (nI (min (min (al (vV (dN s) n) (rm m (lo m))) (cm (dN s) (vV (dN s) n) m (lo m) j)) 99)), .int (nI j)] [] K (fun v J => v = none ∧ (∀ x, x ≤ P → J 141 x = nI (vV (dN s) n x)) ∧ kp [141] I J) := by
        intro r2
        induction r2 with
        | zero =>
          intro j hj hlj
          refine r_Pairing_weigh_37 (by omega) _ _ _ _ _ ⟨fun _ => ⟨vp_in_nI (by omega) (by decide), fun I3 e3 => ?_⟩, fun g => absurd ?_ g⟩
          · rw [nI_clamp (by omega)] at e3
            rw [nI_1]
            refine ih (m + 1) I3 (by omega) (by omega) (fun x hx => ?_) (k1.trans (by rw [e3]; exact kp.up (by simp)))
            rw [e3, up_su]
            by_cases c : x = m
            · rw [c, su_eq]
              have ev := vV_eq (D := dN s) (n := n) (u := m) hn (by omega) (by omega)
              have hv := hV m (by omega)
              obtain ⟨k5, k6⟩ := kN_fin m (by omega)
              unfold vs at ev
              rw [show j = n by omega, show min (min (al (vV (dN s) n) (rm m (lo m))) (cm (dN s) (vV (dN s) n) m (lo m) n)) 99 = vV (dN s) n m by omega]
            · rw [su_ne c]
              exact hT x (by omega)
          · rw [hK.1.2.2.2.2.1]
            exact nI_le (by omega) (by omega)
        | succ r2 ih2 =>
          intro j hj hlj
          refine r_Pairing_weigh_37 (by omega) _ _ _ _ _ ⟨fun g => absurd g ?_, fun _ => (c_together hK (by omega) hlj (by omega) l2 hT (by omega)).pu (r_Pairing_weigh_48 (by omega) _ _ _ _ _ _ ?_)⟩
          · rw [hK.1.2.2.2.2.1]
            exact nI_ge (by omega) (by omega)
          have nx := ih2 (j + 1) (by omega) (by omega)
          have ec : cm (dN s) (vV (dN s) n) m (lo m) (j + 1) = if lo m < j ∧ m.testBit j = true then min (cm (dN s) (vV (dN s) n) m (lo m) j) (vV (dN s) n (rm (rm m (lo m)) j) + dN s (lo m) j) else cm (dN s) (vV (dN s) n) m (lo m) j := rfl
          have htg : tg s n m (lo m) j ≤ 99 ∨ tg s n m (lo m) j < 1000 := by
            unfold tg
            split
            · have q2 := (rm_fin (rm m (lo m)) (by omega) j (by omega)).2.1
              have := hV (rm (rm m (lo m)) j) (by omega)
              have := (kN_fin (rm (rm m (lo m)) j) (by omega)).2
              have := tb_u8 h (lo m) j lN (by omega)
              omega
            · omega
          have em : (if nI (tg s n m (lo m) j) < nI (min (min (al (vV (dN s) n) (rm m (lo m))) (cm (dN s) (vV (dN s) n) m (lo m) j)) 99) then nI (tg s n m (lo m) j) else nI (min (min (al (vV (dN s) n) (rm m (lo m))) (cm (dN s) (vV (dN s) n) m (lo m) j)) 99)) = nI (min (min (al (vV (dN s) n) (rm m (lo m))) (cm (dN s) (vV (dN s) n) m (lo m) (j + 1))) 99) := by
            have hlt := nI_ltI (a := tg s n m (lo m) j) (b := min (min (al (vV (dN s) n) (rm m (lo m))) (cm (dN s) (vV (dN s) n) m (lo m) j)) 99) (by omega) (by omega)
            by_cases c : tg s n m (lo m) j < min (min (al (vV (dN s) n) (rm m (lo m))) (cm (dN s) (vV (dN s) n) m (lo m) j)) 99
            · rw [if_pos (hlt.mpr c)]
              congr 1
              rw [ec]
              unfold tg at c ⊢
              split
              · rename_i b
                rw [if_pos b] at c
                rw [if_pos ⟨hlj, b⟩]
                omega
              · rename_i b
                rw [if_neg b] at c
                omega
            · rw [if_neg (fun z => c (hlt.mp z))]
              congr 1
              rw [ec]
              unfold tg at c
              split
              · rename_i b
                rw [if_pos b.2] at c
                omega
              · rfl
          rw [em, nI_1]
          exact nx
      exact key2 (n - (lo m + 1)) (lo m + 1) (by omega) (by omega)
  have kk := key P 1 I (by omega) (by omega) (fun x hx => by
    rw [show x = 0 by omega, h0, vV_0]
    rfl) kp.rfl'
  exact kk
end WKC
