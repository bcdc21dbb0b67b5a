/-! ===== image, undo: a world copied ===== -/
/-- the world in b of I is the world in b' of J -/
def cpW (b b' : Nat) (I J : Nat → Nat → Int32) : Prop := (J b' 1 = I b 1 ∧ J b' 2 = I b 2 ∧ J b' 4 = I b 4 ∧ J b' 6 = I b 6) ∧ (∀ j, j < 100 → J (b' + 2) j = I (b + 2) j) ∧ (J (b' + 3) 0 = I (b + 3) 0 ∧ J (b' + 3) 1 = I (b + 3) 1)
  ∧ ((∀ j, j < 10 → J (b' + 4) j = I (b + 4) j) ∧ (∀ j, j < 10 → J (b' + 5) j = I (b + 5) j) ∧ ∀ j, j < 100 → J (b' + 6) j = I (b + 6) j)
  ∧ (J (b' + 8) 3 = I (b + 8) 3 ∧ ∀ j, j < 8 → J (b' + 9) j = I (b + 9) j ∧ J (b' + 10) j = I (b + 10) j ∧ J (b' + 11) j = I (b + 11) j)
  ∧ (J (b' + 12) 3 = I (b + 12) 3 ∧ ∀ j, j < 8 → J (b' + 13) j = I (b + 13) j ∧ J (b' + 14) j = I (b + 14) j ∧ J (b' + 15) j = I (b + 15) j)
  ∧ (J (b' + 16) 3 = I (b + 16) 3 ∧ ∀ j, j < 8 → J (b' + 17) j = I (b + 17) j ∧ J (b' + 18) j = I (b + 18) j ∧ J (b' + 19) j = I (b + 19) j)
  ∧ ∀ p, p < 6 → (∀ f, f < 8 → J (b' + 20 + 2 * p) f = I (b + 20 + 2 * p) f) ∧ ∀ k, k < 4 → J (b' + 20 + 2 * p + 1) k = I (b + 20 + 2 * p + 1) k
theorem htF_in {co co' f : Nat → Int32} (h : ∀ i, i < 100 → co' i = co i) : ∀ m i t, i + m ≤ 100 → htF co' f m i t = htF co f m i t := by
  intro m
  induction m with
  | zero => intro i t _; rfl
  | succ m ih =>
    intro i t hi
    unfold htF
    rw [h i (by omega)]
    exact ih _ _ (by omega)
theorem csF_in {am am' en en' co co' f : Nat → Int32} {nc : Nat} (h1 : ∀ i, i < 10 → am' i = am i) (h2 : ∀ i, i < 10 → en' i = en i) (h3 : ∀ i, i < 100 → co' i = co i) (hn : nc ≤ 10) (he : ∀ i, i < nc → ∃ e, e ≤ 100 ∧ en i = nI e) : ∀ i, i ≤ nc → csF am' en' co' f i = csF am en co f i ∧ (csF am en co f i).2 ≤ 100 := by
  intro i
  induction i with
  | zero => intro _; exact ⟨rfl, Nat.zero_le _⟩
  | succ i ih =>
    intro hi
    obtain ⟨e1, e2⟩ := ih (by omega)
    obtain ⟨e, he1, he2⟩ := he i (by omega)
    unfold csF hoF
    rw [e1, h1 i (by omega), h2 i (by omega), he2, nI_clamp (by omega), htF_in h3 _ _ _ (by omega)]
    exact ⟨rfl, he1⟩
theorem cpW_RW {b b' n w : Nat} {I J : Nat → Nat → Int32} {s : Nat → Int32} (c : cpW b b' I J) (h : RW I b s n w) : RW J b' s n w := by
  obtain ⟨⟨c1, c2, c4, c6⟩, ct, ⟨w0, w1⟩, ⟨wa, we, wc⟩, ⟨s3, sr⟩, ⟨p3, pr⟩, ⟨k3, kr⟩, cm⟩ := c
  obtain ⟨⟨a1, a2, a3, a4, a5, a6⟩, ⟨m1, m2⟩, ⟨t1, ⟨nc, hn, t2, t3⟩, t4, t5, T, t6, t7, t8, t9⟩, ⟨f1, k, f2, f3, f4, f5⟩, ⟨kx, g1, g2, g3, g4⟩, ⟨ky, g5, g6, g7, g8⟩, kz, g9, g10, g11, g12⟩ := h
  refine ⟨⟨a1, a2, a3, a4, c1.trans a5, c2.trans a6⟩, ⟨fun p hp => ⟨?_, (m1 p hp).2⟩, fun p hp => ?_⟩, ⟨t1, ⟨nc, hn, w1.trans t2, fun i hi => ?_⟩, w0.trans t4, fun f => ?_, T, t6, t7, c6.trans t8, t9⟩, ⟨fun j hj => ?_, k, f2, f3, c4.trans f4, fun i hi => ?_⟩, ⟨kx, g1, g2, s3.trans g3, fun i hi => ?_⟩, ⟨ky, g5, g6, p3.trans g7, fun i hi => ?_⟩, kz, g9, g10, k3.trans g11, fun i hi => ?_⟩
  · exact mnR_copy (r1 := b + 20 + 2 * p) (cm p (by omega)).1 (cm p (by omega)).2 (m1 p hp).1
  · rw [(cm p hp).1 6 (by omega), (cm p hp).1 7 (by omega)]
    exact m2 p hp
  · rw [we i (by omega)]
    exact t3 i hi
  · rw [← t5 f]
    unfold smC
    rw [w1, t2, nI_clamp (by omega), (csF_in wa we wc hn t3 nc (Nat.le_refl _)).1]
  · rw [ct j hj]
    exact f1 j hj
  · rw [ct i (by omega)]
    exact f5 i hi
  · obtain ⟨x1, x2, x3⟩ := sr i (by omega)
    rw [x1, x2, x3]
    exact g4 i hi
  · obtain ⟨x1, x2, x3⟩ := pr i (by omega)
    rw [x1, x2]
    exact g8 i hi
  · obtain ⟨x1, x2, x3⟩ := kr i (by omega)
    rw [x1, x2]
    exact g12 i hi
/-- only the array's own cells count -/
theorem RW_s {I : Nat → Nat → Int32} {b n w : Nat} {s t : Nat → Int32} (h : ∀ i, i < 931 → t i = s i) (g : RW I b s n w) : RW I b t n w := by
  obtain ⟨a1, a2, a3, a4, a5, a6, a7⟩ := g
  have hn := a1.1
  refine ⟨hdR_c rfl rfl (h _ (by omega)) (h _ (by omega)) a1, mnsR_c hn (fun _ _ _ => rfl) (fun i _ _ => h i (by omega)) a2, ?_, tapR_c rfl rfl (h _ (by omega)) (fun j _ _ => h j (by omega)) a4, senR_c (Nat.le_refl _) rfl rfl rfl rfl (h _ (by omega)) (fun j _ _ => h j (by omega)) a5, plnR_c (Nat.le_refl _) rfl rfl rfl (h _ (by omega)) (fun j _ _ => h j (by omega)) a6, bokR_c (Nat.le_refl _) rfl rfl rfl (h _ (by omega)) (fun j _ _ => h j (by omega)) a7⟩
  obtain ⟨t1, t2, t3, t4, T, t5, t6, t7, t8⟩ := a3
  obtain ⟨e1, e2, e3⟩ := tow_same (t := t) t1 (h 37 (by omega)) (fun k _ hk => ⟨h _ (by omega), h _ (by omega), fun j _ _ => h j (by omega)⟩)
  exact ⟨e1, t2, by rw [e2]; exact t3, fun f => by rw [e3]; exact t4 f, T, t5, (h 32 (by omega)).trans t6, t7, (h 37 (by omega)).trans t8⟩
section IMG
variable {E : XE} {d : Nat} {I : Nat → Nat → Int32}
theorem c_rowsC {r r1 : Nat} (hr : x_rows r) (hr1 : x_rows r1) (hne : r1 + 3 < r ∨ r + 3 < r1) (hd : 1 ≤ d) : x_K E d 47 [.ref r, .ref r1] I (fun v J => v = none ∧ J r 3 = I r1 3 ∧ (∀ j, j < 8 → J (r + 1) j = I (r1 + 1) j) ∧ (∀ j, j < 8 → J (r + 2) j = I (r1 + 2) j) ∧ (∀ j, j < 8 → J (r + 3) j = I (r1 + 3) j) ∧ kp [r, r + 1, r + 2, r + 3] I J) := by
  refine x_K.of (by decide) (by decide) rfl rfl rfl (r_Rows_copyFrom_0 (by omega) r hr r1 hr1 (fun I1 e1 I2 e2 I3 e3 I4 e4 => ?_))
  rw [show (8 : Int32).toNatClampNeg = 8 by decide] at e1 e2 e3
  refine ⟨rfl, ?_, fun j hj => ?_, fun j hj => ?_, fun j hj => ?_, fun q hq => ?_⟩
  · rw [e4, up_su, su_eq, e3, cp_ne (by omega), e2, cp_ne (by omega), e1, cp_ne (by omega)]
  · rw [e4, up_ne (by omega), e3, cp_ne (by omega), e2, cp_ne (by omega), e1, cp_eq hj]
  · rw [e4, up_ne (by omega), e3, cp_ne (by omega), e2, cp_eq hj, e1, cp_ne (by omega)]
  · rw [e4, up_ne (by omega), e3, cp_eq hj, e2, cp_ne (by omega), e1, cp_ne (by omega)]
  · have h4 : q ≠ r ∧ q ≠ r + 1 ∧ q ≠ r + 2 ∧ q ≠ r + 3 := by simpa using hq
    rw [e4, up_ne h4.1, e3, cp_ne h4.2.2.2, e2, cp_ne h4.2.2.1, e1, cp_ne h4.2.1]
theorem c_towni {K : Nat → Nat → Int32} (hd : 1 ≤ d) : x_K E d 50 [.ref 100, .ref 68] K (fun v J => v = none ∧ J 100 0 = K 68 0 ∧ J 100 1 = K 68 1 ∧ (∀ j, j < 10 → J 101 j = K 69 j) ∧ (∀ j, j < 10 → J 102 j = K 70 j) ∧ (∀ j, j < 100 → J 103 j = K 71 j) ∧ kp [100, 101, 102, 103] K J) := by
  refine x_K.of (by decide) (by decide) rfl rfl rfl (r_Town_copyFromi_0 (by omega) (fun I1 e1 I2 e2 I3 e3 I4 e4 I5 e5 I6 e6 => ?_))
  rw [show (10 : Int32).toNatClampNeg = 10 by decide] at e3 e4
  rw [show (100 : Int32).toNatClampNeg = 100 by decide] at e5
  refine ⟨rfl, ?_, ?_, fun j hj => ?_, fun j hj => ?_, fun j hj => ?_, fun q hq => ?_⟩
  · rw [e6, up_su, su_ne (by decide), e5, cp_ne (by decide), e4, cp_ne (by decide), e3, cp_ne (by decide), e2, up_su, su_ne (by decide), e1, up_su, su_eq]
  · rw [e6, up_su, su_ne (by decide), e5, cp_ne (by decide), e4, cp_ne (by decide), e3, cp_ne (by decide), e2, up_su, su_eq, e1, up_ne (by decide)]
  · rw [e6, up_ne (by decide), e5, cp_ne (by decide), e4, cp_ne (by decide), e3, cp_eq hj, e2, up_ne (by decide), e1, up_ne (by decide)]
  · rw [e6, up_ne (by decide), e5, cp_ne (by decide), e4, cp_eq hj, e3, cp_ne (by decide), e2, up_ne (by decide), e1, up_ne (by decide)]
  · rw [e6, up_ne (by decide), e5, cp_eq hj, e4, cp_ne (by decide), e3, cp_ne (by decide), e2, up_ne (by decide), e1, up_ne (by decide)]
  · have h4 : q ≠ 100 ∧ q ≠ 101 ∧ q ≠ 102 ∧ q ≠ 103 := by simpa using hq
    rw [e6, up_ne h4.1, e5, cp_ne h4.2.2.2, e4, cp_ne h4.2.2.1, e3, cp_ne h4.2.1, e2, up_ne h4.1, e1, up_ne h4.1]
theorem c_worldi (hm : ∀ p, p < 6 → b1 (I (85 + 2 * p) 6) ∧ b1 (I (85 + 2 * p) 7)) (hf : ∀ j, j < 100 → fits .byte (.int (I 67 j)) = true) (hd : 3 ≤ d) :
    x_K E d 58 [.ref 97, .ref 65] I (fun v J => v = none ∧ cpW 65 97 I J ∧ ∀ q, ¬ (97 ≤ q ∧ q < 97 + 32) → J q = I q) := by
  refine x_K.of (by decide) (by decide) rfl rfl rfl (r_World_copyFromi_0 (by omega) ?_)
  have key : ∀ r j (K : Nat → Nat → Int32), j + r = 6 → (∀ p, p < j → (∀ f, f < 8 → K (117 + 2 * p) f = I (85 + 2 * p) f) ∧ ∀ k, k < 4 → K (117 + 2 * p + 1) k = I (85 + 2 * p + 1) k) → (∀ q, ¬ (117 ≤ q ∧ q < 117 + 12) → K q = I q) →
      x_P E d 58 2 [.ref 97, .ref 65, .int (nI j)] [] K (fun v J => v = none ∧ cpW 65 97 I J ∧ ∀ q, ¬ (97 ≤ q ∧ q < 97 + 32) → J q = I q) := by
    intro r
    induction r with
    | zero =>
      intro j K hj h1 h2
      have ej : j = 6 := by omega
      subst ej
      refine r_World_copyFromi_2 (by omega) _ ⟨fun _ I2 e2 I3 e3 => ?_, fun g => absurd (nI_le (show 6 ≤ 6 by omega) (by decide)) g⟩
      have g3 : ∀ q, q ≠ 97 → I3 q = K q := fun q hq => by rw [e3, up_ne hq, e2, up_ne hq]
      have s2 : I3 67 = I 67 := (g3 67 (by decide)).trans (h2 67 (by decide))
      refine ⟨fun j hj => by rw [s2]; exact hf j hj, fun I5 e5 I6 e6 => ?_⟩
      rw [show (100 : Int32).toNatClampNeg = 100 by decide] at e5
      have g6 : ∀ q, q ≠ 97 → q ≠ 99 → I6 q = K q := fun q a b => by rw [e6, up_ne a, e5, cp_ne b]; exact g3 q a
      have t6 : ∀ j, j < 100 → I6 99 j = I 67 j := fun j hj => by rw [e6, up_ne (by decide), e5, cp_eq hj, s2]
      have b5 : I5 97 = su (su (K 97) 1 (I 65 1)) 2 (I 65 2) := by
        rw [e5, cp_ne (by decide), e3, up_su, e2, up_su, up_ne (by decide), h2 65 (by decide)]
      have b6 : I6 97 = su (su (su (K 97) 1 (I 65 1)) 2 (I 65 2)) 4 (I 65 4) := by
        rw [e6, up_su, b5, e5, cp_ne (by decide), g3 65 (by decide), h2 65 (by decide)]
      refine (c_towni (K := I6) (by omega)).mono (fun v J7 hv => ?_)
      obtain ⟨hv, t0, t1, ta, te, tc, k7⟩ := hv
      rw [hv]
      refine r_World_copyFromi_41 (by omega) (fun I8 e8 => ?_)
      have b7 : J7 97 = I6 97 := k7 97 (by simp)
      have s7 : ∀ q, q ≠ 97 → q ≠ 99 → ¬ (117 ≤ q ∧ q < 117 + 12) → q ∉ [100, 101, 102, 103] → J7 q = I q := fun q a b c f => by rw [k7 q f, g6 q a b, h2 q c]
      have b8 : I8 97 = su (su (su (su (K 97) 1 (I 65 1)) 2 (I 65 2)) 4 (I 65 4)) 6 (I 65 6) := by
        rw [e8, up_su, b7, b6, s7 65 (by decide) (by decide) (by decide) (by simp)]
      have g8 : ∀ q, q ≠ 97 → I8 q = J7 q := fun q hq => by rw [e8, up_ne hq]
      refine (c_rowsC x_rows_105 x_rows_73 (by omega) (by omega)).mono (fun v J9 hv => ?_)
      obtain ⟨hv, a1, a2, a3, a4, k9⟩ := hv
      rw [hv]
      refine r_World_copyFromi_50 (by omega) ((c_rowsC x_rows_109 x_rows_77 (by omega) (by omega)).mono (fun v J10 hv => ?_))
      obtain ⟨hv, p1, p2, p3, p4, k10⟩ := hv
      rw [hv]
      refine r_World_copyFromi_55 (by omega) ((c_rowsC x_rows_113 x_rows_81 (by omega) (by omega)).mono (fun v J11 hv => ?_))
      obtain ⟨hv, q1, q2, q3, q4, k11⟩ := hv
      rw [hv]
      have sr : ∀ q, q ≠ 97 → q ≠ 99 → ¬ (117 ≤ q ∧ q < 117 + 12) → q ∉ [100, 101, 102, 103] → I8 q = I q := fun q a b c f => (g8 q a).trans (s7 q a b c f)
      have k9 : ∀ q, ¬ (105 ≤ q ∧ q < 105 + 4) → J9 q = I8 q := fun q hq => k9 q (by simp; omega)
      have k10 : ∀ q, ¬ (109 ≤ q ∧ q < 109 + 4) → J10 q = J9 q := fun q hq => k10 q (by simp; omega)
      have k11 : ∀ q, ¬ (113 ≤ q ∧ q < 113 + 4) → J11 q = J10 q := fun q hq => k11 q (by simp; omega)
      have up : ∀ q, ¬ (105 ≤ q ∧ q < 105 + 12) → J11 q = I8 q := fun q hq => by
        rw [k11 q (by omega), k10 q (by omega), k9 q (by omega)]
      have d68 : ∀ q, 100 ≤ q → q ≤ 103 → J11 q = J7 q := fun q a c => by
        rw [up q (by omega), g8 q (by omega)]
      have k7' : ∀ q, ¬ (100 ≤ q ∧ q ≤ 103) → J7 q = I6 q := fun q hq => k7 q (by simp; omega)
      refine r_World_copyFromi_60 (by omega) ⟨rfl, ⟨⟨?_, ?_, ?_, ?_⟩, fun j hj => ?_, ⟨?_, ?_⟩, ⟨fun j hj => ?_, fun j hj => ?_, fun j hj => ?_⟩, ⟨?_, fun j hj => ⟨?_, ?_, ?_⟩⟩, ⟨?_, fun j hj => ⟨?_, ?_, ?_⟩⟩, ⟨?_, fun j hj => ⟨?_, ?_, ?_⟩⟩, fun p hp => ⟨fun f hf => ?_, fun k hk => ?_⟩⟩, fun q hq => ?_⟩
      · rw [up 97 (by omega), b8, su_ne (by decide), su_ne (by decide), su_ne (by decide), su_eq]
      · rw [up 97 (by omega), b8, su_ne (by decide), su_ne (by decide), su_eq]
      · rw [up 97 (by omega), b8, su_ne (by decide), su_eq]
      · rw [up 97 (by omega), b8, su_eq]
      · show J11 99 j = I 67 j
        rw [up 99 (by omega), g8 99 (by decide), k7' 99 (by omega)]
        exact t6 j hj
      · show J11 100 0 = I 68 0
        rw [d68 100 (by omega) (by omega), t0, g6 68 (by decide) (by decide), h2 68 (by decide)]
      · show J11 100 1 = I 68 1
        rw [d68 100 (by omega) (by omega), t1, g6 68 (by decide) (by decide), h2 68 (by decide)]
      · show J11 101 j = I 69 j
        rw [d68 101 (by omega) (by omega), ta j hj, g6 69 (by decide) (by decide), h2 69 (by decide)]
      · show J11 102 j = I 70 j
        rw [d68 102 (by omega) (by omega), te j hj, g6 70 (by decide) (by decide), h2 70 (by decide)]
      · show J11 103 j = I 71 j
        rw [d68 103 (by omega) (by omega), tc j hj, g6 71 (by decide) (by decide), h2 71 (by decide)]
      · show J11 105 3 = I 73 3
        rw [k11 105 (by omega), k10 105 (by omega), a1, sr 73 (by decide) (by decide) (by decide) (by simp)]
      · show J11 (105 + 1) j = I (73 + 1) j
        rw [k11 (105 + 1) (by omega), k10 (105 + 1) (by omega), a2 j hj, sr (73 + 1) (by decide) (by decide) (by decide) (by simp)]
      · show J11 (105 + 2) j = I (73 + 2) j
        rw [k11 (105 + 2) (by omega), k10 (105 + 2) (by omega), a3 j hj, sr (73 + 2) (by decide) (by decide) (by decide) (by simp)]
      · show J11 (105 + 3) j = I (73 + 3) j
        rw [k11 (105 + 3) (by omega), k10 (105 + 3) (by omega), a4 j hj, sr (73 + 3) (by decide) (by decide) (by decide) (by simp)]
      · show J11 109 3 = I 77 3
        rw [k11 109 (by omega), p1, k9 77 (by omega), sr 77 (by decide) (by decide) (by decide) (by simp)]
      · show J11 (109 + 1) j = I (77 + 1) j
        rw [k11 (109 + 1) (by omega), p2 j hj, k9 (77 + 1) (by omega), sr (77 + 1) (by decide) (by decide) (by decide) (by simp)]
      · show J11 (109 + 2) j = I (77 + 2) j
        rw [k11 (109 + 2) (by omega), p3 j hj, k9 (77 + 2) (by omega), sr (77 + 2) (by decide) (by decide) (by decide) (by simp)]
      · show J11 (109 + 3) j = I (77 + 3) j
        rw [k11 (109 + 3) (by omega), p4 j hj, k9 (77 + 3) (by omega), sr (77 + 3) (by decide) (by decide) (by decide) (by simp)]
      · show J11 113 3 = I 81 3
        rw [q1, k10 81 (by omega), k9 81 (by omega), sr 81 (by decide) (by decide) (by decide) (by simp)]
      · show J11 (113 + 1) j = I (81 + 1) j
        rw [q2 j hj, k10 (81 + 1) (by omega), k9 (81 + 1) (by omega), sr (81 + 1) (by decide) (by decide) (by decide) (by simp)]
      · show J11 (113 + 2) j = I (81 + 2) j
        rw [q3 j hj, k10 (81 + 2) (by omega), k9 (81 + 2) (by omega), sr (81 + 2) (by decide) (by decide) (by decide) (by simp)]
      · show J11 (113 + 3) j = I (81 + 3) j
        rw [q4 j hj, k10 (81 + 3) (by omega), k9 (81 + 3) (by omega), sr (81 + 3) (by decide) (by decide) (by decide) (by simp)]
      · show J11 (117 + 2 * p) f = I (85 + 2 * p) f
        rw [up (117 + 2 * p) (by omega), g8 _ (by omega), k7' _ (by omega), g6 _ (by omega) (by omega)]
        exact (h1 p hp).1 f hf
      · show J11 (117 + 2 * p + 1) k = I (85 + 2 * p + 1) k
        rw [up (117 + 2 * p + 1) (by omega), g8 _ (by omega), k7' _ (by omega), g6 _ (by omega) (by omega)]
        exact (h1 p hp).2 k hk
      · rw [up q (by omega), sr q (by omega) (by omega) (by omega) (by simp; omega)]
    | succ r ih =>
      intro j K hj h1 h2
      refine r_World_copyFromi_2 (by omega) _ ⟨fun g => absurd g (nI_ge (show j < 6 by omega) (by decide)), fun _ => ⟨vp_in_nI (by omega) (by decide), vp_in_nI (by omega) (by decide), ?_⟩⟩
      rw [nI_clamp (by omega)]
      have es : K (85 + 2 * j) = I (85 + 2 * j) := h2 _ (by omega)
      have es1 : K (85 + 2 * j + 1) = I (85 + 2 * j + 1) := h2 _ (by omega)
      refine (c_copyM (x_man_img (by omega)).1 (x_man_now (by omega)).1 (by omega) (by rw [es]; exact (hm j (by omega)).1) (by rw [es]; exact (hm j (by omega)).2) (by omega)).mono (fun v K2 hv => ?_)
      obtain ⟨hv, c1, c2, k2⟩ := hv
      rw [hv]
      refine r_World_copyFromi_14 (by omega) _ ?_
      rw [nI_1]
      have k2 : ∀ q, q ≠ 117 + 2 * j → q ≠ 117 + 2 * j + 1 → K2 q = K q := fun q a b => k2 q (by simp; omega)
      refine ih (j + 1) K2 (by omega) (fun p hp => ?_) (fun q hq => by rw [k2 q (by omega) (by omega), h2 q hq])
      by_cases e : p = j
      · subst e
        exact ⟨fun f hf => by rw [c1 f hf, es], fun k hk => by rw [c2 k hk, es1]⟩
      · obtain ⟨u1, u2⟩ := h1 p (by omega)
        exact ⟨fun f hf => by rw [k2 _ (by omega) (by omega)]; exact u1 f hf, fun k hk => by rw [k2 _ (by omega) (by omega)]; exact u2 k hk⟩
  have kk := key 6 0 I (by omega) (fun p hp => absurd hp (by omega)) (fun _ _ => rfl)
  rw [nI_0] at kk
  exact kk
theorem c_townu {K : Nat → Nat → Int32} (hd : 1 ≤ d) : x_K E d 50 [.ref 68, .ref 100] K (fun v J => v = none ∧ J 68 0 = K 100 0 ∧ J 68 1 = K 100 1 ∧ (∀ j, j < 10 → J 69 j = K 101 j) ∧ (∀ j, j < 10 → J 70 j = K 102 j) ∧ (∀ j, j < 100 → J 71 j = K 103 j) ∧ kp [68, 69, 70, 71] K J) := by
  refine x_K.of (by decide) (by decide) rfl rfl rfl (r_Town_copyFromu_0 (by omega) (fun I1 e1 I2 e2 I3 e3 I4 e4 I5 e5 I6 e6 => ?_))
  rw [show (10 : Int32).toNatClampNeg = 10 by decide] at e3 e4
  rw [show (100 : Int32).toNatClampNeg = 100 by decide] at e5
  refine ⟨rfl, ?_, ?_, fun j hj => ?_, fun j hj => ?_, fun j hj => ?_, fun q hq => ?_⟩
  · rw [e6, up_su, su_ne (by decide), e5, cp_ne (by decide), e4, cp_ne (by decide), e3, cp_ne (by decide), e2, up_su, su_ne (by decide), e1, up_su, su_eq]
  · rw [e6, up_su, su_ne (by decide), e5, cp_ne (by decide), e4, cp_ne (by decide), e3, cp_ne (by decide), e2, up_su, su_eq, e1, up_ne (by decide)]
  · rw [e6, up_ne (by decide), e5, cp_ne (by decide), e4, cp_ne (by decide), e3, cp_eq hj, e2, up_ne (by decide), e1, up_ne (by decide)]
  · rw [e6, up_ne (by decide), e5, cp_ne (by decide), e4, cp_eq hj, e3, cp_ne (by decide), e2, up_ne (by decide), e1, up_ne (by decide)]
  · rw [e6, up_ne (by decide), e5, cp_eq hj, e4, cp_ne (by decide), e3, cp_ne (by decide), e2, up_ne (by decide), e1, up_ne (by decide)]
  · have h4 : q ≠ 68 ∧ q ≠ 69 ∧ q ≠ 70 ∧ q ≠ 71 := by simpa using hq
    rw [e6, up_ne h4.1, e5, cp_ne h4.2.2.2, e4, cp_ne h4.2.2.1, e3, cp_ne h4.2.1, e2, up_ne h4.1, e1, up_ne h4.1]
theorem c_worldu (hm : ∀ p, p < 6 → b1 (I (117 + 2 * p) 6) ∧ b1 (I (117 + 2 * p) 7)) (hf : ∀ j, j < 100 → fits .byte (.int (I 99 j)) = true) (hd : 3 ≤ d) :
    x_K E d 58 [.ref 65, .ref 97] I (fun v J => v = none ∧ cpW 97 65 I J ∧ ∀ q, ¬ (65 ≤ q ∧ q < 65 + 32) → J q = I q) := by
  refine x_K.of (by decide) (by decide) rfl rfl rfl (r_World_copyFromu_0 (by omega) ?_)
  have key : ∀ r j (K : Nat → Nat → Int32), j + r = 6 → (∀ p, p < j → (∀ f, f < 8 → K (85 + 2 * p) f = I (117 + 2 * p) f) ∧ ∀ k, k < 4 → K (85 + 2 * p + 1) k = I (117 + 2 * p + 1) k) → (∀ q, ¬ (85 ≤ q ∧ q < 85 + 12) → K q = I q) →
      x_P E d 58 2 [.ref 65, .ref 97, .int (nI j)] [] K (fun v J => v = none ∧ cpW 97 65 I J ∧ ∀ q, ¬ (65 ≤ q ∧ q < 65 + 32) → J q = I q) := by
    intro r
    induction r with
    | zero =>
      intro j K hj h1 h2
      have ej : j = 6 := by omega
      subst ej
      refine r_World_copyFromu_2 (by omega) _ ⟨fun _ I2 e2 I3 e3 => ?_, fun g => absurd (nI_le (show 6 ≤ 6 by omega) (by decide)) g⟩
      have g3 : ∀ q, q ≠ 65 → I3 q = K q := fun q hq => by rw [e3, up_ne hq, e2, up_ne hq]
      have s2 : I3 99 = I 99 := (g3 99 (by decide)).trans (h2 99 (by decide))
      refine ⟨fun j hj => by rw [s2]; exact hf j hj, fun I5 e5 I6 e6 => ?_⟩
      rw [show (100 : Int32).toNatClampNeg = 100 by decide] at e5
      have g6 : ∀ q, q ≠ 65 → q ≠ 67 → I6 q = K q := fun q a b => by rw [e6, up_ne a, e5, cp_ne b]; exact g3 q a
      have t6 : ∀ j, j < 100 → I6 67 j = I 99 j := fun j hj => by rw [e6, up_ne (by decide), e5, cp_eq hj, s2]
      have b5 : I5 65 = su (su (K 65) 1 (I 97 1)) 2 (I 97 2) := by
        rw [e5, cp_ne (by decide), e3, up_su, e2, up_su, up_ne (by decide), h2 97 (by decide)]
      have b6 : I6 65 = su (su (su (K 65) 1 (I 97 1)) 2 (I 97 2)) 4 (I 97 4) := by
        rw [e6, up_su, b5, e5, cp_ne (by decide), g3 97 (by decide), h2 97 (by decide)]
      refine (c_townu (K := I6) (by omega)).mono (fun v J7 hv => ?_)
      obtain ⟨hv, t0, t1, ta, te, tc, k7⟩ := hv
      rw [hv]
      refine r_World_copyFromu_41 (by omega) (fun I8 e8 => ?_)
      have b7 : J7 65 = I6 65 := k7 65 (by simp)
      have s7 : ∀ q, q ≠ 65 → q ≠ 67 → ¬ (85 ≤ q ∧ q < 85 + 12) → q ∉ [68, 69, 70, 71] → J7 q = I q := fun q a b c f => by rw [k7 q f, g6 q a b, h2 q c]
      have b8 : I8 65 = su (su (su (su (K 65) 1 (I 97 1)) 2 (I 97 2)) 4 (I 97 4)) 6 (I 97 6) := by
        rw [e8, up_su, b7, b6, s7 97 (by decide) (by decide) (by decide) (by simp)]
      have g8 : ∀ q, q ≠ 65 → I8 q = J7 q := fun q hq => by rw [e8, up_ne hq]
      refine (c_rowsC x_rows_73 x_rows_105 (by omega) (by omega)).mono (fun v J9 hv => ?_)
      obtain ⟨hv, a1, a2, a3, a4, k9⟩ := hv
      rw [hv]
      refine r_World_copyFromu_50 (by omega) ((c_rowsC x_rows_77 x_rows_109 (by omega) (by omega)).mono (fun v J10 hv => ?_))
      obtain ⟨hv, p1, p2, p3, p4, k10⟩ := hv
      rw [hv]
      refine r_World_copyFromu_55 (by omega) ((c_rowsC x_rows_81 x_rows_113 (by omega) (by omega)).mono (fun v J11 hv => ?_))
      obtain ⟨hv, q1, q2, q3, q4, k11⟩ := hv
      rw [hv]
      have sr : ∀ q, q ≠ 65 → q ≠ 67 → ¬ (85 ≤ q ∧ q < 85 + 12) → q ∉ [68, 69, 70, 71] → I8 q = I q := fun q a b c f => (g8 q a).trans (s7 q a b c f)
      have k9 : ∀ q, ¬ (73 ≤ q ∧ q < 73 + 4) → J9 q = I8 q := fun q hq => k9 q (by simp; omega)
      have k10 : ∀ q, ¬ (77 ≤ q ∧ q < 77 + 4) → J10 q = J9 q := fun q hq => k10 q (by simp; omega)
      have k11 : ∀ q, ¬ (81 ≤ q ∧ q < 81 + 4) → J11 q = J10 q := fun q hq => k11 q (by simp; omega)
      have up : ∀ q, ¬ (73 ≤ q ∧ q < 73 + 12) → J11 q = I8 q := fun q hq => by
        rw [k11 q (by omega), k10 q (by omega), k9 q (by omega)]
      have d68 : ∀ q, 68 ≤ q → q ≤ 71 → J11 q = J7 q := fun q a c => by
        rw [up q (by omega), g8 q (by omega)]
      have k7' : ∀ q, ¬ (68 ≤ q ∧ q ≤ 71) → J7 q = I6 q := fun q hq => k7 q (by simp; omega)
      refine r_World_copyFromu_60 (by omega) ⟨rfl, ⟨⟨?_, ?_, ?_, ?_⟩, fun j hj => ?_, ⟨?_, ?_⟩, ⟨fun j hj => ?_, fun j hj => ?_, fun j hj => ?_⟩, ⟨?_, fun j hj => ⟨?_, ?_, ?_⟩⟩, ⟨?_, fun j hj => ⟨?_, ?_, ?_⟩⟩, ⟨?_, fun j hj => ⟨?_, ?_, ?_⟩⟩, fun p hp => ⟨fun f hf => ?_, fun k hk => ?_⟩⟩, fun q hq => ?_⟩
      · rw [up 65 (by omega), b8, su_ne (by decide), su_ne (by decide), su_ne (by decide), su_eq]
      · rw [up 65 (by omega), b8, su_ne (by decide), su_ne (by decide), su_eq]
      · rw [up 65 (by omega), b8, su_ne (by decide), su_eq]
      · rw [up 65 (by omega), b8, su_eq]
      · show J11 67 j = I 99 j
        rw [up 67 (by omega), g8 67 (by decide), k7' 67 (by omega)]
        exact t6 j hj
      · show J11 68 0 = I 100 0
        rw [d68 68 (by omega) (by omega), t0, g6 100 (by decide) (by decide), h2 100 (by decide)]
      · show J11 68 1 = I 100 1
        rw [d68 68 (by omega) (by omega), t1, g6 100 (by decide) (by decide), h2 100 (by decide)]
      · show J11 69 j = I 101 j
        rw [d68 69 (by omega) (by omega), ta j hj, g6 101 (by decide) (by decide), h2 101 (by decide)]
      · show J11 70 j = I 102 j
        rw [d68 70 (by omega) (by omega), te j hj, g6 102 (by decide) (by decide), h2 102 (by decide)]
      · show J11 71 j = I 103 j
        rw [d68 71 (by omega) (by omega), tc j hj, g6 103 (by decide) (by decide), h2 103 (by decide)]
      · show J11 73 3 = I 105 3
        rw [k11 73 (by omega), k10 73 (by omega), a1, sr 105 (by decide) (by decide) (by decide) (by simp)]
      · show J11 (73 + 1) j = I (105 + 1) j
        rw [k11 (73 + 1) (by omega), k10 (73 + 1) (by omega), a2 j hj, sr (105 + 1) (by decide) (by decide) (by decide) (by simp)]
      · show J11 (73 + 2) j = I (105 + 2) j
        rw [k11 (73 + 2) (by omega), k10 (73 + 2) (by omega), a3 j hj, sr (105 + 2) (by decide) (by decide) (by decide) (by simp)]
      · show J11 (73 + 3) j = I (105 + 3) j
        rw [k11 (73 + 3) (by omega), k10 (73 + 3) (by omega), a4 j hj, sr (105 + 3) (by decide) (by decide) (by decide) (by simp)]
      · show J11 77 3 = I 109 3
        rw [k11 77 (by omega), p1, k9 109 (by omega), sr 109 (by decide) (by decide) (by decide) (by simp)]
      · show J11 (77 + 1) j = I (109 + 1) j
        rw [k11 (77 + 1) (by omega), p2 j hj, k9 (109 + 1) (by omega), sr (109 + 1) (by decide) (by decide) (by decide) (by simp)]
      · show J11 (77 + 2) j = I (109 + 2) j
        rw [k11 (77 + 2) (by omega), p3 j hj, k9 (109 + 2) (by omega), sr (109 + 2) (by decide) (by decide) (by decide) (by simp)]
      · show J11 (77 + 3) j = I (109 + 3) j
        rw [k11 (77 + 3) (by omega), p4 j hj, k9 (109 + 3) (by omega), sr (109 + 3) (by decide) (by decide) (by decide) (by simp)]
      · show J11 81 3 = I 113 3
        rw [q1, k10 113 (by omega), k9 113 (by omega), sr 113 (by decide) (by decide) (by decide) (by simp)]
      · show J11 (81 + 1) j = I (113 + 1) j
        rw [q2 j hj, k10 (113 + 1) (by omega), k9 (113 + 1) (by omega), sr (113 + 1) (by decide) (by decide) (by decide) (by simp)]
      · show J11 (81 + 2) j = I (113 + 2) j
        rw [q3 j hj, k10 (113 + 2) (by omega), k9 (113 + 2) (by omega), sr (113 + 2) (by decide) (by decide) (by decide) (by simp)]
      · show J11 (81 + 3) j = I (113 + 3) j
        rw [q4 j hj, k10 (113 + 3) (by omega), k9 (113 + 3) (by omega), sr (113 + 3) (by decide) (by decide) (by decide) (by simp)]
      · show J11 (85 + 2 * p) f = I (117 + 2 * p) f
        rw [up (85 + 2 * p) (by omega), g8 _ (by omega), k7' _ (by omega), g6 _ (by omega) (by omega)]
        exact (h1 p hp).1 f hf
      · show J11 (85 + 2 * p + 1) k = I (117 + 2 * p + 1) k
        rw [up (85 + 2 * p + 1) (by omega), g8 _ (by omega), k7' _ (by omega), g6 _ (by omega) (by omega)]
        exact (h1 p hp).2 k hk
      · rw [up q (by omega), sr q (by omega) (by omega) (by omega) (by simp; omega)]
    | succ r ih =>
      intro j K hj h1 h2
      refine r_World_copyFromu_2 (by omega) _ ⟨fun g => absurd g (nI_ge (show j < 6 by omega) (by decide)), fun _ => ⟨vp_in_nI (by omega) (by decide), vp_in_nI (by omega) (by decide), ?_⟩⟩
      rw [nI_clamp (by omega)]
      have es : K (117 + 2 * j) = I (117 + 2 * j) := h2 _ (by omega)
      have es1 : K (117 + 2 * j + 1) = I (117 + 2 * j + 1) := h2 _ (by omega)
      refine (c_copyM (x_man_now (by omega)).1 (x_man_img (by omega)).1 (by omega) (by rw [es]; exact (hm j (by omega)).1) (by rw [es]; exact (hm j (by omega)).2) (by omega)).mono (fun v K2 hv => ?_)
      obtain ⟨hv, c1, c2, k2⟩ := hv
      rw [hv]
      refine r_World_copyFromu_14 (by omega) _ ?_
      rw [nI_1]
      have k2 : ∀ q, q ≠ 85 + 2 * j → q ≠ 85 + 2 * j + 1 → K2 q = K q := fun q a b => k2 q (by simp; omega)
      refine ih (j + 1) K2 (by omega) (fun p hp => ?_) (fun q hq => by rw [k2 q (by omega) (by omega), h2 q hq])
      by_cases e : p = j
      · subst e
        exact ⟨fun f hf => by rw [c1 f hf, es], fun k hk => by rw [c2 k hk, es1]⟩
      · obtain ⟨u1, u2⟩ := h1 p (by omega)
        exact ⟨fun f hf => by rw [k2 _ (by omega) (by omega)]; exact u1 f hf, fun k hk => by rw [k2 _ (by omega) (by omega)]; exact u2 k hk⟩
  have kk := key 6 0 I (by omega) (fun p hp => absurd hp (by omega)) (fun _ _ => rfl)
  rw [nI_0] at kk
  exact kk
theorem st_image (h : inv I) (hd : 20 ≤ d) : stp2 E d I 91 189 [] := by
  obtain ⟨s, n, w, hR, hs, h0, ht, hi⟩ := h
  have h31 := hR.1.2.2.1
  have h65 := hR.1.2.2.2.2.1
  refine ⟨.int (nI n), x_K.of (by decide) (by decide) rfl rfl rfl (r_C_image_0 (by omega) ((c_worldi hR.2.1.2 hR.2.2.2.1.1 (by omega)).mono (fun v J1 hv => ?_)))⟩
  obtain ⟨hv, c1, k1⟩ := hv
  rw [hv]
  refine r_C_image_5 (by omega) (fun J e1 => ⟨?_, ?_⟩)
  · rw [e1, up_ne (by decide), k1 65 (by decide), h65]
  have hJ : ∀ q, q ≠ 64 → ¬ (97 ≤ q ∧ q < 129) → J q = I q := fun q a b => by rw [e1, up_ne a, k1 q b]
  have hR97 : RW J 97 s n w := RW_c (fun q a b => by rw [e1, up_ne (by omega)]) (cpW_RW c1 hR)
  have hR65 : RW J 65 s n w := RW_c (fun q a b => hJ q (by omega) (by omega)) hR
  have s143 : J 143 = s := (hJ 143 (by decide) (by decide)).trans hs
  have key : ∀ r j (K : Nat → Nat → Int32), j + r = 931 → (∀ i, i < j → K 144 i = s i) → (∀ i, 931 ≤ i → K 144 i = J 144 i) → kp [144] J K → x_P E d 189 2 [.ref 142, .int (nI j)] [] K (fun v K => v = some (.int (nI n)) ∧ inv K) := by
    intro r
    induction r with
    | zero =>
      intro j K hj g1 g2 k2
      refine r_M_image_2 (by omega) _ ⟨fun _ I2 e2 => ⟨?_, ?_⟩, fun g => absurd (nI_le (show 931 ≤ j by omega) (by omega)) g⟩
      · rw [e2, up_ne (by decide), k2 143 (by decide), s143, h31]
      have f : ∀ q, q ≠ 142 → q ≠ 144 → I2 q = J q := fun q a b => by rw [e2, up_ne a, k2 q (by simp; omega)]
      have f142 : I2 142 = su (I 142) 4 1 := by rw [e2, up_su, k2 142 (by decide), hJ 142 (by decide) (by decide)]
      refine ⟨s, n, w, RW_c (fun q a b => f q (by omega) (by omega)) hR65, (f 143 (by decide) (by decide)).trans s143, ?_, ?_, Or.inr ⟨?_, ?_, n, w, ?_⟩⟩
      · rw [f 141 (by decide) (by decide), hJ 141 (by decide) (by decide)]
        exact h0
      · refine trA_c ?_ ?_ ?_ ?_ ht
        · rw [f 138 (by decide) (by decide), hJ 138 (by decide) (by decide)]
        · rw [f142, su_ne (by decide)]
        · rw [f 139 (by decide) (by decide), hJ 139 (by decide) (by decide)]
        · rw [f 150 (by decide) (by decide), hJ 150 (by decide) (by decide)]
      · rw [f 64 (by decide) (by decide), e1, up_su, su_eq]
      · rw [f142, su_eq]
      · have h144 : ∀ i, i < 931 → I2 144 i = s i := fun i hi => by
          rw [e2, up_ne (by decide)]
          exact g1 i (by omega)
        exact RW_s h144 (RW_c (fun q a b => f q (by omega) (by omega)) hR97)
    | succ r ih =>
      intro j K hj g1 g2 k2
      refine r_M_image_2 (by omega) _ ⟨fun g => absurd g (nI_ge (show j < 931 by omega) (by decide)), fun _ => ⟨vp_in_nI (by omega) (by decide), vp_in_nI (by omega) (by decide), fun I5 e5 => ?_⟩⟩
      rw [nI_clamp (by omega), k2 143 (by decide), s143] at e5
      rw [nI_1]
      refine ih (j + 1) I5 (by omega) (fun i hi => ?_) (fun i hi => ?_) (k2.trans (by rw [e5]; exact kp.up (by simp)))
      · rw [e5, up_su]
        by_cases e : i = j
        · rw [e, su_eq]
        · rw [su_ne e]
          exact g1 i (by omega)
      · rw [e5, up_su, su_ne (by omega)]
        exact g2 i hi
  refine x_K.of (by decide) (by decide) rfl rfl rfl (r_M_image_0 (by omega) ?_)
  have kk := key 931 0 J (by omega) (fun i hi => absurd hi (by omega)) (fun _ _ => rfl) kp.rfl'
  rw [nI_0] at kk
  exact kk
theorem st_undo (h : inv I) (hd : 20 ≤ d) : stp2 E d I 92 190 [] := by
  have hI := h
  obtain ⟨s, n, w, hR, hs, h0, ht, hi⟩ := h
  rcases hi with ⟨i1, i2⟩ | ⟨i1, i2, n', w', hR97⟩
  · exact ⟨.int (-3), x_K.of (by decide) (by decide) rfl rfl rfl (r_C_undo_0 (by omega) ⟨fun _ => ⟨rfl, x_K.of (by decide) (by decide) rfl rfl rfl (r_M_undo_0 (by omega) ⟨fun _ => ⟨rfl, hI⟩, fun g => absurd i2 g⟩)⟩, fun g => absurd i1 g⟩)⟩
  · have h31 := hR97.1.2.2.1
    have h97 : I 97 1 = nI n' := hR97.1.2.2.2.2.1
    refine ⟨.int (nI n'), x_K.of (by decide) (by decide) rfl rfl rfl (r_C_undo_0 (by omega) ⟨fun g => absurd (i1.symm.trans g) (by decide), fun _ => (c_worldu hR97.2.1.2 hR97.2.2.2.1.1 (by omega)).mono (fun v J hv => ?_)⟩)⟩
    obtain ⟨hv, c1, hJ⟩ := hv
    rw [hv]
    have hR65 : RW J 65 (I 144) n' w' := cpW_RW c1 hR97
    refine r_C_undo_10 (by omega) ⟨?_, ?_⟩
    · have := hR65.1.2.2.2.2.1
      rw [this]
    have s144 : J 144 = I 144 := hJ 144 (by decide)
    have j142 : J 142 4 = 1 := by rw [hJ 142 (by decide)]; exact i2
    have key : ∀ r j (K : Nat → Nat → Int32), j + r = 931 → (∀ i, i < j → K 143 i = I 144 i) → kp [143] J K → x_P E d 190 7 [.ref 142, .int (nI j)] [] K (fun v K => v = some (.int (nI n')) ∧ inv K) := by
      intro r
      induction r with
      | zero =>
        intro j K hj g1 k2
        have f : ∀ q, q ≠ 143 → K q = J q := fun q a => k2 q (by simp; omega)
        refine r_M_undo_7 (by omega) _ ⟨fun _ => ⟨?_, ?_⟩, fun g => absurd (nI_le (show 931 ≤ j by omega) (by omega)) g⟩
        · rw [g1 31 (by omega), h31]
        have h143 : ∀ i, i < 931 → K 143 i = I 144 i := fun i hi => g1 i (by omega)
        refine ⟨K 143, n', w', RW_s h143 (RW_c (fun q a b => f q (by omega)) hR65), rfl, ?_, ?_, Or.inr ⟨?_, ?_, n', w', ?_⟩⟩
        · rw [f 141 (by decide), hJ 141 (by decide)]
          exact h0
        · refine trA_c ?_ ?_ ?_ ?_ ht
          · rw [f 138 (by decide), hJ 138 (by decide)]
          · rw [f 142 (by decide), hJ 142 (by decide)]
          · rw [f 139 (by decide), hJ 139 (by decide)]
          · rw [f 150 (by decide), hJ 150 (by decide)]
        · rw [f 64 (by decide), hJ 64 (by decide)]
          exact i1
        · rw [f 142 (by decide)]
          exact j142
        · rw [f 144 (by decide), s144]
          exact RW_c (fun q a b => by rw [f q (by omega), hJ q (by omega)]) hR97
      | succ r ih =>
        intro j K hj g1 k2
        refine r_M_undo_7 (by omega) _ ⟨fun g => absurd g (nI_ge (show j < 931 by omega) (by decide)), fun _ => ⟨vp_in_nI (by omega) (by decide), vp_in_nI (by omega) (by decide), fun I5 e5 => ?_⟩⟩
        rw [nI_clamp (by omega), k2 144 (by decide), s144] at e5
        rw [nI_1]
        refine ih (j + 1) I5 (by omega) (fun i hi => ?_) (k2.trans (by rw [e5]; exact kp.up (by simp)))
        rw [e5, up_su]
        by_cases e : i = j
        · rw [e, su_eq]
        · rw [su_ne e]
          exact g1 i (by omega)
    refine x_K.of (by decide) (by decide) rfl rfl rfl (r_M_undo_0 (by omega) ⟨fun g => absurd (j142.symm.trans g) (by decide), fun _ => ?_⟩)
    have kk := key 931 0 J (by omega) (fun i hi => absurd hi (by omega)) kp.rfl'
    rw [nI_0] at kk
    exact kk
end IMG
