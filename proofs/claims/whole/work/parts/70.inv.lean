/-! ===== both in one memory: what holds between calls; count, trace ===== -/
def trA (I : Nat → Nat → Int32) : Prop := ∃ r, r ≤ 20 ∧ I 138 1 = nI r ∧ I 142 16 = nI r ∧ ∀ i, i < r → I 139 i = I 150 i
def imA (I : Nat → Nat → Int32) : Prop := (I 64 2 = 0 ∧ I 142 4 = 0) ∨ (I 64 2 = 1 ∧ I 142 4 = 1 ∧ ∃ n w, RW I 97 (I 144) n w)
def inv (I : Nat → Nat → Int32) : Prop := ∃ s n w, RW I 65 s n w ∧ I 143 = s ∧ I 141 0 = 0 ∧ trA I ∧ imA I
/-- the class's method m1, then the model's m2, answer the same, and the relation holds on -/
def stp2 (E : XE) (d : Nat) (I : Nat → Nat → Int32) (m1 m2 : Nat) (as : List Value) : Prop :=
  ∃ a : VyI, x_K E d m1 (.ref 64 :: as) I (fun v J => v = some a.v ∧ x_K E d m2 (.ref 142 :: as) J (fun v K => v = some a.v ∧ inv K))
def stp2L (E : XE) (d : Nat) (I : Nat → Nat → Int32) (m1 m2 : Nat) (as : List Value) : Prop :=
  ∃ a : VyL, x_K E d m1 (.ref 64 :: as) I (fun v J => v = some a.v ∧ x_K E d m2 (.ref 142 :: as) J (fun v K => v = some a.v ∧ inv K))
theorem RW_c {I J : Nat → Nat → Int32} {b n w : Nat} {s : Nat → Int32} (h : ∀ q, b ≤ q → q < b + 32 → J q = I q) (g : RW I b s n w) : RW J b s n w := RW_kp (fun q a c _ => h q a c) g
theorem trA_c {I J : Nat → Nat → Int32} (h1 : J 138 1 = I 138 1) (h2 : J 142 16 = I 142 16) (h3 : J 139 = I 139) (h4 : J 150 = I 150) (g : trA I) : trA J := by
  unfold trA
  rw [h1, h2, h3, h4]
  exact g
theorem imA_c {I J : Nat → Nat → Int32} (h1 : J 64 2 = I 64 2) (h2 : J 142 4 = I 142 4) (h3 : J 144 = I 144) (h4 : ∀ q, 97 ≤ q → q < 129 → J q = I q) (g : imA I) : imA J := by
  unfold imA
  rw [h1, h2, h3]
  rcases g with g | ⟨g1, g2, n, w, g3⟩
  · exact Or.inl g
  · exact Or.inr ⟨g1, g2, n, w, RW_c (fun q a c => h4 q a (by omega)) g3⟩
theorem op2.step {E : XE} {d : Nat} {I : Nat → Nat → Int32} {s : Nat → Int32} {m1 m2 : Nat} {as : List Value} (h : op2 E d I s m1 m2 as) (hs : I 143 = s) (h0 : I 141 0 = 0) (ht : trA I) (hi : imA I) : stp2 E d I m1 m2 as := by
  obtain ⟨a, s', n', w', h1, h2⟩ := h
  refine ⟨a, h1.mono (fun v J hv => ?_)⟩
  obtain ⟨hv, hR, c1, c2, c3⟩ := hv
  refine ⟨hv, (h2 J ((c3 143 (by omega) (by omega) (by omega) (by omega)).trans hs)).mono (fun v K hv => ?_)⟩
  obtain ⟨hv, hK, m1, m2, m3, m4, m5⟩ := hv
  refine ⟨hv, s', n', w', RW_c (fun q a c => m1 q (by omega)) hR, hK, ?_, ?_, ?_⟩
  · rw [m1 141 (by omega), c2]
    exact h0
  · refine trA_c ?_ ?_ ?_ ?_ ht
    · rw [m1 138 (by omega), c3 138 (by omega) (by omega) (by omega) (by omega)]
    · rw [m5, c3 142 (by omega) (by omega) (by omega) (by omega)]
    · rw [m1 139 (by omega), c3 139 (by omega) (by omega) (by omega) (by omega)]
    · rw [m3, c3 150 (by omega) (by omega) (by omega) (by omega)]
  · refine imA_c ?_ ?_ ?_ (fun q a c => ?_) hi
    · rw [m1 64 (by omega), c1]
    · rw [m4, c3 142 (by omega) (by omega) (by omega) (by omega)]
    · rw [m2, c3 144 (by omega) (by omega) (by omega) (by omega)]
    · rw [m1 q (by omega), c3 q (by omega) (by omega) (by omega) (by omega)]
theorem op2L.step {E : XE} {d : Nat} {I : Nat → Nat → Int32} {s : Nat → Int32} {m1 m2 : Nat} {as : List Value} (h : op2L E d I s m1 m2 as) (hs : I 143 = s) (h0 : I 141 0 = 0) (ht : trA I) (hi : imA I) : stp2L E d I m1 m2 as := by
  obtain ⟨a, s', n', w', h1, h2⟩ := h
  refine ⟨a, h1.mono (fun v J hv => ?_)⟩
  obtain ⟨hv, hR, c1, c2, c3⟩ := hv
  refine ⟨hv, (h2 J ((c3 143 (by omega) (by omega) (by omega) (by omega)).trans hs)).mono (fun v K hv => ?_)⟩
  obtain ⟨hv, hK, m1, m2, m3, m4, m5⟩ := hv
  refine ⟨hv, s', n', w', RW_c (fun q a c => m1 q (by omega)) hR, hK, ?_, ?_, ?_⟩
  · rw [m1 141 (by omega), c2]
    exact h0
  · refine trA_c ?_ ?_ ?_ ?_ ht
    · rw [m1 138 (by omega), c3 138 (by omega) (by omega) (by omega) (by omega)]
    · rw [m5, c3 142 (by omega) (by omega) (by omega) (by omega)]
    · rw [m1 139 (by omega), c3 139 (by omega) (by omega) (by omega) (by omega)]
    · rw [m3, c3 150 (by omega) (by omega) (by omega) (by omega)]
  · refine imA_c ?_ ?_ ?_ (fun q a c => ?_) hi
    · rw [m1 64 (by omega), c1]
    · rw [m4, c3 142 (by omega) (by omega) (by omega) (by omega)]
    · rw [m2, c3 144 (by omega) (by omega) (by omega) (by omega)]
    · rw [m1 q (by omega), c3 q (by omega) (by omega) (by omega) (by omega)]
section CNT
variable {E : XE} {d : Nat} {I : Nat → Nat → Int32}
theorem st_count {a1 : Int32} (h : inv I) (hd : 20 ≤ d) : stp2 E d I 93 191 [.int a1] := by
  have hI := h
  obtain ⟨s, n, w, hR, hs, h0, ⟨r, hr, t1, t2, t3⟩, hi⟩ := h
  obtain ⟨_, _, h31, _, g1, _⟩ := hR.1
  obtain ⟨_, _, _, _, T, _, h32, g6, _⟩ := hR.2.2.1
  obtain ⟨_, e, _, h36, g4, _⟩ := hR.2.2.2.1
  obtain ⟨k3, _, h33, g73, _⟩ := hR.2.2.2.2.1
  obtain ⟨k4, _, h34, g77, _⟩ := hR.2.2.2.2.2.1
  obtain ⟨k5, _, h35, g81, _⟩ := hR.2.2.2.2.2.2
  have g1 : I 65 1 = nI n := g1
  have g6 : I 65 6 = nI T := g6
  have g4 : I 65 4 = nI e := g4
  have g73 : I 73 3 = nI k3 := g73
  have g77 : I 77 3 = nI k4 := g77
  have g81 : I 81 3 = nI k5 := g81
  have mm : ∀ (k : Nat) (z : Int32), k ≤ 5 → s (31 + k) = z → x_K E d 191 [.ref 142, .int (nI k)] I (fun v K => v = some (.int z) ∧ inv K) := by
    intro k z hk hz
    refine x_K.of (by decide) (by decide) rfl rfl rfl (r_M_count_0 (by omega) _ ⟨fun g => ?_, fun _ => ⟨fun _ => vi_c (c' := 31) rfl (by omega) (by decide), fun y hy => ⟨?_, hI⟩⟩⟩)
    · have := (nI_eq (a := k) (b := 6) (by omega) (by omega)).mp g
      omega
    · rw [hy, if_pos ⟨nI_pos' (by omega), nI_le (b := 5) hk (by decide)⟩, ix_c (c := 31) (c' := 31) rfl (by omega), hs, hz]
  have cc : ∀ (z : Int32), ((a1 = 0 → I 65 1 = z) ∧ (a1 = 1 → I 65 6 = z) ∧ (a1 = (2 : Int32) → I 73 3 = z) ∧ (a1 = (3 : Int32) → I 77 3 = z) ∧ (a1 = (4 : Int32) → I 81 3 = z) ∧ (a1 = (5 : Int32) → I 65 4 = z) ∧ (a1 = (6 : Int32) → I 138 1 = z) ∧ (¬ a1 = 0 → ¬ a1 = 1 → ¬ a1 = (2 : Int32) → ¬ a1 = (3 : Int32) → ¬ a1 = (4 : Int32) → ¬ a1 = (5 : Int32) → ¬ a1 = (6 : Int32) → (-1 : Int32) = z)) → x_K E d 191 [.ref 142, .int a1] I (fun v K => v = some (.int z) ∧ inv K) → stp2 E d I 93 191 [.int a1] := by
    intro z ⟨q0, q1, q2, q3, q4, q5, q6, q7⟩ hm
    have ee : ∀ y, y = z → (some (Value.int y) = some (Value.int z) ∧ x_K E d 191 [.ref 142, .int a1] I (fun v K => v = some (.int z) ∧ inv K)) := fun y hy => ⟨by rw [hy], hm⟩
    exact ⟨.int z, x_K.of (by decide) (by decide) rfl rfl rfl (r_C_count_0 (by omega) _ ⟨fun g => ee _ (q0 g), fun g => ee _ (q1 g), fun g => ee _ (q2 g), fun g => ee _ (q3 g), fun g => ee _ (q4 g), fun g => ee _ (q5 g), fun g => ee _ (q6 g), fun a b c d e f g => ee _ (q7 a b c d e f g)⟩)⟩
  by_cases c0 : a1 = 0
  · subst c0
    exact cc (nI n) ⟨fun _ => g1, fun g => absurd g (by decide), fun g => absurd g (by decide), fun g => absurd g (by decide), fun g => absurd g (by decide), fun g => absurd g (by decide), fun g => absurd g (by decide), fun g => absurd rfl g⟩ (mm 0 _ (by omega) h31)
  by_cases c1 : a1 = 1
  · subst c1
    exact cc (nI T) ⟨fun g => absurd g (by decide), fun _ => g6, fun g => absurd g (by decide), fun g => absurd g (by decide), fun g => absurd g (by decide), fun g => absurd g (by decide), fun g => absurd g (by decide), fun _ g => absurd rfl g⟩ (mm 1 _ (by omega) h32)
  by_cases c2 : a1 = (2 : Int32)
  · subst c2
    exact cc (nI k3) ⟨fun g => absurd g (by decide), fun g => absurd g (by decide), fun _ => g73, fun g => absurd g (by decide), fun g => absurd g (by decide), fun g => absurd g (by decide), fun g => absurd g (by decide), fun _ _ g => absurd rfl g⟩ (mm 2 _ (by omega) h33)
  by_cases c3 : a1 = (3 : Int32)
  · subst c3
    exact cc (nI k4) ⟨fun g => absurd g (by decide), fun g => absurd g (by decide), fun g => absurd g (by decide), fun _ => g77, fun g => absurd g (by decide), fun g => absurd g (by decide), fun g => absurd g (by decide), fun _ _ _ g => absurd rfl g⟩ (mm 3 _ (by omega) h34)
  by_cases c4 : a1 = (4 : Int32)
  · subst c4
    exact cc (nI k5) ⟨fun g => absurd g (by decide), fun g => absurd g (by decide), fun g => absurd g (by decide), fun g => absurd g (by decide), fun _ => g81, fun g => absurd g (by decide), fun g => absurd g (by decide), fun _ _ _ _ g => absurd rfl g⟩ (mm 4 _ (by omega) h35)
  by_cases c5 : a1 = (5 : Int32)
  · subst c5
    exact cc (nI e) ⟨fun g => absurd g (by decide), fun g => absurd g (by decide), fun g => absurd g (by decide), fun g => absurd g (by decide), fun g => absurd g (by decide), fun _ => g4, fun g => absurd g (by decide), fun _ _ _ _ _ g => absurd rfl g⟩ (mm 5 _ (by omega) h36)
  by_cases c6 : a1 = (6 : Int32)
  · subst c6
    exact cc (nI r) ⟨fun g => absurd g (by decide), fun g => absurd g (by decide), fun g => absurd g (by decide), fun g => absurd g (by decide), fun g => absurd g (by decide), fun g => absurd g (by decide), fun _ => t1, fun _ _ _ _ _ _ g => absurd rfl g⟩
      (x_K.of (by decide) (by decide) rfl rfl rfl (r_M_count_0 (by omega) _ ⟨fun _ => ⟨by rw [t2], hI⟩, fun g => absurd rfl g⟩))
  · have hno : ¬ (0 ≤ a1 ∧ a1 ≤ (5 : Int32)) := fun g => by
      obtain ⟨k, hk, e⟩ := upto_of (m := 5) rfl g
      match k, hk with
      | 0, _ => exact c0 e
      | 1, _ => exact c1 e
      | 2, _ => exact c2 e
      | 3, _ => exact c3 e
      | 4, _ => exact c4 e
      | 5, _ => exact c5 e
    exact cc (-1) ⟨fun g => absurd g c0, fun g => absurd g c1, fun g => absurd g c2, fun g => absurd g c3, fun g => absurd g c4, fun g => absurd g c5, fun g => absurd g c6, fun _ _ _ _ _ _ _ => rfl⟩
      (x_K.of (by decide) (by decide) rfl rfl rfl (r_M_count_0 (by omega) _ ⟨fun g => absurd g c6, fun _ => ⟨fun g => absurd g hno, fun z hz => ⟨by rw [hz, if_neg hno], hI⟩⟩⟩))
theorem st_trace {a1 : Int32} (h : inv I) (hd : 20 ≤ d) : stp2 E d I 89 187 [.int a1] := by
  have hI := h
  obtain ⟨s, n, w, hR, hs, h0, ⟨r, hr, t1, t2, t3⟩, hi⟩ := h
  have z2 : ∀ z : Int32, z = (if (20 : Int32) ≤ I 142 16 then (20 : Int32) else I 142 16) → z = nI r := by
    intro z hz
    rw [hz, t2]
    by_cases g : r = 20
    · rw [g]; decide
    · rw [if_neg (show ¬ ((20 : Int32) ≤ nI r) from nI_ge (a := r) (b := 20) (by omega) (by decide))]
  by_cases hn : a1 < 0
  · refine ⟨.int (-1), x_K.of (by decide) (by decide) rfl rfl rfl (r_C_trace_0 (by omega) _ ⟨fun g => absurd hn g, fun z hz => ⟨by rw [hz, if_pos hn], x_K.of (by decide) (by decide) rfl rfl rfl (r_M_trace_0 (by omega) _ (fun y hy => ⟨fun g => absurd hn ((ge_0 a1).mp g.1), fun x hx => ⟨by rw [hx, if_neg (fun g => (ge_0 a1).mp g.1 hn)], hI⟩⟩))⟩⟩)⟩
  obtain ⟨j, hj, rfl⟩ := nI_of hn
  rcases Nat.lt_or_ge j r with c | c
  · refine ⟨.int (I 139 j), x_K.of (by decide) (by decide) rfl rfl rfl (r_C_trace_0 (by omega) _ ⟨fun _ _ _ => vp_in_nI (by omega) (by decide), fun z hz => ⟨?_, x_K.of (by decide) (by decide) rfl rfl rfl (r_M_trace_0 (by omega) _ (fun y hy => ⟨fun _ => vp_in_nI (by omega) (by decide), fun x hx => ⟨?_, hI⟩⟩))⟩⟩)⟩
    · rw [hz, if_neg hn, t1, if_neg (nI_ge c (by omega)), if_neg (show ¬ ((20 : Int32) ≤ nI j) from nI_ge (a := j) (b := 20) (by omega) (by decide)), nI_clamp (by omega)]
    · rw [z2 y hy] at hx
      have hc : nI j ≤ nI r - 1 := by
        rw [show r = (r - 1) + 1 by omega, nI_pred]
        exact nI_le (by omega) (by omega)
      rw [hx, if_pos ⟨nI_pos' hj, hc⟩, nI_clamp (by omega), t3 j c]
  · refine ⟨.int (-1), x_K.of (by decide) (by decide) rfl rfl rfl (r_C_trace_0 (by omega) _ ⟨fun _ g => absurd ?_ g, fun z hz => ⟨?_, x_K.of (by decide) (by decide) rfl rfl rfl (r_M_trace_0 (by omega) _ (fun y hy => ⟨fun g => absurd g ?_, fun x hx => ⟨?_, hI⟩⟩))⟩⟩)⟩
    · rw [t1]
      exact nI_le c hj
    · rw [hz, if_neg hn, t1, if_pos (nI_le c hj)]
    all_goals
      have no : ¬ (0 ≤ nI j ∧ nI j ≤ nI r - 1) := by
        intro g
        have g := g.2
        by_cases r0 : r = 0
        · rw [r0, show nI 0 - 1 = (-1 : Int32) by decide] at g
          have := (le_nlt _ _).mp g
          apply this
          rw [Int32.lt_iff_toInt_lt, nI_toInt hj, show (-1 : Int32).toInt = -1 by decide]
          omega
        · rw [show r = (r - 1) + 1 by omega, nI_pred] at g
          have := (nI_leI hj (by omega)).mp g
          omega
    · rw [z2 y hy]
      exact no
    · rw [z2 y hy] at hx
      rw [hx, if_neg no]
end CNT
