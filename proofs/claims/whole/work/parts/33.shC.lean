/-! ===== the class: what its calls share ===== -/
def gnF (s : Nat → Int32) (w k n : Nat) : Int32 := orF (fun p => decide ((trjM s w k p).2.2 = 1)) n
theorem mn_cases (a : Int32) {n : Nat} (hn : n ≤ 6) : (∃ p, p < n ∧ a = nI p ∧ (0 ≤ a ∧ a ≤ nI n - 1)) ∨ (¬ (0 ≤ a ∧ a ≤ nI n - 1) ∧ (a < 0 ∨ (¬ a < 0 ∧ nI n ≤ a))) := by
  have hn1 : (nI n - 1).toInt = (n : Int) - 1 := by
    rcases n with _ | n
    · rw [nI_0]; rfl
    · rw [nI_pred, nI_toInt (by omega)]; omega
  by_cases h0 : a < 0
  · exact Or.inr ⟨fun h => (ge_0 a).mp h.1 h0, Or.inl h0⟩
  · obtain ⟨p, hp, rfl⟩ := nI_of h0
    by_cases hpn : p < n
    · refine Or.inl ⟨p, hpn, rfl, nI_pos' hp, ?_⟩
      rw [Int32.le_iff_toInt_le, hn1, nI_toInt hp]
      omega
    · refine Or.inr ⟨fun h => ?_, Or.inr ⟨h0, nI_le (by omega) hp⟩⟩
      have := h.2
      rw [Int32.le_iff_toInt_le, hn1, nI_toInt hp] at this
      omega
theorem b1_fit {x : Int32} (h : b1 x) : x_fit .boolean x := by
  rcases h with h | h
  · rw [h]; exact x_fit_b0
  · rw [h]; exact x_fit_b1
theorem mnR_copy {I J : Nat → Nat → Int32} {r r1 p : Nat} {s : Nat → Int32} (h1 : ∀ j, j < 8 → J r j = I r1 j) (h2 : ∀ k, k < 4 → J (r + 1) k = I (r1 + 1) k) (h : mnR I r1 s p) : mnR J r s p := by
  unfold mnR dynC at h ⊢
  rw [h1 0 (by decide), h1 1 (by decide), h1 2 (by decide), h1 3 (by decide), h1 4 (by decide), h1 5 (by decide), h1 6 (by decide), h1 7 (by decide)]
  exact ⟨h.1, h.2.1, h.2.2.1, h.2.2.2.1, h.2.2.2.2.1, h.2.2.2.2.2.1, fun k hk => by rw [h2 k hk]; exact h.2.2.2.2.2.2 k hk⟩
section SHC
variable {E : XE} {d : Nat} {I : Nat → Nat → Int32} {s : Nat → Int32} {n w : Nat}
theorem c_find1 {p : Nat} (h1 : I 65 1 = nI n) (hn : n ≤ 6) (hp : p < n) (hd : 1 ≤ d) : x_K E d 59 [.ref 65, .int (nI p)] I (x_pu (.ref (85 + 2 * p)) I) := by
  refine x_K.of (by decide) (by decide) rfl rfl rfl (r_World_find_0 hd _ ⟨fun c => absurd c (nI_pos (by omega)), fun _ => ⟨fun c => absurd c ?_, fun _ => ⟨fun c => absurd c (nI_ge (show p < 6 by omega) (by decide)), fun _ => ⟨vp_in_nI (by omega) (by decide), ?_, rfl⟩⟩⟩⟩)
  · rw [h1]
    exact nI_ge hp (by omega)
  · rw [nI_clamp (by omega)]
theorem c_find0 {a : Int32} (h1 : I 65 1 = nI n) (h : a < 0 ∨ (¬ a < 0 ∧ nI n ≤ a)) (hd : 1 ≤ d) : x_K E d 59 [.ref 65, .int a] I (x_pu .null I) := by
  refine x_K.of (by decide) (by decide) rfl rfl rfl (r_World_find_0 hd _ ⟨fun _ => ⟨rfl, rfl⟩, fun c0 => ⟨fun _ => ⟨rfl, rfl⟩, fun c1 => ?_⟩⟩)
  rcases h with h | ⟨_, h⟩
  · exact absurd h c0
  · exact absurd (by rw [h1]; exact h) c1
theorem c_copyM {r r1 : Nat} (hm : x_man r) (hm1 : x_man r1) (hne : r1 ≠ r) (h6 : b1 (I r1 6)) (h7 : b1 (I r1 7)) (hd : 1 ≤ d) :
    x_K E d 24 [.ref r, .ref r1] I (fun v J => v = none ∧ (∀ j, j < 8 → J r j = I r1 j) ∧ (∀ k, k < 4 → J (r + 1) k = I (r1 + 1) k) ∧ kp [r, r + 1] I J) := by
  have n1 : r1 + 1 ≠ r := fun e => by
    have := hm1.2.2.1 I
    rw [e, hm.1 I] at this
    exact absurd this (by decide)
  have n2 : r1 ≠ r + 1 := fun e => by
    have := hm.2.2.1 I
    rw [← e, hm1.1 I] at this
    exact absurd this (by decide)
  have m1 : r1 ∉ [r, r + 1] := by simp; omega
  have m2 : r1 + 1 ∉ [r, r + 1] := by simp; omega
  refine x_K.of (by decide) (by decide) rfl rfl rfl (r_Man_copyFrom_0 hd r hm r1 hm1 ?_)
  intro I1 e1 I2 e2 I3 e3 I4 e4 I5 e5 I6 e6
  have k1 : kp [r, r + 1] I I1 := by rw [e1]; exact kp.up (by simp)
  have k2 : kp [r, r + 1] I I2 := k1.trans (by rw [e2]; exact kp.up (by simp))
  have k3 : kp [r, r + 1] I I3 := k2.trans (by rw [e3]; exact kp.up (by simp))
  have k4 : kp [r, r + 1] I I4 := k3.trans (by rw [e4]; exact kp.up (by simp))
  have k5 : kp [r, r + 1] I I5 := k4.trans (by rw [e5]; exact kp.up (by simp))
  have k6 : kp [r, r + 1] I I6 := k5.trans (by rw [e6]; exact kp.up (by simp))
  rw [k6 r1 m1]
  refine ⟨b1_fit h6, fun I8 e8 => ?_⟩
  have k8 : kp [r, r + 1] I I8 := k6.trans (by rw [e8]; exact kp.up (by simp))
  rw [k8 r1 m1]
  refine ⟨b1_fit h7, fun I10 e10 I11 e11 => ?_⟩
  have k10 : kp [r, r + 1] I I10 := k8.trans (by rw [e10]; exact kp.up (by simp))
  rw [k1 r1 m1] at e2
  rw [k2 r1 m1] at e3
  rw [k3 r1 m1] at e4
  rw [k4 r1 m1] at e5
  rw [k5 r1 m1] at e6
  have q : I11 r = I10 r := by
    rw [e11]
    funext j
    unfold x_cp
    rw [if_neg (by omega)]
  have q4 : (4 : Int32).toNatClampNeg = 4 := rfl
  refine ⟨rfl, fun j hj => ?_, fun k hk => ?_, fun c hc => ?_⟩
  · rw [q, e10, up_eq, e8, up_eq, e6, up_eq, e5, up_eq, e4, up_eq, e3, up_eq, e2, up_eq, e1, up_eq]
    match j, hj with
    | 0, _ => rfl
    | 1, _ => rfl
    | 2, _ => rfl
    | 3, _ => rfl
    | 4, _ => rfl
    | 5, _ => rfl
    | 6, _ => rfl
    | 7, _ => rfl
  · rw [e11]
    unfold x_cp
    rw [if_pos ⟨rfl, by rw [q4]; exact hk⟩, k10 _ m2]
  · rw [← k10 c hc, e11]
    funext j
    unfold x_cp
    rw [if_neg (fun z => hc (by simp [z.1]))]
theorem c_ghost {p : Nat} (h : RW I 65 s n w) (hp : p < n) (hd : 1 ≤ d) :
    x_K E d 24 [.ref 129, .ref (85 + 2 * p)] I (fun v J => v = none ∧ mnR J 129 s p ∧ kp [129, 130] I J) := by
  have hn : n ≤ 6 := h.1.1
  obtain ⟨hb6, hb7⟩ := h.2.1.2 p (by omega)
  exact (c_copyM x_man_129 (x_man_now (j := p) (by omega)).1 (by omega) hb6 hb7 hd).mono (fun v J ⟨h1, h2, h3, h4⟩ => ⟨h1, mnR_copy (r1 := 85 + 2 * p) h2 h3 (h.2.1.1 p hp).1, h4⟩)
theorem mnR_dyn {r p : Nat} (h : mnR I r s p) : I r 4 = s (1 + p) ∧ I r 5 = s (7 + p) ∧ I r 6 = s (13 + p) := by
  have e : dynC I r = dynM s p := h.2.2.2.2.1
  exact ⟨congrArg Prod.fst e, congrArg (fun x => x.2.1) e, congrArg (fun x => x.2.2) e⟩
theorem c_ghostOn {p k : Nat} (ht : towR I 65 s) (h2 : I 65 2 = nI w) (hg : mnR I 129 s p) (ok : mnOK s p) (hw : w + k < 2 ^ 31) (hd : 6 ≤ d) :
    x_K E d 96 [.ref 64, .ref 129, .int (nI k)] I (fun v J => v = none ∧ manR 129 (trjM s w k p) I J) := by
  obtain ⟨e4, e5, e6⟩ := mnR_dyn hg
  rw [← trj_rel ht hg w k]
  exact c_goOn x_man_129 ht.2.1 (by rw [e4]; exact ok.2.2.2.1) (by rw [e6]; exact ok.2.2.2.2.2.1) (by rw [hg.2.2.2.2.2.1]; exact ok.2.2.2.2.2.2) h2 hw hd
theorem wkp_of {I J : Nat → Nat → Int32} {l : List Nat} (k : kp l I J) (h : (l.all fun q => decide (q < 65) || decide (97 ≤ q) || decide (q = 72)) = true) : wkp 65 I J := by
  intro q h1 h2 h3
  refine k q (fun hq => ?_)
  have := List.all_eq_true.mp h q hq
  simp at this
  omega
theorem orF_bit {c : Nat → Bool} {z : Int32} {j : Nat} (h : z = if c j = true then 1 <<< (nI j &&& 31) else 0) : orF c j ||| z = orF c (j + 1) := by rw [h]; rfl
theorem c_goneBehind {k : Nat} (h : RW I 65 s n w) (hk : k ≤ 60) (hd : 7 ≤ d) :
    x_K E d 97 [.ref 64, .int (nI k)] I (fun v J => v = some (.int (gnF s w k n)) ∧ kp [72, 129, 130] I J) := by
  have hn : n ≤ 6 := h.1.1
  have hw : w ≤ 9999 := h.1.2.1
  refine x_K.of (by decide) (by decide) rfl rfl rfl (r_C_goneBehind_0 (by omega) _ ?_)
  have key : ∀ m j (J : Nat → Nat → Int32), j + m = n → kp [72, 129, 130] I J → x_P E d 97 4 [.ref 64, .int (nI k), .int (gnF s w k j), .int (nI j)] [] J (fun v J => v = some (.int (gnF s w k n)) ∧ kp [72, 129, 130] I J) := by
    intro m
    induction m with
    | zero =>
      intro j J hj hk
      refine r_C_goneBehind_4 (by omega) _ _ _ ⟨fun _ => ⟨by rw [show n = j by omega], hk⟩, fun c => absurd ?_ c⟩
      rw [hk 65 (by decide), h.1.2.2.2.2.1]
      exact nI_le (by omega) (by omega)
    | succ m ih =>
      intro j J hj hk
      have hJ : RW J 65 s n w := RW_kp (wkp_of hk (by decide)) h
      refine r_C_goneBehind_4 (by omega) _ _ _ ⟨fun c => absurd c ?_, fun _ => ⟨vp_in_nI (by omega) (by decide), ?_⟩⟩
      · rw [hJ.1.2.2.2.2.1]
        exact nI_ge (by omega) (by omega)
      rw [nI_clamp (by omega)]
      refine (c_ghost hJ (p := j) (by omega) (by omega)).mono (fun v K hv => ?_)
      obtain ⟨hv, hg, hk2⟩ := hv
      rw [hv]
      have hK : RW K 65 s n w := RW_kp (wkp_of hk2 (by decide)) hJ
      refine r_C_goneBehind_17 (by omega) _ _ _ ((c_ghostOn hK.2.2.1 hK.1.2.2.2.2.2 hg (hK.2.1.1 j (by omega)).2 (by omega) (by omega)).mono (fun v K2 hv => ?_))
      obtain ⟨hv, hd2, hf2, hk3⟩ := hv
      rw [hv]
      refine r_C_goneBehind_22 (by omega) _ _ _ (fun z hz => ?_)
      have e6 : K2 129 6 = (trjM s w k j).2.2 := congrArg (fun x => x.2.2) hd2
      have hb : b1 (trjM s w k j).2.2 := trj_b1 (hK.2.1.1 j (by omega)).2.2.2.2.2.2.1 k
      rw [e6] at hz
      have e : gnF s w k j ||| z = gnF s w k (j + 1) := by
        refine orF_bit ?_
        rw [hz]
        rcases hb with h0 | h0
        · rw [h0]; rfl
        · rw [h0]; rfl
      rw [e, nI_1]
      exact ih (j + 1) K2 (by omega) (hk.trans ((hk2.mono (by simp)).trans (hk3.mono (by simp))))
  have kk := key n 0 I (by omega) kp.rfl'
  rw [nI_0] at kk
  exact kk
end SHC
