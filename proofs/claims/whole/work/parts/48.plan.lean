/-! ===== the plan: what it does to one man ===== -/
def plT (s : Nat → Int32) (p i : Nat) (y : Nat × Dn × Int32) : Nat × Dn × Int32 :=
  if s (89 + i) = 0 then (y.1 + 1, stp (buM s) (smF s) (nI p) (s (38 + p)) (s (44 + p)) y.2.2 (fun k => s (50 + 4 * p + k)) y.1 y.2.1, y.2.2)
  else if s (97 + i) = nI p then (if s (89 + i) = 1 then (y.1, (y.2.1.1, 0, y.2.1.2.2), y.2.2) else if s (89 + i) = (2 : Int32) then (y.1, (y.2.1.1, y.2.1.2.1, 0), y.2.2) else (y.1, y.2.1, 1)) else y
def plS (s : Nat → Int32) (w p : Nat) : Nat → Nat × Dn × Int32
  | 0 => (w, dynM s p, s (19 + p))
  | i + 1 => plT s p i (plS s w p i)
/-- ranges of a man on the plan -/
def plOK (y : Nat × Dn × Int32) (w i : Nat) : Prop := y.1 ≤ w + i ∧ u8 y.2.1.1 ∧ upto y.2.1.2.1 99 ∧ b1 y.2.1.2.2 ∧ b1 y.2.2
theorem plT_ok {s : Nat → Int32} {p i w : Nat} {y : Nat × Dn × Int32} (h : plOK y w i) : plOK (plT s p i y) w (i + 1) := by
  obtain ⟨h1, h2, h3, h4, h5⟩ := h
  unfold plT
  by_cases c0 : s (89 + i) = 0
  · rw [if_pos c0]
    unfold plOK
    dsimp only
    exact ⟨by omega, stp_u8 h2, stp_h h3, stp_b1 h4, h5⟩
  rw [if_neg c0]
  by_cases cm : s (97 + i) = nI p
  · rw [if_pos cm]
    by_cases c1 : s (89 + i) = 1
    · rw [if_pos c1]
      unfold plOK
      dsimp only
      exact ⟨by omega, h2, ⟨0, by omega, nI_0.symm⟩, h4, h5⟩
    rw [if_neg c1]
    by_cases c2 : s (89 + i) = (2 : Int32)
    · rw [if_pos c2]
      unfold plOK
      dsimp only
      exact ⟨by omega, h2, h3, Or.inl rfl, h5⟩
    · rw [if_neg c2]
      unfold plOK
      dsimp only
      exact ⟨by omega, h2, h3, h4, Or.inr rfl⟩
  · rw [if_neg cm]
    exact ⟨by omega, h2, h3, h4, h5⟩
theorem plS_ok {s : Nat → Int32} {p w : Nat} (ok : mnOK s p) : ∀ i, plOK (plS s w p i) w i
  | 0 => ⟨Nat.le_refl _, ok.2.2.2.1, ok.2.2.2.2.1, ok.2.2.2.2.2.1, ok.2.2.2.2.2.2⟩
  | i + 1 => plT_ok (plS_ok ok i)
/-- the ghost stands so -/
def gpR (J K : Nat → Nat → Int32) (y : Nat × Dn × Int32) : Prop := dynC K 129 = y.2.1 ∧ K 129 7 = y.2.2 ∧ (∀ f, f < 4 → K 129 f = J 129 f) ∧ kp [72, 129] J K
section PLN
variable {E : XE} {d : Nat} {I : Nat → Nat → Int32} {s : Nat → Int32} {n w : Nat}
theorem c_follow {p : Nat} (h : RW I 65 s n w) (hg : mnR I 129 s p) (ok : mnOK s p) (hp : p < 6) (hd : 7 ≤ d) :
    ∃ k, k ≤ 8 ∧ s 34 = nI k ∧ x_K E d 107 [.ref 64] I (fun v K => v = none ∧ gpR I K (plS s w p k)) := by
  have hw := h.1.2.1
  have h652 := h.1.2.2.2.2.2
  obtain ⟨k, hk8, h34, h77, hrow⟩ := h.2.2.2.2.2.1
  have h77 : I 77 3 = nI k := h77
  refine ⟨k, hk8, h34, x_K.of (by decide) (by decide) rfl rfl rfl (r_C_followPlan_0 (by omega) ?_)⟩
  rw [h652]
  have key : ∀ m i (K : Nat → Nat → Int32), i + m = k → gpR I K (plS s w p i) → x_P E d 107 6 [.ref 64, .int (nI (plS s w p i).1), .int (nI i), x_jk, x_jk] [] K (fun v K => v = none ∧ gpR I K (plS s w p k)) := by
    intro m
    induction m with
    | zero =>
      intro i K hi hK
      refine r_C_followPlan_6 (by omega) _ _ ⟨fun _ => ⟨rfl, by rw [show k = i by omega]; exact hK⟩, fun c => absurd ?_ c⟩
      rw [hK.2.2.2 77 (by decide), h77]
      exact nI_le (by omega) (by omega)
    | succ m ih =>
      intro i K hi hK
      obtain ⟨q1, q2, q3, q4⟩ := hK
      obtain ⟨r1, r2, r3, r4⟩ := hrow i (by omega)
      have r1 : I 78 i = s (89 + i) := r1
      have r2 : I 79 i = s (97 + i) := r2
      obtain ⟨o1, o2, o3, o4, o5⟩ := plS_ok (w := w) ok i
      have nx := fun K2 (hK2 : gpR I K2 (plT s p i (plS s w p i))) => ih (i + 1) K2 (by omega) hK2
      have hS : plS s w p (i + 1) = plT s p i (plS s w p i) := rfl
      have ek0 : K 129 0 = nI p := (q3 0 (by decide)).trans hg.1
      refine r_C_followPlan_6 (by omega) _ _ ⟨fun c => absurd c ?_, fun _ => ⟨vp_in_nI (by omega) (by decide), vp_in_nI (by omega) (by decide), ?_⟩⟩
      · rw [q4 77 (by decide), h77]
        exact nI_ge (by omega) (by omega)
      rw [nI_clamp (by omega), q4 78 (by decide), q4 79 (by decide), r1, r2, ek0, nI_1]
      -- what a row does that is not a week
      have nxA : ∀ K2, ¬ s (89 + i) = 0 → gpR I K2 (plT s p i (plS s w p i)) → x_P E d 107 6 [.ref 64, .int (nI (plS s w p i).1), .int (nI (i + 1)), x_jk, x_jk] [] K2 (fun v K => v = none ∧ gpR I K (plS s w p k)) := by
        intro K2 c0 hK2
        have := nx K2 hK2
        have e1 : (plS s w p (i + 1)).1 = (plS s w p i).1 := by
          rw [hS]
          unfold plT
          rw [if_neg c0]
          split
          · split
            · rfl
            · split <;> rfl
          · rfl
        rw [e1] at this
        exact this
      have nxN : ¬ s (89 + i) = 0 → ¬ s (97 + i) = nI p → x_P E d 107 6 [.ref 64, .int (nI (plS s w p i).1), .int (nI (i + 1)), x_jk, x_jk] [] K (fun v K => v = none ∧ gpR I K (plS s w p k)) := by
        intro c0 cm
        refine nxA K c0 ?_
        unfold plT
        rw [if_neg c0, if_neg cm]
        exact ⟨q1, q2, q3, q4⟩
      have d4 : K 129 4 = (plS s w p i).2.1.1 := congrArg Prod.fst q1
      have d5 : K 129 5 = (plS s w p i).2.1.2.1 := congrArg (fun x => x.2.1) q1
      have d6 : K 129 6 = (plS s w p i).2.1.2.2 := congrArg (fun x => x.2.2) q1
      have nx1 : s (89 + i) = 1 → s (97 + i) = nI p → ∀ K2, K2 = x_up K 129 5 0 → x_P E d 107 6 [.ref 64, .int (nI (plS s w p i).1), .int (nI (i + 1)), x_jk, x_jk] [] K2 (fun v K => v = none ∧ gpR I K (plS s w p k)) := by
        intro e1 cm K2 e
        have g : K2 129 = su (K 129) 5 0 := by rw [e, up_su]
        refine nxA K2 (by rw [e1]; decide) ?_
        unfold plT
        rw [if_neg (by rw [e1]; decide), if_pos cm, if_pos e1]
        refine ⟨?_, by rw [g, su_ne (by decide)]; exact q2, fun f hf => by rw [g, su_ne (by omega)]; exact q3 f hf, q4.trans (by rw [e]; exact kp.up (by simp))⟩
        unfold dynC
        rw [g, su_ne (by decide), su_eq, su_ne (by decide), d4, d6]
      have nx2 : s (89 + i) = (2 : Int32) → s (97 + i) = nI p → ∀ K2, K2 = x_up K 129 6 0 → x_P E d 107 6 [.ref 64, .int (nI (plS s w p i).1), .int (nI (i + 1)), x_jk, x_jk] [] K2 (fun v K => v = none ∧ gpR I K (plS s w p k)) := by
        intro e1 cm K2 e
        have g : K2 129 = su (K 129) 6 0 := by rw [e, up_su]
        refine nxA K2 (by rw [e1]; decide) ?_
        unfold plT
        rw [if_neg (by rw [e1]; decide), if_pos cm, if_neg (by rw [e1]; decide), if_pos e1]
        refine ⟨?_, by rw [g, su_ne (by decide)]; exact q2, fun f hf => by rw [g, su_ne (by omega)]; exact q3 f hf, q4.trans (by rw [e]; exact kp.up (by simp))⟩
        unfold dynC
        rw [g, su_ne (by decide), su_ne (by decide), su_eq, d4, d5]
      have nx3 : s (89 + i) = (3 : Int32) → s (97 + i) = nI p → ∀ K2, K2 = x_up K 129 7 1 → x_P E d 107 6 [.ref 64, .int (nI (plS s w p i).1), .int (nI (i + 1)), x_jk, x_jk] [] K2 (fun v K => v = none ∧ gpR I K (plS s w p k)) := by
        intro e1 cm K2 e
        have g : K2 129 = su (K 129) 7 1 := by rw [e, up_su]
        refine nxA K2 (by rw [e1]; decide) ?_
        unfold plT
        rw [if_neg (by rw [e1]; decide), if_pos cm, if_neg (by rw [e1]; decide), if_neg (by rw [e1]; decide)]
        refine ⟨?_, by rw [g, su_eq], fun f hf => by rw [g, su_ne (by omega)]; exact q3 f hf, q4.trans (by rw [e]; exact kp.up (by simp))⟩
        unfold dynC
        rw [g, su_ne (by decide), su_ne (by decide), su_ne (by decide)]
        exact q1
      refine ⟨fun c0 => ?_, fun c0 => ⟨fun e1 => ⟨fun m => nx1 e1 m, fun nm => ⟨fun e2 => ⟨fun m => absurd m nm, fun _ => ⟨fun e3 => ⟨fun m => absurd m nm, fun _ => nxN c0 nm⟩, fun _ => nxN c0 nm⟩⟩, fun _ => ⟨fun e3 => ⟨fun m => absurd m nm, fun _ => nxN c0 nm⟩, fun _ => nxN c0 nm⟩⟩⟩,
        fun n1 => ⟨fun e2 => ⟨fun m => nx2 e2 m, fun nm => ⟨fun e3 => ⟨fun m => absurd m nm, fun _ => nxN c0 nm⟩, fun _ => nxN c0 nm⟩⟩, fun n2 => ⟨fun e3 => ⟨fun m => nx3 e3 m, fun nm => nxN c0 nm⟩, fun n3 => ?_⟩⟩⟩⟩
      · have e68 : K 68 = I 68 := q4 68 (by decide)
        have hsm : smC K 65 = smF s := by
          rw [smC_c (I := I) (q4 _ (by decide)) (q4 _ (by decide)) (q4 _ (by decide)) (q4 _ (by decide))]
          exact funext h.2.2.1.2.2.2.1
        refine (c_live (w := (plS s w p i).1) x_man_129 (tcW_c (I := I) (q4 _ (by decide)) (q4 _ (by decide)) h.2.2.1.2.1) (by rw [d4]; exact o2) (by rw [d6]; exact o4) (by rw [q2]; exact o5) (by omega) (by omega)).mono (fun v K2 hv => ?_)
        obtain ⟨hv, m1, m2, m3⟩ := hv
        rw [hv]
        refine r_C_followPlan_42 (by omega) _ _ ?_
        rw [nI_1, nI_1]
        have := nx K2 (by
          unfold plT
          rw [if_pos c0]
          refine ⟨?_, by rw [m2 7 (by decide) (by decide) (by decide)]; exact q2, fun f hf => by rw [m2 f (by omega) (by omega) (by omega)]; exact q3 f hf, q4.trans (m3.mono (by simp))⟩
          rw [m1]
          unfold stpR stp
          rw [e68, show I 68 0 = buM s from h.2.2.1.2.2.1, hsm, ek0, q3 1 (by decide), q3 2 (by decide), show I 129 1 = s (38 + p) from hg.2.1, show I 129 2 = s (44 + p) from hg.2.2.1, q2, q1, q4 (129 + 1) (by decide), hg.2.2.2.2.2.2 _ (Nat.mod_lt _ (by decide))])
        have e1 : (plS s w p (i + 1)).1 = (plS s w p i).1 + 1 := by
          rw [hS]
          unfold plT
          rw [if_pos c0]
        rw [e1] at this
        exact this
      · obtain ⟨a, ha, e⟩ := r3
        rw [e] at c0 n1 n2 n3
        match a, ha with
        | 0, _ => exact absurd rfl c0
        | 1, _ => exact absurd rfl n1
        | 2, _ => exact absurd rfl n2
        | 3, _ => exact absurd rfl n3
  have kk := key k 0 I (by omega) ⟨hg.2.2.2.2.1, hg.2.2.2.2.2.1, fun _ _ => rfl, kp.rfl'⟩
  rw [nI_0] at kk
  exact kk
end PLN
