/-! ===== one call to both: done ===== -/
/-- the week after i rows of the plan -/
def plW (s : Nat → Int32) (w : Nat) : Nat → Nat
  | 0 => w
  | i + 1 => if s (89 + i) = 0 then plW s w i + 1 else plW s w i
theorem plW_le {s : Nat → Int32} {w : Nat} : ∀ i, plW s w i ≤ w + i
  | 0 => Nat.le_refl _
  | i + 1 => by
    have := plW_le (s := s) (w := w) i
    show (if s (89 + i) = 0 then plW s w i + 1 else plW s w i) ≤ _
    split <;> omega
theorem plS_w {s : Nat → Int32} {w p : Nat} : ∀ i, (plS s w p i).1 = plW s w i
  | 0 => rfl
  | i + 1 => by
    have ih := plS_w (s := s) (w := w) (p := p) i
    show (plT s p i (plS s w p i)).1 = if s (89 + i) = 0 then plW s w i + 1 else plW s w i
    unfold plT
    by_cases c : s (89 + i) = 0
    · rw [if_pos c, if_pos c, ih]
    · rw [if_neg c, if_neg c]
      split
      · split
        · exact ih
        · split <;> exact ih
      · exact ih
theorem sumF_congr {f g : Nat → Int32} : ∀ n, (∀ k, k < n → f k = g k) → sumF f n = sumF g n := by
  intro n
  induction n with
  | zero => intro _; rfl
  | succ n ih =>
    intro h
    unfold sumF
    rw [ih (fun k hk => h k (by omega)), h n (by omega)]
/-- the model's state after i rows of the plan -/
def dnR (s t : Nat → Int32) (n w i : Nat) : Prop := t 0 = nI (plW s w i) ∧ (∀ p, p < n → dynM t p = (plS s w p i).2.1 ∧ t (19 + p) = (plS s w p i).2.2) ∧ ∀ j, 25 ≤ j → t j = s j
theorem dn_week {s t t' : Nat → Int32} {n w i : Nat} (hw : twM s) (hn : n ≤ 6) (h : dnR s t n w i) (c0 : s (89 + i) = 0) (g : goR t t' n (plW s w i) 1) : dnR s t' n w (i + 1) := by
  obtain ⟨h0, h1, h2⟩ := h
  obtain ⟨g0, g1, g2⟩ := g
  obtain ⟨_, e2, e3⟩ := tow_same (t := t) hw (h2 37 (by omega)) (fun q _ _ => ⟨h2 _ (by omega), h2 _ (by omega), fun j _ _ => h2 j (by omega)⟩)
  refine ⟨?_, fun p hp => ⟨?_, ?_⟩, fun j hj => (g1 j (by omega)).trans (h2 j hj)⟩
  · rw [g0]
    show _ = nI (if s (89 + i) = 0 then plW s w i + 1 else plW s w i)
    rw [if_pos c0]
  · rw [g2 p (by omega), if_pos hp]
    show stpM t (plW s w i) p (dynM t p) = (plT s p i (plS s w p i)).2.1
    unfold plT
    rw [if_pos c0]
    unfold stpM
    have ek : (fun k => t (50 + 4 * p + k)) = fun k => s (50 + 4 * p + k) := funext fun k => h2 _ (by omega)
    rw [e2, e3, (h1 p hp).1, (h1 p hp).2, h2 (38 + p) (by omega), h2 (44 + p) (by omega), plS_w, ek]
  · rw [g1 _ (by omega), (h1 p hp).2]
    show _ = (plT s p i (plS s w p i)).2.2
    unfold plT
    rw [if_pos c0]
theorem dn_man {s t : Nat → Int32} {n w i q e : Nat} {x : Int32} (hn : n ≤ 6) (hq : q < n) (h : dnR s t n w i) (hm : s (97 + i) = nI q) (he : (s (89 + i) = 1 ∧ e = 7 + q ∧ x = 0) ∨ (s (89 + i) = 2 ∧ e = 13 + q ∧ x = 0) ∨ (s (89 + i) = 3 ∧ e = 19 + q ∧ x = 1)) : dnR s (su t e x) n w (i + 1) := by
  obtain ⟨h0, h1, h2⟩ := h
  have c0 : ¬ s (89 + i) = 0 := by rcases he with a | a | a <;> rw [a.1] <;> decide
  have e7 : 7 ≤ e ∧ e < 25 := by rcases he with a | a | a <;> omega
  refine ⟨?_, fun p hp => ?_, fun j hj => (su_ne (by omega)).trans (h2 j hj)⟩
  · rw [su_ne (by omega), h0]
    show _ = nI (if s (89 + i) = 0 then plW s w i + 1 else plW s w i)
    rw [if_neg c0]
  · obtain ⟨k1, k2⟩ := h1 p hp
    have k4 : t (1 + p) = (plS s w p i).2.1.1 := congrArg Prod.fst k1
    have k5 : t (7 + p) = (plS s w p i).2.1.2.1 := congrArg (fun x => x.2.1) k1
    have k6 : t (13 + p) = (plS s w p i).2.1.2.2 := congrArg (fun x => x.2.2) k1
    show dynM (su t e x) p = (plT s p i (plS s w p i)).2.1 ∧ su t e x (19 + p) = (plT s p i (plS s w p i)).2.2
    unfold plT
    rw [if_neg c0]
    by_cases hpq : p = q
    · subst hpq
      rw [if_pos hm]
      unfold dynM
      rcases he with ⟨a, b, c⟩ | ⟨a, b, c⟩ | ⟨a, b, c⟩
      · rw [if_pos a, b, c, su_eq, su_ne (by omega), su_ne (by omega), su_ne (by omega), k4, k6, k2]
        exact ⟨rfl, rfl⟩
      · rw [if_neg (by rw [a]; decide), if_pos a, b, c, su_eq, su_ne (by omega), su_ne (by omega), su_ne (by omega), k4, k5, k2]
        exact ⟨rfl, rfl⟩
      · rw [if_neg (by rw [a]; decide), if_neg (by rw [a]; decide), b, c, su_eq, su_ne (by omega), su_ne (by omega), su_ne (by omega), k4, k5, k6]
        exact ⟨rfl, rfl⟩
    · rw [if_neg (by rw [hm]; intro g; exact hpq ((nI_eq (by omega) (by omega)).mp g).symm)]
      unfold dynM
      rw [su_ne (by omega), su_ne (by omega), su_ne (by omega), su_ne (by omega)]
      exact ⟨k1, k2⟩
section OPN
variable {E : XE} {d : Nat} {I : Nat → Nat → Int32} {s : Nat → Int32} {n w : Nat}
theorem c_goesBy {K : Nat → Nat → Int32} {i : Nat} (h : dnR s (K 143) n w i) (hn : n ≤ 6) (hw : twM s) (h31 : s 31 = nI n) (hwk : plW s w i + 1 < 2 ^ 31)
    (hr : s (89 + i) = 0 ∨ ((s (89 + i) = 1 ∨ s (89 + i) = 2 ∨ s (89 + i) = 3) ∧ ∃ q, q < n ∧ s (97 + i) = nI q)) (hd : 6 ≤ d) :
    x_K E d 173 [.ref 142, .int (s (89 + i)), .int (s (97 + i))] K (fun v K2 => v = none ∧ dnR s (K2 143) n w (i + 1) ∧ kp [143, 146, 147] K K2) := by
  have one : ∀ q e x, q < n → s (97 + i) = nI q → ((s (89 + i) = 1 ∧ e = 7 + q ∧ x = 0) ∨ (s (89 + i) = 2 ∧ e = 13 + q ∧ x = 0) ∨ (s (89 + i) = 3 ∧ e = 19 + q ∧ x = 1)) → ∀ K2, K2 = x_up K 143 e x → ((none : Option Value) = none ∧ dnR s (K2 143) n w (i + 1) ∧ kp [143, 146, 147] K K2) := by
    intro q e x hq hm he K2 e2
    subst e2
    refine ⟨rfl, ?_, kp.up (by simp)⟩
    rw [up_su]
    exact dn_man hn hq h hm he
  refine x_K.of (by decide) (by decide) rfl rfl rfl (r_M_goesBy_0 (by omega) _ _ ?_)
  rcases hr with c0 | ⟨cc, q, hq, hm⟩
  · rw [c0]
    refine ⟨fun _ => ?_, fun c => absurd c (by decide), fun c => absurd c (by decide), fun c => absurd rfl c⟩
    obtain ⟨_, e2, e3⟩ := tow_same (t := K 143) hw (h.2.2 37 (by omega)) (fun q _ _ => ⟨h.2.2 _ (by omega), h.2.2 _ (by omega), fun j _ _ => h.2.2 j (by omega)⟩)
    have hwt := (tow_same (t := K 143) hw (h.2.2 37 (by omega)) (fun q _ _ => ⟨h.2.2 _ (by omega), h.2.2 _ (by omega), fun j _ _ => h.2.2 j (by omega)⟩)).1
    refine (c_goes (k := 0) (w := plW s w i) hn hwt (goR_0 h.1) (by rw [h.2.2 31 (by omega)]; exact h31) (by omega) (by omega)).mono (fun v K2 hv => ?_)
    obtain ⟨hv, g, k1⟩ := hv
    rw [hv]
    exact r_M_goesBy_4 (by omega) ⟨rfl, dn_week hw hn h c0 g, k1⟩
  · rw [hm]
    rcases cc with a | a | a
    · rw [a]
      refine ⟨fun c => absurd c (by decide), fun _ => ⟨vi_c (c' := 7) rfl (by omega) (by decide), ?_⟩, fun c => absurd c (by decide), fun _ c => absurd rfl c⟩
      rw [ix_c (c := 7) (c' := 7) rfl (by omega)]
      exact one q (7 + q) 0 hq hm (Or.inl ⟨a, rfl, rfl⟩)
    · rw [a]
      refine ⟨fun c => absurd c (by decide), fun c => absurd c (by decide), fun _ => ⟨vi_c (c' := 13) rfl (by omega) (by decide), ?_⟩, fun _ _ c => absurd rfl c⟩
      rw [ix_c (c := 13) (c' := 13) rfl (by omega)]
      exact one q (13 + q) 0 hq hm (Or.inr (Or.inl ⟨a, rfl, rfl⟩))
    · rw [a]
      refine ⟨fun c => absurd c (by decide), fun c => absurd c (by decide), fun c => absurd c (by decide), fun _ _ _ => ⟨vi_c (c' := 19) rfl (by omega) (by decide), ?_⟩⟩
      rw [ix_c (c := 19) (c' := 19) rfl (by omega)]
      exact one q (19 + q) 1 hq hm (Or.inr (Or.inr ⟨a, rfl, rfl⟩))
theorem op_done {a1 : Int32} (h : RW I 65 s n w) (hd : 20 ≤ d) : op2 E d I s 85 175 [.int a1] := by
  have hn := h.1.1
  have hw := h.1.2.1
  have h65 := h.1.2.2.2.2.1
  have h31 := h.1.2.2.1
  by_cases hin : 0 ≤ a1 ∧ a1 ≤ 1
  · obtain ⟨k, hk8, h34, h77, hrow⟩ := h.2.2.2.2.2.1
    have hplr : plnR I 65 s n := h.2.2.2.2.2.1
    generalize hc : (fun p => decide ((plS s w p k).2.1.2.2 = 1)) = c
    generalize hg : (fun p => (plS s w p k).2.1.2.1) = g
    refine ⟨.int (if a1 = 0 then orF c n else sumF g n), s, n, w, x_K.of (by decide) (by decide) rfl rfl rfl (r_C_done_0 (by omega) _ ⟨fun _ => ?_, fun g => absurd hin g⟩), fun J hJ => x_K.of (by decide) (by decide) rfl rfl rfl (r_M_done_0 (by omega) _ ⟨fun _ => (c_keeps (by omega)).mono (fun v J1 hv => ?_), fun g => absurd hin g⟩)⟩
    · have key : ∀ m j (K : Nat → Nat → Int32), j + m = n → kp [72, 129, 130] I K → x_P E d 85 12 [.ref 64, .int a1, .int (orF c j), .int (sumF g j), .int (nI j)] [] K (fun v K => v = some (.int (if a1 = 0 then orF c n else sumF g n)) ∧ RW K 65 s n w ∧ ckp I K) := by
        intro m
        induction m with
        | zero =>
          intro j K hj k1
          refine r_C_done_12 (by omega) _ _ _ _ ⟨fun _ => ⟨by rw [show j = n by omega], RW_kp (wkp_of k1 (by decide)) h, ckp_of k1 (by decide)⟩, fun g => absurd ?_ g⟩
          rw [k1 65 (by decide), h65]
          exact nI_le (by omega) (by omega)
        | succ m ih =>
          intro j K hj k1
          have hK : RW K 65 s n w := RW_kp (wkp_of k1 (by decide)) h
          refine r_C_done_12 (by omega) _ _ _ _ ⟨fun g => absurd g ?_, fun _ => ⟨vp_in_nI (by omega) (by decide), ?_⟩⟩
          · rw [k1 65 (by decide), h65]
            exact nI_ge (by omega) (by omega)
          rw [nI_clamp (by omega)]
          refine (c_ghost hK (p := j) (by omega) (by omega)).mono (fun v K2 hv => ?_)
          obtain ⟨hv, hg2, k2⟩ := hv
          rw [hv]
          have hK2 : RW K2 65 s n w := RW_kp (wkp_of k2 (by decide)) hK
          obtain ⟨k', hk', e', hf⟩ := c_follow (E := E) (d := d - 1) (p := j) hK2 hg2 (h.2.1.1 j (by omega)).2 (by omega) (by omega)
          have ek : k' = k := (nI_eq (by omega) (by omega)).mp (e'.symm.trans h34)
          subst ek
          refine r_C_done_25 (by omega) _ _ _ _ (hf.mono (fun v K3 hv => ?_))
          obtain ⟨hv, q1, q2, q3, q4⟩ := hv
          rw [hv]
          obtain ⟨o1, o2, o3, o4, o5⟩ := plS_ok (w := w) (h.2.1.1 j (by omega)).2 k'
          have d5 : K3 129 5 = g j := (congrArg (fun x => x.2.1) q1).trans (by rw [← hg])
          have d6 : K3 129 6 = (plS s w j k').2.1.2.2 := congrArg (fun x => x.2.2) q1
          refine r_C_done_27 (by omega) _ _ _ _ (fun z hz => ?_)
          rw [d6] at hz
          rw [d5, nI_1, orF_bit (c := c) (j := j) (z := z) ?_]
          · exact ih (j + 1) K3 (by omega) ((k1.trans (k2.mono (by simp))).trans (q4.mono (by simp)))
          · rw [hz, ← hc]
            rcases o4 with e | e
            · rw [if_pos e, if_neg (by simp [e])]
            · rw [if_neg (by rw [e]; decide), if_pos (by simp [e])]
      have kk := key n 0 I (by omega) kp.rfl'
      rw [nI_0] at kk
      exact kk
    · subst hJ
      obtain ⟨hv, q145, k1⟩ := hv
      rw [hv]
      refine r_M_done_9 (by omega) _ ?_
      have back : ∀ (K : Nat → Nat → Int32) (i : Nat) (Q : Option Value → (Nat → Nat → Int32) → Prop), kp [143, 145, 146, 147] J K → (∀ j, j < 31 → K 145 j = J 143 j) → dnR (J 143) (K 143) n w i →
          (∀ K2, K2 143 = J 143 → mkp J K2 → Q none K2) → x_K E (d - 1) 113 [.ref 142] K Q := by
        intro K i Q kk b145 hK hQ
        refine (m_back b145 (fun j hj => hK.2.2 j (by omega)) kk (by omega)).mono (fun v K2 hv => ?_)
        obtain ⟨hv, e1, e2⟩ := hv
        rw [hv]
        exact hQ K2 e1 (mkp_of e2 (by decide))
      have key : ∀ m i (K : Nat → Nat → Int32), i + m = k → kp [143, 145, 146, 147] J K → (∀ j, j < 31 → K 145 j = J 143 j) → dnR (J 143) (K 143) n w i →
          x_P E d 175 11 [.ref 142, .int a1, .int (nI i)] [] K (fun v K => v = some (.int (if a1 = 0 then orF c n else sumF g n)) ∧ K 143 = J 143 ∧ mkp J K) := by
        intro m
        induction m with
        | zero =>
          intro i K hi kk b145 hK
          have ei : i = k := by omega
          subst ei
          have hd1 : ∀ p, p < n → dynM (K 143) p = (plS (J 143) w p i).2.1 := fun p hp => (hK.2.1 p hp).1
          have k31 : K 143 31 = nI n := (hK.2.2 31 (by omega)).trans h31
          refine r_M_done_11 (by omega) _ _ ⟨fun _ => ⟨fun a0 => ?_, fun a0 => ?_⟩, fun g => absurd ?_ g⟩
          · have e13 : ∀ p, p < n → K 143 (13 + p) = (plS (J 143) w p i).2.1.2.2 := fun p hp => congrArg (fun x => x.2.2) (hd1 p hp)
            refine (c_ones (c := 13) (n := n) hn k31 (by decide) (fun p hp => ?_) (by omega)).pu ?_
            · rw [e13 p hp]
              exact (plS_ok (w := w) (h.2.1.1 p hp).2 i).2.2.2.1
            · refine r_M_done_38 (by omega) _ (back K i _ kk b145 hK (fun K2 f1 f2 => r_M_done_44 (by omega) _ ⟨?_, f1, f2⟩))
              rw [if_pos a0, ← hc]
              rw [orF_congr n (fun p hp => by rw [e13 p hp])]
          · have e7 : ∀ p, p < n → K 143 (7 + p) = (plS (J 143) w p i).2.1.2.1 := fun p hp => congrArg (fun x => x.2.1) (hd1 p hp)
            refine (c_heights (n := n) hn k31 (by omega)).pu ?_
            refine r_M_done_41 (by omega) _ (back K i _ kk b145 hK (fun K2 f1 f2 => r_M_done_44 (by omega) _ ⟨?_, f1, f2⟩))
            rw [if_neg a0, ← hg]
            rw [sumF_congr n (fun p hp => e7 p hp)]
          · rw [hK.2.2 34 (by omega), h34]
            exact nI_le (by omega) (by omega)
        | succ m ih =>
          intro i K hi kk b145 hK
          refine r_M_done_11 (by omega) _ _ ⟨fun g => absurd g ?_, fun _ => ⟨vi_c (c' := 89) rfl (by omega) (by decide), vi_c (c' := 97) rfl (by omega) (by decide), ?_⟩⟩
          · rw [hK.2.2 34 (by omega), h34]
            exact nI_ge (by omega) (by omega)
          rw [ix_c (c := 89) (c' := 89) rfl (by omega), ix_c (c := 97) (c' := 97) rfl (by omega), hK.2.2 (89 + i) (by omega), hK.2.2 (97 + i) (by omega)]
          obtain ⟨r1, r2, ⟨a, ha, e⟩, r4⟩ := hrow i (by omega)
          refine (c_goesBy hK hn h.2.2.1.1 h31 (by have := plW_le (s := J 143) (w := w) i; omega) ?_ (by omega)).mono (fun v K2 hv => ?_)
          · rcases r4 with r4 | r4
            · exact Or.inl r4
            · match a, ha with
              | 0, _ => exact Or.inl e
              | 1, _ => exact Or.inr ⟨Or.inl e, r4⟩
              | 2, _ => exact Or.inr ⟨Or.inr (Or.inl e), r4⟩
              | 3, _ => exact Or.inr ⟨Or.inr (Or.inr e), r4⟩
          · obtain ⟨hv, hK2, k2⟩ := hv
            rw [hv]
            refine r_M_done_31 (by omega) _ _ ?_
            rw [nI_1]
            exact ih (i + 1) K2 (by omega) (kk.trans (k2.mono (by simp))) (fun j hj => by rw [k2 145 (by simp)]; exact b145 j hj) hK2
      have kk := key k 0 J1 (by omega) (k1.mono (by simp)) q145 ⟨by rw [k1 143 (by simp)]; exact h.1.2.2.2.1, fun p hp => by rw [k1 143 (by simp)]; exact ⟨rfl, rfl⟩, fun j hj => by rw [k1 143 (by simp)]⟩
      rw [nI_0] at kk
      exact kk
  · refine ⟨.int (-1), s, n, w, x_K.of (by decide) (by decide) rfl rfl rfl (r_C_done_0 (by omega) _ ⟨fun g => absurd g hin, fun _ => ⟨rfl, h, ckp.rfl'⟩⟩), fun J hJ => x_K.of (by decide) (by decide) rfl rfl rfl (r_M_done_0 (by omega) _ ⟨fun g => absurd g hin, fun _ => ⟨rfl, hJ, mkp.rfl'⟩⟩)⟩
end OPN
