/-! ===== one call to both: man's fields ===== -/
def su (s : Nat → Int32) (k : Nat) (x : Int32) : Nat → Int32 := fun j => if j = k then x else s j
theorem su_eq {s : Nat → Int32} {k : Nat} {x : Int32} : su s k x k = x := if_pos rfl
theorem su_ne {s : Nat → Int32} {k j : Nat} {x : Int32} (h : j ≠ k) : su s k x j = s j := if_neg h
theorem up_su {I : Nat → Nat → Int32} {q k : Nat} {x : Int32} : x_up I q k x q = su (I q) k x := up_eq
/-- cells that no call to the class changes (image and act aside) -/
def ckp (I J : Nat → Nat → Int32) : Prop := J 64 = I 64 ∧ J 141 0 = I 141 0 ∧ ∀ q, 97 ≤ q → ¬ (129 ≤ q ∧ q < 138) → q ≠ 140 → q ≠ 141 → J q = I q
/-- cells that no call to the model changes (image and act aside) -/
def mkp (I J : Nat → Nat → Int32) : Prop := (∀ q, q < 142 → J q = I q) ∧ J 144 = I 144 ∧ J 150 = I 150 ∧ J 142 4 = I 142 4 ∧ J 142 16 = I 142 16
theorem ckp.rfl' {I : Nat → Nat → Int32} : ckp I I := ⟨rfl, rfl, fun _ _ _ _ _ => rfl⟩
theorem mkp.rfl' {I : Nat → Nat → Int32} : mkp I I := ⟨fun _ _ => rfl, rfl, rfl, rfl, rfl⟩
theorem ckp_of {I J : Nat → Nat → Int32} {l : List Nat} (k : kp l I J) (h : (l.all fun q => decide (q ≠ 64) && (decide (q < 97) || (decide (129 ≤ q) && decide (q < 138)) || decide (q = 140))) = true) : ckp I J := by
  refine ⟨k 64 (fun hq => ?_), congrFun (k 141 (fun hq => ?_)) 0, fun q h1 h2 h3 h4 => k q (fun hq => ?_)⟩
  · have := List.all_eq_true.mp h 64 hq
    simp at this
  · have := List.all_eq_true.mp h 141 hq
    simp at this
  · have := List.all_eq_true.mp h q hq
    simp at this
    omega
theorem mkp_of {I J : Nat → Nat → Int32} {l : List Nat} (k : kp l I J) (h : (l.all fun q => decide (143 ≤ q) && decide (q ≠ 144) && decide (q ≠ 150)) = true) : mkp I J := by
  have hh : ∀ q, q < 143 ∨ q = 144 ∨ q = 150 → J q = I q := fun q h1 => k q (fun hq => by
    have := List.all_eq_true.mp h q hq
    simp at this
    omega)
  exact ⟨fun q hq => hh q (by omega), hh _ (by omega), hh _ (by omega), by rw [hh 142 (by omega)], by rw [hh 142 (by omega)]⟩
def VyI : Type := {a : Value // ∃ z : Int32, a = .int z}
abbrev VyI.int (z : Int32) : VyI := ⟨.int z, z, rfl⟩
abbrev VyI.v (a : VyI) : Value := Subtype.val a
def VyL : Type := {a : Value // ∃ z : Int64, a = .long z}
abbrev VyL.long (z : Int64) : VyL := ⟨.long z, z, rfl⟩
abbrev VyL.v (a : VyL) : Value := Subtype.val a
def op2 (E : XE) (d : Nat) (I : Nat → Nat → Int32) (s : Nat → Int32) (m1 m2 : Nat) (as : List Value) : Prop :=
  ∃ (a : VyI) (s' : Nat → Int32) (n' w' : Nat), x_K E d m1 (.ref 64 :: as) I (fun v J => v = some a.v ∧ RW J 65 s' n' w' ∧ ckp I J) ∧ ∀ J, J 143 = s → x_K E d m2 (.ref 142 :: as) J (fun v K => v = some a.v ∧ K 143 = s' ∧ mkp J K)
def op2L (E : XE) (d : Nat) (I : Nat → Nat → Int32) (s : Nat → Int32) (m1 m2 : Nat) (as : List Value) : Prop :=
  ∃ (a : VyL) (s' : Nat → Int32) (n' w' : Nat), x_K E d m1 (.ref 64 :: as) I (fun v J => v = some a.v ∧ RW J 65 s' n' w' ∧ ckp I J) ∧ ∀ J, J 143 = s → x_K E d m2 (.ref 142 :: as) J (fun v K => v = some a.v ∧ K 143 = s' ∧ mkp J K)
/-- an index of man q's -/
def mix (q j : Nat) : Prop := j = 1 + q ∨ j = 7 + q ∨ j = 13 + q ∨ j = 19 + q ∨ j = 25 + q ∨ j = 38 + q ∨ j = 44 + q ∨ (50 + 4 * q ≤ j ∧ j < 54 + 4 * q)
theorem mnR_q {I J : Nat → Nat → Int32} {r q : Nat} {s t : Nat → Int32} (h1 : J r = I r) (h2 : J (r + 1) = I (r + 1)) (h3 : ∀ j, mix q j → t j = s j) (h : mnR I r s q) : mnR J r t q := by
  unfold mnR dynC dynM at h ⊢
  unfold mix at h3
  rw [h1, h2, h3 (38 + q) (by omega), h3 (44 + q) (by omega), h3 (25 + q) (by omega), h3 (1 + q) (by omega), h3 (7 + q) (by omega), h3 (13 + q) (by omega), h3 (19 + q) (by omega)]
  exact ⟨h.1, h.2.1, h.2.2.1, h.2.2.2.1, h.2.2.2.2.1, h.2.2.2.2.2.1, fun k hk => by rw [h3 _ (by omega)]; exact h.2.2.2.2.2.2 k hk⟩
theorem mnOK_q {q : Nat} {s t : Nat → Int32} (h3 : ∀ j, mix q j → t j = s j) (h : mnOK s q) : mnOK t q := by
  unfold mnOK at h ⊢
  unfold mix at h3
  rw [h3 (38 + q) (by omega), h3 (44 + q) (by omega), h3 (25 + q) (by omega), h3 (1 + q) (by omega), h3 (7 + q) (by omega), h3 (13 + q) (by omega), h3 (19 + q) (by omega)]
  exact h
/-- only man p is another -/
theorem RW_man {I J : Nat → Nat → Int32} {s t : Nat → Int32} {n w n' w' p : Nat} (h : RW I 65 s n w) (hn : n ≤ n') (hh : hdR J 65 t n' w') (hpq : ∀ q, q < n' → q ≠ p → q < n) (hp : p < n')
    (kJ : kp [65, 72, 129, 130, 85 + 2 * p, 86 + 2 * p] I J) (h4 : J 65 4 = I 65 4) (h6 : J 65 6 = I 65 6) (hs : ∀ j, 1 ≤ j → j ≠ 31 → ¬ mix p j → t j = s j) (hm : mnR J (85 + 2 * p) t p) (ok : mnOK t p) : RW J 65 t n' w' := by
  have hp6 : p < 6 := by have := hh.1; omega
  obtain ⟨a1, a2, a3, a4, a5, a6, a7⟩ := h
  have kc : ∀ q, 66 ≤ q → q < 85 → q ≠ 72 → J q = I q := fun q h1 h2 h3 => kJ q (by simp; omega)
  have hs' : ∀ j, 32 ≤ j → j < 38 ∨ 74 ≤ j → t j = s j := fun j h1 h2 => hs j (by omega) (by omega) (by unfold mix; omega)
  refine ⟨hh, ⟨fun q hq => ?_, fun q hq => ?_⟩, ?_, ?_, ?_, ?_, ?_⟩
  · by_cases e : q = p
    · subst e
      exact ⟨hm, ok⟩
    · have hqn : q < n := hpq q hq e
      have hq6 : q < 6 := by have := hh.1; omega
      have hx : ∀ j, mix q j → t j = s j := fun j hj => by
        unfold mix at hj
        exact hs j (by omega) (by omega) (by unfold mix; omega)
      exact ⟨mnR_q (kJ _ (by simp; omega)) (kJ _ (by simp; omega)) hx (a2.1 q hqn).1, mnOK_q hx (a2.1 q hqn).2⟩
  · by_cases e : q = p
    · subst e
      have e6 := (mnR_dyn hm).2.2
      have e7 := hm.2.2.2.2.2.1
      show b1 (J (85 + 2 * q) 6) ∧ b1 (J (85 + 2 * q) 7)
      rw [e6, e7]
      exact ⟨ok.2.2.2.2.2.1, ok.2.2.2.2.2.2⟩
    · rw [kJ (65 + 20 + 2 * q) (by simp; omega)]
      exact a2.2 q hq
  · exact towR_c ⟨kc _ (by omega) (by omega) (by omega), kc _ (by omega) (by omega) (by omega), kc _ (by omega) (by omega) (by omega), kc _ (by omega) (by omega) (by omega)⟩ h6 (hs' _ (by omega) (by omega)) (hs' _ (by omega) (by omega)) (fun j hj => hs' j (by omega) (by omega)) a3
  · exact tapR_c (kc _ (by omega) (by omega) (by omega)) h4 (hs' _ (by omega) (by omega)) (fun j hj _ => hs' j (by omega) (by omega)) a4
  · exact senR_c hn (kc _ (by omega) (by omega) (by omega)) (kc _ (by omega) (by omega) (by omega)) (kc _ (by omega) (by omega) (by omega)) (kc _ (by omega) (by omega) (by omega)) (hs' _ (by omega) (by omega)) (fun j hj _ => hs' j (by omega) (by omega)) a5
  · exact plnR_c hn (kc _ (by omega) (by omega) (by omega)) (kc _ (by omega) (by omega) (by omega)) (kc _ (by omega) (by omega) (by omega)) (hs' _ (by omega) (by omega)) (fun j hj _ => hs' j (by omega) (by omega)) a6
  · exact bokR_c hn (kc _ (by omega) (by omega) (by omega)) (kc _ (by omega) (by omega) (by omega)) (kc _ (by omega) (by omega) (by omega)) (hs' _ (by omega) (by omega)) (fun j hj _ => hs' j (by omega) (by omega)) a7
def fo (fld off : Nat) : Prop := (fld = 3 ∧ off = 25) ∨ (fld = 4 ∧ off = 1) ∨ (fld = 5 ∧ off = 7) ∨ (fld = 6 ∧ off = 13) ∨ (fld = 7 ∧ off = 19)
theorem mnR_su {I : Nat → Nat → Int32} {r p fld off : Nat} {s : Nat → Int32} {x : Int32} (hp : p < 6) (hf : fo fld off) (h : mnR I r s p) : mnR (x_up I r fld x) r (su s (off + p) x) p := by
  obtain ⟨g4, g5, g6⟩ := mnR_dyn h
  obtain ⟨g0, g1, g2, g3, -, g7, g8⟩ := h
  have gr : ∀ k, k < 4 → x_up I r fld x (r + 1) k = su s (off + p) x (50 + 4 * p + k) := fun k hk => by
    rw [up_ne (by omega), su_ne (by unfold fo at hf; omega)]
    exact g8 k hk
  unfold mnR dynC dynM
  rw [up_su]
  rcases hf with ⟨rfl, rfl⟩ | ⟨rfl, rfl⟩ | ⟨rfl, rfl⟩ | ⟨rfl, rfl⟩ | ⟨rfl, rfl⟩
  · refine ⟨?_, ?_, ?_, ?_, ?_, ?_, gr⟩
    · rw [su_ne (by decide)]; exact g0
    · rw [su_ne (by decide), su_ne (by omega)]; exact g1
    · rw [su_ne (by decide), su_ne (by omega)]; exact g2
    · rw [su_eq, su_eq]
    · rw [su_ne (by decide), su_ne (by decide), su_ne (by decide), su_ne (by omega), su_ne (by omega), su_ne (by omega), g4, g5, g6]
    · rw [su_ne (by decide), su_ne (by omega)]; exact g7
  · refine ⟨?_, ?_, ?_, ?_, ?_, ?_, gr⟩
    · rw [su_ne (by decide)]; exact g0
    · rw [su_ne (by decide), su_ne (by omega)]; exact g1
    · rw [su_ne (by decide), su_ne (by omega)]; exact g2
    · rw [su_ne (by decide), su_ne (by omega)]; exact g3
    · rw [su_eq, su_eq, su_ne (by decide), su_ne (by decide), su_ne (by omega), su_ne (by omega), g5, g6]
    · rw [su_ne (by decide), su_ne (by omega)]; exact g7
  · refine ⟨?_, ?_, ?_, ?_, ?_, ?_, gr⟩
    · rw [su_ne (by decide)]; exact g0
    · rw [su_ne (by decide), su_ne (by omega)]; exact g1
    · rw [su_ne (by decide), su_ne (by omega)]; exact g2
    · rw [su_ne (by decide), su_ne (by omega)]; exact g3
    · rw [su_eq, su_eq, su_ne (by decide), su_ne (by decide), su_ne (by omega), su_ne (by omega), g4, g6]
    · rw [su_ne (by decide), su_ne (by omega)]; exact g7
  · refine ⟨?_, ?_, ?_, ?_, ?_, ?_, gr⟩
    · rw [su_ne (by decide)]; exact g0
    · rw [su_ne (by decide), su_ne (by omega)]; exact g1
    · rw [su_ne (by decide), su_ne (by omega)]; exact g2
    · rw [su_ne (by decide), su_ne (by omega)]; exact g3
    · rw [su_eq, su_eq, su_ne (by decide), su_ne (by decide), su_ne (by omega), su_ne (by omega), g4, g5]
    · rw [su_ne (by decide), su_ne (by omega)]; exact g7
  · refine ⟨?_, ?_, ?_, ?_, ?_, ?_, gr⟩
    · rw [su_ne (by decide)]; exact g0
    · rw [su_ne (by decide), su_ne (by omega)]; exact g1
    · rw [su_ne (by decide), su_ne (by omega)]; exact g2
    · rw [su_ne (by decide), su_ne (by omega)]; exact g3
    · rw [su_ne (by decide), su_ne (by decide), su_ne (by decide), su_ne (by omega), su_ne (by omega), su_ne (by omega), g4, g5, g6]
    · rw [su_eq, su_eq]
def fok (off : Nat) (x : Int32) : Prop := (off = 25 → upto x 9) ∧ (off = 1 → u8 x) ∧ (off = 7 → upto x 99) ∧ (off = 13 → b1 x) ∧ (off = 19 → b1 x)
theorem mnOK_su {p fld off : Nat} {s : Nat → Int32} {x : Int32} (hp : p < 6) (hf : fo fld off) (hx : fok off x) (h : mnOK s p) : mnOK (su s (off + p) x) p := by
  obtain ⟨x25, x1, x7, x13, x19⟩ := hx
  obtain ⟨g1, g2, g3, g4, g5, g6, g7⟩ := h
  unfold mnOK
  rcases hf with ⟨rfl, rfl⟩ | ⟨rfl, rfl⟩ | ⟨rfl, rfl⟩ | ⟨rfl, rfl⟩ | ⟨rfl, rfl⟩
  · rw [su_eq, su_ne (by omega), su_ne (by omega), su_ne (by omega), su_ne (by omega), su_ne (by omega), su_ne (by omega)]
    exact ⟨g1, g2, x25 rfl, g4, g5, g6, g7⟩
  · rw [su_eq, su_ne (by omega), su_ne (by omega), su_ne (by omega), su_ne (by omega), su_ne (by omega), su_ne (by omega)]
    exact ⟨g1, g2, g3, x1 rfl, g5, g6, g7⟩
  · rw [su_eq, su_ne (by omega), su_ne (by omega), su_ne (by omega), su_ne (by omega), su_ne (by omega), su_ne (by omega)]
    exact ⟨g1, g2, g3, g4, x7 rfl, g6, g7⟩
  · rw [su_eq, su_ne (by omega), su_ne (by omega), su_ne (by omega), su_ne (by omega), su_ne (by omega), su_ne (by omega)]
    exact ⟨g1, g2, g3, g4, g5, x13 rfl, g7⟩
  · rw [su_eq, su_ne (by omega), su_ne (by omega), su_ne (by omega), su_ne (by omega), su_ne (by omega), su_ne (by omega)]
    exact ⟨g1, g2, g3, g4, g5, g6, x19 rfl⟩
theorem upto_of {x M : Int32} {m : Nat} (hM : M.toInt = m) (h : 0 ≤ x ∧ x ≤ M) : upto x m := by
  obtain ⟨j, h1, h2⟩ := nI_of2 hM ((ge_0 x).mp h.1) h.2
  exact ⟨j, h1, h2⟩
/-- the world behind one field set -/
theorem RW_fld {I : Nat → Nat → Int32} {s : Nat → Int32} {n w p fld off : Nat} {x : Int32} (h : RW I 65 s n w) (hp : p < n) (hf : fo fld off) (hx : fok off x) : RW (x_up I (85 + 2 * p) fld x) 65 (su s (off + p) x) n w ∧ ckp I (x_up I (85 + 2 * p) fld x) := by
  have hn := h.1.1
  have e65 : x_up I (85 + 2 * p) fld x 65 = I 65 := up_ne (by omega)
  have k : kp [65, 72, 129, 130, 85 + 2 * p, 86 + 2 * p] I (x_up I (85 + 2 * p) fld x) := kp.up (by simp)
  refine ⟨RW_man (p := p) h (Nat.le_refl _) (hdR_c (by rw [e65]) (by rw [e65]) (su_ne (by unfold fo at hf; omega)) (su_ne (by unfold fo at hf; omega)) h.1) (fun q hq _ => hq) hp k (by rw [e65]) (by rw [e65]) (fun j h1 h2 h3 => su_ne (by unfold mix at h3; unfold fo at hf; omega)) (mnR_su (by omega) hf (h.2.1.1 p hp).1) (mnOK_su (by omega) hf hx (h.2.1.1 p hp).2), up_ne (by omega), by rw [up_ne (by omega)], fun q h1 h2 h3 h4 => up_ne (by omega)⟩
section OPA
variable {E : XE} {d : Nat} {I : Nat → Nat → Int32} {s : Nat → Int32} {n w : Nat}
theorem x_bi_b1 {c : Prop} [Decidable c] : b1 (x_bi c) := by
  by_cases h : c
  · rw [x_bi_t h]; exact Or.inr rfl
  · rw [x_bi_f h]; exact Or.inl rfl
theorem bi_b1 {x : Int32} (h : b1 x) : x_bi (¬ x = 0) = x := by
  rcases h with h | h <;> rw [h] <;> rfl
theorem op_stud {a1 a2 : Int32} (h : RW I 65 s n w) (h2 : b1 a2) (hd : 20 ≤ d) : op2 E d I s 69 142 [.int a1, .int a2] := by
  have hn := h.1.1
  rcases mn_cases a1 hn with ⟨p, hp, rfl, hin⟩ | ⟨hno, hno2⟩
  · obtain ⟨hR, hk⟩ := RW_fld (p := p) (fld := 6) (off := 13) (x := a2) h hp (by unfold fo; omega) ⟨by simp, by simp, by simp, fun _ => h2, by simp⟩
    refine ⟨.int (s (13 + p)), su s (13 + p) a2, n, w, x_K.of (by decide) (by decide) rfl rfl rfl (r_C_stud_0 (by omega) _ _ ((c_find1 h.1.2.2.2.2.1 hn hp (by omega)).pu (r_C_stud_4 (by omega) _ _ (x_man_now (by omega)).1 ⟨b1_fit h2, fun I3 e3 => ?_⟩))), fun J hJ => x_K.of (by decide) (by decide) rfl rfl rfl (r_M_stud_0 (by omega) _ _ ?_)⟩
    · have e6 := (mnR_dyn (h.2.1.1 p hp).1).2.2
      rw [show I (85 + 2 * p) 6 = s (13 + p) from e6, bi_b1 (h.2.1.1 p hp).2.2.2.2.2.2.1, e3]
      exact ⟨rfl, hR, hk⟩
    · rw [hJ, h.1.2.2.1, bi_b1 h2]
      refine ⟨fun _ => ?_, fun c => absurd hin c⟩
      rw [show (13 : Int32) = nI 13 from rfl, nI_add]
      refine (c_becomes (by omega) (by omega)).mono (fun v K ⟨hv, hK⟩ => ?_)
      rw [hv]
      refine r_M_stud_14 (by omega) _ ⟨by rw [hJ], by rw [hK, up_su, hJ], ?_⟩
      rw [hK]
      exact mkp_of (l := [143]) (kp.up (by simp)) (by decide)
  · refine ⟨.int (-1), s, n, w, x_K.of (by decide) (by decide) rfl rfl rfl (r_C_stud_0 (by omega) _ _ ((c_find0 h.1.2.2.2.2.1 hno2 (by omega)).pu (r_C_stud_4N (by omega) _ ⟨rfl, h, ckp.rfl'⟩))), fun J hJ => x_K.of (by decide) (by decide) rfl rfl rfl (r_M_stud_0 (by omega) _ _ ?_)⟩
    rw [hJ, h.1.2.2.1]
    exact ⟨fun c => absurd c hno, fun _ => ⟨rfl, rfl, mkp.rfl'⟩⟩
theorem op_away {a1 a2 : Int32} (h : RW I 65 s n w) (h2 : b1 a2) (hd : 20 ≤ d) : op2 E d I s 70 143 [.int a1, .int a2] := by
  have hn := h.1.1
  rcases mn_cases a1 hn with ⟨p, hp, rfl, hin⟩ | ⟨hno, hno2⟩
  · obtain ⟨hR, hk⟩ := RW_fld (p := p) (fld := 7) (off := 19) (x := a2) h hp (by unfold fo; omega) ⟨by simp, by simp, by simp, by simp, fun _ => h2⟩
    refine ⟨.int (s (19 + p)), su s (19 + p) a2, n, w, x_K.of (by decide) (by decide) rfl rfl rfl (r_C_away_0 (by omega) _ _ ((c_find1 h.1.2.2.2.2.1 hn hp (by omega)).pu (r_C_away_4 (by omega) _ _ (x_man_now (by omega)).1 ⟨b1_fit h2, fun I3 e3 => ?_⟩))), fun J hJ => x_K.of (by decide) (by decide) rfl rfl rfl (r_M_away_0 (by omega) _ _ ?_)⟩
    · have e7 := (h.2.1.1 p hp).1.2.2.2.2.2.1
      rw [show I (85 + 2 * p) 7 = s (19 + p) from e7, bi_b1 (h.2.1.1 p hp).2.2.2.2.2.2.2, e3]
      exact ⟨rfl, hR, hk⟩
    · rw [hJ, h.1.2.2.1, bi_b1 h2]
      refine ⟨fun _ => ?_, fun c => absurd hin c⟩
      rw [show (19 : Int32) = nI 19 from rfl, nI_add]
      refine (c_becomes (by omega) (by omega)).mono (fun v K ⟨hv, hK⟩ => ?_)
      rw [hv]
      refine r_M_away_14 (by omega) _ ⟨by rw [hJ], by rw [hK, up_su, hJ], ?_⟩
      rw [hK]
      exact mkp_of (l := [143]) (kp.up (by simp)) (by decide)
  · refine ⟨.int (-1), s, n, w, x_K.of (by decide) (by decide) rfl rfl rfl (r_C_away_0 (by omega) _ _ ((c_find0 h.1.2.2.2.2.1 hno2 (by omega)).pu (r_C_away_4N (by omega) _ ⟨rfl, h, ckp.rfl'⟩))), fun J hJ => x_K.of (by decide) (by decide) rfl rfl rfl (r_M_away_0 (by omega) _ _ ?_)⟩
    rw [hJ, h.1.2.2.1]
    exact ⟨fun c => absurd c hno, fun _ => ⟨rfl, rfl, mkp.rfl'⟩⟩
end OPA
