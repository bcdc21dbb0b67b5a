/-! ===== one call to both: looked, as ===== -/
def lkF (s : Nat → Int32) : Nat → Nat → Int32
  | 0, _ => (-5 : Int32)
  | m + 1, j => if s (1 + (s (105 + j)).toNatClampNeg) = s (113 + j) then lkF s m (j + 1) else nI j
def upK (a : Nat) : Nat := [0, 0, 0, 0, 1, 2, 3].getD a 0
def asK : Nat → Nat → Nat → Nat
  | 0, a, _ => a
  | m + 1, a, b => if a = b then a else asK m (upK a) b
theorem upK_fin : ∀ a, a < 7 → upK a < 7 ∧ (([0, 0, 0, 0, 1, 2, 3] : List Int32).getD a 0) = nI (upK a) := by decide +kernel
theorem as_fin : ∀ a, a < 7 → ∀ b, b < 7 → x_bi ((nI b = 0) ∨ ((nI b = nI a) ∨ (¬ (nI b ≤ 0) ∧ (¬ ((4 : Int32) ≤ nI b) ∧ (nI a = (nI b + (3 : Int32))))))) = if asK 7 a b = b then 1 else 0 := by decide +kernel
section OPK
variable {E : XE} {d : Nat} {I : Nat → Nat → Int32} {s : Nat → Int32} {n w : Nat}
theorem op_looked (h : RW I 65 s n w) (hd : 20 ≤ d) : op2 E d I s 87 177 [] := by
  have hn := h.1.1
  have h65 := h.1.2.2.2.2.1
  obtain ⟨k, hk8, h35, h81, hrow⟩ := h.2.2.2.2.2.2
  have h81 : I 81 3 = nI k := h81
  refine ⟨.int (lkF s k 0), s, n, w, x_K.of (by decide) (by decide) rfl rfl rfl (r_C_looked_0 (by omega) ?_), fun J hJ => x_K.of (by decide) (by decide) rfl rfl rfl (r_M_looked_0 (by omega) ?_)⟩
  · have key : ∀ m j, j + m = k → lkF s m j = lkF s k 0 → x_P E d 87 2 [.ref 64, .int (nI j), x_jk] [] I (fun v J => v = some (.int (lkF s k 0)) ∧ RW J 65 s n w ∧ ckp I J) := by
      intro m
      induction m with
      | zero =>
        intro j hj hf
        refine r_C_looked_2 (by omega) _ ⟨fun _ => ⟨by rw [← hf]; rfl, h, ckp.rfl'⟩, fun c => absurd ?_ c⟩
        rw [h81]
        exact nI_le (by omega) (by omega)
      | succ m ih =>
        intro j hj hf
        obtain ⟨r1, r2, p, hp, r3⟩ := hrow j (by omega)
        have r1 : I 82 j = s (105 + j) := r1
        have r2 : I 83 j = s (113 + j) := r2
        refine r_C_looked_2 (by omega) _ ⟨fun c => absurd c ?_, fun _ => ⟨vp_in_nI (by omega) (by decide), ?_⟩⟩
        · rw [h81]
          exact nI_ge (by omega) (by omega)
        rw [nI_clamp (by omega), r1, r3]
        refine (c_find1 h65 hn hp (by omega)).pu (r_C_looked_17 (by omega) _ _ (x_man_now (by omega)).1 ⟨vp_in_nI (by omega) (by decide), ?_⟩)
        rw [nI_clamp (by omega), r2, show I (85 + 2 * p) 4 = s (1 + p) from (mnR_dyn (h.2.1.1 p hp).1).1]
        rw [lkF, r3, nI_clamp (by omega)] at hf
        refine ⟨fun c => ?_, fun c => ?_⟩
        · rw [if_pos c] at hf
          rw [nI_1]
          exact ih (j + 1) (by omega) hf
        · rw [if_neg c] at hf
          exact ⟨by rw [hf], h, ckp.rfl'⟩
    have kk := key k 0 (by omega) rfl
    rw [nI_0] at kk
    exact kk
  · subst hJ
    have key : ∀ m j, j + m = k → lkF (J 143) m j = lkF (J 143) k 0 → x_P E d 177 2 [.ref 142, .int (nI j)] [] J (fun v K => v = some (.int (lkF (J 143) k 0)) ∧ K 143 = J 143 ∧ mkp J K) := by
      intro m
      induction m with
      | zero =>
        intro j hj hf
        refine r_M_looked_2 (by omega) _ ⟨fun _ => ⟨by rw [← hf]; rfl, rfl, mkp.rfl'⟩, fun c => absurd ?_ c⟩
        rw [h35]
        exact nI_le (by omega) (by omega)
      | succ m ih =>
        intro j hj hf
        obtain ⟨r1, r2, p, hp, r3⟩ := hrow j (by omega)
        refine r_M_looked_2 (by omega) _ ⟨fun c => absurd c ?_, fun _ => ⟨vi_c (c' := 105) rfl (by omega) (by decide), ?_, vi_c (c' := 113) rfl (by omega) (by decide), ?_⟩⟩
        · rw [h35]
          exact nI_ge (by omega) (by omega)
        · rw [ix_c (c := 105) (c' := 105) rfl (by omega), r3]
          exact vi_c (c' := 1) rfl (by omega) (by decide)
        rw [ix_c (c := 105) (c' := 105) rfl (by omega), ix_c (c := 113) (c' := 113) rfl (by omega), r3, ix_c (c := 1) (c' := 1) rfl (by omega)]
        rw [lkF, r3, nI_clamp (by omega)] at hf
        refine ⟨fun c => ?_, fun c => ?_⟩
        · rw [if_pos c] at hf
          rw [nI_1]
          exact ih (j + 1) (by omega) hf
        · rw [if_neg c] at hf
          exact ⟨by rw [hf], rfl, mkp.rfl'⟩
    have kk := key k 0 (by omega) rfl
    rw [nI_0] at kk
    exact kk
theorem op_as {a1 a2 : Int32} (h : RW I 65 s n w) (hd : 20 ≤ d) : op2 E d I s 90 188 [.int a1, .int a2] := by
  have hn := h.1.1
  have h65 := h.1.2.2.2.2.1
  have h31 := h.1.2.2.1
  rcases mn_cases a1 hn with ⟨p, hp, rfl, hin⟩ | ⟨hno, hno2⟩
  · have hm := (h.2.1.1 p hp).1
    obtain ⟨ki, hki, eki⟩ := (h.2.1.1 p hp).2.1
    have e1 : I (85 + 2 * p) 1 = nI ki := hm.2.1.trans eki
    have e2 : I (85 + 2 * p) 2 = s (44 + p) := hm.2.2.1
    by_cases h2 : 0 ≤ a2 ∧ a2 ≤ (6 : Int32)
    · obtain ⟨b, hb, rfl⟩ := upto_of (m := 6) rfl h2
      refine ⟨.int (if asK 7 ki b = b then s (44 + p) else (-6 : Int32)), s, n, w, x_K.of (by decide) (by decide) rfl rfl rfl (r_C_as_0 (by omega) _ _ ((c_find1 h65 hn hp (by omega)).pu (r_C_as_4 (by omega) _ _ (x_man_now (by omega)).1 ⟨fun _ => ?_, fun c => absurd h2 c⟩))), fun J hJ => x_K.of (by decide) (by decide) rfl rfl rfl (r_M_as_0 (by omega) _ _ ?_)⟩
      · rw [e1]
        have key : ∀ m j a, j + m = 7 → a < 7 → asK m a b = asK 7 ki b → x_P E d 90 18 [x_jk, x_jk, .int (nI b), .ref (85 + 2 * p), .int (nI a), .int (nI j)] [] I (fun v J => v = some (.int (if asK 7 ki b = b then s (44 + p) else (-6 : Int32))) ∧ RW J 65 s n w ∧ ckp I J) := by
          intro m
          induction m with
          | zero =>
            intro j a hj ha hf
            refine r_C_as_18 (by omega) _ _ (x_man_now (by omega)).1 _ _ ⟨fun _ z hz => ⟨?_, h, ckp.rfl'⟩, fun c => absurd (nI_le (show 7 ≤ j by omega) (by omega)) c⟩
            rw [hz, ← hf, e2]
            show some (Value.int (if nI a = nI b then s (44 + p) else (-6 : Int32))) = some (.int (if a = b then s (44 + p) else (-6 : Int32)))
            by_cases c : a = b
            · rw [if_pos c, if_pos (by rw [c])]
            · rw [if_neg c, if_neg (fun g => c ((nI_eq (by omega) (by omega)).mp g))]
          | succ m ih =>
            intro j a hj ha hf
            rw [asK] at hf
            refine r_C_as_18 (by omega) _ _ (x_man_now (by omega)).1 _ _ ⟨fun c => absurd c (nI_ge (show j < 7 by omega) (by decide)), fun _ => ⟨fun c z hz => ⟨?_, h, ckp.rfl'⟩, fun c => ⟨fun _ => ⟨vp_in_nI ha (by decide), ?_⟩, fun g => absurd ⟨nI_pos' (by omega), nI_le (b := 6) (by omega) (by decide)⟩ g⟩⟩⟩
            · have c' : a = b := (nI_eq (by omega) (by omega)).mp c
              rw [if_pos c'] at hf
              rw [hz, if_pos c, e2, ← hf, if_pos c']
            · rw [if_neg (fun g => c (by rw [g]))] at hf
              rw [nI_clamp (by omega), (upK_fin a ha).2, nI_1]
              exact ih (j + 1) (upK a) (by omega) (upK_fin a ha).1 hf
        have kk := key 7 0 ki rfl (by omega) rfl
        rw [nI_0] at kk
        exact kk
      · subst hJ
        rw [h31, ix_c (c := 38) (c' := 38) rfl (by omega), eki]
        refine ⟨fun _ => ⟨fun _ => ⟨vi_c (c' := 38) rfl (by omega) (by decide), ?_⟩, fun c => absurd h2 c⟩, fun c => absurd hin c⟩
        have hu : x_K E (d - 1) 179 [.int (nI ki), .int (nI b)] J (x_pu (.int (if asK 7 ki b = b then 1 else 0)) J) := x_K.of (by decide) (by decide) rfl rfl rfl (r_M_isUnder_0 (by omega) _ _ ⟨by rw [as_fin ki (by omega) b (by omega)], rfl⟩)
        refine hu.pu (r_M_as_19 (by omega) _ _ ⟨fun _ => vi_c (c' := 44) rfl (by omega) (by decide), fun z hz => ⟨?_, rfl, mkp.rfl'⟩⟩)
        rw [ix_c (c := 44) (c' := 44) rfl (by omega)] at hz
        rw [hz]
        by_cases c : asK 7 ki b = b
        · rw [if_pos c, if_pos c, if_neg (by decide)]
        · rw [if_neg c, if_neg c, if_pos rfl]
    · refine ⟨.int (-1), s, n, w, x_K.of (by decide) (by decide) rfl rfl rfl (r_C_as_0 (by omega) _ _ ((c_find1 h65 hn hp (by omega)).pu (r_C_as_4 (by omega) _ _ (x_man_now (by omega)).1 ⟨fun c => absurd c h2, fun _ => ⟨rfl, h, ckp.rfl'⟩⟩))), fun J hJ => x_K.of (by decide) (by decide) rfl rfl rfl (r_M_as_0 (by omega) _ _ ?_)⟩
      subst hJ
      rw [h31]
      exact ⟨fun _ => ⟨fun c => absurd c h2, fun _ => ⟨rfl, rfl, mkp.rfl'⟩⟩, fun c => absurd hin c⟩
  · refine ⟨.int (-1), s, n, w, x_K.of (by decide) (by decide) rfl rfl rfl (r_C_as_0 (by omega) _ _ ((c_find0 h65 hno2 (by omega)).pu (r_C_as_4N (by omega) _ ⟨rfl, h, ckp.rfl'⟩))), fun J hJ => x_K.of (by decide) (by decide) rfl rfl rfl (r_M_as_0 (by omega) _ _ ?_)⟩
    subst hJ
    rw [h31]
    exact ⟨fun c => absurd c hno, fun _ => ⟨rfl, rfl, mkp.rfl'⟩⟩
end OPK
