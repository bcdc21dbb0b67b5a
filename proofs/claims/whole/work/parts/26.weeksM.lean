/-! ===== the model's weeks, one after another ===== -/
theorem setD_0 {s : Nat → Int32} {p : Nat} {x : Dn} : setD s p x 0 = s 0 := by
  unfold setD
  rw [if_neg (by omega), if_neg (by omega), if_neg (by omega)]
theorem setD_ag {s : Nat → Int32} {p : Nat} {x : Dn} (hp : p < 6) : agH s (setD s p x) := fun i hi => setD_hi hp (Or.inl hi)
theorem agH.trans {s t u : Nat → Int32} (h1 : agH s t) (h2 : agH t u) : agH s u := fun i hi => (h2 i hi).trans (h1 i hi)
theorem agH.refl {s : Nat → Int32} : agH s s := fun _ _ => rfl
/-- t is s, k weeks on, of the n men; s stands at week w -/
def goR (s t : Nat → Int32) (n w k : Nat) : Prop := t 0 = nI (w + k) ∧ agH s t ∧ ∀ p, p < 6 → dynM t p = if p < n then trjM s w k p else dynM s p
theorem trjM_s {s : Nat → Int32} {w k p : Nat} : trjM s w (k + 1) p = stpM s (w + k) p (trjM s w k p) := rfl
section WKS
variable {E : XE} {d : Nat}
theorem c_goes {I : Nat → Nat → Int32} {s : Nat → Int32} {n w k : Nat} (hn : n ≤ 6) (hw : twM s) (hs : goR s (I 143) n w k) (h31 : s 31 = nI n) (hw2 : w + k + 1 < 2 ^ 31) (hd : 5 ≤ d) :
    x_K E d 149 [.ref 142] I (fun v I' => v = none ∧ goR s (I' 143) n w (k + 1) ∧ kp [143, 146, 147] I I') := by
  refine x_K.of (by decide) (by decide) rfl rfl rfl (r_M_goes_0 (by omega) ?_)
  obtain ⟨hs0, hsa, hsd⟩ := hs
  have key : ∀ m j (J : Nat → Nat → Int32), j + m = n → J 143 0 = nI (w + k) → agH s (J 143) → (∀ p, p < 6 → dynM (J 143) p = if p < j then trjM s w (k + 1) p else if p < n then trjM s w k p else dynM s p) → kp [143, 146, 147] I J →
      x_P E d 149 2 [.ref 142, .int (nI j)] [] J (fun v I' => v = none ∧ goR s (I' 143) n w (k + 1) ∧ kp [143, 146, 147] I I') := by
    intro m
    induction m with
    | zero =>
      intro j J hj h0 ha hdy hk
      have e31 : J 143 31 = nI n := (ha 31 (by omega)).trans h31
      refine r_M_goes_2 (by omega) _ ⟨fun _ I2 e2 => ⟨rfl, ?_, hk.trans (by rw [e2]; exact kp.up (by simp))⟩, fun c => absurd ?_ c⟩
      · have e3 : I2 143 = fun i => if i = 0 then J 143 0 + 1 else J 143 i := by rw [e2, up_eq]
        refine ⟨?_, ?_, fun p hp => ?_⟩
        · rw [e3]
          dsimp only
          rw [if_pos rfl, h0, nI_1, Nat.add_assoc]
        · intro i hi
          rw [e3]
          dsimp only
          rw [if_neg (by omega)]
          exact ha i hi
        · have : dynM (I2 143) p = dynM (J 143) p := by
            rw [e3]
            unfold dynM
            dsimp only
            rw [if_neg (by omega), if_neg (by omega), if_neg (by omega)]
          rw [this, hdy p hp, show j = n by omega]
          by_cases hpn : p < n
          · rw [if_pos hpn, if_pos hpn]
          · rw [if_neg hpn, if_neg hpn, if_neg hpn]
      · rw [e31]
        exact nI_le (by omega) (by omega)
    | succ m ih =>
      intro j J hj h0 ha hdy hk
      have e31 : J 143 31 = nI n := (ha 31 (by omega)).trans h31
      refine r_M_goes_2 (by omega) _ ⟨fun c => absurd c ?_, fun _ => ?_⟩
      · rw [e31]
        exact nI_ge (by omega) (by omega)
      refine (c_rises (p := j) (w := w + k) (by omega) (twM_ag ha hw) h0 (by omega) (by omega)).mono (fun v J2 hv => ?_)
      obtain ⟨hv, hJ2, hk2⟩ := hv
      rw [hv]
      refine r_M_goes_11 (by omega) _ ?_
      rw [nI_1]
      refine ih (j + 1) J2 (by omega) ?_ ?_ (fun p hp => ?_) (hk.trans hk2)
      · rw [hJ2, setD_0, h0]
      · rw [hJ2]
        exact ha.trans (setD_ag (by omega))
      · rw [hJ2, dynM_setD (by omega) hp, stpM_ag ha]
        by_cases hpj : p = j
        · subst hpj
          rw [if_pos rfl, if_pos (by omega), hdy p hp, if_neg (by omega), if_pos (by omega), trjM_s]
        · rw [if_neg hpj, hdy p hp]
          by_cases hlt : p < j
          · rw [if_pos hlt, if_pos (by omega)]
          · rw [if_neg hlt, if_neg (show ¬ p < j + 1 by omega)]
  exact key n 0 I (by omega) hs0 hsa (fun p hp => by rw [if_neg (by omega)]; exact hsd p hp) kp.rfl'
theorem goR_0 {s : Nat → Int32} {n w : Nat} (h0 : s 0 = nI w) : goR s s n w 0 := ⟨h0, agH.refl, fun p _ => by by_cases h : p < n <;> simp [h, trjM, trj]⟩
theorem c_goesOn {I : Nat → Nat → Int32} {n w k : Nat} (hn : n ≤ 6) (hw : twM (I 143)) (h0 : I 143 0 = nI w) (h31 : I 143 31 = nI n) (hw2 : w + k + 1 < 2 ^ 31) (hd : 6 ≤ d) :
    x_K E d 150 [.ref 142, .int (nI k)] I (fun v I' => v = none ∧ goR (I 143) (I' 143) n w k ∧ kp [143, 146, 147] I I') := by
  refine x_K.of (by decide) (by decide) rfl rfl rfl (r_M_goesOn_0 (by omega) _ ?_)
  have key : ∀ m j (J : Nat → Nat → Int32), j + m = k → goR (I 143) (J 143) n w j → kp [143, 146, 147] I J → x_P E d 150 2 [.ref 142, .int (nI k), .int (nI j)] [] J (fun v I' => v = none ∧ goR (I 143) (I' 143) n w k ∧ kp [143, 146, 147] I I') := by
    intro m
    induction m with
    | zero =>
      intro j J hj hg hk
      refine r_M_goesOn_2 (by omega) _ _ ⟨fun _ => ⟨rfl, by rw [show k = j by omega]; exact hg, hk⟩, fun c => absurd (nI_le (by omega) (by omega)) c⟩
    | succ m ih =>
      intro j J hj hg hk
      refine r_M_goesOn_2 (by omega) _ _ ⟨fun c => absurd c (nI_ge (by omega) (by omega)), fun _ => ?_⟩
      refine (c_goes hn hw hg h31 (by omega) (by omega)).mono (fun v J2 hv => ?_)
      obtain ⟨hv, hg2, hk2⟩ := hv
      rw [hv]
      refine r_M_goesOn_7 (by omega) _ _ ?_
      rw [nI_1]
      exact ih (j + 1) J2 (by omega) hg2 (hk.trans hk2)
  exact key k 0 I (by omega) (goR_0 h0) kp.rfl'
theorem c_goesAlone {I : Nat → Nat → Int32} {p w : Nat} (hp : p < 6) (hw : twM (I 143)) (h0 : I 143 0 = nI w) (hw2 : w < 2 ^ 31) (hd : 5 ≤ d) :
    x_K E d 151 [.ref 142, .int (nI p)] I (fun v I' => v = none ∧ (I' 143) 0 = nI (w + 1) ∧ agH (I 143) (I' 143) ∧ (∀ q, q < 6 → dynM (I' 143) q = if q = p then stpM (I 143) w p (dynM (I 143) p) else dynM (I 143) q) ∧ kp [143, 146, 147] I I') := by
  refine x_K.of (by decide) (by decide) rfl rfl rfl (r_M_goesAlone_0 (by omega) _ ((c_rises hp hw h0 hw2 (by omega)).mono (fun v J hv => ?_)))
  obtain ⟨hv, hJ, hk⟩ := hv
  rw [hv]
  refine r_M_goesAlone_3 (by omega) (fun I2 e2 => ?_)
  have e3 : I2 143 = fun i => if i = 0 then J 143 0 + 1 else J 143 i := by rw [e2, up_eq]
  refine ⟨rfl, ?_, ?_, fun q hq => ?_, hk.trans (by rw [e2]; exact kp.up (by simp))⟩
  · rw [e3]
    dsimp only
    rw [if_pos rfl, hJ, setD_0, h0, nI_1]
  · intro i hi
    rw [e3]
    dsimp only
    rw [if_neg (by omega), hJ, setD_hi hp (Or.inl hi)]
  · have : dynM (I2 143) q = dynM (J 143) q := by
      rw [e3]
      unfold dynM
      dsimp only
      rw [if_neg (by omega), if_neg (by omega), if_neg (by omega)]
    rw [this, hJ, dynM_setD hp hq]
end WKS
