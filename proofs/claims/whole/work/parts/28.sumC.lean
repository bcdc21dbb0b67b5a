/-! ===== the class: the sum of its town's clauses; one man's weeks ===== -/
def isoF (f : Nat → Int32) (c : Int32) : Bool :=
  if c / (300 : Int32) < 0 then false else if c / (300 : Int32) < (6 : Int32) then
    (if (c / (100 : Int32)) - (c / (100 : Int32)) / (3 : Int32) * (3 : Int32) = 0 then decide (¬ (c - c / (100 : Int32) * (100 : Int32)) ≤ f (c / (300 : Int32)).toNatClampNeg)
    else if (c / (100 : Int32)) - (c / (100 : Int32)) / (3 : Int32) * (3 : Int32) = 1 then decide (f (c / (300 : Int32)).toNatClampNeg = (c - c / (100 : Int32) * (100 : Int32)))
    else decide (¬ f (c / (300 : Int32)).toNatClampNeg ≤ (c - c / (100 : Int32) * (100 : Int32)))) else false
def stpC (f : Nat → Int32) (t : Int64) (c : Int32) : Int64 :=
  if c = (-1 : Int32) then t ^^^ (1 : Int64) else if c = (-2 : Int32) then (t >>> ((1 : Int32).toInt64 &&& 63)) &&& (t ||| (-2 : Int64))
  else if c = (-3 : Int32) then (t >>> ((1 : Int32).toInt64 &&& 63)) ||| (t &&& (1 : Int64))
  else (t <<< ((1 : Int32).toInt64 &&& 63)) ||| (bI (isoF f c)).toInt64
def htF (co f : Nat → Int32) : Nat → Nat → Int64 → Int64
  | 0, _, t => t
  | m + 1, i, t => htF co f m (i + 1) (stpC f t (co i))
def hoF (co f : Nat → Int32) (a b : Nat) : Bool := decide (¬ (lg_cmp (htF co f (b - a) a 0 &&& (1 : Int64)) (0 : Int64)) = 0)
/-- the sum behind the first i clauses, and where the next one's codes begin -/
def csF (am en co f : Nat → Int32) : Nat → Int32 × Nat
  | 0 => ((3 : Int32), 0)
  | i + 1 => ((csF am en co f i).1 + (if hoF co f (csF am en co f i).2 (en i).toNatClampNeg = true then am i else 0), (en i).toNatClampNeg)
theorem i300 {c : Int32} (h0 : ¬ c / (300 : Int32) < 0) (h1 : c / (300 : Int32) < (6 : Int32)) : vp_in (c / (300 : Int32)) 6 := by
  obtain ⟨j, hj, e⟩ := nI_of h0
  rw [e] at h1 ⊢
  exact vp_in_nI ((nI_ltI hj (by decide)).mp h1) (by decide)
theorem isoF_congr {f g : Nat → Int32} {c : Int32} (h : ∀ j, j < 6 → f j = g j) : isoF f c = isoF g c := by
  unfold isoF
  by_cases h0 : c / (300 : Int32) < 0
  · rw [if_pos h0, if_pos h0]
  · rw [if_neg h0, if_neg h0]
    by_cases h1 : c / (300 : Int32) < (6 : Int32)
    · rw [if_pos h1, if_pos h1, h _ (x_in_lt (i300 h0 h1))]
    · rw [if_neg h1, if_neg h1]
theorem htF_congr {co f g : Nat → Int32} (h : ∀ j, j < 6 → f j = g j) : ∀ m i t, htF co f m i t = htF co g m i t := by
  intro m
  induction m with
  | zero => intros; rfl
  | succ m ih =>
    intro i t
    unfold htF stpC
    rw [isoF_congr h]
    exact ih _ _
theorem csF_congr {am en co f g : Nat → Int32} (h : ∀ j, j < 6 → f j = g j) : ∀ i, csF am en co f i = csF am en co g i := by
  intro i
  induction i with
  | zero => rfl
  | succ i ih =>
    unfold csF hoF
    rw [ih, htF_congr h]
section SUMC
variable {E : XE} {d : Nat} {I : Nat → Nat → Int32}
theorem c_isSo {c : Int32} (hd : 1 ≤ d) : x_K E d 56 [.ref 68, .int c] I (x_pu (.int (bI (isoF (I 72) c))) I) := by
  refine x_K.of (by decide) (by decide) rfl rfl rfl (r_Town_isSo_0 hd _ ?_)
  unfold isoF
  refine ⟨fun h0 => ⟨by rw [if_pos h0]; rfl, rfl⟩, fun h0 => ?_⟩
  rw [if_neg h0]
  refine ⟨fun h1 => ?_, fun h1 => ⟨by rw [if_neg h1]; rfl, rfl⟩⟩
  rw [if_pos h1]
  have hin := i300 h0 h1
  refine ⟨fun h2 => ⟨hin, ?_, rfl⟩, fun h2 => ⟨hin, ?_, rfl⟩, fun h2 h3 => ⟨hin, ?_, rfl⟩⟩
  · rw [if_pos h2, x_bi_bI]
  · have hn : ¬ (c / (100 : Int32)) - (c / (100 : Int32)) / (3 : Int32) * (3 : Int32) = 0 := by rw [h2]; decide
    rw [if_neg hn, if_pos h2, x_bi_bI]
  · rw [if_neg h2, if_neg h3, x_bi_bI]
theorem c_holds {a b : Nat} (ha : a ≤ 100) (hb : b ≤ 100) (hd : 2 ≤ d) : x_K E d 54 [.ref 68, .int (nI a), .int (nI b)] I (x_pu (.int (bI (hoF (I 71) (I 72) a b))) I) := by
  refine x_K.of (by decide) (by decide) rfl rfl rfl (r_Town_holds_0 (by omega) _ _ ?_)
  have key : ∀ m j (t : Int64), (m = b - j) → j ≤ 100 → htF (I 71) (I 72) m j t = htF (I 71) (I 72) (b - a) a 0 → x_P E d 54 4 [.ref 68, x_jk, .int (nI b), .long t, x_jk, .int (nI j), x_jk] [] I (x_pu (.int (bI (hoF (I 71) (I 72) a b))) I) := by
    intro m
    induction m with
    | zero =>
      intro j t hj hj1 ht
      refine r_Town_holds_4 (by omega) _ _ _ ⟨fun _ => ⟨?_, rfl⟩, fun c => absurd (nI_le (by omega) (by omega)) c⟩
      unfold hoF
      rw [← ht, x_bi_bI]
      rfl
    | succ m ih =>
      intro j t hj hj1 ht
      refine r_Town_holds_4 (by omega) _ _ _ ⟨fun c => absurd c (nI_ge (by omega) (by omega)), fun _ => ⟨vp_in_nI (by omega) (by decide), ?_⟩⟩
      rw [nI_clamp (by omega), nI_1]
      rw [htF] at ht
      unfold stpC at ht
      refine ⟨fun h1 => ?_, fun h1 => ⟨fun h2 => ?_, fun h2 => ⟨fun h3 => ?_, fun h3 => ?_⟩⟩⟩
      · rw [if_pos h1] at ht
        exact ih (j + 1) _ (by omega) (by omega) ht
      · rw [if_neg h1, if_pos h2] at ht
        exact ih (j + 1) _ (by omega) (by omega) ht
      · rw [if_neg h1, if_neg h2, if_pos h3] at ht
        exact ih (j + 1) _ (by omega) (by omega) ht
      · rw [if_neg h1, if_neg h2, if_neg h3] at ht
        refine (c_isSo (by omega)).pu ?_
        refine r_Town_holds_50 (by omega) _ _ _ _ ?_
        have e : x_bi (¬ (bI (isoF (I 72) (I 71 j)) = 0)) = bI (isoF (I 72) (I 71 j)) := by
          cases isoF (I 72) (I 71 j) <;> rfl
        rw [e, nI_1]
        exact ih (j + 1) _ (by omega) (by omega) ht
  exact key (b - a) a 0 rfl ha rfl
theorem c_sumC {r nc w c : Nat} (hm : x_man r) (h1 : I 68 1 = nI nc) (hnc : nc ≤ 10) (hen : ∀ i, i < nc → ∃ e, e ≤ 100 ∧ I 70 i = nI e) (hw : w < 2 ^ 31) (hc : c < 256) (h4 : I r 4 = nI c) (hd : 3 ≤ d) :
    x_K E d 53 [.ref 68, .ref r, .int (nI w)] I (fun v I' => v = some (.int (csF (I 69) (I 70) (I 71) (fct (I r 0) (I r 1) (I r 2) (pc (I r 4)) (I r 5 / (10 : Int32)) (nI (w % 10))) nc).1) ∧ kp [72] I I') := by
  have hr72 : r ∉ [72] := by
    intro e
    have e' : r = 72 := by simpa using e
    subst e'
    exact absurd (hm.1 I) (by rw [kd_72 I]; decide)
  refine x_K.of (by decide) (by decide) rfl rfl rfl (r_Town_sum_0 (by omega) _ hm _ ?_)
  intro I1 e1 I2 e2 I3 e3
  have k1 : kp [72] I I1 := by rw [e1]; exact kp.up (by simp)
  have k2 : kp [72] I I2 := k1.trans (by rw [e2]; exact kp.up (by simp))
  have k3 : kp [72] I I3 := k2.trans (by rw [e3]; exact kp.up (by simp))
  have h43 : I3 r 4 = nI c := by rw [k3 r hr72]; exact h4
  rw [h43]
  refine (c_bitCount hc (by omega)).pu ?_
  refine r_Town_sum_24 (by omega) r hm _ _ _ ⟨x_vic rfl, fun I4 e4 I5 e5 I6 e6 => ?_⟩
  have k4 : kp [72] I I4 := k3.trans (by rw [e4]; exact kp.up (by simp))
  have k5 : kp [72] I I5 := k4.trans (by rw [e5]; exact kp.up (by simp))
  have k6 : kp [72] I I6 := k5.trans (by rw [e6]; exact kp.up (by simp))
  have hf : ∀ j, j < 6 → I6 72 j = fct (I r 0) (I r 1) (I r 2) (pc (I r 4)) (I r 5 / (10 : Int32)) (nI (w % 10)) j := by
    rw [k1 r hr72] at e2
    rw [k2 r hr72] at e3
    rw [show (3 : Int32).toNatClampNeg = 3 from rfl] at e4
    rw [k4 r hr72] at e5
    rw [rem_c (d := 10) (D := 10) hw (by decide) (by decide) rfl] at e6
    intro j hj
    rw [e6, e5, e4, e3, e2, e1, h4]
    match j, hj with
    | 0, _ => simp [x_up, fct]
    | 1, _ => simp [x_up, fct]
    | 2, _ => simp [x_up, fct]
    | 3, _ => simp [x_up, fct]
    | 4, _ => simp [x_up, fct]
    | 5, _ => simp [x_up, fct]
  have s69 : I6 69 = I 69 := k6 69 (by decide)
  have s70 : I6 70 = I 70 := k6 70 (by decide)
  have s71 : I6 71 = I 71 := k6 71 (by decide)
  have s68 : I6 68 1 = nI nc := by rw [k6 68 (by decide)]; exact h1
  have hle : ∀ i, i ≤ nc → (csF (I 69) (I 70) (I 71) (I6 72) i).2 ≤ 100 := by
    intro i hi
    cases i with
    | zero => exact Nat.zero_le _
    | succ i =>
      obtain ⟨e, h5, h6⟩ := hen i (by omega)
      show (I 70 i).toNatClampNeg ≤ 100
      rw [h6, nI_clamp (by omega)]
      exact h5
  have key : ∀ m j, j + m = nc → x_P E d 53 46 [.ref 68, x_jk, x_jk, .int (csF (I 69) (I 70) (I 71) (I6 72) j).1, .int (nI (csF (I 69) (I 70) (I 71) (I6 72) j).2), .int (nI j)] [] I6 (fun v I' => v = some (.int (csF (I 69) (I 70) (I 71) (fct (I r 0) (I r 1) (I r 2) (pc (I r 4)) (I r 5 / (10 : Int32)) (nI (w % 10))) nc).1) ∧ kp [72] I I') := by
    intro m
    induction m with
    | zero =>
      intro j hj
      refine r_Town_sum_46 (by omega) _ _ _ ⟨fun _ => ⟨by rw [← csF_congr hf, show nc = j by omega], k6⟩, fun c => absurd ?_ c⟩
      rw [s68]
      exact nI_le (by omega) (by omega)
    | succ m ih =>
      intro j hj
      obtain ⟨e, h5, h6⟩ := hen j (by omega)
      refine r_Town_sum_46 (by omega) _ _ _ ⟨fun c => absurd c ?_, fun _ => ⟨vp_in_nI (by omega) (by decide), ?_⟩⟩
      · rw [s68]
        exact nI_ge (by omega) (by omega)
      rw [nI_clamp (by omega), s70, h6]
      refine (c_holds (hle j (by omega)) h5 (by omega)).pu ?_
      refine r_Town_sum_58 (by omega) _ _ _ ⟨fun _ => vp_in_nI (by omega) (by decide), fun z hz => ⟨vp_in_nI (by omega) (by decide), ?_⟩⟩
      rw [nI_clamp (by omega), s69, s71] at hz
      rw [nI_clamp (by omega), s70, h6, nI_1]
      have := ih (j + 1) (by omega)
      have e2 : csF (I 69) (I 70) (I 71) (I6 72) (j + 1) = ((csF (I 69) (I 70) (I 71) (I6 72) j).1 + z, e) := by
        rw [csF, h6, nI_clamp (by omega), hz]
        cases hoF (I 71) (I6 72) (csF (I 69) (I 70) (I 71) (I6 72) j).2 e <;> rfl
      rw [e2] at this
      exact this
  have kk := key nc 0 (by omega)
  have z : csF (I 69) (I 70) (I 71) (I6 72) 0 = ((3 : Int32), 0) := rfl
  rw [z, nI_0] at kk
  exact kk
end SUMC
