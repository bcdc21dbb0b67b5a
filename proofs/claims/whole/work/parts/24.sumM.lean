/-! ===== the sum of a town's clauses: what it is, by the model's steps; the model's run of it ===== -/
def fct (a b c d e g : Int32) : Nat → Int32
  | 0 => a
  | 1 => b
  | 2 => c
  | 3 => d
  | 4 => e
  | _ => g
def bI (b : Bool) : Int32 := if b = true then 1 else 0
theorem x_bi_bI {c : Prop} [Decidable c] : x_bi c = bI (decide c) := by
  by_cases h : c
  · rw [x_bi_t h, decide_eq_true h]; rfl
  · rw [x_bi_f h, decide_eq_false h]; rfl
theorem bI_0 (b : Bool) : bI b = 0 ↔ b = false := by cases b <;> simp [bI]
/-- a test of the model's steps -/
def tstM (f : Nat → Int32) (st : Int32) : Bool :=
  decide ((((st / (8 : Int32)) - (st / (8 : Int32)) / (4 : Int32) * (4 : Int32)) = 0 ∧ ¬ ((st / (32 : Int32)) ≤ f (st - st / (8 : Int32) * (8 : Int32)).toNatClampNeg)) ∨
    (¬ ((st / (8 : Int32)) - (st / (8 : Int32)) / (4 : Int32) * (4 : Int32)) = 0 ∧ ((((st / (8 : Int32)) - (st / (8 : Int32)) / (4 : Int32) * (4 : Int32)) = 1 ∧ f (st - st / (8 : Int32) * (8 : Int32)).toNatClampNeg = st / (32 : Int32)) ∨
      (¬ ((st / (8 : Int32)) - (st / (8 : Int32)) / (4 : Int32) * (4 : Int32)) = 1 ∧ ¬ (f (st - st / (8 : Int32) * (8 : Int32)).toNatClampNeg ≤ st / (32 : Int32))))))
/-- a clause's end: what it adds -/
def addM (b : Bool) (st : Int32) (sum : Int32) : Int32 :=
  (sum + (if b = false then 0 else (if st ≤ (-200 : Int32) then 0 else (-10 : Int32) - st))) - (if b = false then 0 else (if (-200 : Int32) < st then 0 else (-200 : Int32) - st))
/-- the steps from i on, m of them, with a stack of truths -/
def rnM (s f : Nat → Int32) : Nat → Nat → List Bool → Int32 → Int32
  | 0, _, _, sum => sum
  | m + 1, i, stk, sum =>
    if s i < 0 then
      if s i = (-1 : Int32) then rnM s f m (i + 1) ((!stk.headD false) :: stk.tail) sum
      else if s i ≤ (-10 : Int32) then rnM s f m (i + 1) [] (addM (stk.headD false) (s i) sum)
      else rnM s f m (i + 1) ((if s i = (-2 : Int32) then (stk.tail.headD false && stk.headD false) else (stk.tail.headD false || stk.headD false)) :: stk.tail.tail) sum
    else rnM s f m (i + 1) (tstM f (s i) :: stk) sum
/-- the steps can be run: the stack neither runs out nor over -/
def okM (s : Nat → Int32) : Nat → Nat → Nat → Prop
  | 0, _, _ => True
  | m + 1, i, t =>
    if s i < 0 then
      if s i = (-1 : Int32) then 1 ≤ t ∧ okM s m (i + 1) t
      else if s i ≤ (-10 : Int32) then t = 1 ∧ okM s m (i + 1) 0
      else 2 ≤ t ∧ okM s m (i + 1) (t - 1)
    else t < 64 ∧ vp_in (s i - s i / (8 : Int32) * (8 : Int32)) 6 ∧ okM s m (i + 1) (t + 1)
theorem tstM_congr {f g : Nat → Int32} {st : Int32} (h : ∀ j, j < 6 → f j = g j) (hs : vp_in (st - st / (8 : Int32) * (8 : Int32)) 6) : tstM f st = tstM g st := by
  unfold tstM
  rw [h _ (x_in_lt hs)]
theorem rnM_congr {s f g : Nat → Int32} (h : ∀ j, j < 6 → f j = g j) : ∀ (m i : Nat) (stk : List Bool) (sum : Int32), okM s m i stk.length → rnM s f m i stk sum = rnM s g m i stk sum := by
  intro m
  induction m with
  | zero => intros; rfl
  | succ m ih =>
    intro i stk sum hok
    unfold okM at hok
    unfold rnM
    by_cases h0 : s i < 0
    · rw [if_pos h0] at hok
      rw [if_pos h0, if_pos h0]
      by_cases h1 : s i = (-1 : Int32)
      · rw [if_pos h1] at hok
        rw [if_pos h1, if_pos h1]
        refine ih _ _ _ ?_
        have : ((!stk.headD false) :: stk.tail).length = stk.length := by rw [List.length_cons, List.length_tail]; omega
        rw [this]; exact hok.2
      · rw [if_neg h1] at hok
        rw [if_neg h1, if_neg h1]
        by_cases h2 : s i ≤ (-10 : Int32)
        · rw [if_pos h2] at hok
          rw [if_pos h2, if_pos h2]
          exact ih _ [] _ hok.2
        · rw [if_neg h2] at hok
          rw [if_neg h2, if_neg h2]
          refine ih _ _ _ ?_
          have : ∀ b : Bool, (b :: stk.tail.tail).length = stk.length - 1 := by intro b; rw [List.length_cons, List.length_tail, List.length_tail]; omega
          rw [this]; exact hok.2
    · rw [if_neg h0] at hok
      rw [if_neg h0, if_neg h0, tstM_congr h hok.2.1]
      exact ih _ _ _ hok.2.2
/-- the town that holds can be run -/
def twM (s : Nat → Int32) : Prop := s 37 = (-1 : Int32) ∨ ∃ h m, h < 5 ∧ m ≤ 140 ∧ s 37 = nI h ∧ s (226 + h) = nI m ∧ okM s m (231 + 140 * h) 0
def smF (s f : Nat → Int32) : Int32 := if s 37 = (-1 : Int32) then 3 else rnM s f (s (226 + (s 37).toNatClampNeg)).toNatClampNeg (231 + 140 * (s 37).toNatClampNeg) [] 3
theorem smF_congr {s f g : Nat → Int32} (hw : twM s) (h : ∀ j, j < 6 → f j = g j) : smF s f = smF s g := by
  unfold smF
  rcases hw with h0 | ⟨hh, m, h1, h2, h3, h4, h5⟩
  · rw [if_pos h0, if_pos h0]
  · have hne : ¬ s 37 = (-1 : Int32) := by
      rw [h3]
      intro e
      have := congrArg Int32.toInt e
      rw [nI_toInt (by omega)] at this
      exact absurd this (by show ¬ (hh : Int) = -1; omega)
    rw [if_neg hne, if_neg hne, h3, nI_clamp (by omega), h4, nI_clamp (by omega)]
    exact rnM_congr h _ _ [] _ h5
section SUMM
variable {E : XE} {d : Nat}
theorem c_tellsOf {I : Nat → Nat → Int32} {c' : Nat} {z : Int32} (hc : c' < 900) (hh : I 143 37 = (-1 : Int32) ∨ ∃ h, h < 5 ∧ I 143 37 = nI h) (hd : 1 ≤ d) :
    x_K E d 129 [.ref 142, .int (nI c'), .int z] I (x_pu (.int (if I 143 37 = (-1 : Int32) then z else I 143 (c' + (I 143 37).toNatClampNeg))) I) := by
  refine x_K.of (by decide) (by decide) rfl rfl rfl (r_M_tellsOf_0 hd _ _ ⟨fun hn => ?_, fun z3 h3 => ?_⟩)
  · rcases hh with h0 | ⟨h, h1, h2⟩
    · exact absurd h0 hn
    · rw [h2]
      exact vi_c rfl (by omega) (by decide)
  · rw [h3]
    refine ⟨?_, rfl⟩
    rcases hh with h0 | ⟨h, h1, h2⟩
    · rw [if_pos h0, if_pos h0]
    · rw [h2, ix_c rfl (by omega), nI_clamp (by omega)]
/-- the truths of the stack in the row -/
def stR (I : Nat → Nat → Int32) (stk : List Bool) : Prop := ∀ k, k < stk.length → I 147 k = bI (stk.getD (stk.length - 1 - k) false)
theorem c_sumL {s : Nat → Int32} {p : Nat} : ∀ (m i : Nat) (stk : List Bool) (sum : Int32) (I : Nat → Nat → Int32) (tot b0 : Nat), I 143 = s → okM s m i stk.length → stR I stk → i + m = b0 + tot → b0 + tot ≤ 931 → stk.length ≤ 64 →
    x_P E (d + 1) 131 78 [.ref 142, x_jk, .int sum, .int (nI tot), .int (nI b0), .int (nI stk.length), .int (nI i), x_jk, x_jk, x_jk, x_jk] [] I (fun v I' => v = some (.int (rnM s (I 146) m i stk sum)) ∧ ∀ q, q ≠ 147 → I' q = I q) := by
  intro m
  induction m with
  | zero =>
    intro i stk sum I tot b0 hs hok hst hi hb hl
    refine r_M_sumOf_78 (by omega) _ _ _ _ _ ⟨fun _ => ⟨rfl, fun _ _ => rfl⟩, fun c => absurd ?_ c⟩
    rw [nI_add]
    exact nI_le (by omega) (by omega)
  | succ m ih =>
    intro i stk sum I tot b0 hs hok hst hi hb hl
    refine r_M_sumOf_78 (by omega) _ _ _ _ _ ⟨fun c => absurd c ?_, fun _ => ⟨vp_in_nI (by omega) (by decide), ?_⟩⟩
    · rw [nI_add]
      exact nI_ge (by omega) (by omega)
    rw [nI_clamp (by omega)]
    unfold okM at hok
    unfold rnM
    rw [hs]
    refine ⟨fun h0 => ?_, fun h0 => ?_⟩
    · rw [if_pos h0] at hok
      rw [if_pos h0]
      refine ⟨fun h1 => ?_, fun h1 => ?_⟩
      · rw [if_pos h1] at hok
        rw [if_pos h1]
        obtain ⟨t1, hok⟩ := hok
        obtain ⟨b, r, rfl⟩ : ∃ b r, stk = b :: r := by
          cases stk with
          | nil => exact absurd t1 (by simp)
          | cons b r => exact ⟨b, r, rfl⟩
        have e1 : nI (b :: r).length - 1 = nI r.length := by rw [List.length_cons, nI_pred]
        rw [e1]
        have hb1 : vp_in (nI r.length) 64 := vp_in_nI (by rw [List.length_cons] at hl; omega) (by decide)
        refine ⟨hb1, hb1, fun I2 hI2 => ?_⟩
        rw [nI_clamp (by rw [List.length_cons] at hl; omega)] at hI2
        have hold : I 147 r.length = bI b := by
          have := hst r.length (by simp)
          rw [this]
          simp
        have e2 : x_bi (I 147 r.length = 0) = bI (!b) := by
          rw [hold]
          cases b <;> rfl
        rw [e2] at hI2
        have hI2s : I2 143 = s := by rw [hI2, ← hs]; funext k; simp [x_up]
        have key := ih (i + 1) ((!b) :: r) sum I2 tot b0 hI2s (by rw [List.length_cons] at hok ⊢; exact hok) (by
          intro k hk
          rw [hI2]
          rw [List.length_cons] at hk
          unfold x_up
          by_cases hkr : k = r.length
          · subst hkr
            simp
          · rw [if_neg (fun z => hkr z.2)]
            have := hst k (by rw [List.length_cons]; omega)
            rw [this]
            simp only [List.length_cons]
            have : r.length + 1 - 1 - k = (r.length - 1 - k) + 1 := by omega
            rw [this, List.getD_cons_succ, List.getD_cons_succ]) (by omega) hb (by rw [List.length_cons] at hl ⊢; exact hl)
        have hby : I2 146 = I 146 := by rw [hI2]; funext k; simp [x_up]
        rw [hby, nI_succ] at key
        refine x_P.mono key (fun v I' hv => ⟨by rw [hv.1]; rfl, fun q hq => ?_⟩)
        rw [hv.2 q hq, hI2]
        funext k
        simp [x_up, hq]
      · rw [if_neg h1] at hok
        rw [if_neg h1]
        refine ⟨fun h2 => ?_, fun h2 => ?_⟩
        · rw [if_pos h2] at hok
          rw [if_pos h2]
          obtain ⟨t1, hok⟩ := hok
          obtain ⟨b, rfl⟩ : ∃ b, stk = [b] := by
            match stk, t1 with
            | [b], _ => exact ⟨b, rfl⟩
          have hold : I 147 0 = bI b := hst 0 (by simp)
          intro z8 hz8 z11 hz11
          rw [hold] at hz8 hz11
          have hsum : (sum + z8) - z11 = addM b (s i) sum := by
            rw [hz8, hz11]
            unfold addM
            cases b
            · rfl
            · rfl
          rw [hsum]
          have key := ih (i + 1) [] (addM b (s i) sum) I tot b0 hs hok (fun k hk => absurd hk (by simp)) (by omega) hb (by simp)
          rw [nI_succ] at key
          exact key
        · rw [if_neg h2] at hok
          rw [if_neg h2]
          obtain ⟨t1, hok⟩ := hok
          obtain ⟨b, a, r, rfl⟩ : ∃ b a r, stk = b :: a :: r := by
            match stk, t1 with
            | b :: a :: r, _ => exact ⟨b, a, r, rfl⟩
          have hlr : r.length + 2 ≤ 64 := by simpa using hl
          have e1 : nI (b :: a :: r).length + (-1) = nI (r.length + 1) := by rw [List.length_cons, List.length_cons, pk_m1]
          have e2 : nI (r.length + 1) - 1 = nI r.length := nI_pred _
          rw [e1, e2, nI_clamp (show r.length < 2 ^ 31 by omega), nI_clamp (show r.length + 1 < 2 ^ 31 by omega)]
          have hbr : vp_in (nI r.length) 64 := vp_in_nI (by omega) (by decide)
          have hbr1 : vp_in (nI (r.length + 1)) 64 := vp_in_nI (by omega) (by decide)
          refine ⟨fun _ => hbr, fun _ _ => hbr1, fun _ => hbr, fun _ _ => hbr1, hbr, fun I2 hI2 => ?_⟩
          have hA : I 147 r.length = bI a := by
            have := hst r.length (by simp; omega)
            rw [this]
            simp
          have hB : I 147 (r.length + 1) = bI b := by
            have := hst (r.length + 1) (by simp)
            rw [this]
            simp
          rw [x_bi_bI, hA, hB] at hI2
          have e3 : decide (((s i = (-2 : Int32)) ∧ (¬ (bI a = 0) ∧ (¬ (bI b = 0)))) ∨ (¬ (s i = (-2 : Int32)) ∧ (¬ (bI a = 0) ∨ (¬ (bI b = 0))))) = (if s i = (-2 : Int32) then (a && b) else (a || b)) := by
            by_cases h3 : s i = (-2 : Int32)
            · rw [if_pos h3]
              cases a <;> cases b <;> simp [h3, bI]
            · rw [if_neg h3]
              cases a <;> cases b <;> simp [h3, bI]
          rw [e3] at hI2
          have hI2s : I2 143 = s := by rw [hI2, ← hs]; funext k; simp [x_up]
          have key := ih (i + 1) ((if s i = (-2 : Int32) then (a && b) else (a || b)) :: r) sum I2 tot b0 hI2s (by rw [List.length_cons, List.length_cons] at hok; rw [List.length_cons]; exact hok) (by
            intro k hk
            rw [hI2]
            rw [List.length_cons] at hk
            unfold x_up
            by_cases hkr : k = r.length
            · subst hkr
              simp
            · rw [if_neg (fun z => hkr z.2)]
              have := hst k (by simp; omega)
              rw [this]
              simp only [List.length_cons]
              have g1 : r.length + 1 + 1 - 1 - k = (r.length - 1 - k) + 1 + 1 := by omega
              have g2 : r.length + 1 - 1 - k = (r.length - 1 - k) + 1 := by omega
              rw [g1, g2, List.getD_cons_succ, List.getD_cons_succ, List.getD_cons_succ]) (by omega) hb (by rw [List.length_cons]; omega)
          have hby : I2 146 = I 146 := by rw [hI2]; funext k; simp [x_up]
          rw [hby, nI_succ, List.length_cons] at key
          refine x_P.mono key (fun v I' hv => ⟨by rw [hv.1]; rfl, fun q hq => ?_⟩)
          rw [hv.2 q hq, hI2]
          funext k
          simp [x_up, hq]
    · rw [if_neg h0] at hok
      rw [if_neg h0]
      obtain ⟨t1, t2, hok⟩ := hok
      refine ⟨t2, vp_in_nI t1 (by decide), fun I2 hI2 => ?_⟩
      rw [nI_clamp (by omega), x_bi_bI] at hI2
      have hI2s : I2 143 = s := by rw [hI2, ← hs]; funext k; simp [x_up]
      have key := ih (i + 1) (tstM (I 146) (s i) :: stk) sum I2 tot b0 hI2s (by rw [List.length_cons]; exact hok) (by
        intro k hk
        rw [hI2]
        rw [List.length_cons] at hk
        unfold x_up
        by_cases hkr : k = stk.length
        · subst hkr
          rw [if_pos ⟨rfl, rfl⟩]
          simp only [List.length_cons, Nat.add_sub_cancel, Nat.sub_self, List.getD_cons_zero]
          rfl
        · rw [if_neg (fun z => hkr z.2)]
          have := hst k (by omega)
          rw [this]
          simp only [List.length_cons]
          have g1 : stk.length + 1 - 1 - k = (stk.length - 1 - k) + 1 := by omega
          rw [g1, List.getD_cons_succ]) (by omega) hb (by rw [List.length_cons]; omega)
      have hby : I2 146 = I 146 := by rw [hI2]; funext k; simp [x_up]
      rw [hby, nI_succ, List.length_cons, nI_succ] at key
      refine x_P.mono key (fun v I' hv => ⟨hv.1, fun q hq => ?_⟩)
      rw [hv.2 q hq, hI2]
      funext k
      simp [x_up, hq]
end SUMM
