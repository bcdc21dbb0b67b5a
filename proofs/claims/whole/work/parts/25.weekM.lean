/-! ===== weeks: what a week does to one man; the model's weeks ===== -/
theorem nI_ne_m1 {n : Nat} (h : n < 2 ^ 31) : ¬ nI n = (-1 : Int32) := by
  intro e
  have := congrArg Int32.toInt e
  rw [nI_toInt h] at this
  exact absurd this (by show ¬ (n : Int) = -1; omega)
theorem rem_c {a d : Nat} (ha : a < 2 ^ 31) (h0 : 0 < d) (hd : d < 2 ^ 31) {D : Int32} (hD : D = nI d) : nI a - nI a / D * D = nI (a % d) := by
  subst hD
  exact pk_rem ha h0 hd
def riseF (ki v cnt h rw sum : Int32) : Int32 :=
  if ki = 1 then sum + v else if ki = (2 : Int32) then sum / (2 : Int32) else if ki = (3 : Int32) then sum + cnt
  else if ki = (4 : Int32) then (if h < (60 : Int32) then sum + v else 0) else if ki = (5 : Int32) then sum / (2 : Int32) - v
  else if ki = (6 : Int32) then ((sum + cnt) + rw) - (4 : Int32) else sum
def clF (z : Int32) : Int32 := if 0 ≤ z then (if z ≤ (99 : Int32) then z else (99 : Int32)) else 0
/-- creed, height, gone -/
abbrev Dn := Int32 × Int32 × Int32
def stp (bu : Int32) (sm : (Nat → Int32) → Int32) (nu ki v aw : Int32) (ro : Nat → Int32) (w : Nat) (x : Dn) : Dn :=
  if aw = 1 then x else if x.2.2 = 1 then x else
    if clF (x.2.1 + riseF ki v (pc x.1) x.2.1 (ro (w % 4)) (sm (fct nu ki v (pc x.1) (x.2.1 / (10 : Int32)) (nI (w % 10))))) < bu then
      (x.1, clF (x.2.1 + riseF ki v (pc x.1) x.2.1 (ro (w % 4)) (sm (fct nu ki v (pc x.1) (x.2.1 / (10 : Int32)) (nI (w % 10))))), x.2.2)
    else (x.1 &&& ((1 <<< ((v - v / (8 : Int32) * (8 : Int32)) &&& 31)) ^^^ (-1)), 0, 1)
def trj (bu : Int32) (sm : (Nat → Int32) → Int32) (nu ki v aw : Int32) (ro : Nat → Int32) (w : Nat) : Nat → Dn → Dn
  | 0, x => x
  | k + 1, x => stp bu sm nu ki v aw ro (w + k) (trj bu sm nu ki v aw ro w k x)
def dynM (s : Nat → Int32) (p : Nat) : Dn := (s (1 + p), s (7 + p), s (13 + p))
def buM (s : Nat → Int32) : Int32 := if s 37 = (-1 : Int32) then 90 else s (221 + (s 37).toNatClampNeg)
def stpM (s : Nat → Int32) (w p : Nat) (x : Dn) : Dn := stp (buM s) (smF s) (nI p) (s (38 + p)) (s (44 + p)) (s (19 + p)) (fun k => s (50 + 4 * p + k)) w x
def trjM (s : Nat → Int32) (w k p : Nat) : Dn := trj (buM s) (smF s) (nI p) (s (38 + p)) (s (44 + p)) (s (19 + p)) (fun k => s (50 + 4 * p + k)) w k (dynM s p)
def setD (s : Nat → Int32) (p : Nat) (x : Dn) : Nat → Int32 := fun i => if i = 1 + p then x.1 else if i = 7 + p then x.2.1 else if i = 13 + p then x.2.2 else s i
theorem setD_self {s : Nat → Int32} {p : Nat} : setD s p (dynM s p) = s := by
  funext i
  unfold setD dynM
  by_cases h1 : i = 1 + p
  · rw [if_pos h1, h1]
  · rw [if_neg h1]
    by_cases h2 : i = 7 + p
    · rw [if_pos h2, h2]
    · rw [if_neg h2]
      by_cases h3 : i = 13 + p
      · rw [if_pos h3, h3]
      · rw [if_neg h3]
theorem dynM_setD {s : Nat → Int32} {p q : Nat} {x : Dn} (hp : p < 6) (hq : q < 6) : dynM (setD s p x) q = if q = p then x else dynM s q := by
  unfold dynM setD
  by_cases h : q = p
  · subst h
    rw [if_pos rfl]
    have e1 : ¬ 7 + q = 1 + q := by omega
    have e2 : ¬ 13 + q = 1 + q := by omega
    have e3 : ¬ 13 + q = 7 + q := by omega
    simp only [if_true, if_neg e1, if_neg e2, if_neg e3]
  · rw [if_neg h]
    have a1 : ¬ 1 + q = 1 + p := by omega
    have a2 : ¬ 1 + q = 7 + p := by omega
    have a3 : ¬ 1 + q = 13 + p := by omega
    have b1 : ¬ 7 + q = 1 + p := by omega
    have b2 : ¬ 7 + q = 7 + p := by omega
    have b3 : ¬ 7 + q = 13 + p := by omega
    have c1 : ¬ 13 + q = 1 + p := by omega
    have c2 : ¬ 13 + q = 7 + p := by omega
    have c3 : ¬ 13 + q = 13 + p := by omega
    simp only [if_neg a1, if_neg a2, if_neg a3, if_neg b1, if_neg b2, if_neg b3, if_neg c1, if_neg c2, if_neg c3]
theorem setD_hi {s : Nat → Int32} {p i : Nat} {x : Dn} (hp : p < 6) (hi : 19 ≤ i ∨ i = 0) : setD s p x i = s i := by
  unfold setD
  rw [if_neg (by omega), if_neg (by omega), if_neg (by omega)]
/-- two states of the same town: from 19 on they are the same -/
def agH (s t : Nat → Int32) : Prop := ∀ i, 19 ≤ i → t i = s i
theorem okM_ag {s t : Nat → Int32} (h : agH s t) : ∀ (m i k : Nat), 19 ≤ i → okM s m i k → okM t m i k := by
  intro m
  induction m with
  | zero => intros; trivial
  | succ m ih =>
    intro i k hi hok
    unfold okM at hok ⊢
    rw [h i hi]
    by_cases h0 : s i < 0
    · rw [if_pos h0] at hok ⊢
      by_cases h1 : s i = (-1 : Int32)
      · rw [if_pos h1] at hok ⊢
        exact ⟨hok.1, ih _ _ (by omega) hok.2⟩
      · rw [if_neg h1] at hok ⊢
        by_cases h2 : s i ≤ (-10 : Int32)
        · rw [if_pos h2] at hok ⊢
          exact ⟨hok.1, ih _ _ (by omega) hok.2⟩
        · rw [if_neg h2] at hok ⊢
          exact ⟨hok.1, ih _ _ (by omega) hok.2⟩
    · rw [if_neg h0] at hok ⊢
      exact ⟨hok.1, hok.2.1, ih _ _ (by omega) hok.2.2⟩
theorem rnM_ag {s t f : Nat → Int32} (h : agH s t) : ∀ (m i : Nat) (stk : List Bool) (sum : Int32), 19 ≤ i → rnM t f m i stk sum = rnM s f m i stk sum := by
  intro m
  induction m with
  | zero => intros; rfl
  | succ m ih =>
    intro i stk sum hi
    unfold rnM
    rw [h i hi, ih _ _ _ (by omega), ih _ _ _ (by omega), ih _ _ _ (by omega), ih _ _ _ (by omega)]
theorem twM_ag {s t : Nat → Int32} (h : agH s t) (hw : twM s) : twM t := by
  rcases hw with h0 | ⟨hh, m, h1, h2, h3, h4, h5⟩
  · exact Or.inl (by rw [h 37 (by omega)]; exact h0)
  · exact Or.inr ⟨hh, m, h1, h2, by rw [h 37 (by omega)]; exact h3, by rw [h _ (by omega)]; exact h4, okM_ag h _ _ _ (by omega) h5⟩
theorem smF_ag {s t : Nat → Int32} (h : agH s t) : smF t = smF s := by
  funext f
  unfold smF
  rw [h 37 (by omega), h (226 + (s 37).toNatClampNeg) (by omega), rnM_ag h _ _ _ _ (by omega)]
theorem buM_ag {s t : Nat → Int32} (h : agH s t) : buM t = buM s := by
  unfold buM
  rw [h 37 (by omega), h (221 + (s 37).toNatClampNeg) (by omega)]
theorem stpM_ag {s t : Nat → Int32} (h : agH s t) {w p : Nat} {x : Dn} : stpM t w p x = stpM s w p x := by
  have e : (fun k => t (50 + 4 * p + k)) = (fun k => s (50 + 4 * p + k)) := funext fun k => h _ (by omega)
  unfold stpM
  rw [buM_ag h, smF_ag h, h (38 + p) (by omega), h (44 + p) (by omega), h (19 + p) (by omega), e]
theorem twM_h {s : Nat → Int32} (hw : twM s) : s 37 = (-1 : Int32) ∨ ∃ h, h < 5 ∧ s 37 = nI h := by
  rcases hw with h0 | ⟨hh, m, h1, -, h3, -⟩
  · exact Or.inl h0
  · exact Or.inr ⟨hh, h1, h3⟩
theorem up_ne {I : Nat → Nat → Int32} {q k q' : Nat} {x : Int32} (h : q' ≠ q) : x_up I q k x q' = I q' := by
  funext j
  unfold x_up
  rw [if_neg (fun z => h z.1)]
theorem up_eq {I : Nat → Nat → Int32} {q k : Nat} {x : Int32} : x_up I q k x q = fun j => if j = k then x else I q j := by
  funext j
  unfold x_up
  by_cases h : j = k <;> simp [h]
section WKM
variable {E : XE} {d : Nat} {I : Nat → Nat → Int32}
/-- nothing is changed but these cells -/
def kp (l : List Nat) (I I' : Nat → Nat → Int32) : Prop := ∀ q, q ∉ l → I' q = I q
theorem kp.trans {l : List Nat} {I I1 I2 : Nat → Nat → Int32} (h1 : kp l I I1) (h2 : kp l I1 I2) : kp l I I2 := fun q hq => (h2 q hq).trans (h1 q hq)
theorem kp.mono {l l' : List Nat} {I I1 : Nat → Nat → Int32} (h1 : kp l I I1) (h : ∀ q ∈ l, q ∈ l') : kp l' I I1 := fun q hq => h1 q (fun z => hq (h q z))
theorem kp.rfl' {l : List Nat} {I : Nat → Nat → Int32} : kp l I I := fun _ _ => rfl
theorem kp.up {l : List Nat} {I : Nat → Nat → Int32} {q k : Nat} {x : Int32} (h : q ∈ l) : kp l I (x_up I q k x) := fun q' hq => up_ne (fun e => hq (e ▸ h))
theorem c_sumOf {p w : Nat} (hp : p < 6) (hw : twM (I 143)) (h0 : I 143 0 = nI w) (hw2 : w < 2 ^ 31) (hd : 2 ≤ d) :
    x_K E d 131 [.ref 142, .int (nI p)] I (fun v I' => v = some (.int (smF (I 143) (fct (nI p) (I 143 (38 + p)) (I 143 (44 + p)) (pc (I 143 (1 + p))) (I 143 (7 + p) / (10 : Int32)) (nI (w % 10))))) ∧ kp [146, 147] I I') := by
  obtain ⟨d, rfl⟩ : ∃ d', d = d' + 1 := ⟨d - 1, by omega⟩
  refine x_K.of (by decide) (by decide) rfl rfl rfl (r_M_sumOf_0 (by omega) _ ?_)
  intro I1 e1
  rw [ix_c (c := 38) (c' := 38) rfl (by omega), ix_c (c := 44) (c' := 44) rfl (by omega), ix_c (c := 1) (c' := 1) rfl (by omega)]
  refine ⟨vi_c (c' := 38) rfl (by omega) (by decide), fun I3 e3 => ⟨vi_c (c' := 44) rfl (by omega) (by decide), fun I5 e5 => ⟨vi_c (c' := 1) rfl (by omega) (by decide), ?_⟩⟩⟩
  have k1 : kp [146, 147] I I1 := by rw [e1]; exact kp.up (by simp)
  have k3 : kp [146, 147] I I3 := k1.trans (by rw [e3]; exact kp.up (by simp))
  have k5 : kp [146, 147] I I5 := k3.trans (by rw [e5]; exact kp.up (by simp))
  refine (c_countOf (by omega)).pu ?_
  refine r_M_sumOf_35 (by omega) _ _ _ ⟨x_vic rfl, ?_⟩
  intro I6 e6
  refine ⟨vi_c (c' := 7) rfl (by omega) (by decide), ?_⟩
  rw [ix_c (c := 7) (c' := 7) rfl (by omega)]
  intro I7 e7 I8 e8
  have k6 : kp [146, 147] I I6 := k5.trans (by rw [e6]; exact kp.up (by simp))
  have k7 : kp [146, 147] I I7 := k6.trans (by rw [e7]; exact kp.up (by simp))
  have k8 : kp [146, 147] I I8 := k7.trans (by rw [e8]; exact kp.up (by simp))
  have s8 : I8 143 = I 143 := k8 143 (by simp)
  -- the facts
  have hf : ∀ j, j < 6 → I8 146 j = fct (nI p) (I 143 (38 + p)) (I 143 (44 + p)) (pc (I 143 (1 + p))) (I 143 (7 + p) / (10 : Int32)) (nI (w % 10)) j := by
    rw [k1 143 (by simp)] at e3
    rw [k3 143 (by simp)] at e5
    rw [k5 143 (by simp), show (3 : Int32).toNatClampNeg = 3 from rfl] at e6
    rw [k6 143 (by simp)] at e7
    rw [k7 143 (by simp), h0, rem_c (d := 10) (D := 10) hw2 (by decide) (by decide) rfl] at e8
    intro j hj
    rw [e8, e7, e6, e5, e3, e1]
    match j, hj with
    | 0, _ => simp [x_up, fct]
    | 1, _ => simp [x_up, fct]
    | 2, _ => simp [x_up, fct]
    | 3, _ => simp [x_up, fct]
    | 4, _ => simp [x_up, fct]
    | 5, _ => simp [x_up, fct]
  refine (c_tellsOf (c' := 226) (by decide) (by rw [s8]; exact twM_h hw) (by omega)).pu ?_
  rw [s8]
  refine r_M_sumOf_64 (by omega) _ _ ?_
  rw [s8]
  rcases hw with h37 | ⟨hh, m, h1, h2, h3, h4, h5⟩
  · rw [if_pos h37, h37]
    have e9 : (231 : Int32) + ((140 : Int32) * (-1)) = nI 91 := rfl
    rw [e9]
    have key := c_sumL (E := E) (d := d) (s := I 143) (p := p) 0 91 [] 3 I8 0 91 s8 trivial (fun k hk => absurd hk (by simp)) rfl (by decide) (by simp)
    refine x_P.mono key (fun v I' hv => ⟨?_, k8.trans (fun q hq => hv.2 q (fun e => hq (by rw [e]; simp)))⟩)
    rw [hv.1]
    unfold smF
    rw [if_pos h37]
    rfl
  · have hne : ¬ I 143 37 = (-1 : Int32) := by rw [h3]; exact nI_ne_m1 (by omega)
    rw [if_neg hne, h3, nI_clamp (by omega), h4]
    have e9 : (231 : Int32) + ((140 : Int32) * nI hh) = nI (231 + 140 * hh) := by
      rw [show (140 : Int32) = nI 140 from rfl, pk_mul, show (231 : Int32) = nI 231 from rfl, nI_add]
    rw [e9]
    have key := c_sumL (E := E) (d := d) (s := I 143) (p := p) m (231 + 140 * hh) [] 3 I8 m (231 + 140 * hh) s8 h5 (fun k hk => absurd hk (by simp)) rfl (by omega) (by simp)
    refine x_P.mono key (fun v I' hv => ⟨?_, k8.trans (fun q hq => hv.2 q (fun e => hq (by rw [e]; simp)))⟩)
    rw [hv.1]
    unfold smF
    rw [if_neg hne, h3, nI_clamp (by omega), h4, nI_clamp (by omega)]
    rw [rnM_congr hf m (231 + 140 * hh) [] 3 h5]
theorem c_riseOf {p w : Nat} (hp : p < 6) (hw : twM (I 143)) (h0 : I 143 0 = nI w) (hw2 : w < 2 ^ 31) (hd : 3 ≤ d) :
    x_K E d 132 [.ref 142, .int (nI p)] I (fun v I' => v = some (.int (riseF (I 143 (38 + p)) (I 143 (44 + p)) (pc (I 143 (1 + p))) (I 143 (7 + p)) (I 143 (50 + 4 * p + w % 4))
      (smF (I 143) (fct (nI p) (I 143 (38 + p)) (I 143 (44 + p)) (pc (I 143 (1 + p))) (I 143 (7 + p) / (10 : Int32)) (nI (w % 10)))))) ∧ kp [146, 147] I I') := by
  refine x_K.of (by decide) (by decide) rfl rfl rfl (r_M_riseOf_0 (by omega) _ ((c_sumOf hp hw h0 hw2 (by omega)).mono (fun v I1 hv => ?_)))
  obtain ⟨hv, k1⟩ := hv
  rw [hv]
  have s1 : I1 143 = I 143 := k1 143 (by simp)
  refine r_M_riseOf_3 (by omega) _ _ ⟨vi_c (c' := 1) rfl (by omega) (by decide), (c_countOf (by omega)).pu ?_⟩
  refine r_M_riseOf_12 (by omega) _ _ _ _ ⟨vi_c (c' := 38) rfl (by omega) (by decide), ?_⟩
  rw [ix_c (c := 38) (c' := 38) rfl (by omega), ix_c (c := 44) (c' := 44) rfl (by omega), ix_c (c := 1) (c' := 1) rfl (by omega), ix_c (c := 7) (c' := 7) rfl (by omega), s1]
  have hmod : (((50 : Int32) + ((4 : Int32) * nI p)) + ((I 143 0) - (I 143 0) / (4 : Int32) * (4 : Int32))) = nI (50 + 4 * p + w % 4) := by
    rw [h0, rem_c (d := 4) (D := 4) hw2 (by decide) (by decide) rfl, show (4 : Int32) = nI 4 from rfl, pk_mul, show (50 : Int32) = nI 50 from rfl, nI_add, nI_add]
  rw [hmod, nI_clamp (by omega)]
  unfold riseF
  refine ⟨fun c => ⟨vi_c (c' := 44) rfl (by omega) (by decide), ?_, k1⟩, fun c => ⟨?_, k1⟩, fun c => ⟨?_, k1⟩, fun c => ⟨vi_c (c' := 7) rfl (by omega) (by decide), fun _ => vi_c (c' := 44) rfl (by omega) (by decide), fun z hz => ⟨?_, k1⟩⟩, fun c => ⟨vi_c (c' := 44) rfl (by omega) (by decide), ?_, k1⟩, fun c => ⟨vp_in_nI (by omega) (by decide), ?_, k1⟩, fun c1 c2 c3 c4 c5 c6 => ⟨?_, k1⟩⟩
  · rw [if_pos c]
  · rw [c, if_neg (by decide), if_pos rfl]
  · rw [c, if_neg (by decide), if_neg (by decide), if_pos rfl]
  · rw [hz, if_neg (show ¬ I 143 (38 + p) = 1 by rw [c]; decide), if_neg (show ¬ I 143 (38 + p) = (2 : Int32) by rw [c]; decide), if_neg (show ¬ I 143 (38 + p) = (3 : Int32) by rw [c]; decide), if_pos c]
  · rw [c, if_neg (by decide), if_neg (by decide), if_neg (by decide), if_neg (by decide), if_pos rfl]
  · rw [c, if_neg (by decide), if_neg (by decide), if_neg (by decide), if_neg (by decide), if_neg (by decide), if_pos rfl]
  · rw [if_neg c1, if_neg c2, if_neg c3, if_neg c4, if_neg c5, if_neg c6]
theorem c_held {z : Int32} (hd : 1 ≤ d) : x_K E d 111 [.int z, .int (99 : Int32)] I (x_pu (.int (clF z)) I) :=
  x_K.of (by decide) (by decide) rfl rfl rfl (r_M_held_0 hd _ _ (fun z3 h3 => ⟨by rw [h3]; rfl, rfl⟩))
theorem c_rises {p w : Nat} (hp : p < 6) (hw : twM (I 143)) (h0 : I 143 0 = nI w) (hw2 : w < 2 ^ 31) (hd : 4 ≤ d) :
    x_K E d 148 [.ref 142, .int (nI p)] I (fun v I' => v = none ∧ I' 143 = setD (I 143) p (stpM (I 143) w p (dynM (I 143) p)) ∧ kp [143, 146, 147] I I') := by
  refine x_K.of (by decide) (by decide) rfl rfl rfl (r_M_rises_0 (by omega) _ ?_)
  rw [ix_c (c := 19) (c' := 19) rfl (by omega), ix_c (c := 13) (c' := 13) rfl (by omega), ix_c (c := 7) (c' := 7) rfl (by omega)]
  refine ⟨vi_c (c' := 19) rfl (by omega) (by decide), fun c => ?_, fun ca => ⟨vi_c (c' := 13) rfl (by omega) (by decide), fun c => ?_, fun cg => ⟨vi_c (c' := 7) rfl (by omega) (by decide), ?_⟩⟩⟩
  · refine ⟨rfl, ?_, kp.rfl'⟩
    have : stpM (I 143) w p (dynM (I 143) p) = dynM (I 143) p := by unfold stpM stp; rw [if_pos c]
    rw [this, setD_self]
  · refine ⟨rfl, ?_, kp.rfl'⟩
    have : stpM (I 143) w p (dynM (I 143) p) = dynM (I 143) p := by
      unfold stpM stp
      by_cases ha : I 143 (19 + p) = 1
      · rw [if_pos ha]
      · rw [if_neg ha, if_pos (show (dynM (I 143) p).2.2 = 1 from c)]
    rw [this, setD_self]
  refine (c_riseOf hp hw h0 hw2 (by omega)).mono (fun v I1 hv => ?_)
  obtain ⟨hv, k1⟩ := hv
  rw [hv]
  have s1 : I1 143 = I 143 := k1 143 (by simp)
  refine r_M_rises_31 (by omega) _ _ _ _ ((c_held (by omega)).pu ?_)
  refine r_M_rises_34 (by omega) _ _ _ ⟨vi_c (c' := 7) rfl (by omega) (by decide), ?_⟩
  rw [ix_c (c := 7) (c' := 7) rfl (by omega)]
  intro I2 e2
  refine ⟨vi_c (c' := 7) rfl (by omega) (by decide), ?_⟩
  generalize hr : riseF (I 143 (38 + p)) (I 143 (44 + p)) (pc (I 143 (1 + p))) (I 143 (7 + p)) (I 143 (50 + 4 * p + w % 4)) (smF (I 143) (fct (nI p) (I 143 (38 + p)) (I 143 (44 + p)) (pc (I 143 (1 + p))) (I 143 (7 + p) / (10 : Int32)) (nI (w % 10)))) = r at e2
  have k2 : kp [143, 146, 147] I I2 := (k1.mono (by simp)).trans (by rw [e2]; exact kp.up (by simp))
  have s2 : I2 143 = fun j => if j = 7 + p then clF (I 143 (7 + p) + r) else I 143 j := by rw [e2, up_eq, s1]
  have s37 : I2 143 37 = I 143 37 := by rw [s2]; dsimp only; rw [if_neg (by omega)]
  refine (c_tellsOf (c' := 221) (by decide) (by rw [s37]; exact twM_h hw) (by omega)).pu ?_
  have hbu : (if I2 143 37 = (-1 : Int32) then (90 : Int32) else I2 143 (221 + (I2 143 37).toNatClampNeg)) = buM (I 143) := by
    unfold buM
    rw [s37, s2]
    dsimp only
    rw [if_neg (show ¬ 221 + (I 143 37).toNatClampNeg = 7 + p by omega)]
  have s27 : I2 143 (7 + p) = clF (I 143 (7 + p) + r) := by rw [s2]; dsimp only; rw [if_pos rfl]
  rw [hbu, s27]
  have hst : stpM (I 143) w p (dynM (I 143) p) = if clF (I 143 (7 + p) + r) < buM (I 143) then (I 143 (1 + p), clF (I 143 (7 + p) + r), I 143 (13 + p)) else (I 143 (1 + p) &&& ((1 <<< ((I 143 (44 + p) - I 143 (44 + p) / (8 : Int32) * (8 : Int32)) &&& 31)) ^^^ (-1)), 0, 1) := by
    unfold stpM stp
    rw [if_neg ca, if_neg (show ¬ (dynM (I 143) p).2.2 = 1 from cg)]
    unfold dynM
    dsimp only
    rw [hr]
  refine r_M_rises_45 (by omega) _ _ _ ⟨fun c => ⟨rfl, ?_, k2⟩, fun c => ?_⟩
  · rw [hst, if_pos c, s2]
    funext j
    unfold setD
    dsimp only
    by_cases h1 : j = 1 + p
    · rw [if_pos h1, if_neg (by omega), h1]
    · rw [if_neg h1]
      by_cases h2 : j = 7 + p
      · rw [if_pos h2, if_pos h2]
      · rw [if_neg h2, if_neg h2]
        by_cases h3 : j = 13 + p
        · rw [if_pos h3, h3]
        · rw [if_neg h3]
  rw [ix_c (c := 13) (c' := 13) rfl (by omega), ix_c (c := 7) (c' := 7) rfl (by omega), ix_c (c := 1) (c' := 1) rfl (by omega), ix_c (c := 44) (c' := 44) rfl (by omega)]
  refine ⟨vi_c (c' := 13) rfl (by omega) (by decide), fun I3 e3 => ⟨vi_c (c' := 7) rfl (by omega) (by decide), fun I5 e5 => ⟨vi_c (c' := 1) rfl (by omega) (by decide), vi_c (c' := 44) rfl (by omega) (by decide), vi_c (c' := 1) rfl (by omega) (by decide), fun I9 e9 => ?_⟩⟩⟩
  have k3 : kp [143, 146, 147] I I3 := k2.trans (by rw [e3]; exact kp.up (by simp))
  have k5 : kp [143, 146, 147] I I5 := k3.trans (by rw [e5]; exact kp.up (by simp))
  have k9 : kp [143, 146, 147] I I9 := k5.trans (by rw [e9]; exact kp.up (by simp))
  refine ⟨rfl, ?_, k9⟩
  have s5 : I5 143 = fun j => if j = 7 + p then 0 else if j = 13 + p then 1 else I 143 j := by
    rw [e5, up_eq, e3, up_eq, s2]
    funext j
    dsimp only
    by_cases h2 : j = 7 + p
    · rw [if_pos h2, if_pos h2]
    · rw [if_neg h2, if_neg h2, if_neg h2]
  rw [hst, if_neg c, e9, up_eq, s5]
  funext j
  unfold setD
  dsimp only
  rw [if_neg (show ¬ 1 + p = 7 + p by omega), if_neg (show ¬ 1 + p = 13 + p by omega), if_neg (show ¬ 44 + p = 7 + p by omega), if_neg (show ¬ 44 + p = 13 + p by omega)]
end WKM
