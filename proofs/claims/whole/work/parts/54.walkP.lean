/-! ===== walk: what the pairs come to ===== -/
/-- the set u without p -/
def rm (u p : Nat) : Nat := if u.testBit p = true then u - 2 ^ p else u
def lo (u : Nat) : Nat := if u.testBit 0 = true then 0 else if u.testBit 1 = true then 1 else if u.testBit 2 = true then 2 else if u.testBit 3 = true then 3 else if u.testBit 4 = true then 4 else 5
theorem rm_fin : ∀ u, u < 64 → ∀ p, p < 6 → (nI u &&& ((1 <<< (nI p &&& 31)) ^^^ (-1)) = nI (rm u p)) ∧ rm u p ≤ u ∧ (u.testBit p = true → rm u p < u ∧ kN (rm u p) + 1 = kN u) ∧ ∀ k, k < 6 → (rm u p).testBit k = (u.testBit k && decide (k ≠ p)) := by decide +kernel
theorem lo_fin : ∀ u, u < 64 → 0 < u → lo u < 6 ∧ u.testBit (lo u) = true ∧ ∀ k, k < lo u → u.testBit k = false := by decide +kernel
theorem kN_0 : ∀ u, u < 64 → (kN u = 0 ↔ u = 0) := by decide +kernel
theorem bitn_fin : ∀ n, n < 7 → ∀ u, u < 2 ^ n → ∀ q, q < 6 → u.testBit q = true → q < n := by decide +kernel
theorem two_fin : ∀ a, a < 7 → ∀ b, b < 7 → ((nI b = nI a - 2) ↔ b + 2 = a) := by decide +kernel
theorem par_fin : ∀ a, a < 7 → ((nI a - nI a / (2 : Int32) * (2 : Int32) = 0) ↔ a % 2 = 0) ∧ nI a - nI a / (2 : Int32) * (2 : Int32) = nI (a % 2) := by decide +kernel
theorem rmz_fin : ∀ u, u < 64 → ∀ p, p < 6 → nI u &&& (((1 <<< (nI p &&& 31)) ||| 0) ^^^ (-1)) = nI (rm u p) := by decide +kernel
theorem rm2_fin : ∀ u, u < 64 → ∀ p, p < 6 → ∀ q, q < 6 → nI u &&& (((1 <<< (nI p &&& 31)) ||| (1 <<< (nI q &&& 31))) ^^^ (-1)) = nI (rm (rm u p) q) := by decide +kernel
theorem ntz_fin : ∀ m, m < 64 → 0 < m → (nI m ^^^ (-1)) &&& (nI m - 1) = nI (2 ^ lo m - 1) := by decide +kernel
/-- more than all pairs -/
def xfar : Nat := 1000000000
/-- the pairs of p that are tried below j: the least -/
def cm (D : Nat → Nat → Nat) (W : Nat → Nat) (u p : Nat) : Nat → Nat
  | 0 => xfar
  | j + 1 => if p < j ∧ u.testBit j = true then min (cm D W u p j) (W (rm (rm u p) j) + D p j) else cm D W u p j
/-- and the first that comes to it -/
def bq (D : Nat → Nat → Nat) (W : Nat → Nat) (u p : Nat) : Nat → Nat
  | 0 => 0
  | j + 1 => if (p < j ∧ u.testBit j = true) ∧ W (rm (rm u p) j) + D p j < cm D W u p j then j else bq D W u p j
def al (W : Nat → Nat) (r : Nat) : Nat := if kN r % 2 = 0 then W r else xfar
def vs (D : Nat → Nat → Nat) (n : Nat) (W : Nat → Nat) (u : Nat) : Nat := min (cm D W u (lo u) n) (al W (rm u (lo u)))
/-- what each set below m comes to -/
def vT (D : Nat → Nat → Nat) (n : Nat) : Nat → Nat → Nat
  | 0 => fun _ => 0
  | m + 1 => fun u => if u = m then (if m = 0 then 0 else vs D n (vT D n m) m) else vT D n m u
def vV (D : Nat → Nat → Nat) (n u : Nat) : Nat := vT D n 64 u
theorem vT_st {D : Nat → Nat → Nat} {n u : Nat} : ∀ k, vT D n (u + 1 + k) u = vT D n (u + 1) u
  | 0 => rfl
  | k + 1 => by
    show (if u = u + 1 + k then _ else vT D n (u + 1 + k) u) = _
    rw [if_neg (by omega), vT_st k]
theorem vV_T {D : Nat → Nat → Nat} {n u m : Nat} (h : u < m) (hm : m ≤ 64) : vT D n m u = vV D n u := by
  have a := vT_st (D := D) (n := n) (u := u) (m - (u + 1))
  have b := vT_st (D := D) (n := n) (u := u) (64 - (u + 1))
  rw [show u + 1 + (m - (u + 1)) = m by omega] at a
  rw [show u + 1 + (64 - (u + 1)) = 64 by omega] at b
  unfold vV
  rw [a, b]
theorem cm_congr {D : Nat → Nat → Nat} {W W' : Nat → Nat} {u p : Nat} (hu : u < 64) (hp : p < 6) (hpu : u.testBit p = true) (h : ∀ x, x < u → W x = W' x) : ∀ j, j ≤ 6 → cm D W u p j = cm D W' u p j
  | 0, _ => rfl
  | j + 1, hj => by
    have r1 := rm_fin u hu p hp
    have r2 := rm_fin (rm u p) (by omega) j (by omega)
    unfold cm
    rw [cm_congr hu hp hpu h j (by omega), h (rm (rm u p) j) (by have := r1.2.2.1 hpu; omega)]
theorem bq_congr {D : Nat → Nat → Nat} {W W' : Nat → Nat} {u p : Nat} (hu : u < 64) (hp : p < 6) (hpu : u.testBit p = true) (h : ∀ x, x < u → W x = W' x) : ∀ j, j ≤ 6 → bq D W u p j = bq D W' u p j
  | 0, _ => rfl
  | j + 1, hj => by
    have r1 := rm_fin u hu p hp
    have r2 := rm_fin (rm u p) (by omega) j (by omega)
    unfold bq
    rw [cm_congr hu hp hpu h j (by omega), bq_congr hu hp hpu h j (by omega), h (rm (rm u p) j) (by have := r1.2.2.1 hpu; omega)]
theorem vV_0 {D : Nat → Nat → Nat} {n : Nat} : vV D n 0 = 0 := by
  rw [← vV_T (m := 1) (by omega) (by omega)]
  rfl
theorem vV_eq {D : Nat → Nat → Nat} {n u : Nat} (hn : n ≤ 6) (h0 : 0 < u) (hu : u < 64) : vV D n u = vs D n (vV D n) u := by
  obtain ⟨l1, l2, _⟩ := lo_fin u hu h0
  have r1 := rm_fin u hu (lo u) l1
  rw [← vV_T (m := u + 1) (by omega) (by omega)]
  show (if u = u then (if u = 0 then 0 else vs D n (vT D n u) u) else _) = _
  rw [if_pos rfl, if_neg (by omega)]
  have hW : ∀ x, x < u → vT D n u x = vV D n x := fun x hx => vV_T hx (by omega)
  unfold vs al
  rw [cm_congr hu l1 l2 hW n hn, hW (rm u (lo u)) (r1.2.2.1 l2).1]
theorem cm_le {D : Nat → Nat → Nat} {W : Nat → Nat} {u p : Nat} : ∀ j q, q < j → p < q → u.testBit q = true → cm D W u p j ≤ W (rm (rm u p) q) + D p q
  | 0, q, h, _, _ => absurd h (by omega)
  | j + 1, q, h, hpq, hb => by
    unfold cm
    by_cases e : q = j
    · subst e
      rw [if_pos ⟨hpq, hb⟩]
      exact Nat.min_le_right _ _
    · have := cm_le (D := D) (W := W) (u := u) (p := p) j q (by omega) hpq hb
      split
      · exact Nat.le_trans (Nat.min_le_left _ _) this
      · exact this
theorem cm_lo {D : Nat → Nat → Nat} {W : Nat → Nat} {u p : Nat} : ∀ j, j ≤ p + 1 → cm D W u p j = xfar
  | 0, _ => rfl
  | j + 1, h => by
    unfold cm
    rw [if_neg (by omega), cm_lo j (by omega)]
theorem cm_far {D : Nat → Nat → Nat} {W : Nat → Nat} {u p : Nat} : ∀ j, cm D W u p j ≤ xfar
  | 0 => Nat.le_refl _
  | j + 1 => by
    have := cm_far (D := D) (W := W) (u := u) (p := p) j
    unfold cm
    split
    · exact Nat.le_trans (Nat.min_le_left _ _) this
    · exact this
/-- the first that comes to the least -/
theorem bq_ok {D : Nat → Nat → Nat} {W : Nat → Nat} {u p : Nat} : ∀ j, cm D W u p j < xfar → p < bq D W u p j ∧ bq D W u p j < j ∧ u.testBit (bq D W u p j) = true ∧ W (rm (rm u p) (bq D W u p j)) + D p (bq D W u p j) = cm D W u p j ∧ ∀ q, p < q → q < bq D W u p j → u.testBit q = true → cm D W u p j < W (rm (rm u p) q) + D p q
  | 0, h => absurd h (Nat.lt_irrefl _)
  | j + 1, h => by
    have ih := bq_ok (D := D) (W := W) (u := u) (p := p) j
    unfold cm at h
    unfold cm bq
    by_cases c : p < j ∧ u.testBit j = true
    · rw [if_pos c] at h
      rw [if_pos c]
      by_cases c2 : W (rm (rm u p) j) + D p j < cm D W u p j
      · rw [if_pos ⟨c, c2⟩]
        refine ⟨c.1, by omega, c.2, by omega, fun q h1 h2 h3 => ?_⟩
        have := cm_le (D := D) (W := W) (u := u) (p := p) j q h2 h1 h3
        omega
      · rw [if_neg (fun z => c2 z.2)]
        obtain ⟨i1, i2, i3, i4, i5⟩ := ih (by omega)
        exact ⟨i1, by omega, i3, by omega, fun q h1 h2 h3 => by have := i5 q h1 h2 h3; omega⟩
    · rw [if_neg c] at h
      rw [if_neg c, if_neg (fun z => c z.1)]
      obtain ⟨i1, i2, i3, i4, i5⟩ := ih h
      exact ⟨i1, by omega, i3, i4, i5⟩
theorem vV_le {D : Nat → Nat → Nat} {n : Nat} (hn : n ≤ 6) (hD : ∀ p q, p < n → q < n → D p q ≤ 8) : ∀ u, u < 2 ^ n → vV D n u ≤ 8 * kN u := by
  intro u
  induction u using Nat.strongRecOn with
  | ind u ih =>
    intro hu
    have hp2 : 2 ^ n ≤ 64 := Nat.pow_le_pow_right (n := 2) (by decide) hn
    by_cases h0 : u = 0
    · rw [h0, vV_0]
      omega
    obtain ⟨l1, l2, l3⟩ := lo_fin u (by omega) (by omega)
    obtain ⟨_, r2, r3, r4⟩ := rm_fin u (by omega) (lo u) l1
    obtain ⟨r3, r5⟩ := r3 l2
    rw [vV_eq hn (by omega) (by omega)]
    unfold vs
    by_cases c : kN (rm u (lo u)) % 2 = 0
    · have := ih _ r3 (by omega)
      unfold al
      rw [if_pos c]
      omega
    · have hr0 : 0 < rm u (lo u) := by
        have := kN_0 (rm u (lo u)) (by omega)
        omega
      obtain ⟨m1, m2, _⟩ := lo_fin (rm u (lo u)) (by omega) hr0
      obtain ⟨_, q2, q3, _⟩ := rm_fin (rm u (lo u)) (by omega) (lo (rm u (lo u))) m1
      obtain ⟨q3, q5⟩ := q3 m2
      have e := r4 _ m1
      rw [m2] at e
      have e2 : u.testBit (lo (rm u (lo u))) = true ∧ lo (rm u (lo u)) ≠ lo u := by
        have := e.symm
        rw [Bool.and_eq_true] at this
        exact ⟨this.1, of_decide_eq_true this.2⟩
      have hq : lo (rm u (lo u)) < n := bitn_fin n (by omega) u hu _ m1 e2.1
      have hp : lo u < n := bitn_fin n (by omega) u hu _ l1 l2
      have hlt : lo u < lo (rm u (lo u)) := by
        rcases Nat.lt_or_ge (lo (rm u (lo u))) (lo u) with g | g
        · have := l3 _ g
          rw [e2.1] at this
          exact absurd this (by decide)
        · omega
      have a := cm_le (D := D) (W := vV D n) (u := u) (p := lo u) n _ hq hlt e2.1
      have b := ih (rm (rm u (lo u)) (lo (rm u (lo u)))) (by omega) (by omega)
      have c := hD _ _ hp hq
      omega
/-- the pairs -/
def fL (D : Nat → Nat → Nat) (n : Nat) : Nat → Nat → (Nat → Int32) → (Nat → Int32)
  | 0, _, L => L
  | f + 1, u, L => if u = 0 then L else if al (vV D n) (rm u (lo u)) < cm D (vV D n) u (lo u) n then fL D n f (rm u (lo u)) (su L (lo u) (9 : Int32))
    else fL D n f (rm (rm u (lo u)) (bq D (vV D n) u (lo u) n)) (su (su L (lo u) (nI (bq D (vV D n) u (lo u) n))) (bq D (vV D n) u (lo u) n) (nI (lo u)))
