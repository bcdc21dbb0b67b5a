/-! ===== the town's text: what both read with ===== -/
/-- a list written into an array -/
def wr (c : Nat) (L : List Int32) (g : Nat → Int32) : Nat → Int32 := fun i => if c ≤ i ∧ i < c + L.length then L.getD (i - c) 0 else g i
theorem wr_nil {c : Nat} {g : Nat → Int32} : wr c [] g = g := by
  funext i
  unfold wr
  rw [if_neg (by simp)]
theorem wr_one {c : Nat} {x : Int32} {g : Nat → Int32} : wr c [x] g = su g c x := by
  funext i
  unfold wr su
  by_cases e : i = c
  · rw [if_pos (by simp; omega), if_pos e, e, Nat.sub_self]
    rfl
  · rw [if_neg (by simp; omega), if_neg e]
theorem wr_app {c : Nat} {A B : List Int32} {g : Nat → Int32} : wr (c + A.length) B (wr c A g) = wr c (A ++ B) g := by
  funext i
  unfold wr
  rw [List.length_append]
  by_cases h1 : c + A.length ≤ i ∧ i < c + A.length + B.length
  · rw [if_pos h1, if_pos (by omega), List.getD_eq_getElem?_getD, List.getD_eq_getElem?_getD, List.getElem?_append_right (by omega), show i - c - A.length = i - (c + A.length) by omega]
  · rw [if_neg h1]
    by_cases h2 : c ≤ i ∧ i < c + A.length
    · rw [if_pos h2, if_pos (by omega), List.getD_eq_getElem?_getD, List.getD_eq_getElem?_getD, List.getElem?_append_left (by omega)]
    · rw [if_neg h2, if_neg (by omega)]
/-- the model's steps of town a, c of them, and more behind -/
def emS (a c : Nat) (L : List Int32) (t : Nat → Int32) : Nat → Int32 := fun i => if i = 226 + a then nI (c + L.length) else wr (231 + 140 * a + c) L t i
theorem emS_nil {a c : Nat} {t : Nat → Int32} (h : t (226 + a) = nI c) : emS a c [] t = t := by
  funext i
  unfold emS
  rw [wr_nil]
  split
  · rename_i e
    rw [e, h]
    rfl
  · rfl
theorem emS_app {a c : Nat} {A B : List Int32} {t : Nat → Int32} (ha : a < 5) : emS a (c + A.length) B (emS a c A t) = emS a c (A ++ B) t := by
  funext i
  unfold emS
  rw [List.length_append]
  by_cases e : i = 226 + a
  · rw [if_pos e, if_pos e, Nat.add_assoc]
  · rw [if_neg e, if_neg e, ← wr_app, show 231 + 140 * a + c + A.length = 231 + 140 * a + (c + A.length) by omega]
    unfold wr
    by_cases h1 : 231 + 140 * a + (c + A.length) ≤ i ∧ i < 231 + 140 * a + (c + A.length) + B.length
    · rw [if_pos h1, if_pos h1]
    · rw [if_neg h1, if_neg h1]
      exact if_neg e
theorem emS_one {a c : Nat} {x : Int32} {t : Nat → Int32} : su (su t (231 + 140 * a + c) x) (226 + a) (nI (c + 1)) = emS a c [x] t := by
  funext i
  unfold emS
  rw [wr_one]
  unfold su
  rfl
theorem emS_cnt {a c : Nat} {L : List Int32} {t : Nat → Int32} : emS a c L t (226 + a) = nI (c + L.length) := if_pos rfl
theorem emS_lo {a c i : Nat} {L : List Int32} {t : Nat → Int32} (hi : i < 226) : emS a c L t i = t i := by
  unfold emS wr
  rw [if_neg (by omega), if_neg (by omega)]
/-- the reader stands at p of the text -/
def RdR (tv : Nat → Nat) (e : Nat) (J : Nat → Nat → Int32) (p : Nat) : Prop := J 131 2 = nI e ∧ J 131 3 = nI p ∧ ∀ i, i < e → J 137 i = nI (tv i)
/-- the model stands at p of the text -/
def MdR (J : Nat → Nat → Int32) (t : Nat → Int32) (e p : Nat) (b : Bool) (o a : Nat) : Prop := J 143 = t ∧ J 142 7 = nI e ∧ J 142 6 = nI p ∧ J 142 8 = bI b ∧ J 142 9 = nI o ∧ J 142 5 = nI a
def mfr (J K : Nat → Nat → Int32) : Prop := (∀ j, j ≠ 6 → j ≠ 8 → j ≠ 9 → K 142 j = J 142 j) ∧ kp [142, 143] J K
theorem mfr.rfl' {J : Nat → Nat → Int32} : mfr J J := ⟨fun _ _ _ _ => rfl, kp.rfl'⟩
theorem mfr.trans {I J K : Nat → Nat → Int32} (h1 : mfr I J) (h2 : mfr J K) : mfr I K := ⟨fun j a b c => (h2.1 j a b c).trans (h1.1 j a b c), h1.2.trans h2.2⟩
theorem mfr.f {J K : Nat → Nat → Int32} {k : Nat} {x : Int32} (hk : k = 6 ∨ k = 8 ∨ k = 9) (e : K = x_up J 142 k x) : mfr J K := by
  subst e
  exact ⟨fun j a b c => by rw [up_su, su_ne (by omega)], kp.up (by simp)⟩
def tpR (t : Nat → Int32) (tv : Nat → Nat) (e : Nat) : Prop := ∀ i, i < e → t (121 + i) = nI (tv i)
theorem tpR_em {t : Nat → Int32} {tv : Nat → Nat} {e a c : Nat} {L : List Int32} (he : e ≤ 100) (h : tpR t tv e) : tpR (emS a c L t) tv e := fun i hi => by rw [emS_lo (by omega)]; exact h i hi
/-- the sign at p, or -1 -/
def hC (tv : Nat → Nat) (e p : Nat) : Int32 := if p < e then nI (tv p) else (-1 : Int32)
/-- how many signs of a word stand at p -/
def mt (tv : Nat → Nat) (e : Nat) : Nat → List Int32 → Nat
  | _, [] => 0
  | p, c :: l => if hC tv e p = c then mt tv e (p + 1) l + 1 else 0
theorem mt_cons {tv : Nat → Nat} {e p : Nat} {c : Int32} {l : List Int32} : mt tv e p (c :: l) = if hC tv e p = c then mt tv e (p + 1) l + 1 else 0 := rfl
theorem mt_le {tv : Nat → Nat} {e : Nat} : ∀ (l : List Int32) (p : Nat), mt tv e p l ≤ l.length
  | [], _ => Nat.le_refl _
  | c :: l, p => by
    have := mt_le (tv := tv) (e := e) l (p + 1)
    unfold mt
    rw [List.length_cons]
    split <;> omega
theorem mt_e {tv : Nat → Nat} {e : Nat} : ∀ (l : List Int32) (p : Nat), (∀ c ∈ l, c ≠ (-1 : Int32)) → p ≤ e → p + mt tv e p l ≤ e
  | [], _, _, h => h
  | c :: l, p, hl, h => by
    unfold mt
    by_cases g : hC tv e p = c
    · rw [if_pos g]
      have hp : p < e := by
        unfold hC at g
        by_cases hp : p < e
        · exact hp
        · rw [if_neg hp] at g
          exact absurd g.symm (hl c (by simp))
      have := mt_e (tv := tv) (e := e) l (p + 1) (fun x hx => hl x (by simp [hx])) hp
      omega
    · rw [if_neg g]
      omega
def isD (tv : Nat → Nat) (e p : Nat) : Bool := decide (p < e) && (decide (48 ≤ tv p) && decide (tv p ≤ 57))
def fgD (tv : Nat → Nat) (e p : Nat) : Nat := if isD tv e p = true then (if ¬ tv p = 48 ∧ isD tv e (p + 1) = true then 2 else 1) else 0
def fgV (tv : Nat → Nat) (e p : Nat) : Nat := if isD tv e p = true then (if ¬ tv p = 48 ∧ isD tv e (p + 1) = true then 10 * (tv p - 48) + (tv (p + 1) - 48) else tv p - 48) else 0
theorem isD_iff {tv : Nat → Nat} {e p : Nat} : isD tv e p = true ↔ p < e ∧ 48 ≤ tv p ∧ tv p ≤ 57 := by
  unfold isD
  rw [Bool.and_eq_true, Bool.and_eq_true, decide_eq_true_iff, decide_eq_true_iff, decide_eq_true_iff]
theorem fg_le {tv : Nat → Nat} {e p : Nat} (hp : p ≤ e) : p + fgD tv e p ≤ e ∧ fgV tv e p ≤ 99 ∧ (isD tv e p = true → 1 ≤ fgD tv e p) ∧ (isD tv e p = false → fgD tv e p = 0) := by
  unfold fgD fgV
  by_cases h : isD tv e p = true
  · have h1 := isD_iff.mp h
    rw [if_pos h, if_pos h]
    by_cases h2 : ¬ tv p = 48 ∧ isD tv e (p + 1) = true
    · have h3 := isD_iff.mp h2.2
      rw [if_pos h2, if_pos h2]
      exact ⟨by omega, by omega, fun _ => by omega, fun g => by rw [h] at g; exact absurd g (by decide)⟩
    · rw [if_neg h2, if_neg h2]
      exact ⟨by omega, by omega, fun _ => by omega, fun g => by rw [h] at g; exact absurd g (by decide)⟩
  · rw [if_neg h, if_neg h]
    exact ⟨by omega, by omega, fun g => absurd g h, fun _ => rfl⟩
theorem ch_fin : ∀ n, n < 128 → ((nI n).toUInt32 % 65536).toInt32 = nI n := by decide +kernel
theorem ix3_fin : ∀ n, n < 128 → x_ixl (nI n) (x_sl 3) 0 = (-1 : Int32) ∨ ∃ k, k < 6 ∧ x_ixl (nI n) (x_sl 3) 0 = nI k := by decide +kernel
theorem ix4_fin : ∀ n, n < 128 → x_ixl (nI n) (x_sl 4) 0 = (-1 : Int32) ∨ ∃ k, k < 3 ∧ x_ixl (nI n) (x_sl 4) 0 = nI k := by decide +kernel
section RDC
variable {E : XE} {d e p : Nat} {J : Nat → Nat → Int32} {tv : Nat → Nat}
theorem RdR_up (h : RdR tv e J p) {q : Nat} {K : Nat → Nat → Int32} (e3 : K 131 = su (J 131) 3 (nI q)) (e7 : K 137 = J 137) : RdR tv e K q := by
  refine ⟨?_, ?_, fun i hi => ?_⟩
  · rw [e3, su_ne (by decide)]; exact h.1
  · rw [e3, su_eq]
  · rw [e7]; exact h.2.2 i hi
theorem RdR_k (h : RdR tv e J p) {K : Nat → Nat → Int32} (e3 : K 131 = J 131) (e7 : K 137 = J 137) : RdR tv e K p := by
  unfold RdR
  rw [e3, e7]
  exact h
theorem c_takes (h : RdR tv e J p) (he : e ≤ 100) (hpe : p ≤ e) {ch : Int32} (hch : ch ≠ (-1 : Int32)) (hd : 1 ≤ d) :
    x_K E d 42 [.ref 131, .int ch] J (fun v K => v = some (.int (bI (decide (hC tv e p = ch)))) ∧ RdR tv e K (if hC tv e p = ch then p + 1 else p) ∧ (∀ j, j ≠ 3 → K 131 j = J 131 j) ∧ kp [131] J K) := by
  obtain ⟨h2, h3, h7⟩ := h
  refine x_K.of (by decide) (by decide) rfl rfl rfl (r_Reader_takes_0 (by omega) _ ?_)
  rw [h2, h3]
  unfold hC
  by_cases c : p < e
  · rw [if_pos c]
    refine ⟨fun g => absurd g (nI_ge c (by omega)), fun _ => ⟨vp_in_nI (by omega) (by decide), ?_⟩⟩
    rw [nI_clamp (by omega), h7 p c, nI_1]
    refine ⟨fun g I4 e4 => ?_, fun g => ?_⟩
    · rw [decide_eq_true g, if_pos g]
      refine ⟨rfl, RdR_up ⟨h2, h3, h7⟩ (by rw [e4, up_su]) (by rw [e4, up_ne (by decide)]), fun j hj => by rw [e4, up_su, su_ne hj], by rw [e4]; exact kp.up (by simp)⟩
    · rw [decide_eq_false g, if_neg g]
      exact ⟨rfl, ⟨h2, h3, h7⟩, fun _ _ => rfl, kp.rfl'⟩
  · rw [if_neg c, decide_eq_false hch.symm, if_neg hch.symm]
    exact ⟨fun _ => ⟨rfl, ⟨h2, h3, h7⟩, fun _ _ => rfl, kp.rfl'⟩, fun g => absurd (nI_le (by omega) (by omega)) g⟩
theorem hC_ne {q : Nat} {ch : Int32} (h : hC tv e q = ch) (hch : ch ≠ (-1 : Int32)) : q < e := by
  unfold hC at h
  by_cases c : q < e
  · exact c
  · rw [if_neg c] at h
    exact absurd h.symm hch
/-- the class: a word -/
theorem sl_fin : ∀ k, k < 8 → (∀ c ∈ x_sl k, c ≠ (-1 : Int32)) := by decide +kernel
theorem getD_drop {l : List Int32} {j : Nat} (h : j < l.length) : l.drop j = l.getD j 0 :: l.drop (j + 1) := by
  rw [List.drop_eq_getElem_cons h]
  congr 1
  rw [List.getD_eq_getElem?_getD, List.getElem?_eq_getElem h]
  rfl
theorem c_takesAll {k : Nat} (h : RdR tv e J p) (he : e ≤ 100) (hpe : p ≤ e) (hk : k < 8) (hd : 5 ≤ d) :
    x_K E d 43 [.ref 131, .ref (8 + k)] J (fun v K => v = some (.int (bI (decide (mt tv e p (x_sl k) = (x_sl k).length)))) ∧ RdR tv e K (p + mt tv e p (x_sl k)) ∧ kp [131] J K) := by
  refine x_K.of (by decide) (by decide) rfl rfl rfl (r_Reader_takesAll_0 (by omega) k hk ?_)
  have hlen := (x_sl_len k hk).1
  have key : ∀ r j (K : Nat → Nat → Int32), j + r = (x_sl k).length → RdR tv e K (p + j) → p + j ≤ e → kp [131] J K → mt tv e p (x_sl k) = j + mt tv e (p + j) ((x_sl k).drop j) →
      x_P E d 43 2 [.ref 131, .ref (8 + k), .int (nI j)] [] K (fun v K => v = some (.int (bI (decide (mt tv e p (x_sl k) = (x_sl k).length)))) ∧ RdR tv e K (p + mt tv e p (x_sl k)) ∧ kp [131] J K) := by
    intro r
    induction r with
    | zero =>
      intro j K hj hK hpj k1 hm
      have ed : (x_sl k).drop j = [] := List.drop_eq_nil_of_le (by omega)
      rw [ed] at hm
      have hm : mt tv e p (x_sl k) = j := hm
      refine r_Reader_takesAll_2 (by omega) k hk _ ((c_len hk (by omega)).pu (r_Reader_takesAll_5 (by omega) k hk _ _ _ ⟨fun _ => ?_, fun g => absurd (nI_le (by omega) (by omega)) g⟩))
      rw [decide_eq_true (by omega), hm]
      exact ⟨rfl, hK, k1⟩
    | succ r ih =>
      intro j K hj hK hpj k1 hm
      refine r_Reader_takesAll_2 (by omega) k hk _ ((c_len hk (by omega)).pu (r_Reader_takesAll_5 (by omega) k hk _ _ _ ⟨fun g => absurd g (nI_ge (by omega) (by omega)), fun _ => (c_charAt hk (by omega) (by omega)).pu (r_Reader_takesAll_10 (by omega) k hk _ _ ?_)⟩))
      have hc1 : (x_sl k).getD j 0 ≠ (-1 : Int32) := by
        refine sl_fin k hk _ ?_
        rw [List.getD_eq_getElem?_getD, List.getElem?_eq_getElem (by omega)]
        exact List.getElem_mem _
      rw [getD_drop (by omega), mt_cons] at hm
      refine (c_takes hK he hpj hc1 (by omega)).mono (fun v K2 hv => ?_)
      obtain ⟨hv, hK2, _, k2⟩ := hv
      rw [hv]
      by_cases g : hC tv e (p + j) = (x_sl k).getD j 0
      · rw [if_pos g] at hm hK2
        rw [decide_eq_true g]
        refine r_Reader_takesAll_11 (by omega) k hk _ _ ⟨fun z => absurd z (by decide), fun _ => ?_⟩
        rw [nI_1]
        have := hC_ne g hc1
        exact ih (j + 1) K2 (by omega) hK2 (by omega) (k1.trans k2) (by rw [show p + (j + 1) = p + j + 1 by omega]; omega)
      · rw [if_neg g] at hm hK2
        rw [decide_eq_false g]
        refine r_Reader_takesAll_11 (by omega) k hk _ _ ⟨fun _ => ?_, fun z => absurd rfl z⟩
        rw [decide_eq_false (by omega), show mt tv e p (x_sl k) = j by omega]
        exact ⟨rfl, hK2, k1.trans k2⟩
  have kk := key (x_sl k).length 0 J (by omega) h (by omega) kp.rfl' (by rw [List.drop_zero, Nat.add_zero, Nat.zero_add])
  rw [nI_0] at kk
  exact kk
theorem c_number (h : RdR tv e J p) (he : e ≤ 100) (hpe : p ≤ e) (ht : ∀ i, i < e → tv i < 128) (hd : 1 ≤ d) :
    x_K E d 41 [.ref 131] J (fun v K => v = some (.int (bI (isD tv e p))) ∧ RdR tv e K (p + fgD tv e p) ∧ K 131 4 = nI (fgV tv e p) ∧ kp [131] J K) := by
  obtain ⟨h2, h3, h7⟩ := h
  refine x_K.of (by decide) (by decide) rfl rfl rfl (r_Reader_readsNumber_0 (by omega) (fun I1 e1 => ?_))
  have f2 : I1 131 2 = nI e := by rw [e1, up_su, su_ne (by decide)]; exact h2
  have f3 : I1 131 3 = nI p := by rw [e1, up_su, su_ne (by decide)]; exact h3
  have f4 : I1 131 4 = nI 0 := by rw [e1, up_su, su_eq]; rfl
  have f7 : I1 137 = J 137 := by rw [e1, up_ne (by decide)]
  have fk : kp [131] J I1 := by rw [e1]; exact kp.up (by simp)
  have f0 : x_bi (¬ ((0 : Int32) ≤ 0)) = bI false := by rw [x_bi_f (by decide)]; rfl
  by_cases c : ¬ p < e
  · have hD : isD tv e p = false := by
      cases g : isD tv e p
      · rfl
      · exact absurd (isD_iff.mp g).1 c
    have hz := (fg_le (tv := tv) hpe).2.2.2 hD
    have hv : fgV tv e p = 0 := by unfold fgV; rw [hD]; rfl
    refine r_Reader_readsNumber_5 (by omega) _ ⟨fun g => absurd g (by decide), fun _ => ⟨fun _ => ?_, fun g => absurd ?_ g⟩⟩
    · rw [hD, hz, hv, f0]
      exact ⟨rfl, ⟨f2, f3, fun i hi => by rw [f7]; exact h7 i hi⟩, f4, fk⟩
    · rw [f2, f3]
      exact nI_le (by omega) (by omega)
  have c : p < e := Decidable.of_not_not c
  have f7p : I1 137 p = nI (tv p) := by rw [f7]; exact h7 p c
  have tp := ht p c
  refine r_Reader_readsNumber_5 (by omega) _ ⟨fun g => absurd g (by decide), fun _ => ⟨fun g => absurd g ?_, fun _ => ⟨?_, ?_⟩⟩⟩
  · rw [f2, f3]
    exact nI_ge c (by omega)
  · rw [f3]
    exact vp_in_nI (by omega) (by decide)
  rw [f3, nI_clamp (by omega), f7p, f4]
  have l48 := nI_ltI (a := tv p) (b := 48) (by omega) (by omega)
  have l57 := nI_ltI (a := 57) (b := tv p) (by omega) (by omega)
  have fin0 : isD tv e p = false → (some (Value.int (x_bi (¬ ((0 : Int32) ≤ 0)))) = some (Value.int (bI (isD tv e p))) ∧ RdR tv e I1 (p + fgD tv e p) ∧ nI 0 = nI (fgV tv e p) ∧ kp [131] J I1) := fun hD => by
    have hz := (fg_le (tv := tv) hpe).2.2.2 hD
    have hv : fgV tv e p = 0 := by unfold fgV; rw [hD]; rfl
    rw [hD, hz, hv, f0]
    exact ⟨rfl, ⟨f2, f3, fun i hi => by rw [f7]; exact h7 i hi⟩, rfl, fk⟩
  refine ⟨fun g => fin0 ?_, fun g => ⟨vp_in_nI (by omega) (by decide), fun g2 => fin0 ?_, fun g2 => ⟨fun g3 => absurd g3 (by decide), fun _ => ⟨vp_in_nI (by omega) (by decide), fun I13 e13 I14 e14 => ?_⟩⟩⟩⟩
  · cases z : isD tv e p
    · rfl
    · have := isD_iff.mp z
      have := l48.mp g
      omega
  · cases z : isD tv e p
    · rfl
    · have := isD_iff.mp z
      have := l57.mp g2
      omega
  have hD : isD tv e p = true := isD_iff.mpr ⟨c, by
    rcases Nat.lt_or_ge (tv p) 48 with z | z
    · exact absurd (l48.mpr z) g
    · exact z, by
    rcases Nat.lt_or_ge 57 (tv p) with z | z
    · exact absurd (l57.mpr z) g2
    · exact z⟩
  obtain ⟨_, d1, d2⟩ := isD_iff.mp hD
  have v1 : (nI 0 * (10 : Int32) + nI (tv p)) - (48 : Int32) = nI (tv p - 48) := by
    rw [show nI 0 * (10 : Int32) = nI 0 by decide, nI_add, show 0 + tv p = (tv p - 48) + 48 by omega]
    exact nI_sub
  rw [v1] at e13
  have b2 : I14 131 2 = nI e := by rw [e14, up_su, su_ne (by decide), e13, up_su, su_ne (by decide)]; exact f2
  have b3 : I14 131 3 = nI (p + 1) := by rw [e14, up_su, su_eq, e13, up_su, su_ne (by decide), f3, nI_1]
  have b4 : I14 131 4 = nI (tv p - 48) := by rw [e14, up_su, su_ne (by decide), e13, up_su, su_eq]
  have b7 : I14 137 = J 137 := by rw [e14, up_ne (by decide), e13, up_ne (by decide)]; exact f7
  have bk : kp [131] J I14 := fk.trans (by rw [e14, e13]; exact (kp.up (by simp)).trans (kp.up (by simp)))
  have fin1 : ¬ (¬ tv p = 48 ∧ isD tv e (p + 1) = true) → ∀ z : Int32, z = 1 → (some (Value.int z) = some (Value.int (bI (isD tv e p))) ∧ RdR tv e I14 (p + fgD tv e p) ∧ nI (tv p - 48) = nI (fgV tv e p) ∧ kp [131] J I14) := fun g z hz => by
    unfold fgD fgV
    rw [hD, if_pos rfl, if_pos rfl, if_neg g, if_neg g, hz]
    exact ⟨rfl, ⟨b2, b3, fun i hi => by rw [b7]; exact h7 i hi⟩, rfl, bk⟩
  have x1 : x_bi (¬ (((0 : Int32) + 1) ≤ 0)) = 1 := x_bi_t (by decide)
  refine r_Reader_readsNumber_5 (by omega) _ ⟨fun g => absurd g (by decide), fun _ => ⟨fun g3 => ?_, fun g3 => ⟨?_, ?_⟩⟩⟩
  · rw [b4]
    refine fin1 ?_ _ x1
    rw [b2, b3] at g3
    intro z
    exact absurd g3 (nI_ge (isD_iff.mp z.2).1 (by omega))
  · rw [b3]
    exact vp_in_nI (by
      rcases Nat.lt_or_ge (p + 1) e with z | z
      · omega
      · rw [b2, b3] at g3
        exact absurd (nI_le z (by omega)) g3) (by decide)
  have c1 : p + 1 < e := by
    rcases Nat.lt_or_ge (p + 1) e with z | z
    · exact z
    · rw [b2, b3] at g3
      exact absurd (nI_le z (by omega)) g3
  have tp1 := ht (p + 1) c1
  rw [b3, nI_clamp (by omega), b7, h7 (p + 1) c1, b4]
  have m48 := nI_ltI (a := tv (p + 1)) (b := 48) (by omega) (by omega)
  have m57 := nI_ltI (a := 57) (b := tv (p + 1)) (by omega) (by omega)
  refine ⟨fun g4 => fin1 ?_ _ x1, fun g4 => ⟨vp_in_nI (by omega) (by decide), fun g5 => fin1 ?_ _ x1, fun g5 => ⟨fun _ => ⟨fun g6 => fin1 ?_ _ rfl, fun g6 => ⟨vp_in_nI (by omega) (by decide), fun I17 e17 I18 e18 => ?_⟩⟩, fun g6 => absurd (by decide) g6⟩⟩⟩
  · intro z
    have := (isD_iff.mp z.2).2.1
    have := m48.mp g4
    omega
  · intro z
    have := (isD_iff.mp z.2).2.2
    have := m57.mp g5
    omega
  · intro z
    have := (nI_eq (a := tv p - 48) (b := 0) (by omega) (by omega)).mp g6
    exact z.1 (by omega)
  · have hD1 : isD tv e (p + 1) = true := isD_iff.mpr ⟨c1, by
      rcases Nat.lt_or_ge (tv (p + 1)) 48 with z | z
      · exact absurd (m48.mpr z) g4
      · exact z, by
      rcases Nat.lt_or_ge 57 (tv (p + 1)) with z | z
      · exact absurd (m57.mpr z) g5
      · exact z⟩
    obtain ⟨_, d3, d4⟩ := isD_iff.mp hD1
    have n48 : ¬ tv p = 48 := fun z => g6 (by rw [z]; rfl)
    have v2 : (nI (tv p - 48) * (10 : Int32) + nI (tv (p + 1))) - (48 : Int32) = nI (10 * (tv p - 48) + (tv (p + 1) - 48)) := by
      have : ∀ z, z < 10 → nI z * (10 : Int32) = nI (10 * z) := by decide
      rw [this _ (by omega), nI_add, show 10 * (tv p - 48) + tv (p + 1) = (10 * (tv p - 48) + (tv (p + 1) - 48)) + 48 by omega]
      exact nI_sub
    rw [v2] at e17
    unfold fgD fgV
    rw [hD, if_pos rfl, if_pos rfl, if_pos ⟨n48, hD1⟩, if_pos ⟨n48, hD1⟩]
    refine r_Reader_readsNumber_5 (by omega) _ ⟨fun _ => ⟨?_, ⟨?_, ?_, fun i hi => ?_⟩, ?_, ?_⟩, fun g => absurd (by decide) g⟩
    · rw [x_bi_t (by decide)]
      rfl
    · rw [e18, up_su, su_ne (by decide), e17, up_su, su_ne (by decide)]; exact b2
    · rw [e18, up_su, su_eq, e17, up_su, su_ne (by decide), b3, nI_1]
    · rw [e18, up_ne (by decide), e17, up_ne (by decide), b7]; exact h7 i hi
    · rw [e18, up_su, su_ne (by decide), e17, up_su, su_eq]
    · exact bk.trans (by rw [e18, e17]; exact (kp.up (by simp)).trans (kp.up (by simp)))
theorem c_put51 {c : Nat} {x : Int32} (h5 : J 132 5 = nI c) (hc : c ≤ 100) (hd : 1 ≤ d) :
    x_K E d 51 [.ref 132, .int x] J (fun v K => v = none ∧ (c < 100 → K 132 = su (J 132) 5 (nI (c + 1)) ∧ K 135 = su (J 135) c x) ∧ (100 ≤ c → K = J) ∧ kp [132, 135] J K) := by
  refine x_K.of (by decide) (by decide) rfl rfl rfl (r_Town_put_0 (by omega) _ ?_)
  rw [h5]
  refine ⟨fun g => ⟨rfl, fun z => absurd g (nI_ge (a := c) (b := 100) z (by decide)), fun _ => rfl, kp.rfl'⟩, fun g => ?_⟩
  have hc2 : c < 100 := by
    rcases Nat.lt_or_ge c 100 with z | z
    · exact z
    · exact absurd (nI_le z (by omega)) g
  refine ⟨vp_in_nI hc2 (by decide), fun I3 e3 I4 e4 => ?_⟩
  rw [nI_clamp (by omega)] at e3
  have e35 : I3 132 = J 132 := by rw [e3, up_ne (by decide)]
  rw [e35, h5, nI_1] at e4
  refine ⟨rfl, fun _ => ⟨by rw [e4, up_su, e35], by rw [e4, up_ne (by decide), e3, up_su]⟩, fun z => absurd z (by omega), ?_⟩
  rw [e4, e3]
  exact (kp.up (by simp)).trans (kp.up (by simp))
end RDC
