/-! ===== the town's text: tokens, and what both sides hold them to be ===== -/
/-- a token: 0 not, 1 both, 2 either, 3 + (what + 8 sign + 32 n) a test -/
def cM (x : Nat) : Int32 := if x = 0 then (-1 : Int32) else if x = 1 then (-2 : Int32) else if x = 2 then (-3 : Int32) else nI (x - 3)
def cC (x : Nat) : Int32 := if x = 0 then (-1 : Int32) else if x = 1 then (-2 : Int32) else if x = 2 then (-3 : Int32) else nI (((x - 3) % 8 * 3 + (x - 3) / 8 % 4) * 100 + (x - 3) / 32)
def tsN (a b n : Nat) : Nat := 3 + (a + 8 * b + 32 * n)
def tsOK (x : Nat) : Prop := ∃ a b n, a < 6 ∧ b < 3 ∧ n < 100 ∧ x = tsN a b n
/-- the tokens can be run from k truths on, to k' -/
def okK : List Nat → Nat → Nat → Prop
  | [], k, k' => k = k'
  | x :: T, k, k' => (x = 0 ∧ 1 ≤ k ∧ okK T k k') ∨ ((x = 1 ∨ x = 2) ∧ 2 ≤ k ∧ okK T (k - 1) k') ∨ (tsOK x ∧ k < 60 ∧ okK T (k + 1) k')
theorem okK_app {A B : List Nat} : ∀ {k m l : Nat}, okK A k m → okK B m l → okK (A ++ B) k l := by
  induction A with
  | nil =>
    intro k m l h1 h2
    have e : k = m := h1
    rw [e]
    exact h2
  | cons x T ih =>
    intro k m l h1 h2
    rcases h1 with ⟨a, b, c⟩ | ⟨a, b, c⟩ | ⟨a, b, c⟩
    · exact Or.inl ⟨a, b, ih c h2⟩
    · exact Or.inr (Or.inl ⟨a, b, ih c h2⟩)
    · exact Or.inr (Or.inr ⟨a, b, ih c h2⟩)
theorem okK_not {k : Nat} (h : 1 ≤ k) : okK [0] k k := Or.inl ⟨rfl, h, rfl⟩
theorem okK_bin {k x : Nat} (hx : x = 1 ∨ x = 2) (h : 1 ≤ k) : okK [x] (k + 1) k := Or.inr (Or.inl ⟨hx, by omega, by show k + 1 - 1 = k; omega⟩)
theorem okK_tst {k x : Nat} (hx : tsOK x) (h : k < 60) : okK [x] k (k + 1) := Or.inr (Or.inr ⟨hx, h, rfl⟩)
theorem ts_fin : ∀ a, a < 6 → ∀ b, b < 3 → ∀ n, n < 100 →
    (nI ((a * 3 + b) * 100 + n) / (300 : Int32) = nI a ∧ (nI ((a * 3 + b) * 100 + n) / (100 : Int32)) - (nI ((a * 3 + b) * 100 + n) / (100 : Int32)) / (3 : Int32) * (3 : Int32) = nI b ∧ nI ((a * 3 + b) * 100 + n) - nI ((a * 3 + b) * 100 + n) / (100 : Int32) * (100 : Int32) = nI n)
    ∧ (nI (a + 8 * b + 32 * n) / (32 : Int32) = nI n ∧ (nI (a + 8 * b + 32 * n) / (8 : Int32)) - (nI (a + 8 * b + 32 * n) / (8 : Int32)) / (4 : Int32) * (4 : Int32) = nI b ∧ nI (a + 8 * b + 32 * n) - nI (a + 8 * b + 32 * n) / (8 : Int32) * (8 : Int32) = nI a) := by decide +kernel
theorem ts_dec {a b n : Nat} (ha : a < 6) (hb : b < 3) : (tsN a b n - 3) % 8 = a ∧ (tsN a b n - 3) / 8 % 4 = b ∧ (tsN a b n - 3) / 32 = n := by
  unfold tsN
  omega
theorem cM_ts {a b n : Nat} : cM (tsN a b n) = nI (a + 8 * b + 32 * n) := by
  unfold cM
  rw [if_neg (by unfold tsN; omega), if_neg (by unfold tsN; omega), if_neg (by unfold tsN; omega)]
  unfold tsN
  rw [Nat.add_sub_cancel_left]
theorem cC_ts {a b n : Nat} (ha : a < 6) (hb : b < 3) : cC (tsN a b n) = nI ((a * 3 + b) * 100 + n) := by
  unfold cC
  rw [if_neg (by unfold tsN; omega), if_neg (by unfold tsN; omega), if_neg (by unfold tsN; omega)]
  obtain ⟨h1, h2, h3⟩ := ts_dec (n := n) ha hb
  rw [h1, h2, h3]
theorem ts_eq {f : Nat → Int32} {x : Nat} (h : tsOK x) : isoF f (cC x) = tstM f (cM x) := by
  obtain ⟨a, b, n, ha, hb, hn, rfl⟩ := h
  rw [cC_ts ha hb, cM_ts]
  obtain ⟨⟨h1, h2, h3⟩, h4, h5, h6⟩ := ts_fin a ha b hb n hn
  unfold isoF tstM
  rw [h1, h2, h3, h4, h5, h6, if_neg (nI_pos (by omega)), if_pos (show nI a < (6 : Int32) from nI_lt (b := 6) ha (by decide)), nI_clamp (by omega)]
  match b, hb with
  | 0, _ =>
    rw [if_pos (show nI 0 = 0 from nI_0)]
    refine decide_eq_decide.mpr ⟨fun g => Or.inl ⟨nI_0, g⟩, fun g => ?_⟩
    rcases g with g | g
    · exact g.2
    · exact absurd nI_0 g.1
  | 1, _ =>
    rw [if_neg (show ¬ nI 1 = 0 by decide), if_pos (show nI 1 = 1 by decide)]
    refine decide_eq_decide.mpr ⟨fun g => Or.inr ⟨by decide, Or.inl ⟨by decide, g⟩⟩, fun g => ?_⟩
    rcases g with g | ⟨_, g | g⟩
    · exact absurd g.1 (by decide)
    · exact g.2
    · exact absurd (by decide) g.1
  | 2, _ =>
    rw [if_neg (show ¬ nI 2 = 0 by decide), if_neg (show ¬ nI 2 = 1 by decide)]
    refine decide_eq_decide.mpr ⟨fun g => Or.inr ⟨by decide, Or.inr ⟨by decide, g⟩⟩, fun g => ?_⟩
    rcases g with g | ⟨_, g | g⟩
    · exact absurd g.1 (by decide)
    · exact absurd g.1 (by decide)
    · exact g.2
/-- what the truths are behind one token -/
def ev1 (f : Nat → Int32) (x : Nat) (k : List Bool) : List Bool :=
  if x = 0 then (!k.headD false) :: k.tail else if x = 1 then (k.tail.headD false && k.headD false) :: k.tail.tail else if x = 2 then (k.tail.headD false || k.headD false) :: k.tail.tail else tstM f (cM x) :: k
def evT (f : Nat → Int32) : List Nat → List Bool → List Bool
  | [], k => k
  | x :: T, k => evT f T (ev1 f x k)
theorem ev1_len {f : Nat → Int32} {x : Nat} {k : List Bool} : (x = 0 → 1 ≤ k.length → (ev1 f x k).length = k.length) ∧ (x = 1 ∨ x = 2 → 2 ≤ k.length → (ev1 f x k).length = k.length - 1) ∧ (3 ≤ x → (ev1 f x k).length = k.length + 1) := by
  refine ⟨fun h g => ?_, fun h g => ?_, fun h => ?_⟩
  · unfold ev1
    rw [if_pos h, List.length_cons, List.length_tail]
    omega
  · unfold ev1
    rcases h with h | h
    · rw [if_neg (by omega), if_pos h, List.length_cons, List.length_tail, List.length_tail]
      omega
    · rw [if_neg (by omega), if_neg (by omega), if_pos h, List.length_cons, List.length_tail, List.length_tail]
      omega
  · unfold ev1
    rw [if_neg (by omega), if_neg (by omega), if_neg (by omega), List.length_cons]
theorem ts_3 {x : Nat} (h : tsOK x) : 3 ≤ x := by
  obtain ⟨a, b, n, _, _, _, rfl⟩ := h
  unfold tsN
  omega
theorem evT_len {f : Nat → Int32} : ∀ {T : List Nat} {k k' : Nat} {S : List Bool}, okK T k k' → S.length = k → (evT f T S).length = k' := by
  intro T
  induction T with
  | nil =>
    intro k k' S h e
    have h : k = k' := h
    show S.length = k'
    omega
  | cons x T ih =>
    intro k k' S h e
    obtain ⟨l1, l2, l3⟩ := ev1_len (f := f) (x := x) (k := S)
    rcases h with ⟨a, b, c⟩ | ⟨a, b, c⟩ | ⟨a, b, c⟩
    · exact ih c (by rw [l1 a (by omega)]; exact e)
    · exact ih c (by rw [l2 a (by omega), e])
    · exact ih c (by rw [l3 (ts_3 a), e])
/-- the class's truths as bits, the latest the lowest -/
def btR (t : Int64) (S : List Bool) : Prop := ∀ i (hi : i < S.length) (h64 : i < 64), t.toBitVec[i] = S[i]
theorem bt_0 : btR 0 [] := fun i hi _ => absurd hi (by simp)
theorem shr_bit (t : Int64) (i : Nat) (hi : i < 63) : ((t >>> ((1 : Int32).toInt64 &&& 63)).toBitVec[i]'(by omega)) = t.toBitVec[i + 1]'(by omega) := by
  rw [show ((1 : Int32).toInt64 &&& 63) = (1 : Int64) by decide +kernel, Int64.toBitVec_shiftRight]
  rw [show (Int64.toBitVec 1).smod 64 = 1#64 by decide +kernel]
  simp [BitVec.getElem_sshiftRight]
  rw [dif_pos (by omega)]
  simp only [Nat.add_comm 1 i]
theorem shl_bit (t : Int64) (i : Nat) (hi : i < 64) : ((t <<< ((1 : Int32).toInt64 &&& 63)).toBitVec[i]'hi) = if h : i = 0 then false else t.toBitVec[i - 1]'(by omega) := by
  rw [show ((1 : Int32).toInt64 &&& 63) = (1 : Int64) by decide +kernel, Int64.toBitVec_shiftLeft]
  rw [show (Int64.toBitVec 1).smod 64 = 1#64 by decide +kernel]
  simp [BitVec.getElem_shiftLeft]
theorem one_bit : ∀ i : Fin 64, ((1 : Int64).toBitVec[i.1]'i.2) = decide (i.1 = 0) := by decide +kernel
theorem m2_bit : ∀ i : Fin 64, ((-2 : Int64).toBitVec[i.1]'i.2) = decide (i.1 ≠ 0) := by decide +kernel
theorem bI_bit : ∀ b : Bool, ∀ i : Fin 64, ((bI b).toInt64.toBitVec[i.1]'i.2) = (decide (i.1 = 0) && b) := by decide +kernel
theorem bt_step {f : Nat → Int32} {x : Nat} {t : Int64} {S : List Bool} (h : btR t S) (hl : S.length < 62) (hx : (x = 0 ∧ 1 ≤ S.length) ∨ ((x = 1 ∨ x = 2) ∧ 2 ≤ S.length) ∨ tsOK x) : btR (stpC f t (cC x)) (ev1 f x S) := by
  intro i hi h64
  rcases hx with ⟨rfl, h1⟩ | ⟨h0, h1⟩ | hx
  · match S, h1 with
    | a :: S', _ =>
      have e : stpC f t (cC 0) = t ^^^ (1 : Int64) := rfl
      simp only [e, Int64.toBitVec_xor, BitVec.getElem_xor, one_bit ⟨i, h64⟩]
      have hiL : i < ((!a) :: S').length := hi
      match i, hi, h64, hiL with
      | 0, _, _, _ =>
        have h0' : t.toBitVec[0] = a := h 0 (by simp) (by omega)
        show (t.toBitVec[0] ^^ true) = !a
        rw [h0']
        cases a <;> rfl
      | i + 1, _, h64, hiL =>
        have h2 := h (i + 1) (by simp at hiL ⊢; omega) h64
        show (t.toBitVec[i + 1] ^^ false) = S'[i]'_
        rw [Bool.xor_false]
        exact h2
  · match S, h1 with
    | a :: b :: S', _ =>
      have hl' : S'.length + 2 < 62 := hl
      have h0' := h 0 (by simp) (by omega)
      have h1' := h 1 (by simp) (by omega)
      have h0' : t.toBitVec[0] = a := h0'
      have h1' : t.toBitVec[1] = b := h1'
      rcases h0 with rfl | rfl
      · have e : stpC f t (cC 1) = (t >>> ((1 : Int32).toInt64 &&& 63)) &&& (t ||| (-2 : Int64)) := rfl
        have hiL : i < ((b && a) :: S').length := hi
        have hi63 : i < 63 := by simp at hiL; omega
        simp only [e, Int64.toBitVec_and, Int64.toBitVec_or, BitVec.getElem_and, BitVec.getElem_or, m2_bit ⟨i, h64⟩, shr_bit t i hi63]
        match i, hi, h64, hi63, hiL with
        | 0, _, _, _, _ =>
          show (t.toBitVec[1] && (t.toBitVec[0] || false)) = (b && a)
          rw [h0', h1', Bool.or_false]
        | i + 1, _, _, hi63, hiL =>
          have h2 := h (i + 2) (by simp at hiL ⊢; omega) (by omega)
          show (t.toBitVec[i + 1 + 1] && (t.toBitVec[i + 1] || true)) = S'[i]'_
          rw [Bool.or_true, Bool.and_true]
          exact h2
      · have e : stpC f t (cC 2) = (t >>> ((1 : Int32).toInt64 &&& 63)) ||| (t &&& (1 : Int64)) := rfl
        have hiL : i < ((b || a) :: S').length := hi
        have hi63 : i < 63 := by simp at hiL; omega
        simp only [e, Int64.toBitVec_and, Int64.toBitVec_or, BitVec.getElem_and, BitVec.getElem_or, one_bit ⟨i, h64⟩, shr_bit t i hi63]
        match i, hi, h64, hi63, hiL with
        | 0, _, _, _, _ =>
          show (t.toBitVec[1] || (t.toBitVec[0] && true)) = (b || a)
          rw [h0', h1', Bool.and_true]
        | i + 1, _, _, hi63, hiL =>
          have h2 := h (i + 2) (by simp at hiL ⊢; omega) (by omega)
          show (t.toBitVec[i + 1 + 1] || (t.toBitVec[i + 1] && false)) = S'[i]'_
          rw [Bool.and_false, Bool.or_false]
          exact h2
  · have h3 := ts_3 hx
    have ec : stpC f t (cC x) = (t <<< ((1 : Int32).toInt64 &&& 63)) ||| (bI (tstM f (cM x))).toInt64 := by
      have n3 : ∀ z : Int32, z.toInt < 0 → ¬ cC x = z := fun z hz => by
        obtain ⟨a, b, n, ha, hb, hn, rfl⟩ := hx
        rw [cC_ts ha hb]
        exact nI_ne_neg (by omega) hz
      unfold stpC
      rw [if_neg (n3 _ (by decide)), if_neg (n3 _ (by decide)), if_neg (n3 _ (by decide)), ts_eq hx]
    have ee : ev1 f x S = tstM f (cM x) :: S := by
      unfold ev1
      rw [if_neg (by omega), if_neg (by omega), if_neg (by omega)]
    simp only [ec, ee, Int64.toBitVec_or, BitVec.getElem_or, bI_bit _ ⟨i, h64⟩, shl_bit t i h64]
    have hiL : i < (tstM f (cM x) :: S).length := by rw [← ee]; exact hi
    match i, hi, h64, hiL with
    | 0, _, _, _ =>
      show (false || (true && _)) = _
      simp
    | i + 1, _, _, hiL =>
      have h2 := h i (by simp at hiL; omega) (by omega)
      rw [dif_neg (by omega)]
      show (t.toBitVec[i + 1 - 1]'_ || (false && _)) = S[i]'_
      rw [Bool.false_and, Bool.or_false]
      exact h2
