/-! ===== what the class's world (cells from b on) and the model's array s have in common ===== -/
def upto (x : Int32) (m : Nat) : Prop := ∃ k, k ≤ m ∧ x = nI k
def hdR (I : Nat → Nat → Int32) (b : Nat) (s : Nat → Int32) (n w : Nat) : Prop := n ≤ 6 ∧ w ≤ 9999 ∧ s 31 = nI n ∧ s 0 = nI w ∧ I b 1 = nI n ∧ I b 2 = nI w
/-- the man in cell r is man p of s -/
def mnR (I : Nat → Nat → Int32) (r : Nat) (s : Nat → Int32) (p : Nat) : Prop :=
  I r 0 = nI p ∧ I r 1 = s (38 + p) ∧ I r 2 = s (44 + p) ∧ I r 3 = s (25 + p) ∧ dynC I r = dynM s p ∧ I r 7 = s (19 + p) ∧ ∀ k, k < 4 → I (r + 1) k = s (50 + 4 * p + k)
def mnOK (s : Nat → Int32) (p : Nat) : Prop := upto (s (38 + p)) 6 ∧ upto (s (44 + p)) 9 ∧ upto (s (25 + p)) 9 ∧ u8 (s (1 + p)) ∧ upto (s (7 + p)) 99 ∧ b1 (s (13 + p)) ∧ b1 (s (19 + p))
def mnsR (I : Nat → Nat → Int32) (b : Nat) (s : Nat → Int32) (n : Nat) : Prop := (∀ p, p < n → mnR I (b + 20 + 2 * p) s p ∧ mnOK s p) ∧ ∀ p, p < 6 → b1 (I (b + 20 + 2 * p) 6) ∧ b1 (I (b + 20 + 2 * p) 7)
def towR (I : Nat → Nat → Int32) (b : Nat) (s : Nat → Int32) : Prop :=
  twM s ∧ tcW I b ∧ I (b + 3) 0 = buM s ∧ (∀ f, smC I b f = smF s f) ∧ ∃ t, t ≤ 5 ∧ s 32 = nI t ∧ I b 6 = nI t ∧ s 37 = if t = 0 then -1 else nI (t - 1)
def tapR (I : Nat → Nat → Int32) (b : Nat) (s : Nat → Int32) : Prop :=
  (∀ j, j < 100 → fits .byte (.int (I (b + 2) j)) = true) ∧ ∃ k, k ≤ 100 ∧ s 36 = nI k ∧ I b 4 = nI k ∧ ∀ i, i < k → I (b + 2) i = s (121 + i) ∧ upto (s (121 + i)) 127
def senR (I : Nat → Nat → Int32) (b : Nat) (s : Nat → Int32) (n : Nat) : Prop :=
  ∃ k, k ≤ 5 ∧ s 33 = nI k ∧ I (b + 8) 3 = nI k ∧ ∀ i, i < k → I (b + 9) i = s (74 + i) ∧ I (b + 10) i = s (79 + i) ∧ I (b + 11) i = s (84 + i) ∧ (∃ p, p < n ∧ s (74 + i) = nI p) ∧ upto (s (79 + i)) 20
def plnR (I : Nat → Nat → Int32) (b : Nat) (s : Nat → Int32) (n : Nat) : Prop :=
  ∃ k, k ≤ 8 ∧ s 34 = nI k ∧ I (b + 12) 3 = nI k ∧ ∀ i, i < k → I (b + 13) i = s (89 + i) ∧ I (b + 14) i = s (97 + i) ∧ upto (s (89 + i)) 3 ∧ (s (89 + i) = 0 ∨ ∃ p, p < n ∧ s (97 + i) = nI p)
def bokR (I : Nat → Nat → Int32) (b : Nat) (s : Nat → Int32) (n : Nat) : Prop :=
  ∃ k, k ≤ 8 ∧ s 35 = nI k ∧ I (b + 16) 3 = nI k ∧ ∀ i, i < k → I (b + 17) i = s (105 + i) ∧ I (b + 18) i = s (113 + i) ∧ ∃ p, p < n ∧ s (105 + i) = nI p
def RW (I : Nat → Nat → Int32) (b : Nat) (s : Nat → Int32) (n w : Nat) : Prop := hdR I b s n w ∧ mnsR I b s n ∧ towR I b s ∧ tapR I b s ∧ senR I b s n ∧ plnR I b s n ∧ bokR I b s n
theorem hdR_c {I J : Nat → Nat → Int32} {b n w : Nat} {s t : Nat → Int32} (h1 : J b 1 = I b 1) (h2 : J b 2 = I b 2) (h3 : t 31 = s 31) (h4 : t 0 = s 0) (h : hdR I b s n w) : hdR J b t n w := by
  unfold hdR at h ⊢
  rw [h1, h2, h3, h4]
  exact h
theorem mnR_c {I J : Nat → Nat → Int32} {r p : Nat} {s t : Nat → Int32} (hp : p < 6) (h1 : J r = I r) (h2 : J (r + 1) = I (r + 1)) (h3 : ∀ i, 1 ≤ i → i < 31 ∨ (38 ≤ i ∧ i < 74) → t i = s i) (h : mnR I r s p) : mnR J r t p := by
  unfold mnR dynC dynM at h ⊢
  rw [h1, h2, h3 (38 + p) (by omega) (by omega), h3 (44 + p) (by omega) (by omega), h3 (25 + p) (by omega) (by omega), h3 (1 + p) (by omega) (by omega), h3 (7 + p) (by omega) (by omega), h3 (13 + p) (by omega) (by omega), h3 (19 + p) (by omega) (by omega)]
  exact ⟨h.1, h.2.1, h.2.2.1, h.2.2.2.1, h.2.2.2.2.1, h.2.2.2.2.2.1, fun k hk => by rw [h3 _ (by omega) (by omega)]; exact h.2.2.2.2.2.2 k hk⟩
theorem mnOK_c {p : Nat} {s t : Nat → Int32} (hp : p < 6) (h3 : ∀ i, 1 ≤ i → i < 31 ∨ (38 ≤ i ∧ i < 74) → t i = s i) (h : mnOK s p) : mnOK t p := by
  unfold mnOK at h ⊢
  rw [h3 (38 + p) (by omega) (by omega), h3 (44 + p) (by omega) (by omega), h3 (25 + p) (by omega) (by omega), h3 (1 + p) (by omega) (by omega), h3 (7 + p) (by omega) (by omega), h3 (13 + p) (by omega) (by omega), h3 (19 + p) (by omega) (by omega)]
  exact h
theorem mnsR_c {I J : Nat → Nat → Int32} {b n : Nat} {s t : Nat → Int32} (hn : n ≤ 6) (h1 : ∀ q, b + 20 ≤ q → q < b + 32 → J q = I q) (h3 : ∀ i, 1 ≤ i → i < 31 ∨ (38 ≤ i ∧ i < 74) → t i = s i) (h : mnsR I b s n) : mnsR J b t n :=
  ⟨fun p hp => ⟨mnR_c (by omega) (h1 _ (by omega) (by omega)) (h1 _ (by omega) (by omega)) h3 (h.1 p hp).1, mnOK_c (by omega) h3 (h.1 p hp).2⟩, fun p hp => by rw [h1 _ (by omega) (by omega)]; exact h.2 p hp⟩
theorem okM_fr {s t : Nat → Int32} : ∀ (m i k : Nat), (∀ j, i ≤ j → j < i + m → t j = s j) → okM s m i k → okM t m i k := by
  intro m
  induction m with
  | zero => intros; trivial
  | succ m ih =>
    intro i k h hok
    unfold okM at hok ⊢
    have h' : ∀ j, i + 1 ≤ j → j < i + 1 + m → t j = s j := fun j h1 h2 => h j (by omega) (by omega)
    rw [h i (by omega) (by omega)]
    by_cases h0 : s i < 0
    · rw [if_pos h0] at hok ⊢
      by_cases h1 : s i = (-1 : Int32)
      · rw [if_pos h1] at hok ⊢
        exact ⟨hok.1, ih _ _ h' hok.2⟩
      · rw [if_neg h1] at hok ⊢
        by_cases h2 : s i ≤ (-10 : Int32)
        · rw [if_pos h2] at hok ⊢
          exact ⟨hok.1, ih _ _ h' hok.2⟩
        · rw [if_neg h2] at hok ⊢
          exact ⟨hok.1, ih _ _ h' hok.2⟩
    · rw [if_neg h0] at hok ⊢
      exact ⟨hok.1, hok.2.1, ih _ _ h' hok.2.2⟩
theorem rnM_fr {s t f : Nat → Int32} : ∀ (m i : Nat) (stk : List Bool) (sum : Int32), (∀ j, i ≤ j → j < i + m → t j = s j) → rnM t f m i stk sum = rnM s f m i stk sum := by
  intro m
  induction m with
  | zero => intros; rfl
  | succ m ih =>
    intro i stk sum h
    have h' : ∀ j, i + 1 ≤ j → j < i + 1 + m → t j = s j := fun j h1 h2 => h j (by omega) (by omega)
    unfold rnM
    rw [h i (by omega) (by omega), ih _ _ _ h', ih _ _ _ h', ih _ _ _ h', ih _ _ _ h']
/-- the town that holds is the same in both -/
theorem tow_same {s t : Nat → Int32} (hw : twM s) (h37 : t 37 = s 37) (h : ∀ h, s 37 = nI h → h < 5 → t (221 + h) = s (221 + h) ∧ t (226 + h) = s (226 + h) ∧ ∀ j, 231 + 140 * h ≤ j → j < 231 + 140 * h + 140 → t j = s j) :
    twM t ∧ buM t = buM s ∧ smF t = smF s := by
  rcases hw with h0 | ⟨hh, m, h1, h2, h3, h4, h5⟩
  · refine ⟨Or.inl (by rw [h37]; exact h0), ?_, ?_⟩
    · unfold buM
      rw [h37, if_pos h0, if_pos h0]
    · funext f
      unfold smF
      rw [h37, if_pos h0, if_pos h0]
  · obtain ⟨g1, g2, g3⟩ := h hh h3 h1
    have hne : ¬ s 37 = (-1 : Int32) := by rw [h3]; exact nI_ne_m1 (by omega)
    refine ⟨Or.inr ⟨hh, m, h1, h2, by rw [h37]; exact h3, by rw [g2]; exact h4, okM_fr _ _ _ (fun j a b => g3 j a (by omega)) h5⟩, ?_, ?_⟩
    · unfold buM
      rw [h37, if_neg hne, if_neg hne, h3, nI_clamp (by omega), g1]
    · funext f
      unfold smF
      rw [h37, if_neg hne, if_neg hne, h3, nI_clamp (by omega), g2, h4, nI_clamp (by omega), rnM_fr _ _ _ _ (fun j a b => g3 j a (by omega))]
theorem tcW_c {I J : Nat → Nat → Int32} {b : Nat} (h3 : J (b + 3) = I (b + 3)) (h5 : J (b + 5) = I (b + 5)) (h : tcW I b) : tcW J b := by
  unfold tcW at h ⊢
  rw [h3, h5]
  exact h
theorem smC_c {I J : Nat → Nat → Int32} {b : Nat} (h3 : J (b + 3) = I (b + 3)) (h4 : J (b + 4) = I (b + 4)) (h5 : J (b + 5) = I (b + 5)) (h6 : J (b + 6) = I (b + 6)) : smC J b = smC I b := by
  unfold smC
  rw [h3, h4, h5, h6]
theorem towR_c {I J : Nat → Nat → Int32} {b : Nat} {s t : Nat → Int32} (hJ : J (b + 3) = I (b + 3) ∧ J (b + 4) = I (b + 4) ∧ J (b + 5) = I (b + 5) ∧ J (b + 6) = I (b + 6)) (h6 : J b 6 = I b 6) (h32 : t 32 = s 32) (h37 : t 37 = s 37)
    (hs : ∀ j, 221 ≤ j → t j = s j) (h : towR I b s) : towR J b t := by
  obtain ⟨a1, a2, a3, a4, a5⟩ := h
  obtain ⟨e1, e2, e3⟩ := tow_same a1 h37 (fun h _ _ => ⟨hs _ (by omega), hs _ (by omega), fun j _ _ => hs j (by omega)⟩)
  unfold towR
  rw [hJ.1, e2, e3, smC_c hJ.1 hJ.2.1 hJ.2.2.1 hJ.2.2.2, h6, h32, h37]
  exact ⟨e1, tcW_c hJ.1 hJ.2.2.1 a2, a3, a4, a5⟩
theorem tapR_c {I J : Nat → Nat → Int32} {b : Nat} {s t : Nat → Int32} (h2 : J (b + 2) = I (b + 2)) (h4 : J b 4 = I b 4) (h36 : t 36 = s 36) (hs : ∀ j, 121 ≤ j → j < 221 → t j = s j) (h : tapR I b s) : tapR J b t := by
  obtain ⟨a0, k, a1, a2, a3, a4⟩ := h
  unfold tapR
  rw [h2, h4, h36]
  exact ⟨a0, k, a1, a2, a3, fun i hi => by rw [hs _ (by omega) (by omega)]; exact a4 i hi⟩
theorem senR_c {I J : Nat → Nat → Int32} {b n n' : Nat} {s t : Nat → Int32} (hn : n ≤ n') (h8 : J (b + 8) = I (b + 8)) (h9 : J (b + 9) = I (b + 9)) (h10 : J (b + 10) = I (b + 10)) (h11 : J (b + 11) = I (b + 11)) (h33 : t 33 = s 33) (hs : ∀ j, 74 ≤ j → j < 89 → t j = s j) (h : senR I b s n) : senR J b t n' := by
  obtain ⟨k, a1, a2, a3, a4⟩ := h
  unfold senR
  rw [h8, h9, h10, h11, h33]
  refine ⟨k, a1, a2, a3, fun i hi => ?_⟩
  rw [hs (74 + i) (by omega) (by omega), hs (79 + i) (by omega) (by omega), hs (84 + i) (by omega) (by omega)]
  obtain ⟨c1, c2, c3, ⟨p, c4, c5⟩, c6⟩ := a4 i hi
  exact ⟨c1, c2, c3, ⟨p, by omega, c5⟩, c6⟩
theorem plnR_c {I J : Nat → Nat → Int32} {b n n' : Nat} {s t : Nat → Int32} (hn : n ≤ n') (h12 : J (b + 12) = I (b + 12)) (h13 : J (b + 13) = I (b + 13)) (h14 : J (b + 14) = I (b + 14)) (h34 : t 34 = s 34) (hs : ∀ j, 89 ≤ j → j < 105 → t j = s j) (h : plnR I b s n) : plnR J b t n' := by
  obtain ⟨k, a1, a2, a3, a4⟩ := h
  unfold plnR
  rw [h12, h13, h14, h34]
  refine ⟨k, a1, a2, a3, fun i hi => ?_⟩
  rw [hs (89 + i) (by omega) (by omega), hs (97 + i) (by omega) (by omega)]
  obtain ⟨c1, c2, c3, c4⟩ := a4 i hi
  exact ⟨c1, c2, c3, c4.imp id (fun ⟨p, h1, h2⟩ => ⟨p, by omega, h2⟩)⟩
theorem bokR_c {I J : Nat → Nat → Int32} {b n n' : Nat} {s t : Nat → Int32} (hn : n ≤ n') (h16 : J (b + 16) = I (b + 16)) (h17 : J (b + 17) = I (b + 17)) (h18 : J (b + 18) = I (b + 18)) (h35 : t 35 = s 35) (hs : ∀ j, 105 ≤ j → j < 121 → t j = s j) (h : bokR I b s n) : bokR J b t n' := by
  obtain ⟨k, a1, a2, a3, a4⟩ := h
  unfold bokR
  rw [h16, h17, h18, h35]
  refine ⟨k, a1, a2, a3, fun i hi => ?_⟩
  rw [hs (105 + i) (by omega) (by omega), hs (113 + i) (by omega) (by omega)]
  obtain ⟨c1, c2, p, c3, c4⟩ := a4 i hi
  exact ⟨c1, c2, p, by omega, c4⟩
/-- the world's cells are untouched (the facts of its town aside) -/
def wkp (b : Nat) (I J : Nat → Nat → Int32) : Prop := ∀ q, b ≤ q → q < b + 32 → q ≠ b + 7 → J q = I q
theorem RW_kp {I J : Nat → Nat → Int32} {b n w : Nat} {s : Nat → Int32} (k : wkp b I J) (h : RW I b s n w) : RW J b s n w := by
  obtain ⟨a1, a2, a3, a4, a5, a6, a7⟩ := h
  have kb := k b (by omega) (by omega) (by omega)
  refine ⟨hdR_c (by rw [kb]) (by rw [kb]) rfl rfl a1, mnsR_c a1.1 (fun q h1 h2 => k q (by omega) (by omega) (by omega)) (fun _ _ _ => rfl) a2, towR_c ⟨k _ (by omega) (by omega) (by omega), k _ (by omega) (by omega) (by omega), k _ (by omega) (by omega) (by omega), k _ (by omega) (by omega) (by omega)⟩ (by rw [kb]) rfl rfl (fun _ _ => rfl) a3,
    tapR_c (k _ (by omega) (by omega) (by omega)) (by rw [kb]) rfl (fun _ _ _ => rfl) a4, senR_c (Nat.le_refl _) (k _ (by omega) (by omega) (by omega)) (k _ (by omega) (by omega) (by omega)) (k _ (by omega) (by omega) (by omega)) (k _ (by omega) (by omega) (by omega)) rfl (fun _ _ _ => rfl) a5,
    plnR_c (Nat.le_refl _) (k _ (by omega) (by omega) (by omega)) (k _ (by omega) (by omega) (by omega)) (k _ (by omega) (by omega) (by omega)) rfl (fun _ _ _ => rfl) a6, bokR_c (Nat.le_refl _) (k _ (by omega) (by omega) (by omega)) (k _ (by omega) (by omega) (by omega)) (k _ (by omega) (by omega) (by omega)) rfl (fun _ _ _ => rfl) a7⟩
/-- what a man's weeks are to the class, they are to the model -/
theorem trj_rel {I : Nat → Nat → Int32} {s : Nat → Int32} {r p : Nat} (ht : towR I 65 s) (hr : mnR I r s p) (w k : Nat) : trjR I r w k = trjM s w k p := by
  obtain ⟨e0, e1, e2, e3, e4, e5, e6⟩ := hr
  have hs : smC I 65 = smF s := funext ht.2.2.2.1
  unfold trjR trjM
  rw [e0, e1, e2, e5, e4, hs, show I 68 0 = buM s from ht.2.2.1]
  induction k with
  | zero => rfl
  | succ k ih =>
    unfold trj stp
    rw [ih, e6 _ (Nat.mod_lt _ (by decide))]
theorem stp_rel {I : Nat → Nat → Int32} {s : Nat → Int32} {r p w : Nat} {x : Dn} (ht : towR I 65 s) (hr : mnR I r s p) : stpR I r w x = stpM s w p x := by
  obtain ⟨e0, e1, e2, e3, e4, e5, e6⟩ := hr
  have hs : smC I 65 = smF s := funext ht.2.2.2.1
  unfold stpR stpM stp
  rw [e0, e1, e2, e5, hs, show I 68 0 = buM s from ht.2.2.1, e6 _ (Nat.mod_lt _ (by decide))]
