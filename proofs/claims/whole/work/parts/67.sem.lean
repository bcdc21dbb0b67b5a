/-! ===== the town's text: both hold the same of it ===== -/
abbrev Cl : Type := List Nat × Bool × Nat
def atL (t : Nat → Int32) (i : Nat) (L : List Int32) : Prop := ∀ k, k < L.length → t (i + k) = L.getD k 0
theorem atL_cons {t : Nat → Int32} {i : Nat} {x : Int32} {L : List Int32} (h : atL t i (x :: L)) : t i = x ∧ atL t (i + 1) L := by
  refine ⟨h 0 (by simp), fun k hk => ?_⟩
  have := h (k + 1) (by simp; omega)
  rw [show i + 1 + k = i + (k + 1) by omega, this]
  rfl
theorem atL_app {t : Nat → Int32} {i : Nat} {A B : List Int32} (h : atL t i (A ++ B)) : atL t i A ∧ atL t (i + A.length) B := by
  refine ⟨fun k hk => ?_, fun k hk => ?_⟩
  · have := h k (by rw [List.length_append]; omega)
    rw [this, List.getD_eq_getElem?_getD, List.getD_eq_getElem?_getD, List.getElem?_append_left hk]
  · have := h (A.length + k) (by rw [List.length_append]; omega)
    rw [show i + A.length + k = i + (A.length + k) by omega, this, List.getD_eq_getElem?_getD, List.getD_eq_getElem?_getD, List.getElem?_append_right (by omega), Nat.add_sub_cancel_left]
theorem atL_wr {g : Nat → Int32} {i : Nat} {L : List Int32} : atL (wr i L g) i L := fun k hk => by
  unfold wr
  rw [if_pos (by omega), Nat.add_sub_cancel_left]
/-! the model -/
theorem tok_M {x : Nat} (h : x = 0 ∨ (x = 1 ∨ x = 2) ∨ tsOK x) : (x = 0 ∧ cM x = (-1 : Int32)) ∨ (x = 1 ∧ cM x = (-2 : Int32)) ∨ (x = 2 ∧ cM x = (-3 : Int32)) ∨ (3 ≤ x ∧ ¬ cM x < 0 ∧ vp_in (cM x - cM x / (8 : Int32) * (8 : Int32)) 6) := by
  rcases h with h | (h | h) | h
  · exact Or.inl ⟨h, by rw [h]; rfl⟩
  · exact Or.inr (Or.inl ⟨h, by rw [h]; rfl⟩)
  · exact Or.inr (Or.inr (Or.inl ⟨h, by rw [h]; rfl⟩))
  · refine Or.inr (Or.inr (Or.inr ⟨ts_3 h, ?_, ?_⟩))
    · obtain ⟨a, b, n, ha, hb, hn, rfl⟩ := h
      rw [cM_ts]
      exact nI_pos (by omega)
    · obtain ⟨a, b, n, ha, hb, hn, rfl⟩ := h
      rw [cM_ts, (ts_fin a ha b hb n hn).2.2.2]
      exact vp_in_nI ha (by decide)
theorem rnM_s {s f : Nat → Int32} {m i : Nat} {stk : List Bool} {sum : Int32} : rnM s f (m + 1) i stk sum = if s i < 0 then
      if s i = (-1 : Int32) then rnM s f m (i + 1) ((!stk.headD false) :: stk.tail) sum
      else if s i ≤ (-10 : Int32) then rnM s f m (i + 1) [] (addM (stk.headD false) (s i) sum)
      else rnM s f m (i + 1) ((if s i = (-2 : Int32) then (stk.tail.headD false && stk.headD false) else (stk.tail.headD false || stk.headD false)) :: stk.tail.tail) sum
    else rnM s f m (i + 1) (tstM f (s i) :: stk) sum := rfl
theorem rn_T {t f : Nat → Int32} : ∀ (T : List Nat) (k k' m i : Nat) (S : List Bool) (z : Int32), okK T k k' → atL t i (T.map cM) → rnM t f (T.length + m) i S z = rnM t f m (i + T.length) (evT f T S) z := by
  intro T
  induction T with
  | nil =>
    intro k k' m i S z _ _
    show rnM t f (0 + m) i S z = rnM t f m (i + 0) S z
    rw [Nat.zero_add, Nat.add_zero]
  | cons x T ih =>
    intro k k' m i S z hok h
    obtain ⟨h1, h2⟩ := atL_cons h
    have hx : x = 0 ∨ (x = 1 ∨ x = 2) ∨ tsOK x := by
      rcases hok with ⟨a, _, _⟩ | ⟨a, _, _⟩ | ⟨a, _, _⟩
      · exact Or.inl a
      · exact Or.inr (Or.inl a)
      · exact Or.inr (Or.inr a)
    have hn : ∃ j j', okK T j j' := by
      rcases hok with ⟨_, _, c⟩ | ⟨_, _, c⟩ | ⟨_, _, c⟩ <;> exact ⟨_, _, c⟩
    obtain ⟨j, j', hj⟩ := hn
    have e : rnM t f (T.length + 1 + m) i S z = rnM t f (T.length + m) (i + 1) (ev1 f x S) z := by
      rw [show T.length + 1 + m = (T.length + m) + 1 by omega, rnM_s, h1]
      unfold ev1
      rcases tok_M hx with ⟨a, b⟩ | ⟨a, b⟩ | ⟨a, b⟩ | ⟨a, b, _⟩
      · rw [b, if_pos (by decide), if_pos rfl, if_pos a]
      · rw [b, if_pos (by decide), if_neg (by decide), if_neg (by decide), if_pos rfl, if_neg (by omega), if_pos a]
      · rw [b, if_pos (by decide), if_neg (by decide), if_neg (by decide), if_neg (by decide), if_neg (by omega), if_neg (by omega), if_pos a]
      · rw [if_neg b, if_neg (by omega), if_neg (by omega), if_neg (by omega)]
    show rnM t f (T.length + 1 + m) i S z = rnM t f m (i + (T.length + 1)) (evT f T (ev1 f x S)) z
    rw [e, ih j j' m (i + 1) _ z hj h2, show i + 1 + T.length = i + (T.length + 1) by omega]
theorem ok_T {t : Nat → Int32} : ∀ (T : List Nat) (k k' m i : Nat), okK T k k' → atL t i (T.map cM) → okM t m (i + T.length) k' → okM t (T.length + m) i k := by
  intro T
  induction T with
  | nil =>
    intro k k' m i h1 _ h2
    have e : k = k' := h1
    show okM t (0 + m) i k
    rw [Nat.zero_add, e]
    exact h2
  | cons x T ih =>
    intro k k' m i hok h h2
    obtain ⟨g1, g2⟩ := atL_cons h
    have h2 : okM t m (i + 1 + T.length) k' := by rw [show i + 1 + T.length = i + (x :: T).length by rw [List.length_cons]; omega]; exact h2
    show okM t (T.length + 1 + m) i k
    rw [show T.length + 1 + m = (T.length + m) + 1 by omega]
    unfold okM
    rw [g1]
    rcases hok with ⟨a, b, c⟩ | ⟨a, b, c⟩ | ⟨a, b, c⟩
    · have e : cM x = (-1 : Int32) := by rw [a]; rfl
      rw [e, if_pos (by decide), if_pos rfl]
      exact ⟨b, ih k k' m (i + 1) c g2 h2⟩
    · have nx := ih (k - 1) k' m (i + 1) c g2 h2
      rcases a with a | a
      · have e : cM x = (-2 : Int32) := by rw [a]; rfl
        rw [e, if_pos (by decide), if_neg (by decide), if_neg (by decide)]
        exact ⟨b, nx⟩
      · have e : cM x = (-3 : Int32) := by rw [a]; rfl
        rw [e, if_pos (by decide), if_neg (by decide), if_neg (by decide)]
        exact ⟨b, nx⟩
    · rcases tok_M (Or.inr (Or.inr a)) with ⟨y, _⟩ | ⟨y, _⟩ | ⟨y, _⟩ | ⟨_, y1, y2⟩
      · have := ts_3 a; omega
      · have := ts_3 a; omega
      · have := ts_3 a; omega
      · rw [if_neg y1]
        exact ⟨by omega, y2, ih (k + 1) k' m (i + 1) c g2 h2⟩
theorem end_fin : ∀ n, n < 100 → ((kd true - nI n < 0 ∧ ¬ kd true - nI n = (-1 : Int32) ∧ kd true - nI n ≤ (-10 : Int32) ∧ ¬ kd true - nI n ≤ (-200 : Int32) ∧ (-10 : Int32) - (kd true - nI n) = nI n ∧ (-200 : Int32) < kd true - nI n)
    ∧ (kd false - nI n < 0 ∧ ¬ kd false - nI n = (-1 : Int32) ∧ kd false - nI n ≤ (-10 : Int32) ∧ kd false - nI n ≤ (-200 : Int32) ∧ (-200 : Int32) - (kd false - nI n) = nI n ∧ ¬ (-200 : Int32) < kd false - nI n)) := by decide +kernel
theorem add_end {b st : Bool} {n : Nat} {z : Int32} (hn : n < 100) : addM b (kd st - nI n) z = z + (if b = true then amt st n else 0) := by
  obtain ⟨⟨_, _, _, a4, a5, a6⟩, _, _, _, b4, b5, b6⟩ := end_fin n hn
  have F : false = false := rfl
  have G : ¬ (false = true) := by decide
  have T : ¬ (true = false) := by decide
  have U : true = true := rfl
  unfold addM amt
  cases b
  · rw [if_pos F, if_pos F, if_neg G, Int32.sub_zero]
  · rw [if_neg T, if_neg T, if_pos U]
    cases st
    · rw [if_pos b4, if_neg b6, b5, if_neg G, Int32.add_zero, Int32.sub_eq_add_neg]
    · rw [if_neg a4, if_pos a6, a5, if_pos U, Int32.sub_zero]
def cds : List Cl → List Nat
  | [] => []
  | c :: r => c.1 ++ cds r
def sts : List Cl → List Int32
  | [] => []
  | c :: r => (c.1.map cM ++ [kd c.2.1 - nI c.2.2]) ++ sts r
def ams : List Cl → List Int32
  | [] => []
  | c :: r => amt c.2.1 c.2.2 :: ams r
def ens (s : Nat) : List Cl → List Int32
  | [] => []
  | c :: r => nI (s + c.1.length) :: ens (s + c.1.length) r
def cv (f : Nat → Int32) (c : Cl) : Bool := (evT f c.1 []).headD false
def sm (f : Nat → Int32) : List Cl → Int32 → Int32
  | [], z => z
  | c :: r, z => sm f r (z + (if cv f c = true then amt c.2.1 c.2.2 else 0))
def clOK (C : List Cl) : Prop := ∀ c ∈ C, okK c.1 0 1 ∧ c.2.2 < 100
theorem rn_C {t f : Nat → Int32} : ∀ (C : List Cl) (i : Nat) (z : Int32), clOK C → atL t i (sts C) → rnM t f (sts C).length i [] z = sm f C z := by
  intro C
  induction C with
  | nil => intro i z _ _; rfl
  | cons c r ih =>
    intro i z hc h
    obtain ⟨h1, h2⟩ := atL_app h
    obtain ⟨h3, h4⟩ := atL_app h1
    obtain ⟨h5, _⟩ := atL_cons h4
    obtain ⟨k1, k2⟩ := hc c (by simp)
    have hlen : (c.1.map cM).length = c.1.length := List.length_map _
    rw [hlen] at h5
    have hl : (sts (c :: r)).length = c.1.length + ((sts r).length + 1) := by
      show ((c.1.map cM ++ [kd c.2.1 - nI c.2.2]) ++ sts r).length = _
      rw [List.length_append, List.length_append, hlen]
      show c.1.length + 1 + _ = _
      omega
    rw [hl, rn_T c.1 0 1 _ i [] z k1 h3, rnM_s]
    have e : t (i + c.1.length) < 0 ∧ ¬ t (i + c.1.length) = (-1 : Int32) ∧ t (i + c.1.length) ≤ (-10 : Int32) := by
      rw [h5]
      obtain ⟨⟨a1, a2, a3, _⟩, b1, b2, b3, _⟩ := end_fin c.2.2 k2
      cases c.2.1
      · exact ⟨b1, b2, b3⟩
      · exact ⟨a1, a2, a3⟩
    rw [if_pos e.1, if_neg e.2.1, if_pos e.2.2, h5, add_end k2]
    have h2 : atL t (i + c.1.length + 1) (sts r) := by
      rw [List.length_append, hlen] at h2
      exact h2
    exact ih _ _ (fun x hx => hc x (by simp [hx])) h2
theorem ok_C {t : Nat → Int32} : ∀ (C : List Cl) (i : Nat), clOK C → atL t i (sts C) → okM t (sts C).length i 0 := by
  intro C
  induction C with
  | nil => intro i _ _; exact trivial
  | cons c r ih =>
    intro i hc h
    obtain ⟨h1, h2⟩ := atL_app h
    obtain ⟨h3, h4⟩ := atL_app h1
    obtain ⟨h5, _⟩ := atL_cons h4
    obtain ⟨k1, k2⟩ := hc c (by simp)
    have hlen : (c.1.map cM).length = c.1.length := List.length_map _
    rw [hlen] at h5
    have hl : (sts (c :: r)).length = c.1.length + ((sts r).length + 1) := by
      show ((c.1.map cM ++ [kd c.2.1 - nI c.2.2]) ++ sts r).length = _
      rw [List.length_append, List.length_append, hlen]
      show c.1.length + 1 + _ = _
      omega
    rw [hl]
    refine ok_T c.1 0 1 _ i k1 h3 ?_
    unfold okM
    have e : t (i + c.1.length) < 0 ∧ ¬ t (i + c.1.length) = (-1 : Int32) ∧ t (i + c.1.length) ≤ (-10 : Int32) := by
      rw [h5]
      obtain ⟨⟨a1, a2, a3, _⟩, b1, b2, b3, _⟩ := end_fin c.2.2 k2
      cases c.2.1
      · exact ⟨b1, b2, b3⟩
      · exact ⟨a1, a2, a3⟩
    rw [if_pos e.1, if_neg e.2.1, if_pos e.2.2]
    have h2 : atL t (i + c.1.length + 1) (sts r) := by
      rw [List.length_append, hlen] at h2
      exact h2
    exact ⟨rfl, ih _ (fun x hx => hc x (by simp [hx])) h2⟩
/-! the class -/
theorem okK_61 : ∀ {T : List Nat} {k k' : Nat}, okK T k k' → k' ≤ 60 → k ≤ 60 + T.length := by
  intro T
  induction T with
  | nil =>
    intro k k' h g
    have e : k = k' := h
    omega
  | cons x T ih =>
    intro k k' h g
    rw [List.length_cons]
    rcases h with ⟨_, _, c⟩ | ⟨_, _, c⟩ | ⟨_, _, c⟩
    · have := ih c g; omega
    · have := ih c g; omega
    · have := ih c g; omega
theorem ht_T {co f : Nat → Int32} : ∀ (T : List Nat) (k k' i : Nat) (w : Int64) (S : List Bool), okK T k k' → k ≤ 60 → S.length = k → btR w S → atL co i (T.map cC) → btR (htF co f T.length i w) (evT f T S) := by
  intro T
  induction T with
  | nil => intro k k' i w S _ _ _ h _; exact h
  | cons x T ih =>
    intro k k' i w S hok hk hS hb h
    obtain ⟨h1, h2⟩ := atL_cons h
    show btR (htF co f T.length (i + 1) (stpC f w (co i))) (evT f T (ev1 f x S))
    rw [h1]
    obtain ⟨l1, l2, l3⟩ := ev1_len (f := f) (x := x) (k := S)
    rcases hok with ⟨a, b, c⟩ | ⟨a, b, c⟩ | ⟨a, b, c⟩
    · exact ih k k' (i + 1) _ _ c hk (by rw [l1 a (by omega)]; exact hS) (bt_step hb (by omega) (Or.inl ⟨a, by omega⟩)) h2
    · exact ih (k - 1) k' (i + 1) _ _ c (by omega) (by rw [l2 a (by omega), hS]) (bt_step hb (by omega) (Or.inr (Or.inl ⟨a, by omega⟩))) h2
    · exact ih (k + 1) k' (i + 1) _ _ c (by omega) (by rw [l3 (ts_3 a), hS]) (bt_step hb (by omega) (Or.inr (Or.inr a))) h2
theorem low_bit {w : Int64} {b : Bool} (h : btR w [b]) : w &&& (1 : Int64) = (bI b).toInt64 := by
  have h0 : w.toBitVec[0] = b := h 0 (by simp) (by omega)
  apply Int64.toBitVec_inj.mp
  ext i hi
  rw [Int64.toBitVec_and, BitVec.getElem_and, one_bit ⟨i, hi⟩, bI_bit b ⟨i, hi⟩]
  by_cases e : i = 0
  · subst e
    rw [h0]
    cases b <;> rfl
  · rw [decide_eq_false e]
    simp
theorem ho_T {co f : Nat → Int32} {T : List Nat} {i : Nat} (hok : okK T 0 1) (h : atL co i (T.map cC)) : hoF co f i (i + T.length) = (evT f T []).headD false := by
  have hb := ht_T (f := f) T 0 1 i (0 : Int64) [] hok (by omega) rfl bt_0 h
  have hl := evT_len (f := f) (S := []) hok rfl
  unfold hoF
  rw [Nat.add_sub_cancel_left]
  match hE : evT f T [], hl with
  | [b], _ =>
    rw [hE] at hb
    rw [low_bit hb]
    cases b
    · decide +kernel
    · decide +kernel
theorem cds_app {A : List Cl} {c : Cl} : cds (A ++ [c]) = cds A ++ c.1 := by
  induction A with
  | nil => show c.1 ++ [] = _; rw [List.append_nil]; rfl
  | cons a A ih => show a.1 ++ cds (A ++ [c]) = (a.1 ++ cds A) ++ c.1; rw [ih, List.append_assoc]
theorem sts_app {A : List Cl} {c : Cl} : sts (A ++ [c]) = sts A ++ (c.1.map cM ++ [kd c.2.1 - nI c.2.2]) := by
  induction A with
  | nil => show (c.1.map cM ++ [kd c.2.1 - nI c.2.2]) ++ [] = _; rw [List.append_nil]; rfl
  | cons a A ih =>
    show (a.1.map cM ++ [kd a.2.1 - nI a.2.2]) ++ sts (A ++ [c]) = ((a.1.map cM ++ [kd a.2.1 - nI a.2.2]) ++ sts A) ++ _
    rw [ih]
    simp only [List.append_assoc]
theorem ams_app {A : List Cl} {c : Cl} : ams (A ++ [c]) = ams A ++ [amt c.2.1 c.2.2] := by
  induction A with
  | nil => rfl
  | cons a A ih => show _ :: ams (A ++ [c]) = _; rw [ih]; rfl
theorem ams_len {A : List Cl} : (ams A).length = A.length := by
  induction A with
  | nil => rfl
  | cons a A ih => show (ams A).length + 1 = A.length + 1; rw [ih]
theorem ens_app {A : List Cl} {c : Cl} : ∀ s, ens s (A ++ [c]) = ens s A ++ [nI (s + (cds (A ++ [c])).length)] := by
  induction A with
  | nil =>
    intro s
    show [nI (s + c.1.length)] = [nI (s + (c.1 ++ []).length)]
    rw [List.append_nil]
  | cons a A ih =>
    intro s
    show nI (s + a.1.length) :: ens (s + a.1.length) (A ++ [c]) = nI (s + a.1.length) :: (ens (s + a.1.length) A ++ [nI (s + (a.1 ++ cds (A ++ [c])).length)])
    rw [ih, List.length_append, Nat.add_assoc]
theorem ens_len {A : List Cl} : ∀ s, (ens s A).length = A.length := by
  induction A with
  | nil => intro s; rfl
  | cons a A ih => intro s; show (ens _ A).length + 1 = A.length + 1; rw [ih]
theorem sm_app {f : Nat → Int32} {A : List Cl} {c : Cl} : ∀ z, sm f (A ++ [c]) z = sm f A z + (if cv f c = true then amt c.2.1 c.2.2 else 0) := by
  induction A with
  | nil => intro z; rfl
  | cons a A ih => intro z; show sm f (A ++ [c]) _ = sm f A _ + _; rw [ih]
theorem cs_C {am en co f : Nat → Int32} : ∀ (m : Nat) (C : List Cl), C.length = m → clOK C → (cds C).length < 2 ^ 31 → atL am 0 (ams C) → atL en 0 (ens 0 C) → atL co 0 ((cds C).map cC) → csF am en co f m = (sm f C 3, (cds C).length) := by
  intro m
  induction m with
  | zero =>
    intro C hC _ _ _ _ _
    have e : C = [] := List.length_eq_zero_iff.mp hC
    subst e
    rfl
  | succ m ih =>
    intro C hC hok hlt h1 h2 h3
    have hne : C ≠ [] := fun e => by rw [e] at hC; exact absurd hC (by simp)
    obtain ⟨A, c, rfl⟩ : ∃ A c, C = A ++ [c] := ⟨C.dropLast, C.getLast hne, (List.dropLast_concat_getLast hne).symm⟩
    have hA : A.length = m := by rw [List.length_append] at hC; simpa using hC
    rw [ams_app] at h1
    have h2' := h2
    rw [ens_app] at h2
    rw [cds_app] at h3 hlt
    rw [List.map_append] at h3
    obtain ⟨a1, a2⟩ := atL_app h1
    obtain ⟨b1, b2⟩ := atL_app h2
    obtain ⟨c1, c2⟩ := atL_app h3
    rw [List.length_append] at hlt
    have hcs := ih A hA (fun x hx => hok x (by simp [hx])) (by omega) a1 b1 c1
    have am1 : am m = amt c.2.1 c.2.2 := by
      have := (atL_cons a2).1
      rw [ams_len, hA, Nat.zero_add] at this
      exact this
    have en1 : en m = nI ((cds A).length + c.1.length) := by
      have := (atL_cons b2).1
      rw [ens_len, hA, Nat.zero_add, cds_app, List.length_append, Nat.zero_add] at this
      exact this
    rw [List.length_map, Nat.zero_add] at c2
    have hh := ho_T (f := f) (hok c (by simp)).1 c2
    unfold csF
    rw [hcs, am1, en1, nI_clamp (by omega)]
    dsimp only
    rw [hh, sm_app, cds_app, List.length_append]
    rfl
