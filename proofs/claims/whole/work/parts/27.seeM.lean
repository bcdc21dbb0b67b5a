/-! ===== the model: kept and given back; sets, sums; who sees whom ===== -/
theorem x_P.congI {E : XE} {d mi i : Nat} {L S : List Value} {I J : Nat → Nat → Int32} {Q : Option Value → (Nat → Nat → Int32) → Prop} (h : J = I) (k : x_P E d mi i L S I Q) : x_P E d mi i L S J Q := by
  subst h
  exact k
def sumF (g : Nat → Int32) : Nat → Int32
  | 0 => 0
  | k + 1 => sumF g k + g k
def ons (g : Nat → Int32) : Nat → Int32
  | 0 => 0
  | k + 1 => ons g k ||| (g k <<< (nI k &&& 31))
theorem ons_or {g : Nat → Int32} : ∀ n, (∀ k, k < n → g k = 0 ∨ g k = 1) → ons g n = orF (fun k => decide (g k = 1)) n := by
  intro n
  induction n with
  | zero => intro _; rfl
  | succ n ih =>
    intro h
    unfold ons orF
    rw [ih (fun k hk => h k (by omega))]
    rcases h n (by omega) with e | e
    · rw [e]
      congr 1
      rw [if_neg (by decide)]
      simp
    · rw [e]
      congr 1
theorem orF_congr {b c : Nat → Bool} : ∀ n, (∀ k, k < n → b k = c k) → orF b n = orF c n := by
  intro n
  induction n with
  | zero => intro _; rfl
  | succ n ih =>
    intro h
    unfold orF
    rw [ih (fun k hk => h k (by omega)), h n (by omega)]
def shF (s : Nat → Int32) : Nat → Int32
  | 0 => (255 : Int32)
  | k + 1 => shF s k &&& (if s (19 + k) = 0 then s (1 + k) else (255 : Int32))
def seeB (s : Nat → Int32) (pl : Int32) (p q : Nat) : Bool :=
  decide (¬ (nI p = nI q) ∧ ((s (19 + p) = 0) ∧ ((s (19 + q) = 0) ∧ (¬ (((9 : Int32) - s (7 + p) / (10 : Int32)) < (pl - s (25 + q))) ∧ (¬ (((9 : Int32) - s (7 + p) / (10 : Int32)) < (-(pl - s (25 + q)))))))))
def seenF (s : Nat → Int32) (pl : Int32) (p n : Nat) : Int32 := orF (seeB s pl p) n
/-- BENCH: the best place among the first k, and how many are seen there -/
def bnF (s : Nat → Int32) (p n : Nat) : Nat → Int32 × Int32
  | 0 => (0, (-1 : Int32))
  | k + 1 => if pc (seenF s (nI k) p n) ≤ (bnF s p n k).2 then bnF s p n k else (nI k, pc (seenF s (nI k) p n))
section SEEM
variable {E : XE} {d : Nat} {I : Nat → Nat → Int32}
theorem c_keeps (hd : 1 ≤ d) : x_K E d 112 [.ref 142] I (fun v I' => v = none ∧ (∀ j, j < 31 → I' 145 j = I 143 j) ∧ kp [145] I I') := by
  refine x_K.of (by decide) (by decide) rfl rfl rfl (r_M_keeps_0 hd ?_)
  have key : ∀ m j (J : Nat → Nat → Int32), j + m = 31 → (∀ i, i < j → J 145 i = I 143 i) → kp [145] I J → x_P E d 112 2 [.ref 142, .int (nI j)] [] J (fun v I' => v = none ∧ (∀ j, j < 31 → I' 145 j = I 143 j) ∧ kp [145] I I') := by
    intro m
    induction m with
    | zero =>
      intro j J hj h1 hk
      exact r_M_keeps_2 hd _ ⟨fun _ => ⟨rfl, fun i hi => h1 i (by omega), hk⟩, fun c => absurd (nI_le (show 31 ≤ j by omega) (by omega)) c⟩
    | succ m ih =>
      intro j J hj h1 hk
      refine r_M_keeps_2 hd _ ⟨fun c => absurd c (nI_ge (show j < 31 by omega) (by decide)), fun _ => ⟨vp_in_nI (by omega) (by decide), vp_in_nI (by omega) (by decide), fun I4 e4 => ?_⟩⟩
      rw [nI_clamp (by omega)] at e4
      rw [nI_1]
      refine ih (j + 1) I4 (by omega) (fun i hi => ?_) (hk.trans (by rw [e4]; exact kp.up (by simp)))
      rw [e4, up_eq]
      dsimp only
      by_cases hij : i = j
      · rw [if_pos hij, hij, hk 143 (by simp)]
      · rw [if_neg hij]
        exact h1 i (by omega)
  exact key 31 0 I rfl (fun i hi => absurd hi (by omega)) kp.rfl'
theorem c_goesBack (hd : 1 ≤ d) : x_K E d 113 [.ref 142] I (fun v I' => v = none ∧ (∀ j, I' 143 j = if j < 31 then I 145 j else I 143 j) ∧ kp [143] I I') := by
  refine x_K.of (by decide) (by decide) rfl rfl rfl (r_M_goesBack_0 hd ?_)
  have key : ∀ m j (J : Nat → Nat → Int32), j + m = 31 → (∀ i, J 143 i = if i < j then I 145 i else I 143 i) → kp [143] I J → x_P E d 113 2 [.ref 142, .int (nI j)] [] J (fun v I' => v = none ∧ (∀ j, I' 143 j = if j < 31 then I 145 j else I 143 j) ∧ kp [143] I I') := by
    intro m
    induction m with
    | zero =>
      intro j J hj h1 hk
      exact r_M_goesBack_2 hd _ ⟨fun _ => ⟨rfl, fun i => by rw [h1 i, show j = 31 by omega], hk⟩, fun c => absurd (nI_le (show 31 ≤ j by omega) (by omega)) c⟩
    | succ m ih =>
      intro j J hj h1 hk
      refine r_M_goesBack_2 hd _ ⟨fun c => absurd c (nI_ge (show j < 31 by omega) (by decide)), fun _ => ⟨vp_in_nI (by omega) (by decide), vp_in_nI (by omega) (by decide), fun I4 e4 => ?_⟩⟩
      rw [nI_clamp (by omega)] at e4
      rw [nI_1]
      refine ih (j + 1) I4 (by omega) (fun i => ?_) (hk.trans (by rw [e4]; exact kp.up (by simp)))
      rw [e4, up_eq]
      dsimp only
      by_cases hij : i = j
      · rw [if_pos hij, hij, if_pos (by omega), hk 145 (by simp)]
      · rw [if_neg hij, h1 i]
        by_cases h2 : i < j
        · rw [if_pos h2, if_pos (by omega)]
        · rw [if_neg h2, if_neg (by omega)]
  exact key 31 0 I rfl (fun i => by rw [if_neg (by omega)]) kp.rfl'
/-- what was kept comes back -/
theorem back_eq {s : Nat → Int32} {J I' : Nat → Nat → Int32} (h1 : ∀ j, j < 31 → J 145 j = s j) (h2 : ∀ j, 31 ≤ j → J 143 j = s j) (h3 : ∀ j, I' 143 j = if j < 31 then J 145 j else J 143 j) : I' 143 = s := by
  funext j
  rw [h3 j]
  by_cases h : j < 31
  · rw [if_pos h, h1 j h]
  · rw [if_neg h, h2 j (by omega)]
theorem c_onesG {c n : Nat} (hn : n ≤ 6) (h31 : I 143 31 = nI n) (hc : c < 100) (hd : 1 ≤ d) : x_K E d 145 [.ref 142, .int (nI c)] I (x_pu (.int (ons (fun k => I 143 (c + k)) n)) I) := by
  refine x_K.of (by decide) (by decide) rfl rfl rfl (r_M_ones_0 hd _ ?_)
  have key : ∀ m j, j + m = n → x_P E d 145 4 [.ref 142, .int (nI c), .int (ons (fun k => I 143 (c + k)) j), .int (nI j)] [] I (x_pu (.int (ons (fun k => I 143 (c + k)) n)) I) := by
    intro m
    induction m with
    | zero =>
      intro j hj
      refine r_M_ones_4 hd _ _ _ ⟨fun _ => ⟨by rw [show n = j by omega], rfl⟩, fun c1 => absurd ?_ c1⟩
      rw [h31]
      exact nI_le (by omega) (by omega)
    | succ m ih =>
      intro j hj
      refine r_M_ones_4 hd _ _ _ ⟨fun c1 => absurd c1 ?_, fun _ => ⟨vi_c (c' := c) rfl (by omega) (by decide), ?_⟩⟩
      · rw [h31]
        exact nI_ge (by omega) (by omega)
      rw [nI_add, nI_clamp (by omega), nI_1]
      exact ih (j + 1) (by omega)
  exact key n 0 (by omega)
theorem c_ones {c n : Nat} (hn : n ≤ 6) (h31 : I 143 31 = nI n) (hc : c < 100) (hb : ∀ k, k < n → I 143 (c + k) = 0 ∨ I 143 (c + k) = 1) (hd : 1 ≤ d) : x_K E d 145 [.ref 142, .int (nI c)] I (x_pu (.int (orF (fun k => decide (I 143 (c + k) = 1)) n)) I) := by
  rw [← ons_or n hb]
  exact c_onesG hn h31 hc hd
theorem c_heights {n : Nat} (hn : n ≤ 6) (h31 : I 143 31 = nI n) (hd : 1 ≤ d) : x_K E d 174 [.ref 142] I (x_pu (.int (sumF (fun k => I 143 (7 + k)) n)) I) := by
  refine x_K.of (by decide) (by decide) rfl rfl rfl (r_M_heights_0 hd ?_)
  have key : ∀ m j, j + m = n → x_P E d 174 4 [.ref 142, .int (sumF (fun k => I 143 (7 + k)) j), .int (nI j)] [] I (x_pu (.int (sumF (fun k => I 143 (7 + k)) n)) I) := by
    intro m
    induction m with
    | zero =>
      intro j hj
      refine r_M_heights_4 hd _ _ ⟨fun _ => ⟨by rw [show n = j by omega], rfl⟩, fun c1 => absurd ?_ c1⟩
      rw [h31]
      exact nI_le (by omega) (by omega)
    | succ m ih =>
      intro j hj
      refine r_M_heights_4 hd _ _ ⟨fun c1 => absurd c1 ?_, fun _ => ⟨vi_c (c' := 7) rfl (by omega) (by decide), ?_⟩⟩
      · rw [h31]
        exact nI_ge (by omega) (by omega)
      rw [ix_c (c := 7) (c' := 7) rfl (by omega), nI_1]
      exact ih (j + 1) (by omega)
  exact key n 0 (by omega)
theorem c_shared {n : Nat} (hn : n ≤ 6) (h31 : I 143 31 = nI n) (hd : 1 ≤ d) : x_K E d 146 [.ref 142] I (x_pu (.int (shF (I 143) n)) I) := by
  refine x_K.of (by decide) (by decide) rfl rfl rfl (r_M_sharedCreed_0 hd ?_)
  have key : ∀ m j, j + m = n → x_P E d 146 4 [.ref 142, .int (shF (I 143) j), .int (nI j)] [] I (x_pu (.int (shF (I 143) n)) I) := by
    intro m
    induction m with
    | zero =>
      intro j hj
      refine r_M_sharedCreed_4 hd _ _ ⟨fun _ => ⟨by rw [show n = j by omega], rfl⟩, fun c1 => absurd ?_ c1⟩
      rw [h31]
      exact nI_le (by omega) (by omega)
    | succ m ih =>
      intro j hj
      refine r_M_sharedCreed_4 hd _ _ ⟨fun c1 => absurd c1 ?_, fun _ => ⟨vi_c (c' := 19) rfl (by omega) (by decide), fun _ => vi_c (c' := 1) rfl (by omega) (by decide), fun z hz => ?_⟩⟩
      · rw [h31]
        exact nI_ge (by omega) (by omega)
      rw [ix_c (c := 19) (c' := 19) rfl (by omega), ix_c (c := 1) (c' := 1) rfl (by omega)] at hz
      rw [nI_1, hz]
      exact ih (j + 1) (by omega)
  exact key n 0 (by omega)
theorem c_apartOf {p q : Nat} (hp : p < 6) (hq : q < 6) (hd : 2 ≤ d) : x_K E d 133 [.ref 142, .int (nI p), .int (nI q)] I (x_pu (.int (pc (I 143 (1 + p) ^^^ I 143 (1 + q)))) I) := by
  refine x_K.of (by decide) (by decide) rfl rfl rfl (r_M_apartOf_0 (by omega) _ _ ⟨vi_c (c' := 1) rfl (by omega) (by decide), vi_c (c' := 1) rfl (by omega) (by decide), ?_⟩)
  rw [ix_c (c := 1) (c' := 1) rfl (by omega), ix_c (c := 1) (c' := 1) rfl (by omega)]
  exact (c_countOf (by omega)).pu (r_M_apartOf_14 (by omega) _ ⟨rfl, rfl⟩)
theorem c_doesSee {p q : Nat} (hp : p < 6) (hq : q < 6) (hd : 1 ≤ d) : x_K E d 134 [.ref 142, .int (nI p), .int (nI q)] I (x_pu (.int (bI (seeB (I 143) (I 143 (25 + p)) p q))) I) := by
  refine x_K.of (by decide) (by decide) rfl rfl rfl (r_M_doesSee_0 hd _ _ ?_)
  rw [ix_c (c := 19) (c' := 19) rfl (by omega), ix_c (c := 19) (c' := 19) rfl (by omega), ix_c (c := 7) (c' := 7) rfl (by omega), ix_c (c := 25) (c' := 25) rfl (by omega), ix_c (c := 25) (c' := 25) rfl (by omega)]
  exact ⟨vi_c (c' := 25) rfl (by omega) (by decide), vi_c (c' := 25) rfl (by omega) (by decide), vi_c (c' := 7) rfl (by omega) (by decide), fun _ => vi_c (c' := 19) rfl (by omega) (by decide), fun _ _ => vi_c (c' := 19) rfl (by omega) (by decide), by rw [x_bi_bI]; rfl, rfl⟩
theorem c_seenBy {p n : Nat} (hp : p < 6) (hn : n ≤ 6) (h31 : I 143 31 = nI n) (hd : 2 ≤ d) : x_K E d 135 [.ref 142, .int (nI p)] I (x_pu (.int (seenF (I 143) (I 143 (25 + p)) p n)) I) := by
  refine x_K.of (by decide) (by decide) rfl rfl rfl (r_M_seenBy_0 (by omega) _ ?_)
  have key : ∀ m j, j + m = n → x_P E d 135 4 [.ref 142, .int (nI p), .int (orF (seeB (I 143) (I 143 (25 + p)) p) j), .int (nI j)] [] I (x_pu (.int (seenF (I 143) (I 143 (25 + p)) p n)) I) := by
    intro m
    induction m with
    | zero =>
      intro j hj
      refine r_M_seenBy_4 (by omega) _ _ _ ⟨fun _ => ⟨by rw [show n = j by omega]; rfl, rfl⟩, fun c1 => absurd ?_ c1⟩
      rw [h31]
      exact nI_le (by omega) (by omega)
    | succ m ih =>
      intro j hj
      refine r_M_seenBy_4 (by omega) _ _ _ ⟨fun c1 => absurd c1 ?_, fun _ => (c_doesSee hp (by omega) (by omega)).pu ?_⟩
      · rw [h31]
        exact nI_ge (by omega) (by omega)
      refine r_M_seenBy_15 (by omega) _ _ _ _ (fun z hz => ?_)
      have := ih (j + 1) (by omega)
      rw [nI_1]
      have e : orF (seeB (I 143) (I 143 (25 + p)) p) (j + 1) = orF (seeB (I 143) (I 143 (25 + p)) p) j ||| z := by
        rw [hz]
        show _ ||| _ = _ ||| _
        congr 1
        cases seeB (I 143) (I 143 (25 + p)) p j <;> rfl
      rw [e] at this
      exact this
  exact key n 0 (by omega)
theorem c_becomes {k : Nat} {x : Int32} (hk : k < 931) (hd : 1 ≤ d) : x_K E d 137 [.ref 142, .int (nI k), .int x] I (fun v I' => v = some (.int (I 143 k)) ∧ I' = x_up I 143 k x) := by
  refine x_K.of (by decide) (by decide) rfl rfl rfl (r_M_becomes_0 hd _ _ ⟨vp_in_nI hk (by decide), vp_in_nI hk (by decide), fun I3 e3 => ?_⟩)
  rw [nI_clamp (by omega)] at e3 ⊢
  exact ⟨rfl, e3⟩
theorem seeB_ag {s t : Nat → Int32} {pl : Int32} {p q : Nat} (h : ∀ i, i ≠ 25 + p → t i = s i) (hpq : ¬ p = q) (hp : p < 6) (hq : q < 6) : seeB t pl p q = seeB s pl p q := by
  unfold seeB
  rw [h (19 + p) (by omega), h (19 + q) (by omega), h (7 + p) (by omega), h (25 + q) (by omega)]
theorem seenF_ag {s t : Nat → Int32} {pl : Int32} {p n : Nat} (h : ∀ i, i ≠ 25 + p → t i = s i) (hp : p < 6) (hn : n ≤ 6) : seenF t pl p n = seenF s pl p n := by
  refine orF_congr n (fun k hk => ?_)
  by_cases hpk : p = k
  · subst hpk
    unfold seeB
    rw [decide_eq_false (by simp), decide_eq_false (by simp)]
  · exact seeB_ag h hpk hp (by omega)
theorem c_benchOf {p n : Nat} (hp : p < 6) (hn : n ≤ 6) (h31 : I 143 31 = nI n) (hd : 3 ≤ d) : x_K E d 136 [.ref 142, .int (nI p)] I (fun v I' => v = some (.int (bnF (I 143) p n 10).1) ∧ I' 143 = I 143 ∧ kp [143, 145] I I') := by
  refine x_K.of (by decide) (by decide) rfl rfl rfl (r_M_benchOf_0 (by omega) _ ((c_keeps (by omega)).mono (fun v J hv => ?_)))
  obtain ⟨hv, hkeep, hk⟩ := hv
  rw [hv]
  refine r_M_benchOf_2 (by omega) _ ?_
  have sJ : J 143 = I 143 := hk 143 (by simp)
  have key : ∀ m j (K : Nat → Nat → Int32), j + m = 10 → (∀ i, i ≠ 25 + p → K 143 i = I 143 i) → (∀ i, i < 31 → K 145 i = I 143 i) → kp [143, 145] I K →
      x_P E d 136 8 [.ref 142, .int (nI p), .int (bnF (I 143) p n j).1, .int (bnF (I 143) p n j).2, .int (nI j), x_jk] [] K (fun v I' => v = some (.int (bnF (I 143) p n 10).1) ∧ I' 143 = I 143 ∧ kp [143, 145] I I') := by
    intro m
    induction m with
    | zero =>
      intro j K hj hK h145 hkp
      refine r_M_benchOf_8 (by omega) _ _ _ _ ⟨fun _ => (c_goesBack (by omega)).mono (fun v I2 hv => ?_), fun c => absurd (nI_le (show 10 ≤ j by omega) (by omega)) c⟩
      obtain ⟨hv, h1, h2⟩ := hv
      rw [hv]
      refine r_M_benchOf_41 (by omega) _ ⟨by rw [show j = 10 by omega], ?_, hkp.trans (h2.mono (by simp))⟩
      exact back_eq h145 (fun i hi => hK i (by omega)) h1
    | succ m ih =>
      intro j K hj hK h145 hkp
      refine r_M_benchOf_8 (by omega) _ _ _ _ ⟨fun c => absurd c (nI_ge (show j < 10 by omega) (by decide)), fun _ => ⟨vi_c (c' := 25) rfl (by omega) (by decide), fun I3 e3 => ?_⟩⟩
      rw [ix_c (c := 25) (c' := 25) rfl (by omega)] at e3
      have s3 : I3 143 = fun i => if i = 25 + p then nI j else K 143 i := by rw [e3, up_eq]
      have h3 : ∀ i, i ≠ 25 + p → I3 143 i = I 143 i := fun i hi => by rw [s3]; dsimp only; rw [if_neg hi]; exact hK i hi
      have e25 : I3 143 (25 + p) = nI j := by rw [s3]; dsimp only; rw [if_pos rfl]
      refine (c_seenBy (n := n) hp hn (by rw [h3 31 (by omega)]; exact h31) (by omega)).pu ?_
      rw [e25, seenF_ag h3 hp hn]
      refine r_M_benchOf_21 (by omega) _ _ _ _ _ ((c_countOf (by omega)).pu ?_)
      refine r_M_benchOf_22 (by omega) _ _ _ _ _ ?_
      rw [nI_1]
      have := ih (j + 1) I3 (by omega) h3 (fun i hi => by rw [e3, up_ne (by decide)]; exact h145 i hi) (hkp.trans (by rw [e3]; exact kp.up (by simp)))
      have e : bnF (I 143) p n (j + 1) = if pc (seenF (I 143) (nI j) p n) ≤ (bnF (I 143) p n j).2 then bnF (I 143) p n j else (nI j, pc (seenF (I 143) (nI j) p n)) := rfl
      rw [e] at this
      by_cases hc : pc (seenF (I 143) (nI j) p n) ≤ (bnF (I 143) p n j).2
      · rw [if_pos hc] at this
        rw [if_pos hc, if_pos hc]
        exact this
      · rw [if_neg hc] at this
        rw [if_neg hc, if_neg hc]
        exact this
  exact key 10 0 J rfl (fun i _ => by rw [sJ]) (fun i hi => hkeep i hi) (hk.mono (by simp))
end SEEM
