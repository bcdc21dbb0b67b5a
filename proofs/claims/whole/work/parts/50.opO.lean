/-! ===== one call to both: highs and firm ===== -/
/-- as seen after n weeks, at the height h (the first so many rows) -/
def asB (s : Nat → Int32) (p : Nat) (h : Int32) (n : Nat) : Nat → Bool
  | 0 => true
  | k + 1 => asB s p h n k && decide (¬ s (74 + k) = nI p ∨ ¬ s (79 + k) = nI n ∨ h = s (84 + k))
/-- as seen in the first so many weeks, from t on -/
def asA (s t : Nat → Int32) (w p kk : Nat) : Nat → Bool
  | 0 => true
  | m + 1 => asA s t w p kk m && asB s p (trjM t w m p).2.1 m kk
/-- one more than the latest week asked for -/
def ltF (s : Nat → Int32) (p : Nat) : Nat → Nat
  | 0 => 0
  | k + 1 => if s (74 + k) = nI p then max (ltF s p k) ((s (79 + k)).toNatClampNeg + 1) else ltF s p k
/-- from most down: how many, and the least -/
def ftF (c : Nat → Bool) (m : Nat) : Nat → Int32 × Int32
  | 0 => (0, (-5 : Int32))
  | i + 1 => if c (m - i) = true then ((ftF c m i).1 + 1, nI (m - i)) else ftF c m i
theorem asA_f {s t : Nat → Int32} {w p kk m : Nat} (h : asA s t w p kk m = false) : ∀ k, asA s t w p kk (m + k) = false
  | 0 => h
  | k + 1 => by
    show (asA s t w p kk (m + k) && _) = false
    rw [asA_f h k]
    rfl
theorem ltF_le {s : Nat → Int32} {p : Nat} : ∀ k, (∀ i, i < k → upto (s (79 + i)) 20) → ltF s p k ≤ 21 := by
  intro k
  induction k with
  | zero => intro _; exact Nat.zero_le _
  | succ k ih =>
    intro h
    have := ih (fun i hi => h i (by omega))
    obtain ⟨b, hb, e⟩ := h k (by omega)
    show (if s (74 + k) = nI p then max (ltF s p k) ((s (79 + k)).toNatClampNeg + 1) else ltF s p k) ≤ 21
    rw [e, nI_clamp (by omega)]
    split <;> omega
theorem asB_t {s : Nat → Int32} {p n : Nat} {h : Int32} : ∀ k, (∀ i, i < k → upto (s (79 + i)) 20) → ltF s p k ≤ n → n ≤ 60 → asB s p h n k = true := by
  intro k
  induction k with
  | zero => intro _ _ _; rfl
  | succ k ih =>
    intro hu hl hn
    obtain ⟨b, hb, e⟩ := hu k (by omega)
    have hl : (if s (74 + k) = nI p then max (ltF s p k) ((s (79 + k)).toNatClampNeg + 1) else ltF s p k) ≤ n := hl
    rw [e, nI_clamp (by omega)] at hl
    show (asB s p h n k && _) = true
    by_cases c : s (74 + k) = nI p
    · rw [if_pos c] at hl
      rw [ih (fun i hi => hu i (by omega)) (by omega) hn, decide_eq_true]
      · rfl
      · refine Or.inr (Or.inl ?_)
        rw [e]
        intro g
        have := (nI_eq (by omega) (by omega)).mp g
        omega
    · rw [if_neg c] at hl
      rw [ih (fun i hi => hu i (by omega)) hl hn, decide_eq_true (Or.inl c)]
      rfl
theorem asA_lt {s t : Nat → Int32} {w p kk : Nat} (hu : ∀ i, i < kk → upto (s (79 + i)) 20) : ∀ m, ltF s p kk + m ≤ 21 → asA s t w p kk (ltF s p kk + m) = asA s t w p kk (ltF s p kk)
  | 0, _ => rfl
  | m + 1, h => by
    show (asA s t w p kk (ltF s p kk + m) && asB s p (trjM t w (ltF s p kk + m) p).2.1 (ltF s p kk + m) kk) = _
    rw [asA_lt hu m (by omega), asB_t (n := ltF s p kk + m) kk hu (Nat.le_add_right _ _) (by omega), Bool.and_true]
theorem asA_21 {s t : Nat → Int32} {w p kk : Nat} (hu : ∀ i, i < kk → upto (s (79 + i)) 20) : asA s t w p kk 21 = asA s t w p kk (ltF s p kk) := by
  have := asA_lt (t := t) (w := w) (p := p) hu (21 - ltF s p kk) (by have := ltF_le (p := p) kk hu; omega)
  rw [show ltF s p kk + (21 - ltF s p kk) = 21 by have := ltF_le (p := p) kk hu; omega] at this
  exact this
theorem lt_fin : ∀ L, L < 22 → ∀ b, b < 21 → (if nI L - 1 < nI b then nI b else nI L - 1) = nI (max L (b + 1)) - 1 := by decide +kernel
theorem lt_fin2 : ∀ L, L < 22 → ∀ n, n < 22 → ((nI L - 1 < nI n) ↔ L ≤ n) := by decide +kernel
theorem bI_nar (b : Bool) : narrow .boolean (.int (bI b)) = .int (bI b) := by cases b <;> rfl
set_option maxRecDepth 20000 in
theorem r_C_fitting_0N {E : XE} {d : Nat} {I : Nat → Nat → Int32} {Q : Option Value → (Nat → Nat → Int32) → Prop} (a2 : Int32) (a3 : Int32)
    (H : Q (some (.int (-1 : Int32))) I) : x_P E d 103 0 [.ref 64, .null, .int a2, .int a3, x_jk, x_jk, x_jk, x_jk, x_jk] [] I Q := by
  refine wp_aload_nN rfl rfl rfl ?_
  refine wp_ifnullN rfl ?_
  refine wp_iconst (v := (-1 : Int32)) rfl (by decide) ?_
  exact s_iret rfl rfl rfl H
section OPO
variable {E : XE} {d : Nat} {I : Nat → Nat → Int32} {s : Nat → Int32} {n w : Nat}
/-- the model: as seen now -/
theorem m_isAs {K : Nat → Nat → Int32} {p m kk : Nat} {h : Int32} (hp : p < 6) (hk : kk ≤ 5) (h33 : K 143 33 = nI kk) (h7 : K 143 (7 + p) = h) (hs : ∀ j, 74 ≤ j → K 143 j = s j) (hd : 1 ≤ d) :
    x_K E d 164 [.ref 142, .int (nI p), .int (nI m)] K (x_pu (.int (bI (asB s p h m kk))) K) := by
  refine x_K.of (by decide) (by decide) rfl rfl rfl (r_M_isAsSeen_0 (by omega) _ _ ?_)
  have key : ∀ r j, j + r = kk → x_P E d 164 4 [.ref 142, .int (nI p), .int (nI m), .int (bI (asB s p h m j)), .int (nI j)] [] K (x_pu (.int (bI (asB s p h m kk))) K) := by
    intro r
    induction r with
    | zero =>
      intro j hj
      refine r_M_isAsSeen_4 (by omega) _ _ _ _ ⟨fun _ => ⟨bI_nar _, by rw [show kk = j by omega], rfl⟩, fun g => absurd ?_ g⟩
      rw [h33]
      exact nI_le (by omega) (by omega)
    | succ r ih =>
      intro j hj
      refine r_M_isAsSeen_4 (by omega) _ _ _ _ ⟨fun g => absurd g ?_, fun _ => ⟨fun _ => vi_c (c' := 74) rfl (by omega) (by decide), fun _ _ => vi_c (c' := 79) rfl (by omega) (by decide), fun _ _ _ => vi_c (c' := 7) rfl (by omega) (by decide), fun _ _ _ => vi_c (c' := 84) rfl (by omega) (by decide), ?_⟩⟩
      · rw [h33]
        exact nI_ge (by omega) (by omega)
      rw [ix_c (c := 74) (c' := 74) rfl (by omega), ix_c (c := 79) (c' := 79) rfl (by omega), ix_c (c := 84) (c' := 84) rfl (by omega), ix_c (c := 7) (c' := 7) rfl (by omega), hs (74 + j) (by omega), hs (79 + j) (by omega), hs (84 + j) (by omega), h7, nI_1, x_bi_bI]
      have nx := ih (j + 1) (by omega)
      rw [show asB s p h m (j + 1) = (asB s p h m j && decide (¬ s (74 + j) = nI p ∨ ¬ s (79 + j) = nI m ∨ h = s (84 + j))) from rfl] at nx
      rw [show decide (¬ (bI (asB s p h m j) = 0) ∧ (¬ (s (74 + j) = nI p) ∨ (¬ (s (79 + j) = nI m) ∨ (h = s (84 + j))))) = (asB s p h m j && decide (¬ s (74 + j) = nI p ∨ ¬ s (79 + j) = nI m ∨ h = s (84 + j))) by
        cases asB s p h m j
        · rw [decide_eq_false (fun g => g.1 rfl)]; rfl
        · rw [Bool.true_and]
          exact decide_eq_decide.mpr ⟨fun g => g.2, fun g => ⟨by decide, g⟩⟩]
      exact nx
  have kk2 := key kk 0 (by omega)
  rw [nI_0] at kk2
  exact kk2
/-- the model: as seen at all weeks; then what was kept comes back -/
theorem m_areAs {J : Nat → Nat → Int32} {t : Nat → Int32} {p kk : Nat} (hp : p < 6) (hk : kk ≤ 5) (hJ : J 143 = t) (hw : twM t) (h0 : t 0 = nI w) (hw2 : w ≤ 9999) (h33 : t 33 = nI kk) (hs : ∀ j, 74 ≤ j → t j = s j) (hd : 6 ≤ d) :
    x_K E d 165 [.ref 142, .int (nI p)] J (fun v K => v = some (.int (bI (asA s t w p kk 21))) ∧ (∀ j, K 143 j = if j < 31 then J 145 j else t j) ∧ kp [143, 146, 147] J K) := by
  refine x_K.of (by decide) (by decide) rfl rfl rfl (r_M_areAsSeen_0 (by omega) _ ?_)
  have back : ∀ (K : Nat → Nat → Int32) (b : Bool), b = asA s t w p kk 21 → (∀ j, 31 ≤ j → K 143 j = t j) → kp [143, 146, 147] J K →
      x_K E (d - 1) 113 [.ref 142] K (fun v I2 => x_P E d 165 21 [x_jk, x_jk, .int (bI b), x_jk] (v.toList ++ []) I2 (fun v K => v = some (.int (bI (asA s t w p kk 21))) ∧ (∀ j, K 143 j = if j < 31 then J 145 j else t j) ∧ kp [143, 146, 147] J K)) := by
    intro K b hb hhi kk1
    refine (c_goesBack (by omega)).mono (fun v K2 hv => ?_)
    obtain ⟨hv, e1, e2⟩ := hv
    rw [hv]
    refine r_M_areAsSeen_21 (by omega) _ ⟨bI_nar _, by rw [hb], fun j => ?_, kk1.trans (e2.mono (by simp))⟩
    rw [e1 j, kk1 145 (by simp)]
    by_cases c : j < 31
    · rw [if_pos c, if_pos c]
    · rw [if_neg c, if_neg c, hhi j (by omega)]
  have key : ∀ r m (K : Nat → Nat → Int32), m + r = 21 → alR t (K 143) w m p → kp [143, 146, 147] J K →
      x_P E d 165 4 [.ref 142, .int (nI p), .int (bI (asA s t w p kk m)), .int (nI m)] [] K (fun v K => v = some (.int (bI (asA s t w p kk 21))) ∧ (∀ j, K 143 j = if j < 31 then J 145 j else t j) ∧ kp [143, 146, 147] J K) := by
    intro r
    induction r with
    | zero =>
      intro m K hm hK kk1
      exact r_M_areAsSeen_4 (by omega) _ _ _ ⟨fun _ => back K _ (by rw [show m = 21 by omega]) (fun j hj => hK.2.1 j (by omega)) kk1, fun c => absurd (nI_lt (a := 20) (by omega) (by omega)) c⟩
    | succ r ih =>
      intro m K hm hK kk1
      refine r_M_areAsSeen_4 (by omega) _ _ _ ⟨fun c => absurd c (nI_nlt (b := m) (a := 20) (by omega) (by decide)), fun _ => ⟨fun c => ?_, fun c => ?_⟩⟩
      · have c := (bI_0 _).mp c
        refine back K _ ?_ (fun j hj => hK.2.1 j (by omega)) kk1
        rw [c, show 21 = m + (21 - m) by omega, asA_f c]
      · have c1 : asA s t w p kk m = true := by
          cases e : asA s t w p kk m
          · exact absurd (by rw [e]; rfl) c
          · rfl
        have e7 : K 143 (7 + p) = (trjM t w m p).2.1 := congrArg (fun x => x.2.1) hK.2.2
        refine (m_isAs (s := s) (p := p) (m := m) (kk := kk) (h := (trjM t w m p).2.1) hp hk ((hK.2.1 33 (by omega)).trans h33) e7 (fun j hj => (hK.2.1 j (by omega)).trans (hs j hj)) (by omega)).pu ?_
        refine r_M_areAsSeen_13 (by omega) _ _ _ ((c_alone (s := t) hp hw hK (by omega) (by omega)).mono (fun v K2 hv => ?_))
        obtain ⟨hv, hK2, k2⟩ := hv
        rw [hv]
        refine r_M_areAsSeen_17 (by omega) _ _ _ ?_
        rw [nI_1]
        have nx := ih (m + 1) K2 (by omega) hK2 (kk1.trans k2)
        rw [show asA s t w p kk (m + 1) = (asA s t w p kk m && asB s p (trjM t w m p).2.1 m kk) from rfl, c1, Bool.true_and] at nx
        exact nx
  have kk2 := key 21 0 J rfl (by rw [hJ]; exact alR_0 h0) kp.rfl'
  rw [nI_0] at kk2
  exact kk2
/-- the model: how many fit, or the least of them -/
theorem m_fitting {J : Nat → Nat → Int32} {p kk e M : Nat} {a4 : Int32} (c : Nat → Bool) (hp : p < 6) (hk : kk ≤ 5) (hJ : J 143 = s) (h0 : s 0 = nI w) (hw2 : w ≤ 9999) (h33 : s 33 = nI kk) (hw : twM s) (he : e = 7 + p ∨ e = 44 + p) (hM : M ≤ 99)
    (hc : ∀ v, v ≤ M → c v = asA s (su s e (nI v)) w p kk 21) (hd : 7 ≤ d) :
    x_K E d 166 [.ref 142, .int (nI p), .int (nI e), .int (nI M), .int a4] J (fun v K => v = some (.int (if a4 = 0 then (ftF c M (M + 1)).1 else (ftF c M (M + 1)).2)) ∧ K 143 = s ∧ kp [143, 145, 146, 147] J K) := by
  have he50 : e < 50 ∧ e ≠ 31 ∧ e ≠ 33 ∧ e ≠ 0 ∧ e ≠ 37 := by omega
  refine x_K.of (by decide) (by decide) rfl rfl rfl (r_M_fitting_0 (by omega) _ _ _ _ ⟨vp_in_nI (by omega) (by decide), ?_⟩)
  rw [nI_clamp (by omega), hJ]
  have key : ∀ r i (K : Nat → Nat → Int32), i + r = M + 1 → (∀ j, j ≠ e → K 143 j = s j) → kp [143, 145, 146, 147] J K →
      x_P E d 166 11 [.ref 142, .int (nI p), .int (nI e), x_jk, .int a4, .int (s e), .int (ftF c M i).1, .int (ftF c M i).2, .int (nI r + (-1 : Int32)), x_jk] [] K (fun v K => v = some (.int (if a4 = 0 then (ftF c M (M + 1)).1 else (ftF c M (M + 1)).2)) ∧ K 143 = s ∧ kp [143, 145, 146, 147] J K) := by
    intro r
    induction r with
    | zero =>
      intro i K hi hK k1
      refine r_M_fitting_11 (by omega) _ _ _ _ _ _ _ ⟨fun _ => ⟨vp_in_nI (by omega) (by decide), fun I3 e3 => ⟨by rw [show M + 1 = i by omega], ?_, k1.trans (by rw [e3]; exact kp.up (by simp))⟩⟩, fun g => absurd (by decide) g⟩
      rw [nI_clamp (by omega)] at e3
      rw [e3, up_su]
      funext j
      by_cases ej : j = e
      · rw [ej, su_eq]
      · rw [su_ne ej, hK j ej]
    | succ r ih =>
      intro i K hi hK k1
      rw [nI_dec]
      refine r_M_fitting_11 (by omega) _ _ _ _ _ _ _ ⟨fun g => absurd g (nI_pos (by omega)), fun _ => (c_keeps (by omega)).mono (fun v K1 hv => ?_)⟩
      obtain ⟨hv, q145, k2⟩ := hv
      rw [hv]
      refine r_M_fitting_15 (by omega) _ _ _ _ _ _ _ ⟨vp_in_nI (by omega) (by decide), fun I2 e2 => ?_⟩
      rw [nI_clamp (by omega)] at e2
      have ht : I2 143 = su s e (nI r) := by
        rw [e2, up_su, k2 143 (by simp)]
        funext j
        by_cases ej : j = e
        · rw [ej, su_eq, su_eq]
        · rw [su_ne ej, su_ne ej, hK j ej]
      have hlo : ∀ j, j ≠ e → su s e (nI r) j = s j := fun j hj => su_ne hj
      refine (m_areAs (s := s) (w := w) (kk := kk) hp hk ht (tow_same hw (hlo 37 (by omega)) (fun q _ _ => ⟨hlo _ (by omega), hlo _ (by omega), fun j _ _ => hlo j (by omega)⟩)).1 (by rw [hlo 0 (by omega)]; exact h0) hw2 (by rw [hlo 33 (by omega)]; exact h33) (fun j hj => hlo j (by omega)) (by omega)).mono (fun v K2 hv => ?_)
      obtain ⟨hv, hb, k3⟩ := hv
      rw [hv]
      rw [← hc r (by omega)]
      refine r_M_fitting_23 (by omega) _ _ _ _ _ _ _ _ ?_
      have kk2 : kp [143, 145, 146, 147] J K2 := ((k1.trans (k2.mono (by simp))).trans (by rw [e2]; exact kp.up (by simp))).trans (k3.mono (by simp))
      have nx := ih (i + 1) K2 (by omega) (fun j hj => by
        rw [hb j, e2, up_ne (by decide)]
        by_cases c : j < 31
        · rw [if_pos c, q145 j c, hK j hj]
        · rw [if_neg c, hlo j hj]) kk2
      rw [show ftF c M (i + 1) = if c (M - i) = true then ((ftF c M i).1 + 1, nI (M - i)) else ftF c M i from rfl, show M - i = r by omega] at nx
      cases ec : c r
      · rw [ec, if_neg (by decide)] at nx
        rw [if_pos (show bI false = 0 from rfl), show (ftF c M i).1 + x_bi (¬ (bI false = 0)) = (ftF c M i).1 by rw [x_bi_f (by decide)]; simp]
        exact nx
      · rw [ec, if_pos rfl] at nx
        rw [if_neg (show ¬ bI true = 0 by decide), show (ftF c M i).1 + x_bi (¬ (bI true = 0)) = (ftF c M i).1 + 1 by rw [x_bi_t (by decide)]]
        exact nx
  have k2 := key (M + 1) 0 J (by omega) (fun j _ => by rw [hJ]) kp.rfl'
  rw [nI_dec] at k2
  exact k2
end OPO
