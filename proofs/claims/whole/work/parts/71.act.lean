/-! ===== act ===== -/
def aN (k : Nat) (p V x : Int32) : Int32 × List Int32 := if k = 1 ∨ k = 4 then (x * (3 : Int32) + p, [11, 1]) else if k = 5 then ((x + p) ^^^ p, [51, 1]) else (x + p, [1])
def aPP (k : Nat) (p V x : Int32) : Int32 × List Int32 := ((aN k p V x).1 - V, 2 :: (aN k p V x).2)
def aP (k : Nat) (p V x : Int32) : Int32 × List Int32 := if k = 2 ∨ k = 5 then (-(aPP k p V x).1, 21 :: (aPP k p V x).2) else if k = 6 then ((aPP k p V x).1 + V, 61 :: (aPP k p V x).2) else aPP k p V x
def aPT (k : Nat) (p V x : Int32) : Int32 × List Int32 := ((aP k p V x).1 * (2 : Int32), 3 :: (aP k p V x).2)
def aT (k : Nat) (p V x : Int32) : Int32 × List Int32 := if k = 3 ∨ k = 6 then ((aPT k p V x).1 ^^^ (7 : Int32), 31 :: (aPT k p V x).2) else if k = 4 then ((aPT k p V (x - 1)).1 + (aN k p V (2 : Int32)).1, 41 :: ((aPT k p V (x - 1)).2 ++ (aN k p V (2 : Int32)).2)) else aPT k p V x
theorem aN_len {k : Nat} {p V x : Int32} : (aN k p V x).2.length ≤ 2 := by
  unfold aN
  split
  · exact Nat.le_refl _
  · split
    · exact Nat.le_refl _
    · show 1 ≤ 2
      omega
theorem aPP_len {k : Nat} {p V x : Int32} : (aPP k p V x).2.length ≤ 3 := by
  have := aN_len (k := k) (p := p) (V := V) (x := x)
  show (aN k p V x).2.length + 1 ≤ 3
  omega
theorem aP_len {k : Nat} {p V x : Int32} : (aP k p V x).2.length ≤ 4 := by
  have := aPP_len (k := k) (p := p) (V := V) (x := x)
  unfold aP
  split
  · show (aPP k p V x).2.length + 1 ≤ 4
    omega
  · split
    · show (aPP k p V x).2.length + 1 ≤ 4
      omega
    · omega
theorem aPT_len {k : Nat} {p V x : Int32} : (aPT k p V x).2.length ≤ 5 := by
  have := aP_len (k := k) (p := p) (V := V) (x := x)
  show (aP k p V x).2.length + 1 ≤ 5
  omega
theorem aT_len {k : Nat} {p V x : Int32} : (aT k p V x).2.length ≤ 8 := by
  have h1 := aPT_len (k := k) (p := p) (V := V) (x := x)
  have h2 := aPT_len (k := k) (p := p) (V := V) (x := x - 1)
  have h3 := aN_len (k := k) (p := p) (V := V) (x := 2)
  unfold aT
  split
  · show (aPT k p V x).2.length + 1 ≤ 8
    omega
  · split
    · show ((aPT k p V (x - 1)).2 ++ (aN k p V (2 : Int32)).2).length + 1 ≤ 8
      rw [List.length_append]
      omega
    · omega
/-- the class's trace has got the bodies L -/
def crK (r : Nat) (L : List Int32) (K K2 : Nat → Nat → Int32) : Prop := K2 138 1 = nI (r + L.length) ∧ K2 139 = wr r L (K 139) ∧ kp [138, 139] K K2
theorem crK.trans {r : Nat} {A B : List Int32} {K K1 K2 : Nat → Nat → Int32} (h : crK r A K K1) (g : crK (r + A.length) B K1 K2) : crK r (A ++ B) K K2 := by
  refine ⟨?_, ?_, h.2.2.trans g.2.2⟩
  · rw [g.1, List.length_append, Nat.add_assoc]
  · rw [g.2.1, h.2.1, wr_app]
def mrK (r : Nat) (L : List Int32) (K K2 : Nat → Nat → Int32) : Prop := K2 142 16 = nI (r + L.length) ∧ K2 150 = wr r L (K 150) ∧ (∀ j, j ≠ 16 → K2 142 j = K 142 j) ∧ kp [142, 150] K K2
theorem mrK.trans {r : Nat} {A B : List Int32} {K K1 K2 : Nat → Nat → Int32} (h : mrK r A K K1) (g : mrK (r + A.length) B K1 K2) : mrK r (A ++ B) K K2 := by
  refine ⟨?_, ?_, fun j hj => (g.2.2.1 j hj).trans (h.2.2.1 j hj), h.2.2.2.trans g.2.2.2⟩
  · rw [g.1, List.length_append, Nat.add_assoc]
  · rw [g.2.1, h.2.1, wr_app]
/-- the acting man, for the class and for the model -/
def amC (K : Nat → Nat → Int32) (q k : Nat) (p V : Int32) : Prop := K (85 + 2 * q) 0 = p ∧ K (85 + 2 * q) 1 = nI k ∧ K (85 + 2 * q) 2 = V
theorem amC_k {K K2 : Nat → Nat → Int32} {q k r : Nat} {p V : Int32} {L : List Int32} (hq : q < 6) (h : amC K q k p V) (g : crK r L K K2) : amC K2 q k p V := by
  unfold amC
  rw [g.2.2 (85 + 2 * q) (by simp; omega)]
  exact h
def amM (K : Nat → Nat → Int32) (k : Nat) (p V : Int32) : Prop := K 142 17 = nI k ∧ K 142 18 = p ∧ K 142 19 = V
theorem amM_k {K K2 : Nat → Nat → Int32} {k r : Nat} {p V : Int32} {L : List Int32} (h : amM K k p V) (g : mrK r L K K2) : amM K2 k p V := by
  unfold amM
  rw [g.2.2.1 17 (by decide), g.2.2.1 18 (by decide), g.2.2.1 19 (by decide)]
  exact h
theorem und_fin : ∀ k, k < 7 → (x_bi (((1 : Int32) = 0) ∨ (((1 : Int32) = nI k) ∨ (¬ ((1 : Int32) ≤ 0) ∧ (¬ ((4 : Int32) ≤ 1) ∧ (nI k = ((1 : Int32) + (3 : Int32))))))) = if k = 1 ∨ k = 4 then 1 else 0)
    ∧ (x_bi (((2 : Int32) = 0) ∨ (((2 : Int32) = nI k) ∨ (¬ ((2 : Int32) ≤ 0) ∧ (¬ ((4 : Int32) ≤ 2) ∧ (nI k = ((2 : Int32) + (3 : Int32))))))) = if k = 2 ∨ k = 5 then 1 else 0)
    ∧ (x_bi (((3 : Int32) = 0) ∨ (((3 : Int32) = nI k) ∨ (¬ ((3 : Int32) ≤ 0) ∧ (¬ ((4 : Int32) ≤ 3) ∧ (nI k = ((3 : Int32) + (3 : Int32))))))) = if k = 3 ∨ k = 6 then 1 else 0) := by decide +kernel
section ACT
variable {E : XE} {d q k r : Nat} {p V x : Int32} {K : Nat → Nat → Int32}
theorem c_keep {b : Int32} (h : K 138 1 = nI r) (hr : r < 20) (hd : 1 ≤ d) : x_K E d 21 [.ref 138, .int b] K (fun v K2 => v = none ∧ crK r [b] K K2) := by
  refine x_K.of (by decide) (by decide) rfl rfl rfl (r_Actor_keep_0 (by omega) _ ?_)
  rw [h]
  refine ⟨fun g => absurd g (nI_ge (a := r) (b := 20) hr (by decide)), fun _ => ⟨vp_in_nI hr (by decide), fun I4 e4 I5 e5 => ?_⟩⟩
  rw [nI_clamp (by omega)] at e4
  rw [e4, up_ne (show (138 : Nat) ≠ 139 by decide), h, nI_1] at e5
  refine ⟨rfl, ?_, ?_, ?_⟩
  · rw [e5, up_su, su_eq]
    rfl
  · rw [e5, up_ne (by decide), up_su, wr_one]
  · rw [e5]
    exact (kp.up (by simp)).trans (kp.up (by simp))
theorem c_run {b : Int32} {dp : Nat} {Q : Option Value → (Nat → Nat → Int32) → Prop} (hq : q < 6) (hk : k < 7) (h : amC K q k p V) (h1 : K 138 1 = nI r) (hr : r < 20) (hdp : dp ≤ 8) (hd : 2 ≤ d)
    (hQ : ∀ K1, crK r [b] K K1 → x_P E d 20 15 [.ref 138, .int b, .ref (85 + 2 * q), .int x, .int (nI dp)] [] K1 Q) : x_K E d 20 [.ref 138, .int b, .ref (85 + 2 * q), .int x, .int (nI dp)] K Q := by
  refine x_K.of (by decide) (by decide) rfl rfl rfl (r_Actor_run_0 (by omega) _ _ (x_man_now (by omega)).1 _ _ ⟨fun g => absurd g (nI_nlt (b := dp) (a := 8) hdp (by decide)), fun _ => ?_⟩)
  rw [h.2.1]
  refine ⟨fun g => absurd g (nI_pos (by omega)), fun _ => ⟨fun _ => (c_keep h1 hr (by omega)).mono (fun v K1 hv => ?_), fun g => absurd (nI_le (b := 6) (by omega) (by decide)) g⟩⟩
  obtain ⟨hv, hK⟩ := hv
  rw [hv]
  exact hQ K1 hK
theorem c_r1 {dp : Nat} (hq : q < 6) (hk : k < 7) (h : amC K q k p V) (h1 : K 138 1 = nI r) (hr : r < 20) (hdp : dp ≤ 8) (hd : 2 ≤ d) :
    x_K E d 20 [.ref 138, .int (1 : Int32), .ref (85 + 2 * q), .int x, .int (nI dp)] K (fun v K2 => v = some (.int (x + p)) ∧ crK r [1] K K2) := by
  refine c_run hq hk h h1 hr hdp hd (fun K1 hK => r_Actor_run_15 (by omega) _ _ (x_man_now (by omega)).1 _ _ ⟨fun _ => ?_, fun g => absurd g (by decide), fun g => absurd g (by decide), fun g => absurd g (by decide), fun g => absurd g (by decide), fun g => absurd g (by decide), fun g => absurd g (by decide), fun g => absurd g (by decide), fun g => absurd g (by decide), fun g => absurd rfl g⟩)
  rw [(amC_k hq h hK).1]
  exact ⟨rfl, hK⟩
theorem tabN_fin : ∀ k, k < 7 → ([1, 11, 1, 1, 11, 51, 1] : List Int32).getD k 0 = (if k = 1 ∨ k = 4 then (11 : Int32) else if k = 5 then (51 : Int32) else (1 : Int32)) := by decide
theorem tabP_fin : ∀ k, k < 7 → ([2, 2, 21, 2, 2, 21, 61] : List Int32).getD k 0 = (if k = 2 ∨ k = 5 then (21 : Int32) else if k = 6 then (61 : Int32) else (2 : Int32)) := by decide
theorem tabT_fin : ∀ k, k < 7 → ([3, 3, 3, 31, 41, 3, 31] : List Int32).getD k 0 = (if k = 3 ∨ k = 6 then (31 : Int32) else if k = 4 then (41 : Int32) else (3 : Int32)) := by decide
theorem c_nods {dp : Nat} (hq : q < 6) (hk : k < 7) (h : amC K q k p V) (h1 : K 138 1 = nI r) (hr : r < 15) (hdp : dp ≤ 6) (hd : 4 ≤ d) :
    x_K E d 20 [.ref 138, .int (([1, 11, 1, 1, 11, 51, 1] : List Int32).getD k 0), .ref (85 + 2 * q), .int x, .int (nI dp)] K (fun v K2 => v = some (.int (aN k p V x).1) ∧ crK r (aN k p V x).2 K K2) := by
  rw [tabN_fin k hk]
  unfold aN
  by_cases c : k = 1 ∨ k = 4
  · rw [if_pos c, if_pos c]
    refine c_run hq hk h h1 (by omega) (by omega) (by omega) (fun K1 hK => r_Actor_run_15 (by omega) _ _ (x_man_now (by omega)).1 _ _ ⟨fun g => absurd g (by decide), fun g => absurd g (by decide), fun g => absurd g (by decide), fun _ => ?_, fun g => absurd g (by decide), fun g => absurd g (by decide), fun g => absurd g (by decide), fun g => absurd g (by decide), fun g => absurd g (by decide), fun _ _ _ g => absurd rfl g⟩)
    rw [nI_1]
    refine (c_r1 hq hk (amC_k hq h hK) hK.1 (by show r + 1 < 20; omega) (by omega) (by omega)).mono (fun v K2 hv => ?_)
    obtain ⟨hv, g⟩ := hv
    rw [hv]
    exact r_Actor_run_61 (by omega) _ ⟨rfl, hK.trans g⟩
  · rw [if_neg c, if_neg c]
    by_cases c2 : k = 5
    · rw [if_pos c2, if_pos c2]
      refine c_run hq hk h h1 (by omega) (by omega) (by omega) (fun K1 hK => r_Actor_run_15 (by omega) _ _ (x_man_now (by omega)).1 _ _ ⟨fun g => absurd g (by decide), fun g => absurd g (by decide), fun g => absurd g (by decide), fun g => absurd g (by decide), fun g => absurd g (by decide), fun g => absurd g (by decide), fun g => absurd g (by decide), fun _ => ?_, fun g => absurd g (by decide), fun _ _ _ _ _ _ _ g => absurd rfl g⟩)
      rw [nI_1]
      refine (c_r1 hq hk (amC_k hq h hK) hK.1 (by show r + 1 < 20; omega) (by omega) (by omega)).mono (fun v K2 hv => ?_)
      obtain ⟨hv, g⟩ := hv
      rw [hv]
      refine r_Actor_run_114 (by omega) _ (x_man_now (by omega)).1 _ ?_
      rw [(amC_k hq (amC_k hq h hK) g).1]
      exact ⟨rfl, hK.trans g⟩
    · rw [if_neg c2, if_neg c2]
      exact c_r1 hq hk h h1 (by omega) (by omega) (by omega)
theorem c_pp {dp : Nat} (hq : q < 6) (hk : k < 7) (h : amC K q k p V) (h1 : K 138 1 = nI r) (hr : r < 14) (hdp : dp ≤ 5) (hd : 5 ≤ d) :
    x_K E d 20 [.ref 138, .int (2 : Int32), .ref (85 + 2 * q), .int x, .int (nI dp)] K (fun v K2 => v = some (.int (aPP k p V x).1) ∧ crK r (aPP k p V x).2 K K2) := by
  refine c_run hq hk h h1 (by omega) (by omega) (by omega) (fun K1 hK => r_Actor_run_15 (by omega) _ _ (x_man_now (by omega)).1 _ _ ⟨fun g => absurd g (by decide), fun _ => ?_, fun g => absurd g (by decide), fun g => absurd g (by decide), fun g => absurd g (by decide), fun g => absurd g (by decide), fun g => absurd g (by decide), fun g => absurd g (by decide), fun g => absurd g (by decide), fun _ g => absurd rfl g⟩)
  rw [nI_1, (amC_k hq h hK).2.1, nI_clamp (by omega)]
  refine ⟨vp_in_nI hk (by decide), (c_nods hq hk (amC_k hq h hK) hK.1 (by show r + 1 < 15; omega) (by omega) (by omega)).mono (fun v K2 hv => ?_)⟩
  obtain ⟨hv, g⟩ := hv
  rw [hv]
  refine r_Actor_run_33 (by omega) _ (x_man_now (by omega)).1 _ ?_
  rw [(amC_k hq (amC_k hq h hK) g).2.2]
  exact ⟨rfl, hK.trans g⟩
theorem c_pre {dp : Nat} (hq : q < 6) (hk : k < 7) (h : amC K q k p V) (h1 : K 138 1 = nI r) (hr : r < 13) (hdp : dp ≤ 4) (hd : 6 ≤ d) :
    x_K E d 20 [.ref 138, .int (([2, 2, 21, 2, 2, 21, 61] : List Int32).getD k 0), .ref (85 + 2 * q), .int x, .int (nI dp)] K (fun v K2 => v = some (.int (aP k p V x).1) ∧ crK r (aP k p V x).2 K K2) := by
  rw [tabP_fin k hk]
  unfold aP
  by_cases c : k = 2 ∨ k = 5
  · rw [if_pos c, if_pos c]
    refine c_run hq hk h h1 (by omega) (by omega) (by omega) (fun K1 hK => r_Actor_run_15 (by omega) _ _ (x_man_now (by omega)).1 _ _ ⟨fun g => absurd g (by decide), fun g => absurd g (by decide), fun g => absurd g (by decide), fun g => absurd g (by decide), fun _ => ?_, fun g => absurd g (by decide), fun g => absurd g (by decide), fun g => absurd g (by decide), fun g => absurd g (by decide), fun _ _ _ _ g => absurd rfl g⟩)
    rw [nI_1]
    refine (c_pp hq hk (amC_k hq h hK) hK.1 (by show r + 1 < 14; omega) (by omega) (by omega)).mono (fun v K2 hv => ?_)
    obtain ⟨hv, g⟩ := hv
    rw [hv]
    exact r_Actor_run_70 (by omega) _ ⟨rfl, hK.trans g⟩
  · rw [if_neg c, if_neg c]
    by_cases c2 : k = 6
    · rw [if_pos c2, if_pos c2]
      refine c_run hq hk h h1 (by omega) (by omega) (by omega) (fun K1 hK => r_Actor_run_15 (by omega) _ _ (x_man_now (by omega)).1 _ _ ⟨fun g => absurd g (by decide), fun g => absurd g (by decide), fun g => absurd g (by decide), fun g => absurd g (by decide), fun g => absurd g (by decide), fun g => absurd g (by decide), fun g => absurd g (by decide), fun g => absurd g (by decide), fun _ => ?_, fun _ _ _ _ _ _ _ _ g => absurd rfl g⟩)
      rw [nI_1]
      refine (c_pp hq hk (amC_k hq h hK) hK.1 (by show r + 1 < 14; omega) (by omega) (by omega)).mono (fun v K2 hv => ?_)
      obtain ⟨hv, g⟩ := hv
      rw [hv]
      refine r_Actor_run_126 (by omega) _ (x_man_now (by omega)).1 _ ?_
      rw [(amC_k hq (amC_k hq h hK) g).2.2]
      exact ⟨rfl, hK.trans g⟩
    · rw [if_neg c2, if_neg c2]
      exact c_pp hq hk h h1 (by omega) (by omega) (by omega)
theorem c_pt {dp : Nat} (hq : q < 6) (hk : k < 7) (h : amC K q k p V) (h1 : K 138 1 = nI r) (hr : r < 12) (hdp : dp ≤ 3) (hd : 7 ≤ d) :
    x_K E d 20 [.ref 138, .int (3 : Int32), .ref (85 + 2 * q), .int x, .int (nI dp)] K (fun v K2 => v = some (.int (aPT k p V x).1) ∧ crK r (aPT k p V x).2 K K2) := by
  refine c_run hq hk h h1 (by omega) (by omega) (by omega) (fun K1 hK => r_Actor_run_15 (by omega) _ _ (x_man_now (by omega)).1 _ _ ⟨fun g => absurd g (by decide), fun g => absurd g (by decide), fun _ => ?_, fun g => absurd g (by decide), fun g => absurd g (by decide), fun g => absurd g (by decide), fun g => absurd g (by decide), fun g => absurd g (by decide), fun g => absurd g (by decide), fun _ _ g => absurd rfl g⟩)
  rw [nI_1, (amC_k hq h hK).2.1, nI_clamp (by omega)]
  refine ⟨vp_in_nI hk (by decide), (c_pre hq hk (amC_k hq h hK) hK.1 (by show r + 1 < 13; omega) (by omega) (by omega)).mono (fun v K2 hv => ?_)⟩
  obtain ⟨hv, g⟩ := hv
  rw [hv]
  exact r_Actor_run_48 (by omega) _ ⟨rfl, hK.trans g⟩
theorem c_turn (hq : q < 6) (hk : k < 7) (h : amC K q k p V) (h1 : K 138 1 = nI 0) (hd : 8 ≤ d) :
    x_K E d 20 [.ref 138, .int (([3, 3, 3, 31, 41, 3, 31] : List Int32).getD k 0), .ref (85 + 2 * q), .int x, .int (nI 0)] K (fun v K2 => v = some (.int (aT k p V x).1) ∧ crK 0 (aT k p V x).2 K K2) := by
  rw [tabT_fin k hk]
  unfold aT
  by_cases c : k = 3 ∨ k = 6
  · rw [if_pos c, if_pos c]
    refine c_run hq hk h h1 (by omega) (by omega) (by omega) (fun K1 hK => r_Actor_run_15 (by omega) _ _ (x_man_now (by omega)).1 _ _ ⟨fun g => absurd g (by decide), fun g => absurd g (by decide), fun g => absurd g (by decide), fun g => absurd g (by decide), fun g => absurd g (by decide), fun _ => ?_, fun g => absurd g (by decide), fun g => absurd g (by decide), fun g => absurd g (by decide), fun _ _ _ _ _ g => absurd rfl g⟩)
    rw [nI_1]
    refine (c_pt hq hk (amC_k hq h hK) hK.1 (by show 0 + 1 < 12; omega) (by omega) (by omega)).mono (fun v K2 hv => ?_)
    obtain ⟨hv, g⟩ := hv
    rw [hv]
    exact r_Actor_run_80 (by omega) _ ⟨rfl, hK.trans g⟩
  · rw [if_neg c, if_neg c]
    by_cases c2 : k = 4
    · rw [if_pos c2, if_pos c2]
      refine c_run hq hk h h1 (by omega) (by omega) (by omega) (fun K1 hK => r_Actor_run_15 (by omega) _ _ (x_man_now (by omega)).1 _ _ ⟨fun g => absurd g (by decide), fun g => absurd g (by decide), fun g => absurd g (by decide), fun g => absurd g (by decide), fun g => absurd g (by decide), fun g => absurd g (by decide), fun _ => ?_, fun g => absurd g (by decide), fun g => absurd g (by decide), fun _ _ _ _ _ _ g => absurd rfl g⟩)
      have hA1 := amC_k hq h hK
      rw [nI_1]
      refine (c_pt hq hk hA1 hK.1 (by show 0 + 1 < 12; omega) (by omega) (by omega)).mono (fun v K2 hv => ?_)
      obtain ⟨hv, g⟩ := hv
      rw [hv]
      have hA2 := amC_k hq hA1 g
      have hl := aPT_len (k := k) (p := p) (V := V) (x := x - 1)
      refine r_Actor_run_93 (by omega) _ (x_man_now (by omega)).1 _ _ ?_
      rw [nI_1, hA2.2.1, nI_clamp (by omega)]
      refine ⟨vp_in_nI hk (by decide), (c_nods hq hk hA2 g.1 (by show 0 + 1 + (aPT k p V (x - 1)).2.length < 15; omega) (by omega) (by omega)).mono (fun v K3 hv => ?_)⟩
      obtain ⟨hv, g2⟩ := hv
      rw [hv]
      refine r_Actor_run_104 (by omega) _ _ ⟨rfl, ?_⟩
      have := (hK.trans g).trans (by
        rw [List.length_append, ← Nat.add_assoc]
        exact g2)
      exact this
    · rw [if_neg c2, if_neg c2]
      exact c_pt hq hk h h1 (by omega) (by omega) (by omega)
/-! the model -/
theorem m_ran {b : Int32} (h : K 142 16 = nI r) (hr : r < 20) (hd : 1 ≤ d) : x_K E d 178 [.ref 142, .int b] K (fun v K2 => v = none ∧ mrK r [b] K K2) := by
  refine x_K.of (by decide) (by decide) rfl rfl rfl (r_M_ranBody_0 (by omega) _ ?_)
  rw [h]
  refine ⟨fun g => absurd g (nI_ge (a := r) (b := 20) hr (by decide)), fun _ => ⟨vp_in_nI hr (by decide), fun I4 e4 I5 e5 => ?_⟩⟩
  rw [nI_clamp (by omega)] at e4
  rw [e4, up_ne (show (142 : Nat) ≠ 150 by decide), h, nI_1] at e5
  refine ⟨rfl, ?_, ?_, fun j hj => ?_, ?_⟩
  · rw [e5, up_su, su_eq]
    rfl
  · rw [e5, up_ne (by decide), up_su, wr_one]
  · rw [e5, up_su, su_ne hj, up_ne (by decide)]
  · rw [e5]
    exact (kp.up (by simp)).trans (kp.up (by simp))
theorem m_plN (h : amM K k p V) (h1 : K 142 16 = nI r) (hr : r < 20) (hd : 2 ≤ d) : x_K E d 180 [.ref 142, .int x] K (fun v K2 => v = some (.int (x + p)) ∧ mrK r [1] K K2) := by
  refine x_K.of (by decide) (by decide) rfl rfl rfl (r_M_plainNods_0 (by omega) _ ((m_ran h1 hr (by omega)).mono (fun v K2 hv => ?_)))
  obtain ⟨hv, g⟩ := hv
  rw [hv]
  refine r_M_plainNods_3 (by omega) _ ?_
  rw [(amM_k h g).2.1]
  exact ⟨rfl, g⟩
theorem m_nA (hk : k < 7) (h : amM K k p V) (h1 : K 142 16 = nI r) (hr : r < 15) (hd : 4 ≤ d) : x_K E d 181 [.ref 142, .int x] K (fun v K2 => v = some (.int (aN k p V x).1) ∧ mrK r (aN k p V x).2 K K2) := by
  refine x_K.of (by decide) (by decide) rfl rfl rfl (r_M_nodsActs_0 (by omega) _ (x_K.of (by decide) (by decide) rfl rfl rfl (r_M_isUnder_0 (by omega) _ _ ?_)))
  rw [h.1, (und_fin k hk).1]
  unfold aN
  by_cases c : k = 1 ∨ k = 4
  · rw [if_pos c, if_pos c]
    refine r_M_nodsActs_4 (by omega) _ _ ⟨fun g => absurd g (by decide), fun _ => (m_ran h1 (by omega) (by omega)).mono (fun v K1 hv => ?_)⟩
    obtain ⟨hv, g⟩ := hv
    rw [hv]
    refine r_M_nodsActs_8 (by omega) _ ((m_plN (amM_k h g) g.1 (by show r + 1 < 20; omega) (by omega)).mono (fun v K2 hv => ?_))
    obtain ⟨hv, g2⟩ := hv
    rw [hv]
    exact r_M_nodsActs_13 (by omega) _ ⟨rfl, g.trans g2⟩
  · rw [if_neg c, if_neg c]
    refine r_M_nodsActs_4 (by omega) _ _ ⟨fun _ => ?_, fun g => absurd rfl g⟩
    rw [h.1]
    by_cases c2 : k = 5
    · rw [if_pos c2]
      refine ⟨fun _ => (m_ran h1 (by omega) (by omega)).mono (fun v K1 hv => ?_), fun g => absurd (by rw [c2]; rfl) g⟩
      obtain ⟨hv, g⟩ := hv
      rw [hv]
      refine r_M_nodsActs_21 (by omega) _ ((m_plN (amM_k h g) g.1 (by show r + 1 < 20; omega) (by omega)).mono (fun v K2 hv => ?_))
      obtain ⟨hv, g2⟩ := hv
      rw [hv]
      refine r_M_nodsActs_24 (by omega) _ ?_
      rw [(amM_k (amM_k h g) g2).2.1]
      exact ⟨rfl, g.trans g2⟩
    · rw [if_neg c2]
      refine ⟨fun g => absurd ((nI_eq (a := k) (b := 5) (by omega) (by omega)).mp g) c2, fun _ => (m_plN h h1 (by omega) (by omega)).mono (fun v K2 hv => ?_)⟩
      obtain ⟨hv, g2⟩ := hv
      rw [hv]
      exact r_M_nodsActs_31 (by omega) _ ⟨rfl, g2⟩
theorem m_pP (hk : k < 7) (h : amM K k p V) (h1 : K 142 16 = nI r) (hr : r < 14) (hd : 5 ≤ d) : x_K E d 182 [.ref 142, .int x] K (fun v K2 => v = some (.int (aPP k p V x).1) ∧ mrK r (aPP k p V x).2 K K2) := by
  refine x_K.of (by decide) (by decide) rfl rfl rfl (r_M_plainPreaches_0 (by omega) _ ((m_ran h1 (by omega) (by omega)).mono (fun v K1 hv => ?_)))
  obtain ⟨hv, g⟩ := hv
  rw [hv]
  refine r_M_plainPreaches_3 (by omega) _ ((m_nA hk (amM_k h g) g.1 (by show r + 1 < 15; omega) (by omega)).mono (fun v K2 hv => ?_))
  obtain ⟨hv, g2⟩ := hv
  rw [hv]
  refine r_M_plainPreaches_6 (by omega) _ ?_
  rw [(amM_k (amM_k h g) g2).2.2]
  exact ⟨rfl, g.trans g2⟩
theorem m_aP (hk : k < 7) (h : amM K k p V) (h1 : K 142 16 = nI r) (hr : r < 13) (hd : 6 ≤ d) : x_K E d 183 [.ref 142, .int x] K (fun v K2 => v = some (.int (aP k p V x).1) ∧ mrK r (aP k p V x).2 K K2) := by
  refine x_K.of (by decide) (by decide) rfl rfl rfl (r_M_preachesActs_0 (by omega) _ (x_K.of (by decide) (by decide) rfl rfl rfl (r_M_isUnder_0 (by omega) _ _ ?_)))
  rw [h.1, (und_fin k hk).2.1]
  unfold aP
  by_cases c : k = 2 ∨ k = 5
  · rw [if_pos c, if_pos c]
    refine r_M_preachesActs_4 (by omega) _ _ ⟨fun g => absurd g (by decide), fun _ => (m_ran h1 (by omega) (by omega)).mono (fun v K1 hv => ?_)⟩
    obtain ⟨hv, g⟩ := hv
    rw [hv]
    refine r_M_preachesActs_8 (by omega) _ ((m_pP hk (amM_k h g) g.1 (by show r + 1 < 14; omega) (by omega)).mono (fun v K2 hv => ?_))
    obtain ⟨hv, g2⟩ := hv
    rw [hv]
    exact r_M_preachesActs_11 (by omega) _ ⟨rfl, g.trans g2⟩
  · rw [if_neg c, if_neg c]
    refine r_M_preachesActs_4 (by omega) _ _ ⟨fun _ => ?_, fun g => absurd rfl g⟩
    rw [h.1]
    by_cases c2 : k = 6
    · rw [if_pos c2]
      refine ⟨fun _ => (m_ran h1 (by omega) (by omega)).mono (fun v K1 hv => ?_), fun g => absurd (by rw [c2]; rfl) g⟩
      obtain ⟨hv, g⟩ := hv
      rw [hv]
      refine r_M_preachesActs_20 (by omega) _ ((m_pP hk (amM_k h g) g.1 (by show r + 1 < 14; omega) (by omega)).mono (fun v K2 hv => ?_))
      obtain ⟨hv, g2⟩ := hv
      rw [hv]
      refine r_M_preachesActs_23 (by omega) _ ?_
      rw [(amM_k (amM_k h g) g2).2.2]
      exact ⟨rfl, g.trans g2⟩
    · rw [if_neg c2]
      refine ⟨fun g => absurd ((nI_eq (a := k) (b := 6) (by omega) (by omega)).mp g) c2, fun _ => (m_pP hk h h1 (by omega) (by omega)).mono (fun v K2 hv => ?_)⟩
      obtain ⟨hv, g2⟩ := hv
      rw [hv]
      exact r_M_preachesActs_30 (by omega) _ ⟨rfl, g2⟩
theorem m_pT (hk : k < 7) (h : amM K k p V) (h1 : K 142 16 = nI r) (hr : r < 12) (hd : 7 ≤ d) : x_K E d 184 [.ref 142, .int x] K (fun v K2 => v = some (.int (aPT k p V x).1) ∧ mrK r (aPT k p V x).2 K K2) := by
  refine x_K.of (by decide) (by decide) rfl rfl rfl (r_M_plainTelling_0 (by omega) _ ((m_ran h1 (by omega) (by omega)).mono (fun v K1 hv => ?_)))
  obtain ⟨hv, g⟩ := hv
  rw [hv]
  refine r_M_plainTelling_3 (by omega) _ ((m_aP hk (amM_k h g) g.1 (by show r + 1 < 13; omega) (by omega)).mono (fun v K2 hv => ?_))
  obtain ⟨hv, g2⟩ := hv
  rw [hv]
  exact r_M_plainTelling_6 (by omega) _ ⟨rfl, g.trans g2⟩
theorem m_aT (hk : k < 7) (h : amM K k p V) (h1 : K 142 16 = nI 0) (hd : 8 ≤ d) : x_K E d 185 [.ref 142, .int x] K (fun v K2 => v = some (.int (aT k p V x).1) ∧ mrK 0 (aT k p V x).2 K K2) := by
  refine x_K.of (by decide) (by decide) rfl rfl rfl (r_M_turningActs_0 (by omega) _ (x_K.of (by decide) (by decide) rfl rfl rfl (r_M_isUnder_0 (by omega) _ _ ?_)))
  rw [h.1, (und_fin k hk).2.2]
  unfold aT
  by_cases c : k = 3 ∨ k = 6
  · rw [if_pos c, if_pos c]
    refine r_M_turningActs_4 (by omega) _ _ ⟨fun g => absurd g (by decide), fun _ => (m_ran h1 (by omega) (by omega)).mono (fun v K1 hv => ?_)⟩
    obtain ⟨hv, g⟩ := hv
    rw [hv]
    refine r_M_turningActs_8 (by omega) _ ((m_pT hk (amM_k h g) g.1 (by show 0 + 1 < 12; omega) (by omega)).mono (fun v K2 hv => ?_))
    obtain ⟨hv, g2⟩ := hv
    rw [hv]
    exact r_M_turningActs_11 (by omega) _ ⟨rfl, g.trans g2⟩
  · rw [if_neg c, if_neg c]
    refine r_M_turningActs_4 (by omega) _ _ ⟨fun _ => ?_, fun g => absurd rfl g⟩
    rw [h.1]
    by_cases c2 : k = 4
    · rw [if_pos c2]
      refine ⟨fun _ => (m_ran h1 (by omega) (by omega)).mono (fun v K1 hv => ?_), fun g => absurd (by rw [c2]; rfl) g⟩
      obtain ⟨hv, g⟩ := hv
      rw [hv]
      have hA := amM_k h g
      refine r_M_turningActs_21 (by omega) _ ((m_pT hk hA g.1 (by show 0 + 1 < 12; omega) (by omega)).mono (fun v K2 hv => ?_))
      obtain ⟨hv, g2⟩ := hv
      rw [hv]
      have hl := aPT_len (k := k) (p := p) (V := V) (x := x - 1)
      refine r_M_turningActs_26 (by omega) _ ((m_nA hk (amM_k hA g2) g2.1 (by show 0 + 1 + (aPT k p V (x - 1)).2.length < 15; omega) (by omega)).mono (fun v K3 hv => ?_))
      obtain ⟨hv, g3⟩ := hv
      rw [hv]
      refine r_M_turningActs_31 (by omega) _ _ ⟨rfl, ?_⟩
      have := (g.trans g2).trans (by
        rw [List.length_append, ← Nat.add_assoc]
        exact g3)
      exact this
    · rw [if_neg c2]
      refine ⟨fun g => absurd ((nI_eq (a := k) (b := 4) (by omega) (by omega)).mp g) c2, fun _ => (m_pT hk h h1 (by omega) (by omega)).mono (fun v K2 hv => ?_)⟩
      obtain ⟨hv, g2⟩ := hv
      rw [hv]
      exact r_M_turningActs_36 (by omega) _ ⟨rfl, g2⟩
set_option maxRecDepth 20000 in
theorem r_Actor_perform_0N {E : XE} {d : Nat} {I : Nat → Nat → Int32} {Q : Option Value → (Nat → Nat → Int32) → Prop} (a2 : Int32) (a3 : Int32)
    (H : ∀ I_1, I_1 = x_up I 138 1 (0 : Int32) → Q (some (.int (0 : Int32))) I_1) : x_P E d 19 0 [.ref 138, .null, .int a2, .int a3] [] I Q := by
  refine wp_aload_n rfl rfl rfl ?_
  refine wp_iconst (v := (0 : Int32)) rfl (by decide) ?_
  refine s_putI rfl (by decide) (kd_138 _) rfl rfl (x_fit_int _) ?_
  generalize hI_1 : x_up I 138 1 (0 : Int32) = I_1
  replace H := H _ hI_1.symm
  refine wp_aload_nN rfl rfl rfl ?_
  refine wp_ifnullN rfl ?_
  refine wp_iconst (v := (0 : Int32)) rfl (by decide) ?_
  exact s_iret rfl rfl rfl H
theorem st_act {I : Nat → Nat → Int32} {a1 a2 a3 : Int32} (h : inv I) (hd : 20 ≤ d) : stp2 E d I 88 186 [.int a1, .int a2, .int a3] := by
  obtain ⟨s, n, w, hR, hs, h0, ⟨r0, hr0, t1, t2, t3⟩, hi⟩ := h
  have hn := hR.1.1
  have h31 := hR.1.2.2.1
  have h65 := hR.1.2.2.2.2.1
  -- both have run the same bodies: the relation holds on
  have fin : ∀ (J J1 K : Nat → Nat → Int32) (L : List Int32), L.length ≤ 20 → (∀ q, q ≠ 138 → q ≠ 139 → J q = I q) → J 138 1 = nI L.length → (∀ i, i < L.length → J 139 i = L.getD i 0) → (∀ q, q ≠ 142 → q ≠ 150 → K q = J q) → K 142 16 = nI L.length → (∀ i, i < L.length → K 150 i = L.getD i 0) → K 142 4 = J 142 4 → inv K := by
    intro J J1 K L hL k1 q1 q2 k2 p1 p2 p4
    refine ⟨s, n, w, RW_c (fun q a c => by rw [k2 q (by omega) (by omega), k1 q (by omega) (by omega)]) hR, ?_, ?_, ⟨L.length, hL, ?_, p1, fun i hi => ?_⟩, ?_⟩
    · rw [k2 143 (by decide) (by decide), k1 143 (by decide) (by decide)]
      exact hs
    · rw [k2 141 (by decide) (by decide), k1 141 (by decide) (by decide)]
      exact h0
    · rw [k2 138 (by decide) (by decide)]
      exact q1
    · rw [k2 139 (by decide) (by decide), q2 i hi, p2 i hi]
    · refine imA_c ?_ ?_ ?_ (fun q a c => ?_) hi
      · rw [k2 64 (by decide) (by decide), k1 64 (by decide) (by decide)]
      · rw [p4, k1 142 (by decide) (by decide)]
      · rw [k2 144 (by decide) (by decide), k1 144 (by decide) (by decide)]
      · rw [k2 q (by omega) (by omega), k1 q (by omega) (by omega)]
  -- nothing is run
  have zero : ∀ J, J = x_up I 138 1 0 → ∀ K, K = x_up J 142 16 0 → inv K := by
    intro J e1 K e2
    refine fin J J K [] (by decide) (fun q a _ => by rw [e1, up_ne a]) (by rw [e1, up_su, su_eq]; rfl) (fun i hi => absurd hi (by simp)) (fun q a _ => by rw [e2, up_ne a]) (by rw [e2, up_su, su_eq]; rfl) (fun i hi => absurd hi (by simp)) (by rw [e2, up_su, su_ne (by decide)])
  have mno : ∀ J, J = x_up I 138 1 0 → (¬ (0 ≤ a1 ∧ a1 ≤ nI n - 1) ∨ ¬ (0 ≤ a2 ∧ a2 ≤ (2 : Int32))) → x_K E d 186 [.ref 142, .int a1, .int a2, .int a3] J (fun v K => v = some (.int 0) ∧ inv K) := by
    intro J e1 hno
    refine x_K.of (by decide) (by decide) rfl rfl rfl (r_M_act_0 (by omega) _ _ _ (fun I1 e2 => ?_))
    have f : I1 143 31 = nI n := by rw [e2, up_ne (by decide), e1, up_ne (by decide), hs]; exact h31
    rw [f]
    have z := zero J e1 I1 e2
    rcases hno with hno | hno
    · exact ⟨fun g => absurd g hno, fun _ => ⟨rfl, z⟩⟩
    · exact ⟨fun _ => ⟨fun g => absurd g hno, fun _ => ⟨rfl, z⟩⟩, fun _ => ⟨rfl, z⟩⟩
  rcases mn_cases a1 hn with ⟨p, hp, rfl, hin⟩ | ⟨hno, hno2⟩
  · obtain ⟨hm, ok⟩ := hR.2.1.1 p hp
    obtain ⟨k, hk, ek⟩ := ok.1
    have g0 : I (85 + 2 * p) 0 = nI p := hm.1
    have g1 : I (85 + 2 * p) 1 = nI k := hm.2.1.trans ek
    have g2 : I (85 + 2 * p) 2 = s (44 + p) := hm.2.2.1
    by_cases h2 : 0 ≤ a2 ∧ a2 ≤ (2 : Int32)
    · -- the model behind its fields
      have mm : ∀ (f : Int32 × List Int32) (J : Nat → Nat → Int32), f.2.length ≤ 20 → (∀ q, q ≠ 138 → q ≠ 139 → J q = I q) → J 138 1 = nI f.2.length → (∀ i, i < f.2.length → J 139 i = f.2.getD i 0) →
          (∀ I8, amM I8 k (nI p) (s (44 + p)) → I8 142 16 = nI 0 → (∀ Q : Option Value → (Nat → Nat → Int32) → Prop, (∀ K, mrK 0 f.2 I8 K → Q (some (.int f.1)) K) → ((a2 = 0 → x_K E (d - 1) 181 [.ref 142, .int a3] I8 (fun v I2 => x_P E d 186 38 [x_jk, x_jk, x_jk, x_jk] (v.toList ++ []) I2 Q)) ∧ (¬ (a2 = 0) → ((a2 = 1 → x_K E (d - 1) 183 [.ref 142, .int a3] I8 (fun v I2 => x_P E d 186 45 [x_jk, x_jk, x_jk, x_jk] (v.toList ++ []) I2 Q)) ∧ (¬ (a2 = 1) → x_K E (d - 1) 185 [.ref 142, .int a3] I8 (fun v I2 => x_P E d 186 49 [x_jk, x_jk, x_jk, x_jk] (v.toList ++ []) I2 Q))))))) →
          x_K E d 186 [.ref 142, .int (nI p), .int a2, .int a3] J (fun v K => v = some (.int f.1) ∧ inv K) := by
        intro f J hL k1 q1 q2 hrun
        refine x_K.of (by decide) (by decide) rfl rfl rfl (r_M_act_0 (by omega) _ _ _ (fun I1 e1 => ?_))
        have f143 : I1 143 = s := by rw [e1, up_ne (by decide), k1 143 (by decide) (by decide)]; exact hs
        rw [f143, h31]
        refine ⟨fun _ => ⟨fun _ => ⟨vi_c (c' := 38) rfl (by omega) (by decide), fun I5 e5 I6 e6 => ⟨vi_c (c' := 44) rfl (by omega) (by decide), fun I8 e8 => ?_⟩⟩, fun g => absurd h2 g⟩, fun g => absurd hin g⟩
        rw [ix_c (c := 38) (c' := 38) rfl (by omega), ek] at e5
        have f6 : I6 143 = s := by rw [e6, up_ne (by decide), e5, up_ne (by decide)]; exact f143
        rw [ix_c (c := 44) (c' := 44) rfl (by omega), f6] at e8
        have f8 : I8 142 = su (su (su (su (J 142) 16 0) 17 (nI k)) 18 (nI p)) 19 (s (44 + p)) := by rw [e8, up_su, e6, up_su, e5, up_su, e1, up_su]
        have n8 : ∀ q, q ≠ 142 → I8 q = J q := fun q hq => by rw [e8, up_ne hq, e6, up_ne hq, e5, up_ne hq, e1, up_ne hq]
        refine hrun I8 ⟨?_, ?_, ?_⟩ ?_ _ (fun K hK => ⟨rfl, ?_⟩)
        · rw [f8, su_ne (by decide), su_ne (by decide), su_eq]
        · rw [f8, su_ne (by decide), su_eq]
        · rw [f8, su_eq]
        · rw [f8, su_ne (by decide), su_ne (by decide), su_ne (by decide), su_eq]
          rfl
        · obtain ⟨b1, b2, b3, b4⟩ := hK
          refine fin J J K f.2 hL k1 q1 q2 (fun q a c => by rw [b4 q (by simp; omega), n8 q a]) (by rw [b1, Nat.zero_add]) (fun i hi => ?_) ?_
          · rw [b2]
            have := atL_wr (g := I8 150) (i := 0) (L := f.2) i hi
            rw [Nat.zero_add] at this
            exact this
          · rw [b3 4 (by decide), f8, su_ne (by decide), su_ne (by decide), su_ne (by decide), su_ne (by decide)]
      -- the class
      have cf : ∀ (f : Int32 × List Int32) (J1 J : Nat → Nat → Int32), J1 = x_up I 138 1 0 → crK 0 f.2 J1 J → (∀ q, q ≠ 138 → q ≠ 139 → J q = I q) ∧ J 138 1 = nI f.2.length ∧ ∀ i, i < f.2.length → J 139 i = f.2.getD i 0 := by
        intro f J1 J e1 hK
        obtain ⟨b1, b2, b3⟩ := hK
        refine ⟨fun q a c => by rw [b3 q (by simp; omega), e1, up_ne a], by rw [b1, Nat.zero_add], fun i hi => ?_⟩
        rw [b2]
        have := atL_wr (g := J1 139) (i := 0) (L := f.2) i hi
        rw [Nat.zero_add] at this
        exact this
      have cAm : ∀ J1, J1 = x_up I 138 1 0 → amC J1 p k (nI p) (s (44 + p)) ∧ J1 138 1 = nI 0 := fun J1 e1 => by
        refine ⟨?_, by rw [e1, up_su, su_eq]; rfl⟩
        unfold amC
        rw [e1, up_ne (by omega)]
        exact ⟨g0, g1, g2⟩
      have hx : a2 = 0 ∨ a2 = 1 ∨ a2 = (2 : Int32) := by
        obtain ⟨j, hj, e⟩ := upto_of (m := 2) rfl h2
        match j, hj with
        | 0, _ => exact Or.inl e
        | 1, _ => exact Or.inr (Or.inl e)
        | 2, _ => exact Or.inr (Or.inr e)
      rcases hx with hx | hx | hx
      · have hl := aN_len (k := k) (p := nI p) (V := s (44 + p)) (x := a3)
        refine ⟨.int (aN k (nI p) (s (44 + p)) a3).1, x_K.of (by decide) (by decide) rfl rfl rfl (r_C_act_0 (by omega) _ _ _ ((c_find1 h65 hn hp (by omega)).pu (r_C_act_6 (by omega) _ _ _ (x_man_now (by omega)).1 (x_K.of (by decide) (by decide) rfl rfl rfl (r_Actor_perform_0 (by omega) _ (x_man_now (by omega)).1 _ _ (fun J1 e1 => ?_))))))⟩
        obtain ⟨am, z1⟩ := cAm J1 e1
        rw [am.2.1]
        refine ⟨fun g => absurd g (nI_pos (by omega)), fun _ => ⟨fun _ => ⟨fun _ => ⟨vp_in_nI (by omega) (by decide), ?_⟩, fun g => absurd (hx.symm.trans g) (by decide), fun g => absurd (hx.symm.trans g) (by decide), fun g => absurd hx g⟩, fun g => absurd (nI_le (b := 6) (by omega) (by decide)) g⟩⟩
        rw [nI_clamp (by omega)]
        refine (c_nods (x := a3) (dp := 0) (by omega) (by omega) am z1 (by omega) (by omega) (by omega)).mono (fun v J hv => ?_)
        obtain ⟨hv, hK⟩ := hv
        rw [hv]
        obtain ⟨u1, u2, u3⟩ := cf _ J1 J e1 hK
        refine r_Actor_perform_25 (by omega) _ (r_C_act_9 (by omega) _ ⟨rfl, mm _ J (by omega) u1 u2 u3 (fun I8 a8 z8 Q hQ => ⟨fun _ => (m_nA (x := a3) (by omega) a8 z8 (by omega) (by omega)).mono (fun v K hv => ?_), fun g => absurd hx g⟩)⟩)
        obtain ⟨hv, hK⟩ := hv
        rw [hv]
        exact r_M_act_38 (by omega) _ (hQ K hK)
      · have hl := aP_len (k := k) (p := nI p) (V := s (44 + p)) (x := a3)
        refine ⟨.int (aP k (nI p) (s (44 + p)) a3).1, x_K.of (by decide) (by decide) rfl rfl rfl (r_C_act_0 (by omega) _ _ _ ((c_find1 h65 hn hp (by omega)).pu (r_C_act_6 (by omega) _ _ _ (x_man_now (by omega)).1 (x_K.of (by decide) (by decide) rfl rfl rfl (r_Actor_perform_0 (by omega) _ (x_man_now (by omega)).1 _ _ (fun J1 e1 => ?_))))))⟩
        obtain ⟨am, z1⟩ := cAm J1 e1
        rw [am.2.1]
        refine ⟨fun g => absurd g (nI_pos (by omega)), fun _ => ⟨fun _ => ⟨fun g => absurd (hx.symm.trans g) (by decide), fun _ => ⟨vp_in_nI (by omega) (by decide), ?_⟩, fun g => absurd (hx.symm.trans g) (by decide), fun _ g => absurd hx g⟩, fun g => absurd (nI_le (b := 6) (by omega) (by decide)) g⟩⟩
        rw [nI_clamp (by omega)]
        refine (c_pre (x := a3) (dp := 0) (by omega) (by omega) am z1 (by omega) (by omega) (by omega)).mono (fun v J hv => ?_)
        obtain ⟨hv, hK⟩ := hv
        rw [hv]
        obtain ⟨u1, u2, u3⟩ := cf _ J1 J e1 hK
        refine r_Actor_perform_35 (by omega) _ (r_C_act_9 (by omega) _ ⟨rfl, mm _ J (by omega) u1 u2 u3 (fun I8 a8 z8 Q hQ => ⟨fun g => absurd (hx.symm.trans g) (by decide), fun _ => ⟨fun _ => (m_aP (x := a3) (by omega) a8 z8 (by omega) (by omega)).mono (fun v K hv => ?_), fun g => absurd hx g⟩⟩)⟩)
        obtain ⟨hv, hK⟩ := hv
        rw [hv]
        exact r_M_act_45 (by omega) _ (hQ K hK)
      · have hl := aT_len (k := k) (p := nI p) (V := s (44 + p)) (x := a3)
        refine ⟨.int (aT k (nI p) (s (44 + p)) a3).1, x_K.of (by decide) (by decide) rfl rfl rfl (r_C_act_0 (by omega) _ _ _ ((c_find1 h65 hn hp (by omega)).pu (r_C_act_6 (by omega) _ _ _ (x_man_now (by omega)).1 (x_K.of (by decide) (by decide) rfl rfl rfl (r_Actor_perform_0 (by omega) _ (x_man_now (by omega)).1 _ _ (fun J1 e1 => ?_))))))⟩
        obtain ⟨am, z1⟩ := cAm J1 e1
        rw [am.2.1]
        refine ⟨fun g => absurd g (nI_pos (by omega)), fun _ => ⟨fun _ => ⟨fun g => absurd (hx.symm.trans g) (by decide), fun g => absurd (hx.symm.trans g) (by decide), fun _ => ⟨vp_in_nI (by omega) (by decide), ?_⟩, fun _ _ g => absurd hx g⟩, fun g => absurd (nI_le (b := 6) (by omega) (by decide)) g⟩⟩
        rw [nI_clamp (by omega)]
        refine (c_turn (x := a3) (by omega) (by omega) am z1 (by omega)).mono (fun v J hv => ?_)
        obtain ⟨hv, hK⟩ := hv
        rw [hv]
        obtain ⟨u1, u2, u3⟩ := cf _ J1 J e1 hK
        refine r_Actor_perform_45 (by omega) _ (r_C_act_9 (by omega) _ ⟨rfl, mm _ J (by omega) u1 u2 u3 (fun I8 a8 z8 Q hQ => ⟨fun g => absurd (hx.symm.trans g) (by decide), fun _ => ⟨fun g => absurd (hx.symm.trans g) (by decide), fun _ => (m_aT (x := a3) (by omega) a8 z8 (by omega)).mono (fun v K hv => ?_)⟩⟩)⟩)
        obtain ⟨hv, hK⟩ := hv
        rw [hv]
        exact r_M_act_49 (by omega) _ (hQ K hK)
    · refine ⟨.int 0, x_K.of (by decide) (by decide) rfl rfl rfl (r_C_act_0 (by omega) _ _ _ ((c_find1 h65 hn hp (by omega)).pu (r_C_act_6 (by omega) _ _ _ (x_man_now (by omega)).1 (x_K.of (by decide) (by decide) rfl rfl rfl (r_Actor_perform_0 (by omega) _ (x_man_now (by omega)).1 _ _ (fun J1 e1 => ?_))))))⟩
      have f1 : J1 (85 + 2 * p) 1 = nI k := by rw [e1, up_ne (by omega)]; exact g1
      rw [f1]
      have nx : ∀ z : Int32, z.toInt = 0 ∨ z.toInt = 1 ∨ z.toInt = 2 → ¬ a2 = z := fun z hz e => h2 (by
        rw [e, Int32.le_iff_toInt_le, Int32.le_iff_toInt_le, show (0 : Int32).toInt = 0 by decide, show (2 : Int32).toInt = 2 by decide]
        omega)
      exact ⟨fun g => absurd g (nI_pos (by omega)), fun _ => ⟨fun _ => ⟨fun g => absurd g (nx _ (by decide)), fun g => absurd g (nx _ (by decide)), fun g => absurd g (nx _ (by decide)), fun _ _ _ => r_C_act_9 (by omega) _ ⟨rfl, mno J1 e1 (Or.inr h2)⟩⟩, fun g => absurd (nI_le (b := 6) (by omega) (by decide)) g⟩⟩
  · exact ⟨.int 0, x_K.of (by decide) (by decide) rfl rfl rfl (r_C_act_0 (by omega) _ _ _ ((c_find0 h65 hno2 (by omega)).pu (r_C_act_6N (by omega) _ _ (x_K.of (by decide) (by decide) rfl rfl rfl (r_Actor_perform_0N _ _ (fun J1 e1 => r_C_act_9 (by omega) _ ⟨rfl, mno J1 e1 (Or.inl hno)⟩))))))⟩
end ACT
