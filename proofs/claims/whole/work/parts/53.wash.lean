/-! ===== one call to both: wash ===== -/
theorem trjM_eq {s t : Nat → Int32} {w k p : Nat} (h : agH s t) (hd : dynM t p = dynM s p) : trjM t w k p = trjM s w k p := by
  have e : (fun k => t (50 + 4 * p + k)) = (fun k => s (50 + 4 * p + k)) := funext fun k => h _ (by omega)
  unfold trjM
  rw [buM_ag h, smF_ag h, h (38 + p) (by omega), h (44 + p) (by omega), h (19 + p) (by omega), e, hd]
/-- man p twelve weeks on, washed or not -/
def wsD (s : Nat → Int32) (w p : Nat) (b : Bool) : Dn := trjM (if b = true then su s (7 + p) 0 else s) w 12 p
/-- the set m washed, the first so many men -/
def wshS (s : Nat → Int32) (m j : Nat) : Nat → Int32 := fun i => if 7 ≤ i ∧ i < 7 + j ∧ m.testBit (i - 7) = true then 0 else s i
theorem wshS_s {s : Nat → Int32} {m j : Nat} {z : Int32} (h : z = if m.testBit j = true then 0 else s (7 + j)) : su (wshS s m j) (7 + j) z = wshS s m (j + 1) := by
  funext i
  unfold su wshS
  by_cases e : i = 7 + j
  · rw [if_pos e, h, e, show 7 + j - 7 = j by omega]
    cases m.testBit j
    · rw [if_neg (by decide), if_neg (by simp)]
    · rw [if_pos rfl, if_pos ⟨by omega, by omega, rfl⟩]
  · rw [if_neg e]
    by_cases c : 7 ≤ i ∧ i < 7 + j ∧ m.testBit (i - 7) = true
    · rw [if_pos c, if_pos ⟨c.1, by omega, c.2.2⟩]
    · rw [if_neg c, if_neg (fun z => c ⟨z.1, by omega, z.2.2⟩)]
theorem wshS_ag {s : Nat → Int32} {m j : Nat} (hj : j ≤ 6) : agH s (wshS s m j) := fun i hi => if_neg (by omega)
theorem wsh_trj {s : Nat → Int32} {w m n p : Nat} (hn : n ≤ 6) (hp : p < n) : trjM (wshS s m n) w 12 p = wsD s w p (m.testBit p) := by
  have e1 : wshS s m n (1 + p) = s (1 + p) := if_neg (by omega)
  have e3 : wshS s m n (13 + p) = s (13 + p) := if_neg (by omega)
  unfold wsD
  cases e : m.testBit p
  · rw [if_neg (by decide)]
    refine trjM_eq (wshS_ag hn) ?_
    unfold dynM
    rw [e1, e3, show wshS s m n (7 + p) = s (7 + p) from if_neg (by rw [show 7 + p - 7 = p by omega, e]; simp)]
  · rw [if_pos rfl]
    refine trjM_eq (fun i hi => by rw [wshS_ag hn i hi, su_ne (by omega)]) ?_
    unfold dynM
    rw [e1, e3, show wshS s m n (7 + p) = 0 from if_pos ⟨by omega, by omega, by rw [show 7 + p - 7 = p by omega, e]⟩, su_ne (by omega), su_eq, su_ne (by omega)]
theorem b1_nar {x : Int32} (h : b1 x) : narrow .boolean (.int x) = .int x := by
  rcases h with h | h <;> rw [h] <;> rfl
def kN (m : Nat) : Nat := (pc (nI m)).toNatClampNeg
theorem kN_fin : ∀ m, m < 64 → pc (nI m) = nI (kN m) ∧ kN m ≤ 6 := by decide +kernel
theorem all_fin : ∀ n, n < 7 → (1 <<< (nI n &&& 31)) - 1 = nI (2 ^ n - 1) := by decide +kernel
theorem m7_fin : ∀ g, g < 7 → nI g * (7 : Int32) = nI (7 * g) := by decide +kernel
theorem wbit_fin : ∀ m, m < 64 → ∀ n, n < 6 → ∀ u w : Bool, (((if u = true then (1 : Int32) <<< (nI n &&& 31) else 0) &&& (nI m ^^^ (-1))) ||| ((if w = true then (1 : Int32) <<< (nI n &&& 31) else 0) &&& nI m)) = if (if m.testBit n = true then w else u) = true then (1 : Int32) <<< (nI n &&& 31) else 0 := by decide +kernel
theorem or4 (A B a b x y : Int32) : ((A ||| a) &&& x) ||| ((B ||| b) &&& y) = ((A &&& x) ||| (B &&& y)) ||| ((a &&& x) ||| (b &&& y)) := by
  apply Int32.toBitVec_inj.mp
  simp only [Int32.toBitVec_or, Int32.toBitVec_and]
  ext i hi
  simp only [BitVec.getElem_or, BitVec.getElem_and]
  cases A.toBitVec[i] <;> cases B.toBitVec[i] <;> cases a.toBitVec[i] <;> cases b.toBitVec[i] <;> cases x.toBitVec[i] <;> cases y.toBitVec[i] <;> rfl
theorem wsh_or {m : Nat} (hm : m < 64) {u w : Nat → Bool} : ∀ n, n ≤ 6 → ((orF u n &&& (nI m ^^^ (-1))) ||| (orF w n &&& nI m)) = orF (fun p => if m.testBit p = true then w p else u p) n
  | 0, _ => by
    show ((0 : Int32) &&& _) ||| ((0 : Int32) &&& _) = 0
    rw [Int32.zero_and, Int32.zero_and]
    rfl
  | n + 1, h => by
    unfold orF
    rw [or4, wsh_or hm n (by omega), wbit_fin m hm n (by omega)]
/-- who goes when m is washed: how many -/
def gnW (s : Nat → Int32) (w n m : Nat) : Nat := cntB (fun p => decide ((wsD s w p (m.testBit p)).2.2 = 1)) n
def wsF (g : Nat → Nat) (A : Nat) : Nat → Nat
  | 0 => 0
  | m + 1 => if kN m ≤ A ∧ 7 * g m + kN m < 7 * g (wsF g A m) + kN (wsF g A m) then m else wsF g A m
theorem wsF_le {g : Nat → Nat} {A : Nat} : ∀ m, wsF g A m ≤ m
  | 0 => Nat.le_refl _
  | m + 1 => by
    have := wsF_le (g := g) (A := A) m
    unfold wsF
    split <;> omega
theorem wsF_1 {g : Nat → Nat} {A : Nat} : wsF g A 1 = 0 := by
  unfold wsF
  rw [if_neg]
  · rfl
  · show ¬ (_ ∧ 7 * g 0 + kN 0 < 7 * g 0 + kN 0)
    omega
section WSH
variable {E : XE} {d : Nat} {I : Nat → Nat → Int32} {s : Nat → Int32} {n w : Nat}
theorem wsD_b1 {p : Nat} {b : Bool} (ok : mnOK s p) : b1 (wsD s w p b).2.2 := by
  unfold wsD
  refine trj_b1 ?_ 12
  cases b
  · exact ok.2.2.2.2.2.1
  · show b1 (su s (7 + p) 0 (13 + p))
    rw [su_ne (by omega)]
    exact ok.2.2.2.2.2.1
theorem c_behindW {p : Nat} {b : Bool} (h : RW I 65 s n w) (hp : p < n) (hd : 8 ≤ d) :
    x_K E d 98 [.ref 64, .ref (85 + 2 * p), .int (bI b)] I (fun v J => v = some (.int (wsD s w p b).2.2) ∧ kp [72, 129, 130] I J) := by
  have hn := h.1.1
  have hw := h.1.2.1
  have ok := (h.2.1.1 p hp).2
  refine x_K.of (by decide) (by decide) rfl rfl rfl (r_C_isGoneBehindWash_0 (by omega) _ (x_man_now (by omega)).1 _ ((c_ghost h hp (by omega)).mono (fun v J hv => ?_)))
  obtain ⟨hv, hg, k1⟩ := hv
  rw [hv]
  have fin : ∀ K, kp [72, 129, 130] I K → mnR K 129 (if b = true then su s (7 + p) 0 else s) p → mnOK (if b = true then su s (7 + p) 0 else s) p → agH s (if b = true then su s (7 + p) 0 else s) →
      x_K E (d - 1) 96 [.ref 64, .ref 129, .int (12 : Int32)] K (fun v I2 => x_P E d 98 15 [.ref 64, x_jk, x_jk] (v.toList ++ []) I2 (fun v J => v = some (.int (wsD s w p b).2.2) ∧ kp [72, 129, 130] I J)) := by
    intro K kk hgK okK hag
    have hK : RW K 65 s n w := RW_kp (wkp_of kk (by decide)) h
    have ht : towR K 65 (if b = true then su s (7 + p) 0 else s) := towR_c ⟨rfl, rfl, rfl, rfl⟩ rfl (hag 32 (by omega)) (hag 37 (by omega)) (fun j hj => hag j (by omega)) hK.2.2.1
    refine (c_ghostOn (k := 12) ht hK.1.2.2.2.2.2 hgK okK (by omega) (by omega)).mono (fun v K2 hv => ?_)
    obtain ⟨hv, hdy, _, k2⟩ := hv
    rw [hv]
    have e6 : K2 129 6 = (wsD s w p b).2.2 := congrArg (fun x => x.2.2) hdy
    refine r_C_isGoneBehindWash_15 (by omega) ?_
    rw [e6]
    exact ⟨b1_nar (wsD_b1 ok), rfl, kk.trans (k2.mono (by simp))⟩
  cases b
  · exact r_C_isGoneBehindWash_4 (by omega) _ ⟨fun _ => fin J (k1.mono (by simp)) hg ok agH.refl, fun g => absurd rfl g⟩
  · refine r_C_isGoneBehindWash_4 (by omega) _ ⟨fun g => absurd g (by decide), fun _ I2 e2 => ?_⟩
    refine fin I2 ((k1.mono (by simp)).trans (by rw [e2]; exact kp.up (by simp))) ?_ ?_ ?_
    · rw [e2]
      exact mnR_su (fld := 5) (off := 7) (by omega) (by unfold fo; omega) hg
    · exact mnOK_su (fld := 5) (off := 7) (by omega) (by unfold fo; omega) ⟨fun g => absurd g (by decide), fun g => absurd g (by decide), fun _ => ⟨0, by omega, rfl⟩, fun g => absurd g (by decide), fun g => absurd g (by decide)⟩ ok
    · intro i hi
      exact su_ne (by omega)
theorem m_goneBy {J : Nat → Nat → Int32} {m : Nat} (hJ : J 143 = s) (hn : n ≤ 6) (hw : twM s) (h0 : s 0 = nI w) (hw2 : w ≤ 9999) (h31 : s 31 = nI n) (hok : ∀ p, p < n → mnOK s p) (hm : m < 64) (hd : 7 ≤ d) :
    x_K E d 161 [.ref 142, .int (nI m)] J (fun v K => v = some (.int (nI (gnW s w n m))) ∧ K 143 = s ∧ kp [143, 145, 146, 147] J K) := by
  refine x_K.of (by decide) (by decide) rfl rfl rfl (r_M_goneBy_0 (by omega) _ ((c_keeps (by omega)).mono (fun v J1 hv => ?_)))
  obtain ⟨hv, q145, k1⟩ := hv
  rw [hv]
  refine r_M_goneBy_2 (by omega) _ ?_
  have key : ∀ r j (K : Nat → Nat → Int32), j + r = n → K 143 = wshS s m j → kp [143] J1 K → x_P E d 161 4 [.ref 142, .int (nI m), .int (nI j)] [] K (fun v K => v = some (.int (nI (gnW s w n m))) ∧ K 143 = s ∧ kp [143, 145, 146, 147] J K) := by
    intro r
    induction r with
    | zero =>
      intro j K hj hK k2
      have ej : j = n := by omega
      subst ej
      have hag : agH s (K 143) := by rw [hK]; exact wshS_ag hn
      have k31 : K 143 31 = nI j := (hag 31 (by omega)).trans h31
      have k0 : K 143 0 = nI w := by rw [hK]; exact (if_neg (by omega)).trans h0
      refine r_M_goneBy_4 (by omega) _ _ ⟨fun _ => ?_, fun g => absurd ?_ g⟩
      · refine (c_goesOn (k := 12) (w := w) hn (twM_ag hag hw) k0 k31 (by omega) (by omega)).mono (fun v K2 hv => ?_)
        obtain ⟨hv, hg, k3⟩ := hv
        rw [hv]
        have e13 : ∀ p, p < j → K2 143 (13 + p) = (wsD s w p (m.testBit p)).2.2 := fun p hp => by
          have := hg.2.2 p (by omega)
          rw [if_pos hp, hK, wsh_trj hn hp] at this
          exact congrArg (fun x => x.2.2) this
        refine r_M_goneBy_36 (by omega) ((c_ones (c := 13) (n := j) hn ((hg.2.1 31 (by omega)).trans k31) (by decide) (fun p hp => by rw [e13 p hp]; exact wsD_b1 (hok p hp)) (by omega)).pu (r_M_goneBy_39 (by omega) _ ((c_countOf (by omega)).pu (r_M_goneBy_40 (by omega) _ ?_))))
        have ec : pc (orF (fun k => decide (K2 143 (13 + k) = 1)) j) = nI (gnW s w j m) := by
          rw [orF_congr (c := fun p => decide ((wsD s w p (m.testBit p)).2.2 = 1)) j (fun p hp => by rw [e13 p hp])]
          exact (cnt_eq hn).1
        rw [ec]
        refine (c_goesBack (by omega)).mono (fun v K3 hv => ?_)
        obtain ⟨hv, hb, k4⟩ := hv
        rw [hv]
        refine r_M_goneBy_43 (by omega) _ ⟨rfl, ?_, (((k1.mono (by simp)).trans (k2.mono (by simp))).trans (k3.mono (by simp))).trans (k4.mono (by simp))⟩
        refine back_eq (J := K2) (fun i hi => ?_) (fun i hi => ?_) hb
        · rw [k3 145 (by simp), k2 145 (by simp), q145 i hi, hJ]
        · exact (hg.2.1 i (by omega)).trans (hag i (by omega))
      · rw [k31]
        exact nI_le (by omega) (by omega)
    | succ r ih =>
      intro j K hj hK k2
      refine r_M_goneBy_4 (by omega) _ _ ⟨fun g => absurd g ?_, fun _ => ⟨fun _ => vi_c (c' := 7) rfl (by omega) (by decide), fun z hz => ⟨vi_c (c' := 7) rfl (by omega) (by decide), fun I6 e6 => ?_⟩⟩⟩
      · rw [hK, wshS_ag (by omega) 31 (by omega), h31]
        exact nI_ge (by omega) (by omega)
      rw [ix_c (c := 7) (c' := 7) rfl (by omega), hK, show wshS s m j (7 + j) = s (7 + j) from if_neg (by omega)] at hz
      rw [ix_c (c := 7) (c' := 7) rfl (by omega)] at e6
      rw [nI_1]
      refine ih (j + 1) I6 (by omega) ?_ (k2.trans (by rw [e6]; exact kp.up (by simp)))
      rw [e6, up_su, hK]
      refine wshS_s ?_
      rw [hz]
      have hb := bit1 m hm j (by omega)
      by_cases c : ((nI m >>> (nI j &&& 31)) &&& 1) = 1
      · rw [if_pos c, if_pos (hb.mp c)]
      · rw [if_neg c, if_neg (fun z => c (hb.mpr z))]
  have kk := key n 0 J1 (by omega) (by
    rw [k1 143 (by simp), hJ]
    funext i
    exact (if_neg (by omega)).symm) kp.rfl'
  rw [nI_0] at kk
  exact kk
theorem op_wash {a1 : Int32} (h : RW I 65 s n w) (hd : 20 ≤ d) : op2 E d I s 78 162 [.int a1] := by
  have hn := h.1.1
  have hw := h.1.2.1
  have h31 := h.1.2.2.1
  have h65 := h.1.2.2.2.2.1
  have hp2 : 2 ^ n ≤ 64 := Nat.pow_le_pow_right (n := 2) (by decide) hn
  have hp1 : 1 ≤ 2 ^ n := Nat.one_le_two_pow
  have hg6 : ∀ m, gnW s w n m ≤ 6 := fun m => by have := cntB_le (c := fun p => decide ((wsD s w p (m.testBit p)).2.2 = 1)) n; unfold gnW; omega
  by_cases hin : 0 ≤ a1 ∧ a1 ≤ (6 : Int32)
  · obtain ⟨A, hA, eA⟩ := nI_of2 (M := 6) (n := 6) (by decide) (fun g => (ge_0 a1).mp hin.1 g) hin.2
    subst eA
    generalize hg : gnW s w n = g at hg6
    have egw : ∀ m, m < 64 → pc (orF (fun p => if m.testBit p = true then decide ((wsD s w p true).2.2 = 1) else decide ((wsD s w p false).2.2 = 1)) n) = nI (g m) := fun m hm => by
      rw [orF_congr (c := fun p => decide ((wsD s w p (m.testBit p)).2.2 = 1)) n (fun p _ => by cases m.testBit p <;> rfl), ← hg]
      exact (cnt_eq hn).1
    refine ⟨.int (nI (wsF g A (2 ^ n))), s, n, w, x_K.of (by decide) (by decide) rfl rfl rfl (r_C_wash_0 (by omega) _ ⟨fun _ => ?_, fun g => absurd hin g⟩), fun J hJ => x_K.of (by decide) (by decide) rfl rfl rfl (r_M_wash_0 (by omega) _ ⟨fun _ => ?_, fun g => absurd hin g⟩)⟩
    · generalize hu : (fun p => decide ((wsD s w p false).2.2 = 1)) = u
      generalize hv : (fun p => decide ((wsD s w p true).2.2 = 1)) = ws
      have eg : ∀ m, m < 64 → pc ((orF u n &&& (nI m ^^^ (-1))) ||| (orF ws n &&& nI m)) = nI (g m) := fun m hm => by
        rw [wsh_or hm n hn, ← egw m hm, ← hu, ← hv]
      have key2 : ∀ (K : Nat → Nat → Int32), kp [72, 129, 130] I K → ∀ r m, m + r = 2 ^ n → 1 ≤ m →
          x_P E d 78 68 [x_jk, .int (nI A), .int (orF u n), .int (orF ws n), .int (7 : Int32), .int (nI (wsF g A m)), .int (nI (7 * g (wsF g A m) + kN (wsF g A m))), .int (nI (2 ^ n - 1)), .int (nI m), x_jk, x_jk] [] K (fun v K => v = some (.int (nI (wsF g A (2 ^ n)))) ∧ RW K 65 s n w ∧ ckp I K) := by
        intro K k1 r
        induction r with
        | zero =>
          intro m hm hm1
          exact r_C_wash_68 (by omega) _ _ _ _ _ _ _ _ ⟨fun _ => ⟨by rw [show 2 ^ n = m by omega], RW_kp (wkp_of k1 (by decide)) h, ckp_of k1 (by decide)⟩, fun g => absurd (nI_lt (by omega) (by omega)) g⟩
        | succ r ih =>
          intro m hm hm1
          have nx := ih (m + 1) (by omega) (by omega)
          have hle := wsF_le (g := g) (A := A) m
          obtain ⟨ek, hk6⟩ := kN_fin m (by omega)
          obtain ⟨ekb, hkb6⟩ := kN_fin (wsF g A m) (by omega)
          have g1 := hg6 m
          have g2 := hg6 (wsF g A m)
          rw [wsF] at nx
          refine r_C_wash_68 (by omega) _ _ _ _ _ _ _ _ ⟨fun g => absurd g (nI_nlt (by omega) (by omega)), fun _ => ?_⟩
          have hE := eg m (by omega)
          have hor : ((orF u n &&& (nI m ^^^ (-1))) ||| (orF ws n &&& nI m)) = orF (fun p => if m.testBit p = true then ws p else u p) n := wsh_or (by omega) n hn
          obtain ⟨x, hx, _, ex⟩ := orF_nI (c := fun p => if m.testBit p = true then ws p else u p) hn
          rw [hor, ex] at hE
          rw [hor, ex]
          refine (c_bitCount (n := x) (by omega) (by omega)).pu (r_C_wash_83 (by omega) _ _ _ _ _ _ _ _ _ ?_)
          rw [hE, m7_fin _ (by omega)]
          refine (c_bitCount (n := m) (by omega) (by omega)).pu (r_C_wash_87 (by omega) _ _ _ _ _ _ _ _ _ _ ((c_bitCount (n := m) (by omega) (by omega)).pu (r_C_wash_91 (by omega) _ _ _ _ _ _ _ _ _ _ ?_)))
          rw [ek, nI_add, nI_1]
          refine ⟨fun c => ?_, fun c => ⟨fun c2 => ?_, fun c2 => ?_⟩⟩
          · have c := (nI_ltI (by omega) (by omega)).mp c
            rw [if_neg (by omega)] at nx
            exact nx
          · have c2 := (nI_leI (by omega) (by omega)).mp c2
            rw [if_neg (by omega)] at nx
            exact nx
          · have c1 : ¬ A < kN m := fun z => c ((nI_ltI (by omega) (by omega)).mpr z)
            have c2 : ¬ (7 * g (wsF g A m) + kN (wsF g A m) ≤ 7 * g m + kN m) := fun z => c2 ((nI_leI (by omega) (by omega)).mpr z)
            rw [if_pos (by omega)] at nx
            exact nx
      have key : ∀ r j (K : Nat → Nat → Int32), j + r = n → kp [72, 129, 130] I K →
          x_P E d 78 12 [.ref 64, .int (nI A), .int (orF u j), .int (orF ws j), .int (nI j), x_jk, x_jk, x_jk, x_jk, x_jk, x_jk] [] K (fun v K => v = some (.int (nI (wsF g A (2 ^ n)))) ∧ RW K 65 s n w ∧ ckp I K) := by
        intro r
        induction r with
        | zero =>
          intro j K hj k1
          have ej : j = n := by omega
          subst ej
          obtain ⟨x, hx, _, ex⟩ := orF_nI (c := u) hn
          refine r_C_wash_12 (by omega) _ _ _ _ ⟨fun _ => ?_, fun g => absurd ?_ g⟩
          · have h0 := eg 0 (by omega)
            rw [show ((orF u j &&& (nI 0 ^^^ (-1))) ||| (orF ws j &&& nI 0)) = orF u j by rw [wsh_or (by omega) j hn]; exact orF_congr j (fun p _ => by rw [if_neg (by simp)]), ex] at h0
            have k2 := key2 K k1 (2 ^ j - 1) 1 (by omega) (by omega)
            rw [ex] at k2
            rw [ex]
            refine (c_bitCount (n := x) (by omega) (by omega)).pu (r_C_wash_59 (by omega) _ _ _ _ _ _ ((c_allBits (RW_kp (wkp_of k1 (by decide)) h) (by omega)).pu (r_C_wash_65 (by omega) _ _ _ _ _ _ _ ?_)))
            rw [h0, m7_fin _ (by have := hg6 0; omega), all_fin j (by omega)]
            rw [wsF_1, show kN 0 = 0 from rfl] at k2
            exact k2
          · rw [k1 65 (by decide), h65]
            exact nI_le (by omega) (by omega)
        | succ r ih =>
          intro j K hj k1
          have hK : RW K 65 s n w := RW_kp (wkp_of k1 (by decide)) h
          have ok := (h.2.1.1 j (by omega)).2
          refine r_C_wash_12 (by omega) _ _ _ _ ⟨fun g => absurd g ?_, fun _ => ⟨vp_in_nI (by omega) (by decide), ?_⟩⟩
          · rw [k1 65 (by decide), h65]
            exact nI_ge (by omega) (by omega)
          rw [nI_clamp (by omega)]
          refine (c_behindW (p := j) (b := false) hK (by omega) (by omega)).mono (fun v K2 hv2 => ?_)
          obtain ⟨hv2, k2⟩ := hv2
          rw [hv2]
          refine r_C_wash_26 (by omega) _ _ _ _ _ (fun z2 hz2 => ⟨vp_in_nI (by omega) (by decide), ?_⟩)
          rw [nI_clamp (by omega)]
          have hK2 : RW K2 65 s n w := RW_kp (wkp_of k2 (by decide)) hK
          refine (c_behindW (p := j) (b := true) hK2 (by omega) (by omega)).mono (fun v K3 hv3 => ?_)
          obtain ⟨hv3, k3⟩ := hv3
          rw [hv3]
          refine r_C_wash_43 (by omega) _ _ _ _ _ (fun z3 hz3 => ?_)
          have hbit : ∀ (b : Bool) (z : Int32), z = (if (wsD s w j b).2.2 = 0 then (0 : Int32) else ((1 : Int32) <<< (nI j &&& 31))) → z = if decide ((wsD s w j b).2.2 = 1) = true then (1 : Int32) <<< (nI j &&& 31) else 0 := by
            intro b z hz
            rw [hz]
            rcases wsD_b1 (w := w) (b := b) ok with e | e
            · rw [if_pos e, if_neg (by rw [e]; decide)]
            · rw [if_neg (by rw [e]; decide), if_pos (by rw [e]; decide)]
          rw [nI_1, orF_bit (c := u) (j := j) (z := z2) (by rw [← hu]; exact hbit false z2 hz2), orF_bit (c := ws) (j := j) (z := z3) (by rw [← hv]; exact hbit true z3 hz3)]
          exact ih (j + 1) K3 (by omega) ((k1.trans k2).trans k3)
      have kk := key n 0 I (by omega) kp.rfl'
      rw [nI_0] at kk
      exact kk
    · subst hJ
      have hgo : ∀ (m : Nat) (K : Nat → Nat → Int32), m < 64 → K 143 = J 143 → x_K E (d - 1) 161 [.ref 142, .int (nI m)] K (fun v K2 => v = some (.int (nI (g m))) ∧ K2 143 = J 143 ∧ kp [143, 145, 146, 147] K K2) := by
        intro m K hm hK
        rw [← hg]
        exact m_goneBy hK hn h.2.2.1.1 h.1.2.2.2.1 hw h31 (fun p hp => (h.2.1.1 p hp).2) hm (by omega)
      have key : ∀ r m (K : Nat → Nat → Int32), m + r = 2 ^ n → 1 ≤ m → K 143 = J 143 → kp [143, 145, 146, 147] J K →
          x_P E d 162 15 [.ref 142, .int (nI A), .int (nI (wsF g A m)), .int (nI (g (wsF g A m))), .int (nI m), x_jk, x_jk] [] K (fun v K => v = some (.int (nI (wsF g A (2 ^ n)))) ∧ K 143 = J 143 ∧ mkp J K) := by
        intro r
        induction r with
        | zero =>
          intro m K hm hm1 hK k1
          refine r_M_wash_15 (by omega) _ _ _ _ ⟨fun _ => ⟨by rw [show 2 ^ n = m by omega], hK, mkp_of k1 (by decide)⟩, fun g => absurd ?_ g⟩
          rw [hK, h31, shl_fin n (by omega)]
          exact nI_le (by omega) (by omega)
        | succ r ih =>
          intro m K hm hm1 hK k1
          have hle := wsF_le (g := g) (A := A) m
          obtain ⟨ek, hk6⟩ := kN_fin m (by omega)
          obtain ⟨ekb, hkb6⟩ := kN_fin (wsF g A m) (by omega)
          have g1 := hg6 m
          have g2 := hg6 (wsF g A m)
          have nx := fun K2 (e : K2 143 = J 143) (k2 : kp [143, 145, 146, 147] J K2) => ih (m + 1) K2 (by omega) (by omega) e k2
          rw [wsF] at nx
          refine r_M_wash_15 (by omega) _ _ _ _ ⟨fun g => absurd g ?_, fun _ => (c_countOf (by omega)).pu (r_M_wash_25 (by omega) _ _ _ _ _ ?_)⟩
          · rw [hK, h31, shl_fin n (by omega)]
            exact nI_ge (by omega) (by omega)
          rw [ek, nI_1]
          refine ⟨fun c => ⟨fun c2 => ?_, fun _ => ⟨fun c2 => ?_, fun _ => ?_⟩⟩, fun c => ?_⟩
          · exact absurd c2 (nI_nlt (b := g (wsF g A m)) (a := 1000000000) (by omega) (by decide))
          · exact absurd ((nI_eq (a := 1000000000) (by omega) (by omega)).mp c2) (by omega)
          · have c := (nI_ltI (by omega) (by omega)).mp c
            rw [if_neg (by omega)] at nx
            exact nx K hK k1
          · have c1 : ¬ A < kN m := fun z => c ((nI_ltI (by omega) (by omega)).mpr z)
            refine (hgo m K (by omega) hK).mono (fun v K2 hv => ?_)
            obtain ⟨hv, hK2, k2⟩ := hv
            rw [hv]
            have k12 := k1.trans k2
            refine r_M_wash_30 (by omega) _ _ _ _ _ ⟨fun c2 => ?_, fun c2 => ⟨fun c3 => ?_, fun c3 => ?_⟩⟩
            · have c2 := (nI_ltI (by omega) (by omega)).mp c2
              rw [nI_1]
              rw [if_pos (by omega)] at nx
              exact nx K2 hK2 k12
            · have c3 := (nI_eq (by omega) (by omega)).mp c3
              refine (c_countOf (by omega)).pu (r_M_wash_41 (by omega) _ _ _ _ _ _ ((c_countOf (by omega)).pu (r_M_wash_43 (by omega) _ _ _ _ _ _ _ ?_)))
              rw [ek, ekb, nI_1]
              by_cases c4 : kN m < kN (wsF g A m)
              · rw [if_pos (by omega)] at nx
                rw [if_pos (nI_ge c4 (by omega)), if_pos (nI_ge c4 (by omega))]
                exact nx K2 hK2 k12
              · rw [if_neg (by omega)] at nx
                rw [if_neg (fun z => z (nI_le (by omega) (by omega))), if_neg (fun z => z (nI_le (by omega) (by omega)))]
                exact nx K2 hK2 k12
            · have c2 : ¬ g m < g (wsF g A m) := fun z => c2 ((nI_ltI (by omega) (by omega)).mpr z)
              have c3 : ¬ g m = g (wsF g A m) := fun z => c3 (by rw [z])
              rw [nI_1]
              rw [if_neg (by omega)] at nx
              exact nx K2 hK2 k12
      refine (hgo 0 J (by omega) rfl).mono (fun v K2 hv => ?_)
      obtain ⟨hv, hK2, k2⟩ := hv
      rw [hv]
      refine r_M_wash_12 (by omega) _ _ _ ?_
      have kk := key (2 ^ n - 1) 1 K2 (by omega) (by omega) hK2 k2
      rw [wsF_1] at kk
      exact kk
  · refine ⟨.int (-2), s, n, w, x_K.of (by decide) (by decide) rfl rfl rfl (r_C_wash_0 (by omega) _ ⟨fun g => absurd g hin, fun _ => ⟨rfl, h, ckp.rfl'⟩⟩), fun J hJ => x_K.of (by decide) (by decide) rfl rfl rfl (r_M_wash_0 (by omega) _ ⟨fun g => absurd g hin, fun _ => ⟨rfl, hJ, mkp.rfl'⟩⟩)⟩
end WSH
