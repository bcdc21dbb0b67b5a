/-! ===== the class: what weeks do to one man ===== -/
theorem nI_toNat {c : Nat} (h : c < 2 ^ 31) : (nI c).toBitVec.toNat = c := by
  show (Int32.ofNat c).toBitVec.toNat = c
  rw [show (Int32.ofNat c).toBitVec = BitVec.ofNat 32 c from rfl, BitVec.toNat_ofNat]
  exact Nat.mod_eq_of_lt (by omega)
/-- a creed: eight bits -/
def u8 (x : Int32) : Prop := ∃ c, c < 256 ∧ x = nI c
theorem u8_of {x : Int32} (h : x.toBitVec.toNat < 256) : u8 x := by
  refine ⟨x.toBitVec.toNat, h, ?_⟩
  apply Int32.toBitVec_inj.mp
  apply BitVec.eq_of_toNat_eq
  rw [nI_toNat (by omega)]
theorem u8_lt {x : Int32} (h : u8 x) : x.toBitVec.toNat < 256 := by
  obtain ⟨c, h1, h2⟩ := h
  rw [h2, nI_toNat (by omega)]
  exact h1
theorem u8_and {x : Int32} (y : Int32) (h : u8 x) : u8 (x &&& y) := by
  apply u8_of
  rw [Int32.toBitVec_and, BitVec.toNat_and]
  exact Nat.lt_of_le_of_lt Nat.and_le_left (u8_lt h)
theorem u8_or {x y : Int32} (h : u8 x) (h' : u8 y) : u8 (x ||| y) := by
  apply u8_of
  rw [Int32.toBitVec_or, BitVec.toNat_or]
  exact Nat.or_lt_two_pow (n := 8) (u8_lt h) (u8_lt h')
theorem u8_xor {x y : Int32} (h : u8 x) (h' : u8 y) : u8 (x ^^^ y) := by
  apply u8_of
  rw [Int32.toBitVec_xor, BitVec.toNat_xor]
  exact Nat.xor_lt_two_pow (n := 8) (u8_lt h) (u8_lt h')
theorem u8_nI {c : Nat} (h : c < 256) : u8 (nI c) := ⟨c, h, rfl⟩
def b1 (x : Int32) : Prop := x = 0 ∨ x = 1
theorem le_99 (a : Int32) : (a ≤ (99 : Int32)) ↔ ¬ ((99 : Int32) < a) := by
  rw [Int32.le_iff_toInt_le, Int32.lt_iff_toInt_lt]
  omega
theorem ge_0 (a : Int32) : (0 ≤ a) ↔ ¬ (a < 0) := by
  rw [Int32.le_iff_toInt_le, Int32.lt_iff_toInt_lt]
  omega
theorem clF_eq (z : Int32) : (if (99 : Int32) < (if z < 0 then 0 else z) then (99 : Int32) else (if z < 0 then 0 else z)) = clF z := by
  unfold clF
  by_cases h : z < 0
  · rw [if_pos h, if_neg (by decide), if_neg (fun c => (ge_0 z).mp c h)]
  · rw [if_neg h, if_pos ((ge_0 z).mpr h)]
    by_cases h2 : (99 : Int32) < z
    · rw [if_pos h2, if_neg (fun c => (le_99 z).mp c h2)]
    · rw [if_neg h2, if_pos ((le_99 z).mpr h2)]
/-- the class's town, in the cells from b + 3 on: what it sums -/
def tcW (I : Nat → Nat → Int32) (b : Nat) : Prop := ∃ nc, nc ≤ 10 ∧ I (b + 3) 1 = nI nc ∧ ∀ i, i < nc → ∃ e, e ≤ 100 ∧ I (b + 5) i = nI e
def smC (I : Nat → Nat → Int32) (b : Nat) (f : Nat → Int32) : Int32 := (csF (I (b + 4)) (I (b + 5)) (I (b + 6)) f (I (b + 3) 1).toNatClampNeg).1
def dynC (I : Nat → Nat → Int32) (r : Nat) : Dn := (I r 4, I r 5, I r 6)
def stpR (I : Nat → Nat → Int32) (r w : Nat) (x : Dn) : Dn := stp (I 68 0) (smC I 65) (I r 0) (I r 1) (I r 2) (I r 7) (I (r + 1)) w x
def trjR (I : Nat → Nat → Int32) (r w k : Nat) : Dn := trj (I 68 0) (smC I 65) (I r 0) (I r 1) (I r 2) (I r 7) (I (r + 1)) w k (dynC I r)
/-- the man in r is x now; nothing else is changed but the facts -/
def manR (r : Nat) (x : Dn) (I I' : Nat → Nat → Int32) : Prop := dynC I' r = x ∧ (∀ j, j ≠ 4 → j ≠ 5 → j ≠ 6 → I' r j = I r j) ∧ kp [72, r] I I'
/-- r is a man's cell, not the town's -/
theorem man_ne {r q : Nat} (hm : x_man r) (h : (match (x_kd (x_mk fun _ _ => 0) q) with | some (1, _) => false | _ => true) = true) : r ≠ q := by
  intro e
  subst e
  rw [hm.1] at h
  exact absurd h (by decide)
theorem man_ne1 {r q : Nat} (hm : x_man r) (h : (match (x_kd (x_mk fun _ _ => 0) q) with | some (100, 4) => false | _ => true) = true) : r + 1 ≠ q := by
  intro e
  subst e
  rw [hm.2.2.1] at h
  exact absurd h (by decide)
section ONEC
variable {E : XE} {d : Nat} {I : Nat → Nat → Int32}
theorem and3 {w : Nat} (hw : w < 2 ^ 31) : nI w &&& (3 : Int32) = nI (w % 4) := by
  rw [pk_andN (n := w) (by omega) 2 rfl]
theorem c_riseC {r w : Nat} {z : Int32} (hm : x_man r) (hc : u8 (I r 4)) (hw : w < 2 ^ 31) (hd : 2 ≤ d) :
    x_K E d 27 [.ref r, .int z, .int (nI w)] I (x_pu (.int (riseF (I r 1) (I r 2) (pc (I r 4)) (I r 5) (I (r + 1) (w % 4)) z)) I) := by
  obtain ⟨c, hc, h4⟩ := hc
  refine x_K.of (by decide) (by decide) rfl rfl rfl (r_Man_rise_0 (by omega) r hm _ _ ?_)
  unfold riseF
  have hcn : x_K E (d - 1) 1 [.int (I r 4)] I (x_pu (.int (pc (I r 4))) I) := by
    rw [h4]
    exact c_bitCount hc (by omega)
  refine ⟨fun c => ⟨?_, rfl⟩, fun c => ⟨?_, rfl⟩, fun c => hcn.pu (r_Man_rise_16 (by omega) _ _ ⟨?_, rfl⟩), fun c z1 hz1 => ⟨?_, rfl⟩, fun c => ⟨?_, rfl⟩, fun c => hcn.pu (r_Man_rise_40 (by omega) r hm _ _ _ ⟨?_, ?_, rfl⟩), fun c1 c2 c3 c4 c5 c6 => ⟨?_, rfl⟩⟩
  · rw [if_pos c]
  · rw [c, if_neg (by decide), if_pos rfl]
  · rw [c, if_neg (by decide), if_neg (by decide), if_pos rfl]
  · rw [hz1, if_neg (show ¬ I r 1 = 1 by rw [c]; decide), if_neg (show ¬ I r 1 = (2 : Int32) by rw [c]; decide), if_neg (show ¬ I r 1 = (3 : Int32) by rw [c]; decide), if_pos c]
  · rw [c, if_neg (by decide), if_neg (by decide), if_neg (by decide), if_neg (by decide), if_pos rfl]
  · rw [and3 hw]
    exact vp_in_nI (by omega) (by decide)
  · rw [and3 hw, nI_clamp (by omega), c, if_neg (by decide), if_neg (by decide), if_neg (by decide), if_neg (by decide), if_neg (by decide), if_pos rfl]
  · rw [if_neg c1, if_neg c2, if_neg c3, if_neg c4, if_neg c5, if_neg c6]
theorem c_live {r w : Nat} (hm : x_man r) (ht : tcW I 65) (hc : u8 (I r 4)) (h6 : b1 (I r 6)) (h7 : b1 (I r 7)) (hw : w < 2 ^ 31) (hd : 5 ≤ d) :
    x_K E d 28 [.ref r, .ref 68, .int (nI w)] I (fun v I' => v = none ∧ manR r (stpR I r w (dynC I r)) I I') := by
  obtain ⟨nc, hnc, hn1, hen⟩ := ht
  refine x_K.of (by decide) (by decide) rfl rfl rfl (r_Man_live_0 (by omega) r hm _ ⟨fun e7 => ⟨fun e6 => ?_, fun e6 => ?_⟩, fun e7 => ?_⟩)
  rotate_left
  · refine ⟨rfl, ?_, fun _ _ _ _ => rfl, kp.rfl'⟩
    have e6 : I r 6 = 1 := h6.resolve_left e6
    unfold stpR stp
    by_cases ha : I r 7 = 1
    · rw [if_pos ha]
    · rw [if_neg ha, if_pos (show (dynC I r).2.2 = 1 from e6)]
  · refine ⟨rfl, ?_, fun _ _ _ _ => rfl, kp.rfl'⟩
    unfold stpR stp
    rw [if_pos (h7.resolve_left e7)]
  obtain ⟨c, hc256, h4⟩ := hc
  refine (c_sumC (w := w) hm hn1 hnc hen hw hc256 h4 (by omega)).mono (fun v J hv => ?_)
  obtain ⟨hv, hk⟩ := hv
  rw [hv]
  have hr72 : r ∉ [72] := by simpa using man_ne hm (q := 72) rfl
  have hr172 : r + 1 ∉ [72] := by simpa using man_ne1 hm (q := 72) rfl
  have sr : J r = I r := hk r hr72
  have sr1 : J (r + 1) = I (r + 1) := hk (r + 1) hr172
  have s68 : J 68 = I 68 := hk 68 (by decide)
  refine r_Man_live_14 (by omega) r hm _ r hm _ _ ((c_riseC hm (by rw [sr]; exact ⟨c, hc256, h4⟩) hw (by omega)).pu ?_)
  refine r_Man_live_16 (by omega) r hm _ _ (fun I1 e1 => ?_)
  rw [clF_eq, sr, sr1] at e1
  have hsm : smC I 65 = fun f => (csF (I 69) (I 70) (I 71) f nc).1 := by
    unfold smC
    rw [hn1, nI_clamp (by omega)]
  have hst : stpR I r w (dynC I r) = if I1 r 5 < I 68 0 then (I r 4, I1 r 5, I r 6) else (I r 4 &&& ((1 <<< ((I r 2 - I r 2 / (8 : Int32) * (8 : Int32)) &&& 31)) ^^^ (-1)), 0, 1) := by
    unfold stpR stp
    rw [if_neg (show ¬ I r 7 = 1 by rw [e7]; decide), if_neg (show ¬ (dynC I r).2.2 = 1 by show ¬ I r 6 = 1; rw [e6]; decide), hsm, e1, up_eq]
    rfl
  rw [hst]
  have k1 : kp [72, r] I I1 := (hk.mono (by simp)).trans (by rw [e1]; exact kp.up (by simp))
  have q1 : ∀ j, j ≠ 5 → I1 r j = I r j := fun j hj => by rw [e1, up_eq]; dsimp only; rw [if_neg hj, sr]
  have q68 : I1 68 0 = I 68 0 := by rw [k1 68 (by have := man_ne hm (q := 68) rfl; simp; omega)]
  rw [q68]
  refine ⟨fun h => ⟨rfl, ?_, fun j h4 h5 h6 => q1 j h5, k1⟩, fun h => ?_⟩
  · rw [if_pos h]
    unfold dynC
    rw [q1 4 (by decide), q1 6 (by decide)]
  · intro I3 e3 I4 e4 I5 e5
    rw [if_neg h]
    have k3 : kp [72, r] I I3 := k1.trans (by rw [e3]; exact kp.up (by simp))
    have k4 : kp [72, r] I I4 := k3.trans (by rw [e4]; exact kp.up (by simp))
    have k5 : kp [72, r] I I5 := k4.trans (by rw [e5]; exact kp.up (by simp))
    have q4 : I4 r = fun j => if j = 5 then 0 else if j = 6 then 1 else I1 r j := by rw [e4, up_eq, e3, up_eq]
    have q5 : I5 r = fun j => if j = 4 then I4 r 4 &&& ((1 <<< ((I4 r 2 - I4 r 2 / (8 : Int32) * (8 : Int32)) &&& 31)) ^^^ (-1)) else I4 r j := by rw [e5, up_eq]
    refine ⟨rfl, ?_, fun j g4 g5 g6 => ?_, k5⟩
    · unfold dynC
      rw [q5, q4]
      simp only [if_true, if_neg (show ¬ (4 : Nat) = 5 by decide), if_neg (show ¬ (4 : Nat) = 6 by decide), if_neg (show ¬ (2 : Nat) = 5 by decide), if_neg (show ¬ (2 : Nat) = 6 by decide), if_neg (show ¬ (5 : Nat) = 4 by decide), if_neg (show ¬ (6 : Nat) = 4 by decide), if_neg (show ¬ (6 : Nat) = 5 by decide)]
      rw [q1 4 (by decide), q1 2 (by decide)]
    · rw [q5, q4]
      dsimp only
      rw [if_neg g4, if_neg g5, if_neg g6]
      exact q1 j g5
end ONEC
