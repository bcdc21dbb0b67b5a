/-! ===== helps for contracts; the JDK's methods ===== -/
theorem x_K.pu {E : XE} {d mi : Nat} {As : List Value} {I : Nat → Nat → Int32} {w : Value} {Q : Option Value → (Nat → Nat → Int32) → Prop} (h : x_K E d mi As I (x_pu w I)) (k : Q (some w) I) : x_K E d mi As I Q :=
  h.mono (fun v I' h => by rw [h.1, h.2]; exact k)
theorem ix_c {c : Int32} {c' p : Nat} (hc : c = nI c') (h : c' + p < 2 ^ 31) : (c + nI p).toNatClampNeg = c' + p := by
  rw [hc, nI_add, nI_clamp h]
theorem vi_c {c : Int32} {c' p N : Nat} (hc : c = nI c') (h : c' + p < N) (hN : N < 2 ^ 31) : vp_in (c + nI p) N := by
  rw [hc, nI_add]
  exact vp_in_nI h hN
/-- how many of the lowest k bits stand -/
def pcn (x : Int32) : Nat → Int32
  | 0 => 0
  | k + 1 => pcn x k + ((x >>> (nI k &&& 31)) &&& 1)
def pc (x : Int32) : Int32 := pcn x 8
/-- a set as bits, of the k with c k -/
def orF (c : Nat → Bool) : Nat → Int32
  | 0 => 0
  | k + 1 => orF c k ||| (if c k = true then 1 <<< (nI k &&& 31) else 0)
/-- the first place (from k on) of c in a list, or -1 -/
def x_ixl (c : Int32) : List Int32 → Nat → Int32
  | [], _ => -1
  | a :: l, k => if a = c then nI k else x_ixl c l (k + 1)
theorem x_sl_len : ∀ e, e < 8 → (x_sl e).length < 8 ∧ (Int32.ofNat (x_sl e).length) >>> ((0 : Int32) &&& 31) = nI (x_sl e).length := by decide +kernel
theorem x_sl_ch : ∀ e, e < 8 → ∀ j, j < (x_sl e).length → ((((x_sl e).getD j 0) &&& (255 : Int32)).toUInt32 % 65536).toInt32 = (x_sl e).getD j 0 ∧ narrow .char (.int ((x_sl e).getD j 0)) = .int ((x_sl e).getD j 0) := by decide +kernel
theorem x_c7 : ∀ n, n < 128 → (nI n).toInt8.toInt32 = nI n ∧ 0 ≤ nI n ∧ ¬ (255 : Int32) < nI n ∧ ¬ nI n < 0 := by decide +kernel
set_option maxRecDepth 20000 in
theorem x_pop : ∀ n, n < 256 → (let a0 := nI n
    let b0 := a0 - (((a0.toUInt32 >>> ((1 : Int32).toUInt32 &&& Int32.toUInt32 31)).toInt32) &&& (1431655765 : Int32))
    let b1 := (b0 &&& (858993459 : Int32)) + (((b0.toUInt32 >>> ((2 : Int32).toUInt32 &&& Int32.toUInt32 31)).toInt32) &&& (858993459 : Int32))
    let b2 := (b1 + ((b1.toUInt32 >>> ((4 : Int32).toUInt32 &&& Int32.toUInt32 31)).toInt32)) &&& (252645135 : Int32)
    let b3 := b2 + ((b2.toUInt32 >>> ((8 : Int32).toUInt32 &&& Int32.toUInt32 31)).toInt32)
    let b4 := b3 + ((b3.toUInt32 >>> ((16 : Int32).toUInt32 &&& Int32.toUInt32 31)).toInt32)
    b4 &&& (63 : Int32)) = pc (nI n) := by decide +kernel
section JDK
variable {E : XE} {d : Nat} {I : Nat → Nat → Int32}
theorem c_len {e : Nat} (he : e < 8) (hd : 3 ≤ d) : x_K E d 6 [.ref (8 + e)] I (x_pu (.int (nI (x_sl e).length)) I) :=
  x_K.of (by decide) (by decide) rfl rfl rfl (r_JS_length_0 (by omega) e he (by rw [(x_sl_len e he).2]; exact ⟨rfl, rfl⟩))
theorem c_checkJP {j N : Nat} (hj : j < N) (hN : N < 2 ^ 31) (hd : 1 ≤ d) : x_K E d 17 [.int (nI j), .int (nI N), .ref 5] I (x_pu (.int (nI j)) I) :=
  x_K.of (by decide) (by decide) rfl rfl rfl (r_JP_checkIndex_0 hd _ _ ⟨fun c => absurd c (nI_pos (by omega)), fun _ => ⟨fun _ => ⟨rfl, rfl⟩, fun c => c (nI_lt hj hN)⟩⟩)
theorem c_checkS {j N : Nat} (hj : j < N) (hN : N < 2 ^ 31) (hd : 2 ≤ d) : x_K E d 12 [.int (nI j), .int (nI N)] I (fun v I' => v = none ∧ I' = I) :=
  x_K.of (by decide) (by decide) rfl rfl rfl (r_JS_checkIndex_0 (by omega) _ _ ((c_checkJP hj hN (by omega)).pu (r_JS_checkIndex_4 (by omega) _ ⟨rfl, rfl⟩)))
theorem c_charL {e j : Nat} (he : e < 8) (hj : j < (x_sl e).length) (hd : 3 ≤ d) : x_K E d 13 [.ref (24 + e), .int (nI j)] I (x_pu (.int ((x_sl e).getD j 0)) I) := by
  have hl := (x_sl_len e he).1
  refine x_K.of (by decide) (by decide) rfl rfl rfl (r_JL_charAt_0 (by omega) e he _ ((c_checkS hj (by omega) (by omega)).mono (fun v I' h => ?_)))
  rw [h.1, h.2]
  refine r_JL_charAt_4 (by omega) e he _ ⟨vp_in_nI hj (by omega), ?_⟩
  rw [nI_clamp (by omega), (x_sl_ch e he j hj).1]
  exact ⟨(x_sl_ch e he j hj).2, rfl, rfl⟩
theorem c_charAt {e j : Nat} (he : e < 8) (hj : j < (x_sl e).length) (hd : 4 ≤ d) : x_K E d 7 [.ref (8 + e), .int (nI j)] I (x_pu (.int ((x_sl e).getD j 0)) I) :=
  x_K.of (by decide) (by decide) rfl rfl rfl (r_JS_charAt_0 (by omega) e he _ ((c_charL he hj (by omega)).pu (r_JS_charAt_7 (by omega) _ ⟨(x_sl_ch e he j hj).2, rfl, rfl⟩)))
theorem c_enc {n : Nat} (h : n < 128) (hd : 1 ≤ d) : x_K E d 14 [.int (nI n)] I (x_pu (.int 1) I) :=
  x_K.of (by decide) (by decide) rfl rfl rfl (r_JL_canEncode_0 hd _ ⟨by rw [x_bi_t ⟨(x_c7 n h).2.2.2, (x_c7 n h).2.2.1⟩], rfl⟩)
theorem c_ixC {e n : Nat} (he : e < 8) (h : n < 128) (hd : 1 ≤ d) : x_K E d 16 [.ref (24 + e), .int (nI n), .int 0, .int (nI (x_sl e).length)] I (x_pu (.int (x_ixl (nI n) (x_sl e) 0)) I) := by
  have hl := (x_sl_len e he).1
  refine x_K.of (by decide) (by decide) rfl rfl rfl (r_JL_indexOfChar_0 hd e he _ _ _ ?_)
  rw [(x_c7 n h).1]
  have key : ∀ k j, j + k = (x_sl e).length → x_P E d 16 5 [.ref (24 + e), x_jk, x_jk, .int (nI (x_sl e).length), .int (nI n), .int (nI j)] [] I (x_pu (.int (x_ixl (nI n) ((x_sl e).drop j) j)) I) := by
    intro k
    induction k with
    | zero =>
      intro j hj
      refine r_JL_indexOfChar_5 hd e he _ _ _ ⟨fun _ => ?_, fun c => absurd (nI_le (by omega) (by omega)) c⟩
      rw [List.drop_eq_nil_of_le (by omega)]
      exact ⟨rfl, rfl⟩
    | succ k ih =>
      intro j hj
      have hlt : j < (x_sl e).length := by omega
      have hdr : (x_sl e).drop j = (x_sl e).getD j 0 :: (x_sl e).drop (j + 1) := by
        rw [List.drop_eq_getElem_cons hlt, List.getD_eq_getElem?_getD, List.getElem?_eq_getElem hlt]
        rfl
      refine r_JL_indexOfChar_5 hd e he _ _ _ ⟨fun c => absurd c (nI_ge (by omega) (by omega)), fun _ => ⟨vp_in_nI hlt (by omega), ?_⟩⟩
      rw [nI_clamp (by omega), hdr]
      refine ⟨fun c => ⟨?_, rfl⟩, fun c => ?_⟩
      · rw [x_ixl, if_pos c]
      · have := ih (j + 1) (by omega)
        rw [nI_succ] at this
        rw [x_ixl, if_neg c]
        exact this
  exact key (x_sl e).length 0 (by omega)
theorem c_ixL {e n : Nat} (he : e < 8) (h : n < 128) (hd : 2 ≤ d) : x_K E d 15 [.ref (24 + e), .int (nI n), .int 0, .int (nI (x_sl e).length)] I (x_pu (.int (x_ixl (nI n) (x_sl e) 0)) I) := by
  have hl := (x_sl_len e he).1
  refine x_K.of (by decide) (by decide) rfl rfl rfl (r_JL_indexOf_0 (by omega) e he _ _ _ ((c_enc h (by omega)).pu ?_))
  refine r_JL_indexOf_2 (by omega) e he _ _ _ _ ⟨fun c => absurd c (by decide), fun _ => ?_⟩
  have e1 : (if (0 : Int32) < 0 then 0 else (0 : Int32)) = 0 := rfl
  have e2 : (if Int32.ofNat (x_sl e).length < nI (x_sl e).length then Int32.ofNat (x_sl e).length else nI (x_sl e).length) = nI (x_sl e).length := by split <;> rfl
  rw [e1, e2]
  refine ⟨fun _ => (c_ixC he h (by omega)).pu (r_JL_indexOf_24 (by omega) _ ⟨rfl, rfl⟩), fun c => ?_⟩
  have h0 : (x_sl e).length = 0 := by
    rcases Nat.eq_zero_or_pos (x_sl e).length with q | q
    · exact q
    · exact absurd (nI_lt q (by omega)) c
  have : x_sl e = [] := List.eq_nil_of_length_eq_zero h0
  rw [this]
  exact ⟨rfl, rfl⟩
theorem c_indexOf {e n : Nat} (he : e < 8) (h : n < 128) (hd : 5 ≤ d) : x_K E d 8 [.ref (8 + e), .int (nI n)] I (x_pu (.int (x_ixl (nI n) (x_sl e) 0)) I) := by
  refine x_K.of (by decide) (by decide) rfl rfl rfl (r_JS_indexOf_0 (by omega) e he _ (x_K.pu (w := .int (x_ixl (nI n) (x_sl e) 0)) ?_ (r_JS_indexOf_4 (by omega) _ ⟨rfl, rfl⟩)))
  refine x_K.of (by decide) (by decide) rfl rfl rfl (r_JS_indexOf2_0 (by omega) e he _ _ ((c_len he (by omega)).pu ?_))
  exact r_JS_indexOf2_9 (by omega) _ _ e he _ ((c_ixL he h (by omega)).pu (r_JS_indexOf2_10 (by omega) _ ⟨rfl, rfl⟩))
theorem c_bitCount {n : Nat} (h : n < 256) (hd : 1 ≤ d) : x_K E d 1 [.int (nI n)] I (x_pu (.int (pc (nI n))) I) :=
  x_K.of (by decide) (by decide) rfl rfl rfl (r_JI_bitCount_0 hd _ ⟨by rw [← x_pop n h], rfl⟩)
/-- the model's own count of bits -/
theorem c_countOf {x : Int32} (hd : 1 ≤ d) : x_K E d 130 [.int x] I (x_pu (.int (pc x)) I) := by
  refine x_K.of (by decide) (by decide) rfl rfl rfl (r_M_countOf_0 hd _ ?_)
  have key : ∀ k j, j + k = 8 → x_P E d 130 4 [.int x, .int (pcn x j), .int (nI j)] [] I (x_pu (.int (pc x)) I) := by
    intro k
    induction k with
    | zero =>
      intro j hj
      refine r_M_countOf_4 hd _ _ _ ⟨fun _ => ?_, fun c => absurd (nI_le (show 8 ≤ j by omega) (by omega)) c⟩
      rw [show j = 8 by omega]
      exact ⟨rfl, rfl⟩
    | succ k ih =>
      intro j hj
      refine r_M_countOf_4 hd _ _ _ ⟨fun c => absurd c (nI_ge (show j < 8 by omega) (by decide)), fun _ => ?_⟩
      have := ih (j + 1) (by omega)
      rw [nI_succ] at this
      exact this
  exact key 8 0 rfl
end JDK
