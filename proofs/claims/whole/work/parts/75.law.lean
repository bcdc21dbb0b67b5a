/-! ===== the law's loop ===== -/
section LAW
variable {E : XE} {d mi i k n mc ms : Nat} {L S : List Value} {M : XM} {Q : Option Value → XM → Prop}
theorem w_ld {c j : Nat} {z : Int} {i1 i2 i3 i4 i5 p1 p2 p3 p4 p5 a1 a2 a3 a4 a5 b1 b2 b3 b4 b5 : Nat} {q1 q2 q3 q4 q5 : List Nat} (h1 : x_op mi i = some (p1, 1, .aload_n (0 : Fin 4), i1, a1, b1, q1)) (h2 : x_op mi i1 = some (p2, 1, .iload_n (3 : Fin 4), i2, a2, b2, q2)) (h3 : x_op mi i2 = some (p3, 1, .iconst z, i3, a3, b3, q3)) (hz : Int32.ofInt z = nI c)
    (h4 : x_op mi i3 = some (p4, 1, .iadd, i4, a4, b4, q4)) (h5 : x_op mi i4 = some (p5, 1, .iaload, i5, a5, b5, q5)) (hL0 : L[0]? = some (.ref 4)) (hL3 : L[3]? = some (.int (nI j))) (hj : j + c < E.1) (hN : E.1 < 2 ^ 31)
    (kk : x_WP E d mi i5 L (.int (E.2 (j + c)) :: S) M k n mc ms Q) : x_WP E d mi i L S M k n mc ms Q := by
  refine wp_aload_n h1 rfl hL0 (wp_iload_n h2 rfl hL3 (wp_iconst h3 hz (wp_iadd h4 ?_)))
  rw [nI_add]
  refine wp_ialdX h5 (N := E.1) (f := E.2) rfl (vp_in_nI hj hN) ?_
  rw [nI_clamp (by omega)]
  exact kk
theorem sw_lt (x : Int32) : ∃ c, c < 32 ∧ x &&& (31 : Int32) = nI c := by
  have h : (x &&& (31 : Int32)).toBitVec.toNat < 32 := by
    rw [Int32.toBitVec_and, BitVec.toNat_and]
    exact Nat.and_lt_two_pow (n := 5) _ (by decide)
  obtain ⟨c, hc, e⟩ := u8_of (x := x &&& (31 : Int32)) (by omega)
  rw [e, nI_toNat (by omega)] at h
  exact ⟨c, h, e⟩
theorem lp_in {l j : Nat} (hl : l ≤ 2560) (hj : j ≤ 2600) (h : ¬ (nI l - (5 : Int32) < nI j)) : j + 5 ≤ l := by
  rcases Nat.lt_or_ge l 5 with c | c
  · exfalso
    apply h
    have : ∀ l, l < 5 → (nI l - (5 : Int32)).toInt < 0 := by decide
    rw [Int32.lt_iff_toInt_lt, nI_toInt (by omega)]
    have := this l c
    omega
  · have e : nI l - (5 : Int32) = nI (l - 5) := by
      have := nI_sub (a := l - 5) (b := 5)
      rw [Nat.sub_add_cancel c] at this
      exact this
    rw [e] at h
    rcases Nat.lt_or_ge (l - 5) j with g | g
    · exact absurd (nI_lt g (by omega)) h
    · omega
/-- both are called, and answer the same -/
theorem w_two {m1 m2 : Nat} {as : List Value} {I : Nat → Nat → Int32} (h : stp2 E (d - 1) I m1 m2 as) : ∃ z : Int32, x_C E (d - 1) m1 (.ref 64 :: as) (x_mk I) 0 0 (fun v M => v = some (.int z) ∧ ∃ J, M = x_mk J ∧ x_C E (d - 1) m2 (.ref 142 :: as) (x_mk J) 0 0 (fun v M => v = some (.int z) ∧ ∃ K, M = x_mk K ∧ inv K)) := by
  obtain ⟨⟨av, z, rfl⟩, h1⟩ := h
  refine ⟨z, x_C.mono h1 (fun v M hv => ?_)⟩
  obtain ⟨J, e, hv, h2⟩ := hv
  refine ⟨hv, J, e, x_C.mono h2 (fun v M hv => ?_)⟩
  obtain ⟨K, e, hv, h3⟩ := hv
  exact ⟨hv, K, e, h3⟩
theorem w_twoL {m1 m2 : Nat} {as : List Value} {I : Nat → Nat → Int32} (h : stp2L E (d - 1) I m1 m2 as) : ∃ z : Int64, x_C E (d - 1) m1 (.ref 64 :: as) (x_mk I) 0 0 (fun v M => v = some (.long z) ∧ ∃ J, M = x_mk J ∧ x_C E (d - 1) m2 (.ref 142 :: as) (x_mk J) 0 0 (fun v M => v = some (.long z) ∧ ∃ K, M = x_mk K ∧ inv K)) := by
  obtain ⟨⟨av, z, rfl⟩, h1⟩ := h
  refine ⟨z, x_C.mono h1 (fun v M hv => ?_)⟩
  obtain ⟨J, e, hv, h2⟩ := hv
  refine ⟨hv, J, e, x_C.mono h2 (fun v M hv => ?_)⟩
  obtain ⟨K, e, hv, h3⟩ := hv
  exact ⟨hv, K, e, h3⟩
set_option maxRecDepth 100000 in
theorem law_0 {j : Nat} {I : Nat → Nat → Int32} (hE : E.1 ≤ 2560) (hd : 44 ≤ d) (hj : j + 5 ≤ E.1) (h : inv I) (nx : ∀ K, inv K → x_WP E d 0 757 [.ref 4, .ref 64, .ref 142, .int (nI j)] [] (x_mk K) k n mc ms Q) (hk : k ≤ mc) (hn : n ≤ ms) : x_WP E d 0 22 [.ref 4, .ref 64, .ref 142, .int (nI j)] [] (x_mk I) k n mc ms Q := by
  have hN : E.1 < 2 ^ 31 := by omega
  have hs := h
  obtain ⟨s, nn, w, hR, es, h0, ht, hi⟩ := hs
  obtain ⟨z, hC⟩ := w_two (op2.step (op_feed (d := d - 1) (a1 := E.2 (j + 1)) hR (by omega)) es h0 ht hi)
  refine wp_aload_n (r := 64) rfl rfl rfl ?_
  refine w_ld (c := 1) rfl rfl rfl (by decide) rfl rfl rfl rfl (by omega) hN ?_
  refine wp_invV (As := [.int (E.2 (j + 1))]) (d1 := d - 1) (mc1 := 0) (ms1 := 0) rfl (by decide) rfl rfl rfl (Nat.le_of_ble_eq_true rfl) (by omega) (by omega) (by omega) (kd_64 I) (by decide) rfl rfl hC (fun v M hv => ?_)
  obtain ⟨hv, J, e, hC2⟩ := hv
  rw [hv, e]
  refine wp_aload_n (r := 142) rfl rfl rfl ?_
  refine w_ld (c := 1) rfl rfl rfl (by decide) rfl rfl rfl rfl (by omega) hN ?_
  refine wp_invV (As := [.int (E.2 (j + 1))]) (d1 := d - 1) (mc1 := 0) (ms1 := 0) rfl (by decide) rfl rfl rfl (Nat.le_of_ble_eq_true rfl) (by omega) (by omega) (by omega) (kd_142 J) (by decide) rfl rfl hC2 (fun v M hv => ?_)
  obtain ⟨hv, K, e, hK⟩ := hv
  rw [hv, e]
  exact wp_icmp_eq rfl (fun _ => nx K hK) (fun c => absurd rfl c)
set_option maxRecDepth 100000 in
theorem law_1 {j : Nat} {I : Nat → Nat → Int32} (hE : E.1 ≤ 2560) (hd : 44 ≤ d) (hj : j + 5 ≤ E.1) (h : inv I) (nx : ∀ K, inv K → x_WP E d 0 757 [.ref 4, .ref 64, .ref 142, .int (nI j)] [] (x_mk K) k n mc ms Q) (hk : k ≤ mc) (hn : n ≤ ms) : x_WP E d 0 39 [.ref 4, .ref 64, .ref 142, .int (nI j)] [] (x_mk I) k n mc ms Q := by
  have hN : E.1 < 2 ^ 31 := by omega
  have hs := h
  obtain ⟨s, nn, w, hR, es, h0, ht, hi⟩ := hs
  obtain ⟨z, hC⟩ := w_two (op2.step (op_town (d := d - 1)  hR (by omega)) es h0 ht hi)
  refine wp_aload_n (r := 64) rfl rfl rfl ?_
  refine wp_invV (As := []) (d1 := d - 1) (mc1 := 0) (ms1 := 0) rfl (by decide) rfl rfl rfl (Nat.le_of_ble_eq_true rfl) (by omega) (by omega) (by omega) (kd_64 I) (by decide) rfl rfl hC (fun v M hv => ?_)
  obtain ⟨hv, J, e, hC2⟩ := hv
  rw [hv, e]
  refine wp_aload_n (r := 142) rfl rfl rfl ?_
  refine wp_invV (As := []) (d1 := d - 1) (mc1 := 0) (ms1 := 0) rfl (by decide) rfl rfl rfl (Nat.le_of_ble_eq_true rfl) (by omega) (by omega) (by omega) (kd_142 J) (by decide) rfl rfl hC2 (fun v M hv => ?_)
  obtain ⟨hv, K, e, hK⟩ := hv
  rw [hv, e]
  exact wp_icmp_eq rfl (fun _ => nx K hK) (fun c => absurd rfl c)
set_option maxRecDepth 100000 in
theorem law_2 {j : Nat} {I : Nat → Nat → Int32} (hE : E.1 ≤ 2560) (hd : 44 ≤ d) (hj : j + 5 ≤ E.1) (h : inv I) (nx : ∀ K, inv K → x_WP E d 0 757 [.ref 4, .ref 64, .ref 142, .int (nI j)] [] (x_mk K) k n mc ms Q) (hk : k ≤ mc) (hn : n ≤ ms) : x_WP E d 0 46 [.ref 4, .ref 64, .ref 142, .int (nI j)] [] (x_mk I) k n mc ms Q := by
  have hN : E.1 < 2 ^ 31 := by omega
  have hs := h
  obtain ⟨s, nn, w, hR, es, h0, ht, hi⟩ := hs
  obtain ⟨z, hC⟩ := w_two (op2.step (op_man (d := d - 1) (a1 := E.2 (j + 1)) (a2 := E.2 (j + 2)) (a3 := E.2 (j + 3)) (a4 := E.2 (j + 4)) hR (by omega)) es h0 ht hi)
  refine wp_aload_n (r := 64) rfl rfl rfl ?_
  refine w_ld (c := 1) rfl rfl rfl (by decide) rfl rfl rfl rfl (by omega) hN ?_
  refine w_ld (c := 2) rfl rfl rfl (by decide) rfl rfl rfl rfl (by omega) hN ?_
  refine w_ld (c := 3) rfl rfl rfl (by decide) rfl rfl rfl rfl (by omega) hN ?_
  refine w_ld (c := 4) rfl rfl rfl (by decide) rfl rfl rfl rfl (by omega) hN ?_
  refine wp_invV (As := [.int (E.2 (j + 1)), .int (E.2 (j + 2)), .int (E.2 (j + 3)), .int (E.2 (j + 4))]) (d1 := d - 1) (mc1 := 0) (ms1 := 0) rfl (by decide) rfl rfl rfl (Nat.le_of_ble_eq_true rfl) (by omega) (by omega) (by omega) (kd_64 I) (by decide) rfl rfl hC (fun v M hv => ?_)
  obtain ⟨hv, J, e, hC2⟩ := hv
  rw [hv, e]
  refine wp_aload_n (r := 142) rfl rfl rfl ?_
  refine w_ld (c := 1) rfl rfl rfl (by decide) rfl rfl rfl rfl (by omega) hN ?_
  refine w_ld (c := 2) rfl rfl rfl (by decide) rfl rfl rfl rfl (by omega) hN ?_
  refine w_ld (c := 3) rfl rfl rfl (by decide) rfl rfl rfl rfl (by omega) hN ?_
  refine w_ld (c := 4) rfl rfl rfl (by decide) rfl rfl rfl rfl (by omega) hN ?_
  refine wp_invV (As := [.int (E.2 (j + 1)), .int (E.2 (j + 2)), .int (E.2 (j + 3)), .int (E.2 (j + 4))]) (d1 := d - 1) (mc1 := 0) (ms1 := 0) rfl (by decide) rfl rfl rfl (Nat.le_of_ble_eq_true rfl) (by omega) (by omega) (by omega) (kd_142 J) (by decide) rfl rfl hC2 (fun v M hv => ?_)
  obtain ⟨hv, K, e, hK⟩ := hv
  rw [hv, e]
  exact wp_icmp_eq rfl (fun _ => nx K hK) (fun c => absurd rfl c)
set_option maxRecDepth 100000 in
theorem law_3 {j : Nat} {I : Nat → Nat → Int32} (hE : E.1 ≤ 2560) (hd : 44 ≤ d) (hj : j + 5 ≤ E.1) (h : inv I) (nx : ∀ K, inv K → x_WP E d 0 757 [.ref 4, .ref 64, .ref 142, .int (nI j)] [] (x_mk K) k n mc ms Q) (hk : k ≤ mc) (hn : n ≤ ms) : x_WP E d 0 93 [.ref 4, .ref 64, .ref 142, .int (nI j)] [] (x_mk I) k n mc ms Q := by
  have hN : E.1 < 2 ^ 31 := by omega
  have hs := h
  obtain ⟨s, nn, w, hR, es, h0, ht, hi⟩ := hs
  obtain ⟨z, hC⟩ := w_two (op2.step (op_of (d := d - 1) (a1 := E.2 (j + 1)) (a2 := E.2 (j + 2)) hR (by omega)) es h0 ht hi)
  refine wp_aload_n (r := 64) rfl rfl rfl ?_
  refine w_ld (c := 1) rfl rfl rfl (by decide) rfl rfl rfl rfl (by omega) hN ?_
  refine w_ld (c := 2) rfl rfl rfl (by decide) rfl rfl rfl rfl (by omega) hN ?_
  refine wp_invV (As := [.int (E.2 (j + 1)), .int (E.2 (j + 2))]) (d1 := d - 1) (mc1 := 0) (ms1 := 0) rfl (by decide) rfl rfl rfl (Nat.le_of_ble_eq_true rfl) (by omega) (by omega) (by omega) (kd_64 I) (by decide) rfl rfl hC (fun v M hv => ?_)
  obtain ⟨hv, J, e, hC2⟩ := hv
  rw [hv, e]
  refine wp_aload_n (r := 142) rfl rfl rfl ?_
  refine w_ld (c := 1) rfl rfl rfl (by decide) rfl rfl rfl rfl (by omega) hN ?_
  refine w_ld (c := 2) rfl rfl rfl (by decide) rfl rfl rfl rfl (by omega) hN ?_
  refine wp_invV (As := [.int (E.2 (j + 1)), .int (E.2 (j + 2))]) (d1 := d - 1) (mc1 := 0) (ms1 := 0) rfl (by decide) rfl rfl rfl (Nat.le_of_ble_eq_true rfl) (by omega) (by omega) (by omega) (kd_142 J) (by decide) rfl rfl hC2 (fun v M hv => ?_)
  obtain ⟨hv, K, e, hK⟩ := hv
  rw [hv, e]
  exact wp_icmp_eq rfl (fun _ => nx K hK) (fun c => absurd rfl c)
set_option maxRecDepth 100000 in
theorem law_4 {j : Nat} {I : Nat → Nat → Int32} (hE : E.1 ≤ 2560) (hd : 44 ≤ d) (hj : j + 5 ≤ E.1) (h : inv I) (nx : ∀ K, inv K → x_WP E d 0 757 [.ref 4, .ref 64, .ref 142, .int (nI j)] [] (x_mk K) k n mc ms Q) (hk : k ≤ mc) (hn : n ≤ ms) : x_WP E d 0 120 [.ref 4, .ref 64, .ref 142, .int (nI j)] [] (x_mk I) k n mc ms Q := by
  have hN : E.1 < 2 ^ 31 := by omega
  have hs := h
  obtain ⟨s, nn, w, hR, es, h0, ht, hi⟩ := hs
  obtain ⟨z, hC⟩ := w_two (op2.step (op_row (d := d - 1) (a1 := E.2 (j + 1)) (a2 := E.2 (j + 2)) (a3 := E.2 (j + 3)) hR (by omega)) es h0 ht hi)
  refine wp_aload_n (r := 64) rfl rfl rfl ?_
  refine w_ld (c := 1) rfl rfl rfl (by decide) rfl rfl rfl rfl (by omega) hN ?_
  refine w_ld (c := 2) rfl rfl rfl (by decide) rfl rfl rfl rfl (by omega) hN ?_
  refine w_ld (c := 3) rfl rfl rfl (by decide) rfl rfl rfl rfl (by omega) hN ?_
  refine wp_invV (As := [.int (E.2 (j + 1)), .int (E.2 (j + 2)), .int (E.2 (j + 3))]) (d1 := d - 1) (mc1 := 0) (ms1 := 0) rfl (by decide) rfl rfl rfl (Nat.le_of_ble_eq_true rfl) (by omega) (by omega) (by omega) (kd_64 I) (by decide) rfl rfl hC (fun v M hv => ?_)
  obtain ⟨hv, J, e, hC2⟩ := hv
  rw [hv, e]
  refine wp_aload_n (r := 142) rfl rfl rfl ?_
  refine w_ld (c := 1) rfl rfl rfl (by decide) rfl rfl rfl rfl (by omega) hN ?_
  refine w_ld (c := 2) rfl rfl rfl (by decide) rfl rfl rfl rfl (by omega) hN ?_
  refine w_ld (c := 3) rfl rfl rfl (by decide) rfl rfl rfl rfl (by omega) hN ?_
  refine wp_invV (As := [.int (E.2 (j + 1)), .int (E.2 (j + 2)), .int (E.2 (j + 3))]) (d1 := d - 1) (mc1 := 0) (ms1 := 0) rfl (by decide) rfl rfl rfl (Nat.le_of_ble_eq_true rfl) (by omega) (by omega) (by omega) (kd_142 J) (by decide) rfl rfl hC2 (fun v M hv => ?_)
  obtain ⟨hv, K, e, hK⟩ := hv
  rw [hv, e]
  exact wp_icmp_eq rfl (fun _ => nx K hK) (fun c => absurd rfl c)
set_option maxRecDepth 100000 in
theorem law_5 {j : Nat} {I : Nat → Nat → Int32} (hE : E.1 ≤ 2560) (hd : 44 ≤ d) (hj : j + 5 ≤ E.1) (h : inv I) (nx : ∀ K, inv K → x_WP E d 0 757 [.ref 4, .ref 64, .ref 142, .int (nI j)] [] (x_mk K) k n mc ms Q) (hk : k ≤ mc) (hn : n ≤ ms) : x_WP E d 0 157 [.ref 4, .ref 64, .ref 142, .int (nI j)] [] (x_mk I) k n mc ms Q := by
  have hN : E.1 < 2 ^ 31 := by omega
  have hs := h
  obtain ⟨s, nn, w, hR, es, h0, ht, hi⟩ := hs
  obtain ⟨z, hC⟩ := w_two (op2.step (op_set (d := d - 1) (a1 := E.2 (j + 1)) (a2 := E.2 (j + 2)) (a3 := E.2 (j + 3)) hR (by omega)) es h0 ht hi)
  refine wp_aload_n (r := 64) rfl rfl rfl ?_
  refine w_ld (c := 1) rfl rfl rfl (by decide) rfl rfl rfl rfl (by omega) hN ?_
  refine w_ld (c := 2) rfl rfl rfl (by decide) rfl rfl rfl rfl (by omega) hN ?_
  refine w_ld (c := 3) rfl rfl rfl (by decide) rfl rfl rfl rfl (by omega) hN ?_
  refine wp_invV (As := [.int (E.2 (j + 1)), .int (E.2 (j + 2)), .int (E.2 (j + 3))]) (d1 := d - 1) (mc1 := 0) (ms1 := 0) rfl (by decide) rfl rfl rfl (Nat.le_of_ble_eq_true rfl) (by omega) (by omega) (by omega) (kd_64 I) (by decide) rfl rfl hC (fun v M hv => ?_)
  obtain ⟨hv, J, e, hC2⟩ := hv
  rw [hv, e]
  refine wp_aload_n (r := 142) rfl rfl rfl ?_
  refine w_ld (c := 1) rfl rfl rfl (by decide) rfl rfl rfl rfl (by omega) hN ?_
  refine w_ld (c := 2) rfl rfl rfl (by decide) rfl rfl rfl rfl (by omega) hN ?_
  refine w_ld (c := 3) rfl rfl rfl (by decide) rfl rfl rfl rfl (by omega) hN ?_
  refine wp_invV (As := [.int (E.2 (j + 1)), .int (E.2 (j + 2)), .int (E.2 (j + 3))]) (d1 := d - 1) (mc1 := 0) (ms1 := 0) rfl (by decide) rfl rfl rfl (Nat.le_of_ble_eq_true rfl) (by omega) (by omega) (by omega) (kd_142 J) (by decide) rfl rfl hC2 (fun v M hv => ?_)
  obtain ⟨hv, K, e, hK⟩ := hv
  rw [hv, e]
  exact wp_icmp_eq rfl (fun _ => nx K hK) (fun c => absurd rfl c)
set_option maxRecDepth 100000 in
theorem law_6 {j : Nat} {I : Nat → Nat → Int32} (hE : E.1 ≤ 2560) (hd : 44 ≤ d) (hj : j + 5 ≤ E.1) (h : inv I) (nx : ∀ K, inv K → x_WP E d 0 757 [.ref 4, .ref 64, .ref 142, .int (nI j)] [] (x_mk K) k n mc ms Q) (hk : k ≤ mc) (hn : n ≤ ms) : x_WP E d 0 194 [.ref 4, .ref 64, .ref 142, .int (nI j)] [] (x_mk I) k n mc ms Q := by
  have hN : E.1 < 2 ^ 31 := by omega
  have hs := h
  obtain ⟨s, nn, w, hR, es, h0, ht, hi⟩ := hs
  by_cases hz : E.2 (j + 2) = 0
  · obtain ⟨z, hC⟩ := w_two (op2.step (op_stud (d := d - 1) (a1 := E.2 (j + 1)) (a2 := (0 : Int32)) hR (Or.inl rfl) (by omega)) es h0 ht hi)
    refine wp_aload_n (r := 64) rfl rfl rfl ?_
    refine w_ld (c := 1) rfl rfl rfl (by decide) rfl rfl rfl rfl (by omega) hN ?_
    refine w_ld (c := 2) rfl rfl rfl (by decide) rfl rfl rfl rfl (by omega) hN ?_
    refine wp_if_eq rfl (fun _ => ?_) (fun c => absurd hz c)
    refine wp_iconst (v := (0 : Int32)) rfl (by decide) ?_
    refine wp_invV (As := [.int (E.2 (j + 1)), .int (0 : Int32)]) (d1 := d - 1) (mc1 := 0) (ms1 := 0) rfl (by decide) rfl rfl rfl (Nat.le_of_ble_eq_true rfl) (by omega) (by omega) (by omega) (kd_64 I) (by decide) rfl rfl hC (fun v M hv => ?_)
    obtain ⟨hv, J, e, hC2⟩ := hv
    rw [hv, e]
    refine wp_aload_n (r := 142) rfl rfl rfl ?_
    refine w_ld (c := 1) rfl rfl rfl (by decide) rfl rfl rfl rfl (by omega) hN ?_
    refine w_ld (c := 2) rfl rfl rfl (by decide) rfl rfl rfl rfl (by omega) hN ?_
    refine wp_if_eq rfl (fun _ => ?_) (fun c => absurd hz c)
    refine wp_iconst (v := (0 : Int32)) rfl (by decide) ?_
    refine wp_invV (As := [.int (E.2 (j + 1)), .int (0 : Int32)]) (d1 := d - 1) (mc1 := 0) (ms1 := 0) rfl (by decide) rfl rfl rfl (Nat.le_of_ble_eq_true rfl) (by omega) (by omega) (by omega) (kd_142 J) (by decide) rfl rfl hC2 (fun v M hv => ?_)
    obtain ⟨hv, K, e, hK⟩ := hv
    rw [hv, e]
    exact wp_icmp_eq rfl (fun _ => nx K hK) (fun c => absurd rfl c)
  · obtain ⟨z, hC⟩ := w_two (op2.step (op_stud (d := d - 1) (a1 := E.2 (j + 1)) (a2 := (1 : Int32)) hR (Or.inr rfl) (by omega)) es h0 ht hi)
    refine wp_aload_n (r := 64) rfl rfl rfl ?_
    refine w_ld (c := 1) rfl rfl rfl (by decide) rfl rfl rfl rfl (by omega) hN ?_
    refine w_ld (c := 2) rfl rfl rfl (by decide) rfl rfl rfl rfl (by omega) hN ?_
    refine wp_if_eq rfl (fun c => absurd c hz) (fun _ => ?_)
    refine wp_iconst (v := (1 : Int32)) rfl (by decide) ?_
    refine wp_goto rfl ?_
    refine wp_invV (As := [.int (E.2 (j + 1)), .int (1 : Int32)]) (d1 := d - 1) (mc1 := 0) (ms1 := 0) rfl (by decide) rfl rfl rfl (Nat.le_of_ble_eq_true rfl) (by omega) (by omega) (by omega) (kd_64 I) (by decide) rfl rfl hC (fun v M hv => ?_)
    obtain ⟨hv, J, e, hC2⟩ := hv
    rw [hv, e]
    refine wp_aload_n (r := 142) rfl rfl rfl ?_
    refine w_ld (c := 1) rfl rfl rfl (by decide) rfl rfl rfl rfl (by omega) hN ?_
    refine w_ld (c := 2) rfl rfl rfl (by decide) rfl rfl rfl rfl (by omega) hN ?_
    refine wp_if_eq rfl (fun c => absurd c hz) (fun _ => ?_)
    refine wp_iconst (v := (1 : Int32)) rfl (by decide) ?_
    refine wp_goto rfl ?_
    refine wp_invV (As := [.int (E.2 (j + 1)), .int (1 : Int32)]) (d1 := d - 1) (mc1 := 0) (ms1 := 0) rfl (by decide) rfl rfl rfl (Nat.le_of_ble_eq_true rfl) (by omega) (by omega) (by omega) (kd_142 J) (by decide) rfl rfl hC2 (fun v M hv => ?_)
    obtain ⟨hv, K, e, hK⟩ := hv
    rw [hv, e]
    exact wp_icmp_eq rfl (fun _ => nx K hK) (fun c => absurd rfl c)
set_option maxRecDepth 100000 in
theorem law_7 {j : Nat} {I : Nat → Nat → Int32} (hE : E.1 ≤ 2560) (hd : 44 ≤ d) (hj : j + 5 ≤ E.1) (h : inv I) (nx : ∀ K, inv K → x_WP E d 0 757 [.ref 4, .ref 64, .ref 142, .int (nI j)] [] (x_mk K) k n mc ms Q) (hk : k ≤ mc) (hn : n ≤ ms) : x_WP E d 0 229 [.ref 4, .ref 64, .ref 142, .int (nI j)] [] (x_mk I) k n mc ms Q := by
  have hN : E.1 < 2 ^ 31 := by omega
  have hs := h
  obtain ⟨s, nn, w, hR, es, h0, ht, hi⟩ := hs
  by_cases hz : E.2 (j + 2) = 0
  · obtain ⟨z, hC⟩ := w_two (op2.step (op_away (d := d - 1) (a1 := E.2 (j + 1)) (a2 := (0 : Int32)) hR (Or.inl rfl) (by omega)) es h0 ht hi)
    refine wp_aload_n (r := 64) rfl rfl rfl ?_
    refine w_ld (c := 1) rfl rfl rfl (by decide) rfl rfl rfl rfl (by omega) hN ?_
    refine w_ld (c := 2) rfl rfl rfl (by decide) rfl rfl rfl rfl (by omega) hN ?_
    refine wp_if_eq rfl (fun _ => ?_) (fun c => absurd hz c)
    refine wp_iconst (v := (0 : Int32)) rfl (by decide) ?_
    refine wp_invV (As := [.int (E.2 (j + 1)), .int (0 : Int32)]) (d1 := d - 1) (mc1 := 0) (ms1 := 0) rfl (by decide) rfl rfl rfl (Nat.le_of_ble_eq_true rfl) (by omega) (by omega) (by omega) (kd_64 I) (by decide) rfl rfl hC (fun v M hv => ?_)
    obtain ⟨hv, J, e, hC2⟩ := hv
    rw [hv, e]
    refine wp_aload_n (r := 142) rfl rfl rfl ?_
    refine w_ld (c := 1) rfl rfl rfl (by decide) rfl rfl rfl rfl (by omega) hN ?_
    refine w_ld (c := 2) rfl rfl rfl (by decide) rfl rfl rfl rfl (by omega) hN ?_
    refine wp_if_eq rfl (fun _ => ?_) (fun c => absurd hz c)
    refine wp_iconst (v := (0 : Int32)) rfl (by decide) ?_
    refine wp_invV (As := [.int (E.2 (j + 1)), .int (0 : Int32)]) (d1 := d - 1) (mc1 := 0) (ms1 := 0) rfl (by decide) rfl rfl rfl (Nat.le_of_ble_eq_true rfl) (by omega) (by omega) (by omega) (kd_142 J) (by decide) rfl rfl hC2 (fun v M hv => ?_)
    obtain ⟨hv, K, e, hK⟩ := hv
    rw [hv, e]
    exact wp_icmp_eq rfl (fun _ => nx K hK) (fun c => absurd rfl c)
  · obtain ⟨z, hC⟩ := w_two (op2.step (op_away (d := d - 1) (a1 := E.2 (j + 1)) (a2 := (1 : Int32)) hR (Or.inr rfl) (by omega)) es h0 ht hi)
    refine wp_aload_n (r := 64) rfl rfl rfl ?_
    refine w_ld (c := 1) rfl rfl rfl (by decide) rfl rfl rfl rfl (by omega) hN ?_
    refine w_ld (c := 2) rfl rfl rfl (by decide) rfl rfl rfl rfl (by omega) hN ?_
    refine wp_if_eq rfl (fun c => absurd c hz) (fun _ => ?_)
    refine wp_iconst (v := (1 : Int32)) rfl (by decide) ?_
    refine wp_goto rfl ?_
    refine wp_invV (As := [.int (E.2 (j + 1)), .int (1 : Int32)]) (d1 := d - 1) (mc1 := 0) (ms1 := 0) rfl (by decide) rfl rfl rfl (Nat.le_of_ble_eq_true rfl) (by omega) (by omega) (by omega) (kd_64 I) (by decide) rfl rfl hC (fun v M hv => ?_)
    obtain ⟨hv, J, e, hC2⟩ := hv
    rw [hv, e]
    refine wp_aload_n (r := 142) rfl rfl rfl ?_
    refine w_ld (c := 1) rfl rfl rfl (by decide) rfl rfl rfl rfl (by omega) hN ?_
    refine w_ld (c := 2) rfl rfl rfl (by decide) rfl rfl rfl rfl (by omega) hN ?_
    refine wp_if_eq rfl (fun c => absurd c hz) (fun _ => ?_)
    refine wp_iconst (v := (1 : Int32)) rfl (by decide) ?_
    refine wp_goto rfl ?_
    refine wp_invV (As := [.int (E.2 (j + 1)), .int (1 : Int32)]) (d1 := d - 1) (mc1 := 0) (ms1 := 0) rfl (by decide) rfl rfl rfl (Nat.le_of_ble_eq_true rfl) (by omega) (by omega) (by omega) (kd_142 J) (by decide) rfl rfl hC2 (fun v M hv => ?_)
    obtain ⟨hv, K, e, hK⟩ := hv
    rw [hv, e]
    exact wp_icmp_eq rfl (fun _ => nx K hK) (fun c => absurd rfl c)
set_option maxRecDepth 100000 in
theorem law_8 {j : Nat} {I : Nat → Nat → Int32} (hE : E.1 ≤ 2560) (hd : 44 ≤ d) (hj : j + 5 ≤ E.1) (h : inv I) (nx : ∀ K, inv K → x_WP E d 0 757 [.ref 4, .ref 64, .ref 142, .int (nI j)] [] (x_mk K) k n mc ms Q) (hk : k ≤ mc) (hn : n ≤ ms) : x_WP E d 0 264 [.ref 4, .ref 64, .ref 142, .int (nI j)] [] (x_mk I) k n mc ms Q := by
  have hN : E.1 < 2 ^ 31 := by omega
  have hs := h
  obtain ⟨s, nn, w, hR, es, h0, ht, hi⟩ := hs
  obtain ⟨z, hC⟩ := w_two (op2.step (op_apart (d := d - 1) (a1 := E.2 (j + 1)) (a2 := E.2 (j + 2)) hR (by omega)) es h0 ht hi)
  refine wp_aload_n (r := 64) rfl rfl rfl ?_
  refine w_ld (c := 1) rfl rfl rfl (by decide) rfl rfl rfl rfl (by omega) hN ?_
  refine w_ld (c := 2) rfl rfl rfl (by decide) rfl rfl rfl rfl (by omega) hN ?_
  refine wp_invV (As := [.int (E.2 (j + 1)), .int (E.2 (j + 2))]) (d1 := d - 1) (mc1 := 0) (ms1 := 0) rfl (by decide) rfl rfl rfl (Nat.le_of_ble_eq_true rfl) (by omega) (by omega) (by omega) (kd_64 I) (by decide) rfl rfl hC (fun v M hv => ?_)
  obtain ⟨hv, J, e, hC2⟩ := hv
  rw [hv, e]
  refine wp_aload_n (r := 142) rfl rfl rfl ?_
  refine w_ld (c := 1) rfl rfl rfl (by decide) rfl rfl rfl rfl (by omega) hN ?_
  refine w_ld (c := 2) rfl rfl rfl (by decide) rfl rfl rfl rfl (by omega) hN ?_
  refine wp_invV (As := [.int (E.2 (j + 1)), .int (E.2 (j + 2))]) (d1 := d - 1) (mc1 := 0) (ms1 := 0) rfl (by decide) rfl rfl rfl (Nat.le_of_ble_eq_true rfl) (by omega) (by omega) (by omega) (kd_142 J) (by decide) rfl rfl hC2 (fun v M hv => ?_)
  obtain ⟨hv, K, e, hK⟩ := hv
  rw [hv, e]
  exact wp_icmp_eq rfl (fun _ => nx K hK) (fun c => absurd rfl c)
set_option maxRecDepth 100000 in
theorem law_9 {j : Nat} {I : Nat → Nat → Int32} (hE : E.1 ≤ 2560) (hd : 44 ≤ d) (hj : j + 5 ≤ E.1) (h : inv I) (nx : ∀ K, inv K → x_WP E d 0 757 [.ref 4, .ref 64, .ref 142, .int (nI j)] [] (x_mk K) k n mc ms Q) (hk : k ≤ mc) (hn : n ≤ ms) : x_WP E d 0 291 [.ref 4, .ref 64, .ref 142, .int (nI j)] [] (x_mk I) k n mc ms Q := by
  have hN : E.1 < 2 ^ 31 := by omega
  have hs := h
  obtain ⟨s, nn, w, hR, es, h0, ht, hi⟩ := hs
  obtain ⟨z, hC⟩ := w_two (op2.step (op_told (d := d - 1) (a1 := E.2 (j + 1)) hR (by omega)) es h0 ht hi)
  refine wp_aload_n (r := 64) rfl rfl rfl ?_
  refine w_ld (c := 1) rfl rfl rfl (by decide) rfl rfl rfl rfl (by omega) hN ?_
  refine wp_invV (As := [.int (E.2 (j + 1))]) (d1 := d - 1) (mc1 := 0) (ms1 := 0) rfl (by decide) rfl rfl rfl (Nat.le_of_ble_eq_true rfl) (by omega) (by omega) (by omega) (kd_64 I) (by decide) rfl rfl hC (fun v M hv => ?_)
  obtain ⟨hv, J, e, hC2⟩ := hv
  rw [hv, e]
  refine wp_aload_n (r := 142) rfl rfl rfl ?_
  refine w_ld (c := 1) rfl rfl rfl (by decide) rfl rfl rfl rfl (by omega) hN ?_
  refine wp_invV (As := [.int (E.2 (j + 1))]) (d1 := d - 1) (mc1 := 0) (ms1 := 0) rfl (by decide) rfl rfl rfl (Nat.le_of_ble_eq_true rfl) (by omega) (by omega) (by omega) (kd_142 J) (by decide) rfl rfl hC2 (fun v M hv => ?_)
  obtain ⟨hv, K, e, hK⟩ := hv
  rw [hv, e]
  exact wp_icmp_eq rfl (fun _ => nx K hK) (fun c => absurd rfl c)
set_option maxRecDepth 100000 in
theorem law_10 {j : Nat} {I : Nat → Nat → Int32} (hE : E.1 ≤ 2560) (hd : 44 ≤ d) (hj : j + 5 ≤ E.1) (h : inv I) (nx : ∀ K, inv K → x_WP E d 0 757 [.ref 4, .ref 64, .ref 142, .int (nI j)] [] (x_mk K) k n mc ms Q) (hk : k ≤ mc) (hn : n ≤ ms) : x_WP E d 0 308 [.ref 4, .ref 64, .ref 142, .int (nI j)] [] (x_mk I) k n mc ms Q := by
  have hN : E.1 < 2 ^ 31 := by omega
  have hs := h
  obtain ⟨s, nn, w, hR, es, h0, ht, hi⟩ := hs
  obtain ⟨z, hC⟩ := w_two (op2.step (op_pass (d := d - 1) (a1 := E.2 (j + 1)) hR (by omega)) es h0 ht hi)
  refine wp_aload_n (r := 64) rfl rfl rfl ?_
  refine w_ld (c := 1) rfl rfl rfl (by decide) rfl rfl rfl rfl (by omega) hN ?_
  refine wp_invV (As := [.int (E.2 (j + 1))]) (d1 := d - 1) (mc1 := 0) (ms1 := 0) rfl (by decide) rfl rfl rfl (Nat.le_of_ble_eq_true rfl) (by omega) (by omega) (by omega) (kd_64 I) (by decide) rfl rfl hC (fun v M hv => ?_)
  obtain ⟨hv, J, e, hC2⟩ := hv
  rw [hv, e]
  refine wp_aload_n (r := 142) rfl rfl rfl ?_
  refine w_ld (c := 1) rfl rfl rfl (by decide) rfl rfl rfl rfl (by omega) hN ?_
  refine wp_invV (As := [.int (E.2 (j + 1))]) (d1 := d - 1) (mc1 := 0) (ms1 := 0) rfl (by decide) rfl rfl rfl (Nat.le_of_ble_eq_true rfl) (by omega) (by omega) (by omega) (kd_142 J) (by decide) rfl rfl hC2 (fun v M hv => ?_)
  obtain ⟨hv, K, e, hK⟩ := hv
  rw [hv, e]
  exact wp_icmp_eq rfl (fun _ => nx K hK) (fun c => absurd rfl c)
set_option maxRecDepth 100000 in
theorem law_11 {j : Nat} {I : Nat → Nat → Int32} (hE : E.1 ≤ 2560) (hd : 44 ≤ d) (hj : j + 5 ≤ E.1) (h : inv I) (nx : ∀ K, inv K → x_WP E d 0 757 [.ref 4, .ref 64, .ref 142, .int (nI j)] [] (x_mk K) k n mc ms Q) (hk : k ≤ mc) (hn : n ≤ ms) : x_WP E d 0 325 [.ref 4, .ref 64, .ref 142, .int (nI j)] [] (x_mk I) k n mc ms Q := by
  have hN : E.1 < 2 ^ 31 := by omega
  have hs := h
  obtain ⟨s, nn, w, hR, es, h0, ht, hi⟩ := hs
  obtain ⟨z, hC⟩ := w_two (op2.step (op_on (d := d - 1) (a1 := E.2 (j + 1)) (a2 := E.2 (j + 2)) hR (by omega)) es h0 ht hi)
  refine wp_aload_n (r := 64) rfl rfl rfl ?_
  refine w_ld (c := 1) rfl rfl rfl (by decide) rfl rfl rfl rfl (by omega) hN ?_
  refine w_ld (c := 2) rfl rfl rfl (by decide) rfl rfl rfl rfl (by omega) hN ?_
  refine wp_invV (As := [.int (E.2 (j + 1)), .int (E.2 (j + 2))]) (d1 := d - 1) (mc1 := 0) (ms1 := 0) rfl (by decide) rfl rfl rfl (Nat.le_of_ble_eq_true rfl) (by omega) (by omega) (by omega) (kd_64 I) (by decide) rfl rfl hC (fun v M hv => ?_)
  obtain ⟨hv, J, e, hC2⟩ := hv
  rw [hv, e]
  refine wp_aload_n (r := 142) rfl rfl rfl ?_
  refine w_ld (c := 1) rfl rfl rfl (by decide) rfl rfl rfl rfl (by omega) hN ?_
  refine w_ld (c := 2) rfl rfl rfl (by decide) rfl rfl rfl rfl (by omega) hN ?_
  refine wp_invV (As := [.int (E.2 (j + 1)), .int (E.2 (j + 2))]) (d1 := d - 1) (mc1 := 0) (ms1 := 0) rfl (by decide) rfl rfl rfl (Nat.le_of_ble_eq_true rfl) (by omega) (by omega) (by omega) (kd_142 J) (by decide) rfl rfl hC2 (fun v M hv => ?_)
  obtain ⟨hv, K, e, hK⟩ := hv
  rw [hv, e]
  exact wp_icmp_eq rfl (fun _ => nx K hK) (fun c => absurd rfl c)
set_option maxRecDepth 100000 in
theorem law_12 {j : Nat} {I : Nat → Nat → Int32} (hE : E.1 ≤ 2560) (hd : 44 ≤ d) (hj : j + 5 ≤ E.1) (h : inv I) (nx : ∀ K, inv K → x_WP E d 0 757 [.ref 4, .ref 64, .ref 142, .int (nI j)] [] (x_mk K) k n mc ms Q) (hk : k ≤ mc) (hn : n ≤ ms) : x_WP E d 0 352 [.ref 4, .ref 64, .ref 142, .int (nI j)] [] (x_mk I) k n mc ms Q := by
  have hN : E.1 < 2 ^ 31 := by omega
  have hs := h
  obtain ⟨s, nn, w, hR, es, h0, ht, hi⟩ := hs
  obtain ⟨z, hC⟩ := w_two (op2.step (op_when (d := d - 1) (a1 := E.2 (j + 1)) hR (by omega)) es h0 ht hi)
  refine wp_aload_n (r := 64) rfl rfl rfl ?_
  refine w_ld (c := 1) rfl rfl rfl (by decide) rfl rfl rfl rfl (by omega) hN ?_
  refine wp_invV (As := [.int (E.2 (j + 1))]) (d1 := d - 1) (mc1 := 0) (ms1 := 0) rfl (by decide) rfl rfl rfl (Nat.le_of_ble_eq_true rfl) (by omega) (by omega) (by omega) (kd_64 I) (by decide) rfl rfl hC (fun v M hv => ?_)
  obtain ⟨hv, J, e, hC2⟩ := hv
  rw [hv, e]
  refine wp_aload_n (r := 142) rfl rfl rfl ?_
  refine w_ld (c := 1) rfl rfl rfl (by decide) rfl rfl rfl rfl (by omega) hN ?_
  refine wp_invV (As := [.int (E.2 (j + 1))]) (d1 := d - 1) (mc1 := 0) (ms1 := 0) rfl (by decide) rfl rfl rfl (Nat.le_of_ble_eq_true rfl) (by omega) (by omega) (by omega) (kd_142 J) (by decide) rfl rfl hC2 (fun v M hv => ?_)
  obtain ⟨hv, K, e, hK⟩ := hv
  rw [hv, e]
  exact wp_icmp_eq rfl (fun _ => nx K hK) (fun c => absurd rfl c)
set_option maxRecDepth 100000 in
theorem law_13 {j : Nat} {I : Nat → Nat → Int32} (hE : E.1 ≤ 2560) (hd : 44 ≤ d) (hj : j + 5 ≤ E.1) (h : inv I) (nx : ∀ K, inv K → x_WP E d 0 757 [.ref 4, .ref 64, .ref 142, .int (nI j)] [] (x_mk K) k n mc ms Q) (hk : k ≤ mc) (hn : n ≤ ms) : x_WP E d 0 369 [.ref 4, .ref 64, .ref 142, .int (nI j)] [] (x_mk I) k n mc ms Q := by
  have hN : E.1 < 2 ^ 31 := by omega
  have hs := h
  obtain ⟨s, nn, w, hR, es, h0, ht, hi⟩ := hs
  obtain ⟨z, hC⟩ := w_two (op2.step (op_walk (d := d - 1) (a1 := E.2 (j + 1)) hR h0 (by omega)) es h0 ht hi)
  refine wp_aload_n (r := 64) rfl rfl rfl ?_
  refine w_ld (c := 1) rfl rfl rfl (by decide) rfl rfl rfl rfl (by omega) hN ?_
  refine wp_invV (As := [.int (E.2 (j + 1))]) (d1 := d - 1) (mc1 := 0) (ms1 := 0) rfl (by decide) rfl rfl rfl (Nat.le_of_ble_eq_true rfl) (by omega) (by omega) (by omega) (kd_64 I) (by decide) rfl rfl hC (fun v M hv => ?_)
  obtain ⟨hv, J, e, hC2⟩ := hv
  rw [hv, e]
  refine wp_aload_n (r := 142) rfl rfl rfl ?_
  refine w_ld (c := 1) rfl rfl rfl (by decide) rfl rfl rfl rfl (by omega) hN ?_
  refine wp_invV (As := [.int (E.2 (j + 1))]) (d1 := d - 1) (mc1 := 0) (ms1 := 0) rfl (by decide) rfl rfl rfl (Nat.le_of_ble_eq_true rfl) (by omega) (by omega) (by omega) (kd_142 J) (by decide) rfl rfl hC2 (fun v M hv => ?_)
  obtain ⟨hv, K, e, hK⟩ := hv
  rw [hv, e]
  exact wp_icmp_eq rfl (fun _ => nx K hK) (fun c => absurd rfl c)
set_option maxRecDepth 100000 in
theorem law_14 {j : Nat} {I : Nat → Nat → Int32} (hE : E.1 ≤ 2560) (hd : 44 ≤ d) (hj : j + 5 ≤ E.1) (h : inv I) (nx : ∀ K, inv K → x_WP E d 0 757 [.ref 4, .ref 64, .ref 142, .int (nI j)] [] (x_mk K) k n mc ms Q) (hk : k ≤ mc) (hn : n ≤ ms) : x_WP E d 0 386 [.ref 4, .ref 64, .ref 142, .int (nI j)] [] (x_mk I) k n mc ms Q := by
  have hN : E.1 < 2 ^ 31 := by omega
  have hs := h
  obtain ⟨s, nn, w, hR, es, h0, ht, hi⟩ := hs
  obtain ⟨z, hC⟩ := w_two (op2.step (op_table (d := d - 1) (a1 := E.2 (j + 1)) hR (by omega)) es h0 ht hi)
  refine wp_aload_n (r := 64) rfl rfl rfl ?_
  refine w_ld (c := 1) rfl rfl rfl (by decide) rfl rfl rfl rfl (by omega) hN ?_
  refine wp_invV (As := [.int (E.2 (j + 1))]) (d1 := d - 1) (mc1 := 0) (ms1 := 0) rfl (by decide) rfl rfl rfl (Nat.le_of_ble_eq_true rfl) (by omega) (by omega) (by omega) (kd_64 I) (by decide) rfl rfl hC (fun v M hv => ?_)
  obtain ⟨hv, J, e, hC2⟩ := hv
  rw [hv, e]
  refine wp_aload_n (r := 142) rfl rfl rfl ?_
  refine w_ld (c := 1) rfl rfl rfl (by decide) rfl rfl rfl rfl (by omega) hN ?_
  refine wp_invV (As := [.int (E.2 (j + 1))]) (d1 := d - 1) (mc1 := 0) (ms1 := 0) rfl (by decide) rfl rfl rfl (Nat.le_of_ble_eq_true rfl) (by omega) (by omega) (by omega) (kd_142 J) (by decide) rfl rfl hC2 (fun v M hv => ?_)
  obtain ⟨hv, K, e, hK⟩ := hv
  rw [hv, e]
  exact wp_icmp_eq rfl (fun _ => nx K hK) (fun c => absurd rfl c)
set_option maxRecDepth 100000 in
theorem law_15 {j : Nat} {I : Nat → Nat → Int32} (hE : E.1 ≤ 2560) (hd : 44 ≤ d) (hj : j + 5 ≤ E.1) (h : inv I) (nx : ∀ K, inv K → x_WP E d 0 757 [.ref 4, .ref 64, .ref 142, .int (nI j)] [] (x_mk K) k n mc ms Q) (hk : k ≤ mc) (hn : n ≤ ms) : x_WP E d 0 403 [.ref 4, .ref 64, .ref 142, .int (nI j)] [] (x_mk I) k n mc ms Q := by
  have hN : E.1 < 2 ^ 31 := by omega
  have hs := h
  obtain ⟨s, nn, w, hR, es, h0, ht, hi⟩ := hs
  obtain ⟨z, hC⟩ := w_two (op2.step (op_wash (d := d - 1) (a1 := E.2 (j + 1)) hR (by omega)) es h0 ht hi)
  refine wp_aload_n (r := 64) rfl rfl rfl ?_
  refine w_ld (c := 1) rfl rfl rfl (by decide) rfl rfl rfl rfl (by omega) hN ?_
  refine wp_invV (As := [.int (E.2 (j + 1))]) (d1 := d - 1) (mc1 := 0) (ms1 := 0) rfl (by decide) rfl rfl rfl (Nat.le_of_ble_eq_true rfl) (by omega) (by omega) (by omega) (kd_64 I) (by decide) rfl rfl hC (fun v M hv => ?_)
  obtain ⟨hv, J, e, hC2⟩ := hv
  rw [hv, e]
  refine wp_aload_n (r := 142) rfl rfl rfl ?_
  refine w_ld (c := 1) rfl rfl rfl (by decide) rfl rfl rfl rfl (by omega) hN ?_
  refine wp_invV (As := [.int (E.2 (j + 1))]) (d1 := d - 1) (mc1 := 0) (ms1 := 0) rfl (by decide) rfl rfl rfl (Nat.le_of_ble_eq_true rfl) (by omega) (by omega) (by omega) (kd_142 J) (by decide) rfl rfl hC2 (fun v M hv => ?_)
  obtain ⟨hv, K, e, hK⟩ := hv
  rw [hv, e]
  exact wp_icmp_eq rfl (fun _ => nx K hK) (fun c => absurd rfl c)
set_option maxRecDepth 100000 in
theorem law_16 {j : Nat} {I : Nat → Nat → Int32} (hE : E.1 ≤ 2560) (hd : 44 ≤ d) (hj : j + 5 ≤ E.1) (h : inv I) (nx : ∀ K, inv K → x_WP E d 0 757 [.ref 4, .ref 64, .ref 142, .int (nI j)] [] (x_mk K) k n mc ms Q) (hk : k ≤ mc) (hn : n ≤ ms) : x_WP E d 0 420 [.ref 4, .ref 64, .ref 142, .int (nI j)] [] (x_mk I) k n mc ms Q := by
  have hN : E.1 < 2 ^ 31 := by omega
  have hs := h
  obtain ⟨s, nn, w, hR, es, h0, ht, hi⟩ := hs
  obtain ⟨z, hC⟩ := w_two (op2.step (op_see (d := d - 1) (a1 := E.2 (j + 1)) (a2 := E.2 (j + 2)) (a3 := E.2 (j + 3)) hR (by omega)) es h0 ht hi)
  refine wp_aload_n (r := 64) rfl rfl rfl ?_
  refine w_ld (c := 1) rfl rfl rfl (by decide) rfl rfl rfl rfl (by omega) hN ?_
  refine w_ld (c := 2) rfl rfl rfl (by decide) rfl rfl rfl rfl (by omega) hN ?_
  refine w_ld (c := 3) rfl rfl rfl (by decide) rfl rfl rfl rfl (by omega) hN ?_
  refine wp_invV (As := [.int (E.2 (j + 1)), .int (E.2 (j + 2)), .int (E.2 (j + 3))]) (d1 := d - 1) (mc1 := 0) (ms1 := 0) rfl (by decide) rfl rfl rfl (Nat.le_of_ble_eq_true rfl) (by omega) (by omega) (by omega) (kd_64 I) (by decide) rfl rfl hC (fun v M hv => ?_)
  obtain ⟨hv, J, e, hC2⟩ := hv
  rw [hv, e]
  refine wp_aload_n (r := 142) rfl rfl rfl ?_
  refine w_ld (c := 1) rfl rfl rfl (by decide) rfl rfl rfl rfl (by omega) hN ?_
  refine w_ld (c := 2) rfl rfl rfl (by decide) rfl rfl rfl rfl (by omega) hN ?_
  refine w_ld (c := 3) rfl rfl rfl (by decide) rfl rfl rfl rfl (by omega) hN ?_
  refine wp_invV (As := [.int (E.2 (j + 1)), .int (E.2 (j + 2)), .int (E.2 (j + 3))]) (d1 := d - 1) (mc1 := 0) (ms1 := 0) rfl (by decide) rfl rfl rfl (Nat.le_of_ble_eq_true rfl) (by omega) (by omega) (by omega) (kd_142 J) (by decide) rfl rfl hC2 (fun v M hv => ?_)
  obtain ⟨hv, K, e, hK⟩ := hv
  rw [hv, e]
  exact wp_icmp_eq rfl (fun _ => nx K hK) (fun c => absurd rfl c)
set_option maxRecDepth 100000 in
theorem law_17 {j : Nat} {I : Nat → Nat → Int32} (hE : E.1 ≤ 2560) (hd : 44 ≤ d) (hj : j + 5 ≤ E.1) (h : inv I) (nx : ∀ K, inv K → x_WP E d 0 757 [.ref 4, .ref 64, .ref 142, .int (nI j)] [] (x_mk K) k n mc ms Q) (hk : k ≤ mc) (hn : n ≤ ms) : x_WP E d 0 457 [.ref 4, .ref 64, .ref 142, .int (nI j)] [] (x_mk I) k n mc ms Q := by
  have hN : E.1 < 2 ^ 31 := by omega
  have hs := h
  obtain ⟨s, nn, w, hR, es, h0, ht, hi⟩ := hs
  obtain ⟨z, hC⟩ := w_two (op2.step (op_highs (d := d - 1) (a1 := E.2 (j + 1)) (a2 := E.2 (j + 2)) hR (by omega)) es h0 ht hi)
  refine wp_aload_n (r := 64) rfl rfl rfl ?_
  refine w_ld (c := 1) rfl rfl rfl (by decide) rfl rfl rfl rfl (by omega) hN ?_
  refine w_ld (c := 2) rfl rfl rfl (by decide) rfl rfl rfl rfl (by omega) hN ?_
  refine wp_invV (As := [.int (E.2 (j + 1)), .int (E.2 (j + 2))]) (d1 := d - 1) (mc1 := 0) (ms1 := 0) rfl (by decide) rfl rfl rfl (Nat.le_of_ble_eq_true rfl) (by omega) (by omega) (by omega) (kd_64 I) (by decide) rfl rfl hC (fun v M hv => ?_)
  obtain ⟨hv, J, e, hC2⟩ := hv
  rw [hv, e]
  refine wp_aload_n (r := 142) rfl rfl rfl ?_
  refine w_ld (c := 1) rfl rfl rfl (by decide) rfl rfl rfl rfl (by omega) hN ?_
  refine w_ld (c := 2) rfl rfl rfl (by decide) rfl rfl rfl rfl (by omega) hN ?_
  refine wp_invV (As := [.int (E.2 (j + 1)), .int (E.2 (j + 2))]) (d1 := d - 1) (mc1 := 0) (ms1 := 0) rfl (by decide) rfl rfl rfl (Nat.le_of_ble_eq_true rfl) (by omega) (by omega) (by omega) (kd_142 J) (by decide) rfl rfl hC2 (fun v M hv => ?_)
  obtain ⟨hv, K, e, hK⟩ := hv
  rw [hv, e]
  exact wp_icmp_eq rfl (fun _ => nx K hK) (fun c => absurd rfl c)
set_option maxRecDepth 100000 in
theorem law_18 {j : Nat} {I : Nat → Nat → Int32} (hE : E.1 ≤ 2560) (hd : 44 ≤ d) (hj : j + 5 ≤ E.1) (h : inv I) (nx : ∀ K, inv K → x_WP E d 0 757 [.ref 4, .ref 64, .ref 142, .int (nI j)] [] (x_mk K) k n mc ms Q) (hk : k ≤ mc) (hn : n ≤ ms) : x_WP E d 0 484 [.ref 4, .ref 64, .ref 142, .int (nI j)] [] (x_mk I) k n mc ms Q := by
  have hN : E.1 < 2 ^ 31 := by omega
  have hs := h
  obtain ⟨s, nn, w, hR, es, h0, ht, hi⟩ := hs
  obtain ⟨z, hC⟩ := w_two (op2.step (op_firm (d := d - 1) (a1 := E.2 (j + 1)) (a2 := E.2 (j + 2)) hR (by omega)) es h0 ht hi)
  refine wp_aload_n (r := 64) rfl rfl rfl ?_
  refine w_ld (c := 1) rfl rfl rfl (by decide) rfl rfl rfl rfl (by omega) hN ?_
  refine w_ld (c := 2) rfl rfl rfl (by decide) rfl rfl rfl rfl (by omega) hN ?_
  refine wp_invV (As := [.int (E.2 (j + 1)), .int (E.2 (j + 2))]) (d1 := d - 1) (mc1 := 0) (ms1 := 0) rfl (by decide) rfl rfl rfl (Nat.le_of_ble_eq_true rfl) (by omega) (by omega) (by omega) (kd_64 I) (by decide) rfl rfl hC (fun v M hv => ?_)
  obtain ⟨hv, J, e, hC2⟩ := hv
  rw [hv, e]
  refine wp_aload_n (r := 142) rfl rfl rfl ?_
  refine w_ld (c := 1) rfl rfl rfl (by decide) rfl rfl rfl rfl (by omega) hN ?_
  refine w_ld (c := 2) rfl rfl rfl (by decide) rfl rfl rfl rfl (by omega) hN ?_
  refine wp_invV (As := [.int (E.2 (j + 1)), .int (E.2 (j + 2))]) (d1 := d - 1) (mc1 := 0) (ms1 := 0) rfl (by decide) rfl rfl rfl (Nat.le_of_ble_eq_true rfl) (by omega) (by omega) (by omega) (kd_142 J) (by decide) rfl rfl hC2 (fun v M hv => ?_)
  obtain ⟨hv, K, e, hK⟩ := hv
  rw [hv, e]
  exact wp_icmp_eq rfl (fun _ => nx K hK) (fun c => absurd rfl c)
set_option maxRecDepth 100000 in
theorem law_19 {j : Nat} {I : Nat → Nat → Int32} (hE : E.1 ≤ 2560) (hd : 44 ≤ d) (hj : j + 5 ≤ E.1) (h : inv I) (nx : ∀ K, inv K → x_WP E d 0 757 [.ref 4, .ref 64, .ref 142, .int (nI j)] [] (x_mk K) k n mc ms Q) (hk : k ≤ mc) (hn : n ≤ ms) : x_WP E d 0 511 [.ref 4, .ref 64, .ref 142, .int (nI j)] [] (x_mk I) k n mc ms Q := by
  have hN : E.1 < 2 ^ 31 := by omega
  have hs := h
  obtain ⟨s, nn, w, hR, es, h0, ht, hi⟩ := hs
  obtain ⟨z, hC⟩ := w_twoL (op2L.step (op_odds (d := d - 1) (a1 := E.2 (j + 1)) (a2 := E.2 (j + 2)) (a3 := E.2 (j + 3)) hR (by omega)) es h0 ht hi)
  refine wp_aload_n (r := 64) rfl rfl rfl ?_
  refine w_ld (c := 1) rfl rfl rfl (by decide) rfl rfl rfl rfl (by omega) hN ?_
  refine w_ld (c := 2) rfl rfl rfl (by decide) rfl rfl rfl rfl (by omega) hN ?_
  refine w_ld (c := 3) rfl rfl rfl (by decide) rfl rfl rfl rfl (by omega) hN ?_
  refine wp_invV (As := [.int (E.2 (j + 1)), .int (E.2 (j + 2)), .int (E.2 (j + 3))]) (d1 := d - 1) (mc1 := 0) (ms1 := 0) rfl (by decide) rfl rfl rfl (Nat.le_of_ble_eq_true rfl) (by omega) (by omega) (by omega) (kd_64 I) (by decide) rfl rfl hC (fun v M hv => ?_)
  obtain ⟨hv, J, e, hC2⟩ := hv
  rw [hv, e]
  refine wp_aload_n (r := 142) rfl rfl rfl ?_
  refine w_ld (c := 1) rfl rfl rfl (by decide) rfl rfl rfl rfl (by omega) hN ?_
  refine w_ld (c := 2) rfl rfl rfl (by decide) rfl rfl rfl rfl (by omega) hN ?_
  refine w_ld (c := 3) rfl rfl rfl (by decide) rfl rfl rfl rfl (by omega) hN ?_
  refine wp_invV (As := [.int (E.2 (j + 1)), .int (E.2 (j + 2)), .int (E.2 (j + 3))]) (d1 := d - 1) (mc1 := 0) (ms1 := 0) rfl (by decide) rfl rfl rfl (Nat.le_of_ble_eq_true rfl) (by omega) (by omega) (by omega) (kd_142 J) (by decide) rfl rfl hC2 (fun v M hv => ?_)
  obtain ⟨hv, K, e, hK⟩ := hv
  rw [hv, e]
  refine wp_lcmp rfl ?_
  exact wp_if_eq rfl (fun _ => nx K hK) (fun c => absurd ((lg_cmp_eq z z).mpr rfl) c)
set_option maxRecDepth 100000 in
theorem law_20 {j : Nat} {I : Nat → Nat → Int32} (hE : E.1 ≤ 2560) (hd : 44 ≤ d) (hj : j + 5 ≤ E.1) (h : inv I) (nx : ∀ K, inv K → x_WP E d 0 757 [.ref 4, .ref 64, .ref 142, .int (nI j)] [] (x_mk K) k n mc ms Q) (hk : k ≤ mc) (hn : n ≤ ms) : x_WP E d 0 549 [.ref 4, .ref 64, .ref 142, .int (nI j)] [] (x_mk I) k n mc ms Q := by
  have hN : E.1 < 2 ^ 31 := by omega
  have hs := h
  obtain ⟨s, nn, w, hR, es, h0, ht, hi⟩ := hs
  obtain ⟨z, hC⟩ := w_twoL (op2L.step (op_mean (d := d - 1) (a1 := E.2 (j + 1)) hR (by omega)) es h0 ht hi)
  refine wp_aload_n (r := 64) rfl rfl rfl ?_
  refine w_ld (c := 1) rfl rfl rfl (by decide) rfl rfl rfl rfl (by omega) hN ?_
  refine wp_invV (As := [.int (E.2 (j + 1))]) (d1 := d - 1) (mc1 := 0) (ms1 := 0) rfl (by decide) rfl rfl rfl (Nat.le_of_ble_eq_true rfl) (by omega) (by omega) (by omega) (kd_64 I) (by decide) rfl rfl hC (fun v M hv => ?_)
  obtain ⟨hv, J, e, hC2⟩ := hv
  rw [hv, e]
  refine wp_aload_n (r := 142) rfl rfl rfl ?_
  refine w_ld (c := 1) rfl rfl rfl (by decide) rfl rfl rfl rfl (by omega) hN ?_
  refine wp_invV (As := [.int (E.2 (j + 1))]) (d1 := d - 1) (mc1 := 0) (ms1 := 0) rfl (by decide) rfl rfl rfl (Nat.le_of_ble_eq_true rfl) (by omega) (by omega) (by omega) (kd_142 J) (by decide) rfl rfl hC2 (fun v M hv => ?_)
  obtain ⟨hv, K, e, hK⟩ := hv
  rw [hv, e]
  refine wp_lcmp rfl ?_
  exact wp_if_eq rfl (fun _ => nx K hK) (fun c => absurd ((lg_cmp_eq z z).mpr rfl) c)
set_option maxRecDepth 100000 in
theorem law_21 {j : Nat} {I : Nat → Nat → Int32} (hE : E.1 ≤ 2560) (hd : 44 ≤ d) (hj : j + 5 ≤ E.1) (h : inv I) (nx : ∀ K, inv K → x_WP E d 0 757 [.ref 4, .ref 64, .ref 142, .int (nI j)] [] (x_mk K) k n mc ms Q) (hk : k ≤ mc) (hn : n ≤ ms) : x_WP E d 0 567 [.ref 4, .ref 64, .ref 142, .int (nI j)] [] (x_mk I) k n mc ms Q := by
  have hN : E.1 < 2 ^ 31 := by omega
  have hs := h
  obtain ⟨s, nn, w, hR, es, h0, ht, hi⟩ := hs
  obtain ⟨z, hC⟩ := w_two (op2.step (op_plan (d := d - 1) (a1 := E.2 (j + 1)) (a2 := E.2 (j + 2)) hR (by omega)) es h0 ht hi)
  refine wp_aload_n (r := 64) rfl rfl rfl ?_
  refine w_ld (c := 1) rfl rfl rfl (by decide) rfl rfl rfl rfl (by omega) hN ?_
  refine w_ld (c := 2) rfl rfl rfl (by decide) rfl rfl rfl rfl (by omega) hN ?_
  refine wp_invV (As := [.int (E.2 (j + 1)), .int (E.2 (j + 2))]) (d1 := d - 1) (mc1 := 0) (ms1 := 0) rfl (by decide) rfl rfl rfl (Nat.le_of_ble_eq_true rfl) (by omega) (by omega) (by omega) (kd_64 I) (by decide) rfl rfl hC (fun v M hv => ?_)
  obtain ⟨hv, J, e, hC2⟩ := hv
  rw [hv, e]
  refine wp_aload_n (r := 142) rfl rfl rfl ?_
  refine w_ld (c := 1) rfl rfl rfl (by decide) rfl rfl rfl rfl (by omega) hN ?_
  refine w_ld (c := 2) rfl rfl rfl (by decide) rfl rfl rfl rfl (by omega) hN ?_
  refine wp_invV (As := [.int (E.2 (j + 1)), .int (E.2 (j + 2))]) (d1 := d - 1) (mc1 := 0) (ms1 := 0) rfl (by decide) rfl rfl rfl (Nat.le_of_ble_eq_true rfl) (by omega) (by omega) (by omega) (kd_142 J) (by decide) rfl rfl hC2 (fun v M hv => ?_)
  obtain ⟨hv, K, e, hK⟩ := hv
  rw [hv, e]
  exact wp_icmp_eq rfl (fun _ => nx K hK) (fun c => absurd rfl c)
set_option maxRecDepth 100000 in
theorem law_22 {j : Nat} {I : Nat → Nat → Int32} (hE : E.1 ≤ 2560) (hd : 44 ≤ d) (hj : j + 5 ≤ E.1) (h : inv I) (nx : ∀ K, inv K → x_WP E d 0 757 [.ref 4, .ref 64, .ref 142, .int (nI j)] [] (x_mk K) k n mc ms Q) (hk : k ≤ mc) (hn : n ≤ ms) : x_WP E d 0 594 [.ref 4, .ref 64, .ref 142, .int (nI j)] [] (x_mk I) k n mc ms Q := by
  have hN : E.1 < 2 ^ 31 := by omega
  have hs := h
  obtain ⟨s, nn, w, hR, es, h0, ht, hi⟩ := hs
  obtain ⟨z, hC⟩ := w_two (op2.step (op_done (d := d - 1) (a1 := E.2 (j + 1)) hR (by omega)) es h0 ht hi)
  refine wp_aload_n (r := 64) rfl rfl rfl ?_
  refine w_ld (c := 1) rfl rfl rfl (by decide) rfl rfl rfl rfl (by omega) hN ?_
  refine wp_invV (As := [.int (E.2 (j + 1))]) (d1 := d - 1) (mc1 := 0) (ms1 := 0) rfl (by decide) rfl rfl rfl (Nat.le_of_ble_eq_true rfl) (by omega) (by omega) (by omega) (kd_64 I) (by decide) rfl rfl hC (fun v M hv => ?_)
  obtain ⟨hv, J, e, hC2⟩ := hv
  rw [hv, e]
  refine wp_aload_n (r := 142) rfl rfl rfl ?_
  refine w_ld (c := 1) rfl rfl rfl (by decide) rfl rfl rfl rfl (by omega) hN ?_
  refine wp_invV (As := [.int (E.2 (j + 1))]) (d1 := d - 1) (mc1 := 0) (ms1 := 0) rfl (by decide) rfl rfl rfl (Nat.le_of_ble_eq_true rfl) (by omega) (by omega) (by omega) (kd_142 J) (by decide) rfl rfl hC2 (fun v M hv => ?_)
  obtain ⟨hv, K, e, hK⟩ := hv
  rw [hv, e]
  exact wp_icmp_eq rfl (fun _ => nx K hK) (fun c => absurd rfl c)
set_option maxRecDepth 100000 in
theorem law_23 {j : Nat} {I : Nat → Nat → Int32} (hE : E.1 ≤ 2560) (hd : 44 ≤ d) (hj : j + 5 ≤ E.1) (h : inv I) (nx : ∀ K, inv K → x_WP E d 0 757 [.ref 4, .ref 64, .ref 142, .int (nI j)] [] (x_mk K) k n mc ms Q) (hk : k ≤ mc) (hn : n ≤ ms) : x_WP E d 0 611 [.ref 4, .ref 64, .ref 142, .int (nI j)] [] (x_mk I) k n mc ms Q := by
  have hN : E.1 < 2 ^ 31 := by omega
  have hs := h
  obtain ⟨s, nn, w, hR, es, h0, ht, hi⟩ := hs
  obtain ⟨z, hC⟩ := w_two (op2.step (op_book (d := d - 1) (a1 := E.2 (j + 1)) (a2 := E.2 (j + 2)) hR (by omega)) es h0 ht hi)
  refine wp_aload_n (r := 64) rfl rfl rfl ?_
  refine w_ld (c := 1) rfl rfl rfl (by decide) rfl rfl rfl rfl (by omega) hN ?_
  refine w_ld (c := 2) rfl rfl rfl (by decide) rfl rfl rfl rfl (by omega) hN ?_
  refine wp_invV (As := [.int (E.2 (j + 1)), .int (E.2 (j + 2))]) (d1 := d - 1) (mc1 := 0) (ms1 := 0) rfl (by decide) rfl rfl rfl (Nat.le_of_ble_eq_true rfl) (by omega) (by omega) (by omega) (kd_64 I) (by decide) rfl rfl hC (fun v M hv => ?_)
  obtain ⟨hv, J, e, hC2⟩ := hv
  rw [hv, e]
  refine wp_aload_n (r := 142) rfl rfl rfl ?_
  refine w_ld (c := 1) rfl rfl rfl (by decide) rfl rfl rfl rfl (by omega) hN ?_
  refine w_ld (c := 2) rfl rfl rfl (by decide) rfl rfl rfl rfl (by omega) hN ?_
  refine wp_invV (As := [.int (E.2 (j + 1)), .int (E.2 (j + 2))]) (d1 := d - 1) (mc1 := 0) (ms1 := 0) rfl (by decide) rfl rfl rfl (Nat.le_of_ble_eq_true rfl) (by omega) (by omega) (by omega) (kd_142 J) (by decide) rfl rfl hC2 (fun v M hv => ?_)
  obtain ⟨hv, K, e, hK⟩ := hv
  rw [hv, e]
  exact wp_icmp_eq rfl (fun _ => nx K hK) (fun c => absurd rfl c)
set_option maxRecDepth 100000 in
theorem law_24 {j : Nat} {I : Nat → Nat → Int32} (hE : E.1 ≤ 2560) (hd : 44 ≤ d) (hj : j + 5 ≤ E.1) (h : inv I) (nx : ∀ K, inv K → x_WP E d 0 757 [.ref 4, .ref 64, .ref 142, .int (nI j)] [] (x_mk K) k n mc ms Q) (hk : k ≤ mc) (hn : n ≤ ms) : x_WP E d 0 638 [.ref 4, .ref 64, .ref 142, .int (nI j)] [] (x_mk I) k n mc ms Q := by
  have hN : E.1 < 2 ^ 31 := by omega
  have hs := h
  obtain ⟨s, nn, w, hR, es, h0, ht, hi⟩ := hs
  obtain ⟨z, hC⟩ := w_two (op2.step (op_looked (d := d - 1)  hR (by omega)) es h0 ht hi)
  refine wp_aload_n (r := 64) rfl rfl rfl ?_
  refine wp_invV (As := []) (d1 := d - 1) (mc1 := 0) (ms1 := 0) rfl (by decide) rfl rfl rfl (Nat.le_of_ble_eq_true rfl) (by omega) (by omega) (by omega) (kd_64 I) (by decide) rfl rfl hC (fun v M hv => ?_)
  obtain ⟨hv, J, e, hC2⟩ := hv
  rw [hv, e]
  refine wp_aload_n (r := 142) rfl rfl rfl ?_
  refine wp_invV (As := []) (d1 := d - 1) (mc1 := 0) (ms1 := 0) rfl (by decide) rfl rfl rfl (Nat.le_of_ble_eq_true rfl) (by omega) (by omega) (by omega) (kd_142 J) (by decide) rfl rfl hC2 (fun v M hv => ?_)
  obtain ⟨hv, K, e, hK⟩ := hv
  rw [hv, e]
  exact wp_icmp_eq rfl (fun _ => nx K hK) (fun c => absurd rfl c)
set_option maxRecDepth 100000 in
theorem law_25 {j : Nat} {I : Nat → Nat → Int32} (hE : E.1 ≤ 2560) (hd : 44 ≤ d) (hj : j + 5 ≤ E.1) (h : inv I) (nx : ∀ K, inv K → x_WP E d 0 757 [.ref 4, .ref 64, .ref 142, .int (nI j)] [] (x_mk K) k n mc ms Q) (hk : k ≤ mc) (hn : n ≤ ms) : x_WP E d 0 645 [.ref 4, .ref 64, .ref 142, .int (nI j)] [] (x_mk I) k n mc ms Q := by
  have hN : E.1 < 2 ^ 31 := by omega
  obtain ⟨z, hC⟩ := w_two (st_act (d := d - 1) (a1 := E.2 (j + 1)) (a2 := E.2 (j + 2)) (a3 := E.2 (j + 3)) h (by omega))
  refine wp_aload_n (r := 64) rfl rfl rfl ?_
  refine w_ld (c := 1) rfl rfl rfl (by decide) rfl rfl rfl rfl (by omega) hN ?_
  refine w_ld (c := 2) rfl rfl rfl (by decide) rfl rfl rfl rfl (by omega) hN ?_
  refine w_ld (c := 3) rfl rfl rfl (by decide) rfl rfl rfl rfl (by omega) hN ?_
  refine wp_invV (As := [.int (E.2 (j + 1)), .int (E.2 (j + 2)), .int (E.2 (j + 3))]) (d1 := d - 1) (mc1 := 0) (ms1 := 0) rfl (by decide) rfl rfl rfl (Nat.le_of_ble_eq_true rfl) (by omega) (by omega) (by omega) (kd_64 I) (by decide) rfl rfl hC (fun v M hv => ?_)
  obtain ⟨hv, J, e, hC2⟩ := hv
  rw [hv, e]
  refine wp_aload_n (r := 142) rfl rfl rfl ?_
  refine w_ld (c := 1) rfl rfl rfl (by decide) rfl rfl rfl rfl (by omega) hN ?_
  refine w_ld (c := 2) rfl rfl rfl (by decide) rfl rfl rfl rfl (by omega) hN ?_
  refine w_ld (c := 3) rfl rfl rfl (by decide) rfl rfl rfl rfl (by omega) hN ?_
  refine wp_invV (As := [.int (E.2 (j + 1)), .int (E.2 (j + 2)), .int (E.2 (j + 3))]) (d1 := d - 1) (mc1 := 0) (ms1 := 0) rfl (by decide) rfl rfl rfl (Nat.le_of_ble_eq_true rfl) (by omega) (by omega) (by omega) (kd_142 J) (by decide) rfl rfl hC2 (fun v M hv => ?_)
  obtain ⟨hv, K, e, hK⟩ := hv
  rw [hv, e]
  exact wp_icmp_eq rfl (fun _ => nx K hK) (fun c => absurd rfl c)
set_option maxRecDepth 100000 in
theorem law_26 {j : Nat} {I : Nat → Nat → Int32} (hE : E.1 ≤ 2560) (hd : 44 ≤ d) (hj : j + 5 ≤ E.1) (h : inv I) (nx : ∀ K, inv K → x_WP E d 0 757 [.ref 4, .ref 64, .ref 142, .int (nI j)] [] (x_mk K) k n mc ms Q) (hk : k ≤ mc) (hn : n ≤ ms) : x_WP E d 0 682 [.ref 4, .ref 64, .ref 142, .int (nI j)] [] (x_mk I) k n mc ms Q := by
  have hN : E.1 < 2 ^ 31 := by omega
  obtain ⟨z, hC⟩ := w_two (st_trace (d := d - 1) (a1 := E.2 (j + 1)) h (by omega))
  refine wp_aload_n (r := 64) rfl rfl rfl ?_
  refine w_ld (c := 1) rfl rfl rfl (by decide) rfl rfl rfl rfl (by omega) hN ?_
  refine wp_invV (As := [.int (E.2 (j + 1))]) (d1 := d - 1) (mc1 := 0) (ms1 := 0) rfl (by decide) rfl rfl rfl (Nat.le_of_ble_eq_true rfl) (by omega) (by omega) (by omega) (kd_64 I) (by decide) rfl rfl hC (fun v M hv => ?_)
  obtain ⟨hv, J, e, hC2⟩ := hv
  rw [hv, e]
  refine wp_aload_n (r := 142) rfl rfl rfl ?_
  refine w_ld (c := 1) rfl rfl rfl (by decide) rfl rfl rfl rfl (by omega) hN ?_
  refine wp_invV (As := [.int (E.2 (j + 1))]) (d1 := d - 1) (mc1 := 0) (ms1 := 0) rfl (by decide) rfl rfl rfl (Nat.le_of_ble_eq_true rfl) (by omega) (by omega) (by omega) (kd_142 J) (by decide) rfl rfl hC2 (fun v M hv => ?_)
  obtain ⟨hv, K, e, hK⟩ := hv
  rw [hv, e]
  exact wp_icmp_eq rfl (fun _ => nx K hK) (fun c => absurd rfl c)
set_option maxRecDepth 100000 in
theorem law_27 {j : Nat} {I : Nat → Nat → Int32} (hE : E.1 ≤ 2560) (hd : 44 ≤ d) (hj : j + 5 ≤ E.1) (h : inv I) (nx : ∀ K, inv K → x_WP E d 0 757 [.ref 4, .ref 64, .ref 142, .int (nI j)] [] (x_mk K) k n mc ms Q) (hk : k ≤ mc) (hn : n ≤ ms) : x_WP E d 0 699 [.ref 4, .ref 64, .ref 142, .int (nI j)] [] (x_mk I) k n mc ms Q := by
  have hN : E.1 < 2 ^ 31 := by omega
  have hs := h
  obtain ⟨s, nn, w, hR, es, h0, ht, hi⟩ := hs
  obtain ⟨z, hC⟩ := w_two (op2.step (op_as (d := d - 1) (a1 := E.2 (j + 1)) (a2 := E.2 (j + 2)) hR (by omega)) es h0 ht hi)
  refine wp_aload_n (r := 64) rfl rfl rfl ?_
  refine w_ld (c := 1) rfl rfl rfl (by decide) rfl rfl rfl rfl (by omega) hN ?_
  refine w_ld (c := 2) rfl rfl rfl (by decide) rfl rfl rfl rfl (by omega) hN ?_
  refine wp_invV (As := [.int (E.2 (j + 1)), .int (E.2 (j + 2))]) (d1 := d - 1) (mc1 := 0) (ms1 := 0) rfl (by decide) rfl rfl rfl (Nat.le_of_ble_eq_true rfl) (by omega) (by omega) (by omega) (kd_64 I) (by decide) rfl rfl hC (fun v M hv => ?_)
  obtain ⟨hv, J, e, hC2⟩ := hv
  rw [hv, e]
  refine wp_aload_n (r := 142) rfl rfl rfl ?_
  refine w_ld (c := 1) rfl rfl rfl (by decide) rfl rfl rfl rfl (by omega) hN ?_
  refine w_ld (c := 2) rfl rfl rfl (by decide) rfl rfl rfl rfl (by omega) hN ?_
  refine wp_invV (As := [.int (E.2 (j + 1)), .int (E.2 (j + 2))]) (d1 := d - 1) (mc1 := 0) (ms1 := 0) rfl (by decide) rfl rfl rfl (Nat.le_of_ble_eq_true rfl) (by omega) (by omega) (by omega) (kd_142 J) (by decide) rfl rfl hC2 (fun v M hv => ?_)
  obtain ⟨hv, K, e, hK⟩ := hv
  rw [hv, e]
  exact wp_icmp_eq rfl (fun _ => nx K hK) (fun c => absurd rfl c)
set_option maxRecDepth 100000 in
theorem law_28 {j : Nat} {I : Nat → Nat → Int32} (hE : E.1 ≤ 2560) (hd : 44 ≤ d) (hj : j + 5 ≤ E.1) (h : inv I) (nx : ∀ K, inv K → x_WP E d 0 757 [.ref 4, .ref 64, .ref 142, .int (nI j)] [] (x_mk K) k n mc ms Q) (hk : k ≤ mc) (hn : n ≤ ms) : x_WP E d 0 726 [.ref 4, .ref 64, .ref 142, .int (nI j)] [] (x_mk I) k n mc ms Q := by
  have hN : E.1 < 2 ^ 31 := by omega
  obtain ⟨z, hC⟩ := w_two (st_image (d := d - 1)  h (by omega))
  refine wp_aload_n (r := 64) rfl rfl rfl ?_
  refine wp_invV (As := []) (d1 := d - 1) (mc1 := 0) (ms1 := 0) rfl (by decide) rfl rfl rfl (Nat.le_of_ble_eq_true rfl) (by omega) (by omega) (by omega) (kd_64 I) (by decide) rfl rfl hC (fun v M hv => ?_)
  obtain ⟨hv, J, e, hC2⟩ := hv
  rw [hv, e]
  refine wp_aload_n (r := 142) rfl rfl rfl ?_
  refine wp_invV (As := []) (d1 := d - 1) (mc1 := 0) (ms1 := 0) rfl (by decide) rfl rfl rfl (Nat.le_of_ble_eq_true rfl) (by omega) (by omega) (by omega) (kd_142 J) (by decide) rfl rfl hC2 (fun v M hv => ?_)
  obtain ⟨hv, K, e, hK⟩ := hv
  rw [hv, e]
  exact wp_icmp_eq rfl (fun _ => nx K hK) (fun c => absurd rfl c)
set_option maxRecDepth 100000 in
theorem law_29 {j : Nat} {I : Nat → Nat → Int32} (hE : E.1 ≤ 2560) (hd : 44 ≤ d) (hj : j + 5 ≤ E.1) (h : inv I) (nx : ∀ K, inv K → x_WP E d 0 757 [.ref 4, .ref 64, .ref 142, .int (nI j)] [] (x_mk K) k n mc ms Q) (hk : k ≤ mc) (hn : n ≤ ms) : x_WP E d 0 733 [.ref 4, .ref 64, .ref 142, .int (nI j)] [] (x_mk I) k n mc ms Q := by
  have hN : E.1 < 2 ^ 31 := by omega
  obtain ⟨z, hC⟩ := w_two (st_undo (d := d - 1)  h (by omega))
  refine wp_aload_n (r := 64) rfl rfl rfl ?_
  refine wp_invV (As := []) (d1 := d - 1) (mc1 := 0) (ms1 := 0) rfl (by decide) rfl rfl rfl (Nat.le_of_ble_eq_true rfl) (by omega) (by omega) (by omega) (kd_64 I) (by decide) rfl rfl hC (fun v M hv => ?_)
  obtain ⟨hv, J, e, hC2⟩ := hv
  rw [hv, e]
  refine wp_aload_n (r := 142) rfl rfl rfl ?_
  refine wp_invV (As := []) (d1 := d - 1) (mc1 := 0) (ms1 := 0) rfl (by decide) rfl rfl rfl (Nat.le_of_ble_eq_true rfl) (by omega) (by omega) (by omega) (kd_142 J) (by decide) rfl rfl hC2 (fun v M hv => ?_)
  obtain ⟨hv, K, e, hK⟩ := hv
  rw [hv, e]
  exact wp_icmp_eq rfl (fun _ => nx K hK) (fun c => absurd rfl c)
set_option maxRecDepth 100000 in
theorem law_30 {j : Nat} {I : Nat → Nat → Int32} (hE : E.1 ≤ 2560) (hd : 44 ≤ d) (hj : j + 5 ≤ E.1) (h : inv I) (nx : ∀ K, inv K → x_WP E d 0 757 [.ref 4, .ref 64, .ref 142, .int (nI j)] [] (x_mk K) k n mc ms Q) (hk : k ≤ mc) (hn : n ≤ ms) : x_WP E d 0 740 [.ref 4, .ref 64, .ref 142, .int (nI j)] [] (x_mk I) k n mc ms Q := by
  have hN : E.1 < 2 ^ 31 := by omega
  obtain ⟨z, hC⟩ := w_two (st_count (d := d - 1) (a1 := E.2 (j + 1)) h (by omega))
  refine wp_aload_n (r := 64) rfl rfl rfl ?_
  refine w_ld (c := 1) rfl rfl rfl (by decide) rfl rfl rfl rfl (by omega) hN ?_
  refine wp_invV (As := [.int (E.2 (j + 1))]) (d1 := d - 1) (mc1 := 0) (ms1 := 0) rfl (by decide) rfl rfl rfl (Nat.le_of_ble_eq_true rfl) (by omega) (by omega) (by omega) (kd_64 I) (by decide) rfl rfl hC (fun v M hv => ?_)
  obtain ⟨hv, J, e, hC2⟩ := hv
  rw [hv, e]
  refine wp_aload_n (r := 142) rfl rfl rfl ?_
  refine w_ld (c := 1) rfl rfl rfl (by decide) rfl rfl rfl rfl (by omega) hN ?_
  refine wp_invV (As := [.int (E.2 (j + 1))]) (d1 := d - 1) (mc1 := 0) (ms1 := 0) rfl (by decide) rfl rfl rfl (Nat.le_of_ble_eq_true rfl) (by omega) (by omega) (by omega) (kd_142 J) (by decide) rfl rfl hC2 (fun v M hv => ?_)
  obtain ⟨hv, K, e, hK⟩ := hv
  rw [hv, e]
  exact wp_icmp_eq rfl (fun _ => nx K hK) (fun c => absurd rfl c)
set_option maxRecDepth 100000 in
theorem law_loop (hE : E.1 ≤ 2560) (hd : 44 ≤ d) (hk : k ≤ mc) (hn : n ≤ ms) (hQ : ∀ K, inv K → Q (some (.int 1)) (x_mk K)) : ∀ r j (I : Nat → Nat → Int32), j + r = 2600 → inv I → x_WP E d 0 10 [.ref 4, .ref 64, .ref 142, .int (nI j)] [] (x_mk I) k n mc ms Q := by
  have hN : E.1 < 2 ^ 31 := by omega
  intro r
  induction r using Nat.strongRecOn with
  | ind r ih =>
    intro j I hj h
    refine wp_iload_n rfl rfl rfl (wp_aload_n rfl rfl rfl (wp_alenX (N := E.1) (ty := .int) (f := E.2) (v := nI E.1) rfl rfl rfl (wp_iconst (v := (5 : Int32)) rfl (by decide) (wp_isub rfl (wp_icmp_gt rfl (fun _ => ?_) (fun c => ?_))))))
    · refine wp_iconst (v := (1 : Int32)) rfl (by decide) ?_
      exact wp_iret rfl rfl rfl hk hn (hQ I h)
    have hin := lp_in hE (by omega) c
    have nx : ∀ K, inv K → x_WP E d 0 757 [.ref 4, .ref 64, .ref 142, .int (nI j)] [] (x_mk K) k n mc ms Q := fun K hK => by
      refine wp_iinc (v := nI (j + 5)) (L' := [.ref 4, .ref 64, .ref 142, .int (nI (j + 5))]) rfl rfl (nI_add j 5) rfl rfl ?_
      refine wp_goto rfl ?_
      exact ih (r - 5) (by omega) (j + 5) K (by omega) hK
    refine wp_aload_n rfl rfl rfl (wp_iload_n rfl rfl rfl (wp_ialdX (N := E.1) (f := E.2) rfl rfl (vp_in_nI (by omega) hN) (wp_bipush (v := (31 : Int32)) rfl (by decide) (wp_iand rfl ?_))))
    rw [nI_clamp (by omega)]
    obtain ⟨c, hc, e⟩ := sw_lt (E.2 j)
    rw [e]
    match c, hc with
    | 0, _ => exact wp_tswIn (j := 0) rfl rfl (by decide) (law_0 hE hd hin h nx hk hn)
    | 1, _ => exact wp_tswIn (j := 1) rfl rfl (by decide) (law_1 hE hd hin h nx hk hn)
    | 2, _ => exact wp_tswIn (j := 2) rfl rfl (by decide) (law_2 hE hd hin h nx hk hn)
    | 3, _ => exact wp_tswIn (j := 3) rfl rfl (by decide) (law_3 hE hd hin h nx hk hn)
    | 4, _ => exact wp_tswIn (j := 4) rfl rfl (by decide) (law_4 hE hd hin h nx hk hn)
    | 5, _ => exact wp_tswIn (j := 5) rfl rfl (by decide) (law_5 hE hd hin h nx hk hn)
    | 6, _ => exact wp_tswIn (j := 6) rfl rfl (by decide) (law_6 hE hd hin h nx hk hn)
    | 7, _ => exact wp_tswIn (j := 7) rfl rfl (by decide) (law_7 hE hd hin h nx hk hn)
    | 8, _ => exact wp_tswIn (j := 8) rfl rfl (by decide) (law_8 hE hd hin h nx hk hn)
    | 9, _ => exact wp_tswIn (j := 9) rfl rfl (by decide) (law_9 hE hd hin h nx hk hn)
    | 10, _ => exact wp_tswIn (j := 10) rfl rfl (by decide) (law_10 hE hd hin h nx hk hn)
    | 11, _ => exact wp_tswIn (j := 11) rfl rfl (by decide) (law_11 hE hd hin h nx hk hn)
    | 12, _ => exact wp_tswIn (j := 12) rfl rfl (by decide) (law_12 hE hd hin h nx hk hn)
    | 13, _ => exact wp_tswIn (j := 13) rfl rfl (by decide) (law_13 hE hd hin h nx hk hn)
    | 14, _ => exact wp_tswIn (j := 14) rfl rfl (by decide) (law_14 hE hd hin h nx hk hn)
    | 15, _ => exact wp_tswIn (j := 15) rfl rfl (by decide) (law_15 hE hd hin h nx hk hn)
    | 16, _ => exact wp_tswIn (j := 16) rfl rfl (by decide) (law_16 hE hd hin h nx hk hn)
    | 17, _ => exact wp_tswIn (j := 17) rfl rfl (by decide) (law_17 hE hd hin h nx hk hn)
    | 18, _ => exact wp_tswIn (j := 18) rfl rfl (by decide) (law_18 hE hd hin h nx hk hn)
    | 19, _ => exact wp_tswIn (j := 19) rfl rfl (by decide) (law_19 hE hd hin h nx hk hn)
    | 20, _ => exact wp_tswIn (j := 20) rfl rfl (by decide) (law_20 hE hd hin h nx hk hn)
    | 21, _ => exact wp_tswIn (j := 21) rfl rfl (by decide) (law_21 hE hd hin h nx hk hn)
    | 22, _ => exact wp_tswIn (j := 22) rfl rfl (by decide) (law_22 hE hd hin h nx hk hn)
    | 23, _ => exact wp_tswIn (j := 23) rfl rfl (by decide) (law_23 hE hd hin h nx hk hn)
    | 24, _ => exact wp_tswIn (j := 24) rfl rfl (by decide) (law_24 hE hd hin h nx hk hn)
    | 25, _ => exact wp_tswIn (j := 25) rfl rfl (by decide) (law_25 hE hd hin h nx hk hn)
    | 26, _ => exact wp_tswIn (j := 26) rfl rfl (by decide) (law_26 hE hd hin h nx hk hn)
    | 27, _ => exact wp_tswIn (j := 27) rfl rfl (by decide) (law_27 hE hd hin h nx hk hn)
    | 28, _ => exact wp_tswIn (j := 28) rfl rfl (by decide) (law_28 hE hd hin h nx hk hn)
    | 29, _ => exact wp_tswIn (j := 29) rfl rfl (by decide) (law_29 hE hd hin h nx hk hn)
    | 30, _ => exact wp_tswIn (j := 30) rfl rfl (by decide) (law_30 hE hd hin h nx hk hn)
    | 31, _ => exact wp_tswOut rfl (Or.inr (by decide)) (nx I h)
    | c + 32, hc => exact absurd hc (by omega)
end LAW
