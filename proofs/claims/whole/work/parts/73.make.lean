/-! ===== the constructors: what they make ===== -/
def kRef (M : XM) (q b r : Nat) : XM := (M.1, x_up M.2.1 q b (.ref r), M.2.2)
def kInt (M : XM) (q b : Nat) (x : Int32) : XM := (M.1, M.2.1, x_up M.2.2 q b x)
def kArr (M : XM) (q b kd N : Nat) : XM := kRef (x_new M kd N) q b (64 + M.1.length)
def kObj (f : XM → Nat → XM) (M : XM) (q b kd N : Nat) : XM := kRef (f (x_new M kd N) (64 + M.1.length)) q b (64 + M.1.length)
def kMan (M : XM) (q : Nat) : XM := kArr M q 8 100 4
def kActor (M : XM) (q : Nat) : XM := kArr M q 0 100 20
def kPair (M : XM) (q : Nat) : XM := kArr M q 0 100 64
def kRows (M : XM) (q : Nat) : XM := kArr (kArr (kArr M q 0 100 8) q 1 100 8) q 2 100 8
def kTown (M : XM) (q : Nat) : XM := kArr (kArr (kArr (kArr (kInt M q 0 90) q 2 100 10) q 3 100 10) q 4 100 100) q 6 100 6
def kReader (M : XM) (q : Nat) : XM := kArr (kObj kTown M q 0 5 7) q 1 101 100
def kMen (a : Nat) : Nat → XM → XM
  | 0, M => M
  | j + 1, M => kRef (kMan (x_new (kMen a j M) 1 9) (64 + (kMen a j M).1.length)) a j (64 + (kMen a j M).1.length)
def kWor0 (M : XM) (q : Nat) : XM := kObj kRows (kObj kRows (kObj kRows (kObj kTown (kArr (kArr M q 0 103 6) q 3 101 100) q 5 5 7) q 7 4 4) q 8 4 4) q 9 4 4
def kWorld (M : XM) (q : Nat) : XM := kMen (64 + M.1.length) 6 (kWor0 M q)
def kClass (M : XM) (q : Nat) : XM := kObj kPair (kObj kActor (kObj kReader (kObj kMan (kObj kWorld (kObj kWorld M q 0 6 10) q 1 6 10) q 3 1 9) q 4 3 5) q 5 0 2) q 6 2 1
def kMod0 (M : XM) (q : Nat) : XM := kArr (kArr (kArr (kArr (kArr (kArr (kArr (kArr M q 1 100 931) q 2 100 931) q 3 100 31) q 10 100 6) q 11 102 64) q 12 100 6) q 13 100 6) q 15 100 20
def kModel (M : XM) (q : Nat) : XM := kInt (kMod0 M q) (64 + M.1.length) 37 (-1 : Int32)
theorem kd_app {M M' : XM} {l : List (Nat × Nat)} {q : Nat} {r : Nat × Nat} (h : M'.1 = M.1 ++ l) (hq : x_kd M q = some r) : x_kd M' q = some r := by
  obtain ⟨h1, h2⟩ := x_kd_lt hq
  unfold x_kd
  rw [if_neg h1, h, List.getElem?_append_left (by rw [List.getElem?_eq_some_iff] at h2; exact h2.1), h2]
theorem kd_new {M : XM} {kd N : Nat} : x_kd (x_new M kd N) (64 + M.1.length) = some (kd, N) := by
  unfold x_kd x_new
  rw [if_neg (by omega), Nat.add_sub_cancel_left]
  simp
theorem kObj_1 {f : XM → Nat → XM} {M : XM} {q b kd N : Nat} {l : List (Nat × Nat)} (h : (f (x_new M kd N) (64 + M.1.length)).1 = (x_new M kd N).1 ++ l) : (kObj f M q b kd N).1 = M.1 ++ ((kd, N) :: l) := by
  show (f (x_new M kd N) (64 + M.1.length)).1 = _
  rw [h]
  show (M.1 ++ [(kd, N)]) ++ l = _
  rw [List.append_assoc]
  rfl
theorem kMan_1 {M : XM} {q : Nat} : (kMan M q).1 = M.1 ++ [(100, 4)] := rfl
theorem kActor_1 {M : XM} {q : Nat} : (kActor M q).1 = M.1 ++ [(100, 20)] := rfl
theorem kPair_1 {M : XM} {q : Nat} : (kPair M q).1 = M.1 ++ [(100, 64)] := rfl
theorem kRows_1 {M : XM} {q : Nat} : (kRows M q).1 = M.1 ++ [(100, 8), (100, 8), (100, 8)] := by
  show ((M.1 ++ [(100, 8)]) ++ [(100, 8)]) ++ [(100, 8)] = _
  simp
theorem kTown_1 {M : XM} {q : Nat} : (kTown M q).1 = M.1 ++ [(100, 10), (100, 10), (100, 100), (100, 6)] := by
  show (((M.1 ++ [(100, 10)]) ++ [(100, 10)]) ++ [(100, 100)]) ++ [(100, 6)] = _
  simp
theorem kReader_1 {M : XM} {q : Nat} : (kReader M q).1 = M.1 ++ [(5, 7), (100, 10), (100, 10), (100, 100), (100, 6), (101, 100)] := by
  show (kObj kTown M q 0 5 7).1 ++ [(101, 100)] = _
  rw [kObj_1 kTown_1]
  simp
theorem kMen_1 {a : Nat} {M : XM} : ∀ j, ∃ l, (kMen a j M).1 = M.1 ++ l
  | 0 => ⟨[], by rw [List.append_nil]; rfl⟩
  | j + 1 => by
    obtain ⟨l, h⟩ := kMen_1 (a := a) (M := M) j
    refine ⟨l ++ [(1, 9), (100, 4)], ?_⟩
    show ((kMen a j M).1 ++ [(1, 9)]) ++ [(100, 4)] = _
    rw [h]
    simp
theorem kWor0_1 {M : XM} {q : Nat} : ∃ l, (kWor0 M q).1 = M.1 ++ ((103, 6) :: l) := by
  refine ⟨[(101, 100), (5, 7), (100, 10), (100, 10), (100, 100), (100, 6), (4, 4), (100, 8), (100, 8), (100, 8), (4, 4), (100, 8), (100, 8), (100, 8), (4, 4), (100, 8), (100, 8), (100, 8)], ?_⟩
  unfold kWor0
  rw [kObj_1 kRows_1, kObj_1 kRows_1, kObj_1 kRows_1, kObj_1 kTown_1]
  show ((((((M.1 ++ [(103, 6)]) ++ [(101, 100)]) ++ _) ++ _) ++ _) ++ _) = _
  simp only [List.append_assoc]
  rfl
theorem kWorld_1 {M : XM} {q : Nat} : ∃ l, (kWorld M q).1 = M.1 ++ l := by
  obtain ⟨l, h⟩ := kWor0_1 (M := M) (q := q)
  obtain ⟨l2, h2⟩ := kMen_1 (a := 64 + M.1.length) (M := kWor0 M q) 6
  exact ⟨((103, 6) :: l) ++ l2, by
    show (kMen (64 + M.1.length) 6 (kWor0 M q)).1 = _
    rw [h2, h, List.append_assoc]⟩
theorem up_o {V : Type} {g : Nat → Nat → V} {q b q' b' : Nat} {x : V} (h : q' ≠ q ∨ b' ≠ b) : x_up g q b x q' b' = g q' b' := by
  unfold x_up
  rw [if_neg (by omega)]
theorem up_i {V : Type} {g : Nat → Nat → V} {q b : Nat} {x : V} : x_up g q b x q b = x := by
  unfold x_up
  rw [if_pos ⟨rfl, rfl⟩]
theorem new_r {M : XM} {kd N q b : Nat} (h : q < 64 + M.1.length) : (x_new M kd N).2.1 q b = M.2.1 q b := by
  unfold x_new
  exact if_neg (by omega)
theorem kRef_r {M : XM} {q b r q' b' : Nat} (h : q' ≠ q ∨ b' ≠ b) : (kRef M q b r).2.1 q' b' = M.2.1 q' b' := up_o h
theorem kArr_r {M : XM} {q b kd N q' b' : Nat} (h : q' < 64 + M.1.length) (h2 : q' ≠ q ∨ b' ≠ b) : (kArr M q b kd N).2.1 q' b' = M.2.1 q' b' := (up_o h2).trans (new_r h)
theorem kRows_r {M : XM} {q q' b' : Nat} (h : q' < 64 + M.1.length) (h2 : q' ≠ q) : (kRows M q).2.1 q' b' = M.2.1 q' b' := by
  unfold kRows
  rw [kArr_r (by show q' < 64 + ((M.1 ++ [(100, 8)]) ++ [(100, 8)]).length; simp; omega) (Or.inl h2), kArr_r (by show q' < 64 + (M.1 ++ [(100, 8)]).length; simp; omega) (Or.inl h2), kArr_r h (Or.inl h2)]
theorem kTown_r {M : XM} {q q' b' : Nat} (h : q' < 64 + M.1.length) (h2 : q' ≠ q) : (kTown M q).2.1 q' b' = M.2.1 q' b' := by
  unfold kTown
  rw [kArr_r (by show q' < 64 + (((M.1 ++ [(100, 10)]) ++ [(100, 10)]) ++ [(100, 100)]).length; simp; omega) (Or.inl h2), kArr_r (by show q' < 64 + ((M.1 ++ [(100, 10)]) ++ [(100, 10)]).length; simp; omega) (Or.inl h2), kArr_r (by show q' < 64 + (M.1 ++ [(100, 10)]).length; simp; omega) (Or.inl h2), kArr_r (M := kInt M q 0 90) h (Or.inl h2)]
  rfl
theorem kObjRows_r {M : XM} {q b q' b' : Nat} (h : q' < 64 + M.1.length) (h2 : b' ≠ b) : (kObj kRows M q b 4 4).2.1 q' b' = M.2.1 q' b' :=
  (kRef_r (M := kRows (x_new M 4 4) (64 + M.1.length)) (Or.inr h2)).trans ((kRows_r (by show q' < 64 + (M.1 ++ [(4, 4)]).length; simp; omega) (by omega)).trans (new_r h))
theorem kObjTown_r {M : XM} {q b q' b' : Nat} (h : q' < 64 + M.1.length) (h2 : b' ≠ b) : (kObj kTown M q b 5 7).2.1 q' b' = M.2.1 q' b' :=
  (kRef_r (M := kTown (x_new M 5 7) (64 + M.1.length)) (Or.inr h2)).trans ((kTown_r (by show q' < 64 + (M.1 ++ [(5, 7)]).length; simp; omega) (by omega)).trans (new_r h))
theorem kd_len {M : XM} {q : Nat} {r : Nat × Nat} (hq : x_kd M q = some r) : q < 64 + M.1.length := by
  obtain ⟨h1, h2⟩ := x_kd_lt hq
  have := (List.getElem?_eq_some_iff.mp h2).1
  omega
theorem kWor0_0 {M : XM} {q : Nat} (hq : x_kd M q = some (6, 10)) : (kWor0 M q).2.1 q 0 = .ref (64 + M.1.length) := by
  have hl := kd_len hq
  have e1 : (kArr (kArr M q 0 103 6) q 3 101 100).1.length = M.1.length + 2 := by
    show ((M.1 ++ [(103, 6)]) ++ [(101, 100)]).length = _
    simp
  have e2 : (kObj kTown (kArr (kArr M q 0 103 6) q 3 101 100) q 5 5 7).1.length = M.1.length + 7 := by
    rw [kObj_1 kTown_1, List.length_append, e1]
    rfl
  have e3 : (kObj kRows (kObj kTown (kArr (kArr M q 0 103 6) q 3 101 100) q 5 5 7) q 7 4 4).1.length = M.1.length + 11 := by
    rw [kObj_1 kRows_1, List.length_append, e2]
    rfl
  have e4 : (kObj kRows (kObj kRows (kObj kTown (kArr (kArr M q 0 103 6) q 3 101 100) q 5 5 7) q 7 4 4) q 8 4 4).1.length = M.1.length + 15 := by
    rw [kObj_1 kRows_1, List.length_append, e3]
    rfl
  unfold kWor0
  rw [kObjRows_r (by omega) (by decide), kObjRows_r (by omega) (by decide), kObjRows_r (by omega) (by decide), kObjTown_r (by omega) (by decide), kArr_r (by show q < 64 + (M.1 ++ [(103, 6)]).length; simp; omega) (Or.inr (by decide))]
  exact up_i
theorem kMen_0 {M : XM} {q : Nat} (hq : x_kd M q = some (6, 10)) (h0 : (kWor0 M q).2.1 q 0 = .ref (64 + M.1.length)) : ∀ j, (kMen (64 + M.1.length) j (kWor0 M q)).2.1 q 0 = .ref (64 + M.1.length)
  | 0 => h0
  | j + 1 => by
    have hl := kd_len hq
    obtain ⟨l, hl1⟩ := kWor0_1 (M := M) (q := q)
    obtain ⟨l2, hl2⟩ := kMen_1 (a := 64 + M.1.length) (M := kWor0 M q) j
    have hle : M.1.length ≤ (kMen (64 + M.1.length) j (kWor0 M q)).1.length := by
      rw [hl2, hl1, List.length_append, List.length_append]
      omega
    have e1 : (kMen (64 + M.1.length) (j + 1) (kWor0 M q)).2.1 q 0 = (kMan (x_new (kMen (64 + M.1.length) j (kWor0 M q)) 1 9) (64 + (kMen (64 + M.1.length) j (kWor0 M q)).1.length)).2.1 q 0 := kRef_r (Or.inl (by omega))
    have e2 : (kMan (x_new (kMen (64 + M.1.length) j (kWor0 M q)) 1 9) (64 + (kMen (64 + M.1.length) j (kWor0 M q)).1.length)).2.1 q 0 = (x_new (kMen (64 + M.1.length) j (kWor0 M q)) 1 9).2.1 q 0 := kArr_r (by show q < 64 + ((kMen (64 + M.1.length) j (kWor0 M q)).1 ++ [(1, 9)]).length; rw [List.length_append]; omega) (Or.inl (by omega))
    rw [e1, e2, new_r (by omega)]
    exact kMen_0 hq h0 j
section CON
variable {E : XE} {d mi i k n mc ms : Nat} {L S : List Value} {M : XM} {Q : Option Value → XM → Prop}
theorem w_arr {q NN N a b kd i1 i2 pc1 pc2 b1 idx : Nat} {ps1 ps2 : List Nat} {z : Int32} {t : ArrayType} (h1 : x_op mi i = some (pc1, 2, .newarray t, i1, kd, b1, ps1)) (hp1 : ps1 = [ps1.headD 0]) (hz : ¬ z < 0) (hN : z.toNatClampNeg = N) (hN2 : N ≤ 1000)
    (h2 : x_op mi i1 = some (pc2, 3, .putfield idx, i2, a, b, ps2)) (ha : a < 9) (hq : x_kd M q = some (a, NN)) (hR : x_isR a b = true) (hfin : x_fin a b = false ∨ ((x_m mi).1.name = "<init>" ∧ (vwCl[a]?).map (fun r => r.1) = some (x_m mi).1.cls)) (hk : k + 1 ≤ mc) (hm : n + N ≤ ms)
    (kk : x_WP E d mi i2 L S (kArr M q b kd N) (k + 1) (n + N) mc ms Q) : x_WP E d mi i L (.int z :: .ref q :: S) M k n mc ms Q :=
  wp_newa h1 hp1 hz hN hN2 hk hm (wp_putR h2 ha (kd_app (M := M) (l := [(kd, N)]) rfl hq) (by omega) hR hfin kk)
theorem w_anew {q NN N a b i1 i2 pc1 pc2 a1 b1 idx idx1 : Nat} {ps1 ps2 : List Nat} {z : Int32} (h1 : x_op mi i = some (pc1, 3, .anewarray idx1, i1, a1, b1, ps1)) (hp1 : ps1 = [ps1.getD 0 0, ps1.getD 1 0]) (hz : ¬ z < 0) (hN : z.toNatClampNeg = N) (hN2 : N ≤ 1000)
    (h2 : x_op mi i1 = some (pc2, 3, .putfield idx, i2, a, b, ps2)) (ha : a < 9) (hq : x_kd M q = some (a, NN)) (hR : x_isR a b = true) (hfin : x_fin a b = false ∨ ((x_m mi).1.name = "<init>" ∧ (vwCl[a]?).map (fun r => r.1) = some (x_m mi).1.cls)) (hk : k + 1 ≤ mc) (hm : n + N ≤ ms)
    (kk : x_WP E d mi i2 L S (kArr M q b 103 N) (k + 1) (n + N) mc ms Q) : x_WP E d mi i L (.int z :: .ref q :: S) M k n mc ms Q :=
  wp_anew h1 hp1 hz hN hN2 hk hm (wp_putR h2 ha (kd_app (M := M) (l := [(103, N)]) rfl hq) (by omega) hR hfin kk)
theorem w_objI {f : XM → Nat → XM} {mc1 ms1 q NN N a b kd cm i1 i2 i3 i4 pc1 pc2 pc3 pc4 b1 a2 b2 idx1 idx3 idx4 : Nat} {ps1 ps2 ps3 ps4 : List Nat} {r : vw_C} (h1 : x_op mi i = some (pc1, 3, .new idx1, i1, kd, b1, ps1)) (hkd : kd < 9) (hp1 : ps1 = [ps1.getD 0 0, ps1.getD 1 0, ps1.getD 2 0]) (hr : vwCl[kd]? = some r) (hN : r.2.2 = N)
    (h2 : x_op mi i1 = some (pc2, 1, .dup, i2, a2, b2, ps2)) (h3 : x_op mi i2 = some (pc3, 3, .invokespecial idx3, i3, cm, 0, ps3)) (hcm : 0 < cm ∧ cm < 192) (hp3 : ps3 = [ps3.getD 0 0, ps3.getD 1 0, ps3.getD 2 0, ps3.getD 3 0]) (hcat : (S.map fun v => v.category).sum + 2 ≤ 8) (hd : 2 ≤ d)
    (hC : ∀ M1 : XM, x_kd M1 (64 + M.1.length) = some (kd, N) → x_C E (d - 1) cm [.ref (64 + M.1.length)] M1 mc1 ms1 (fun v M' => v = none ∧ M' = f M1 (64 + M.1.length))) (hf : ∃ l, (f (x_new M kd N) (64 + M.1.length)).1 = (x_new M kd N).1 ++ l)
    (h4 : x_op mi i3 = some (pc4, 3, .putfield idx4, i4, a, b, ps4)) (ha : a < 9) (hq : x_kd M q = some (a, NN)) (hR : x_isR a b = true) (hfin : x_fin a b = false ∨ ((x_m mi).1.name = "<init>" ∧ (vwCl[a]?).map (fun r => r.1) = some (x_m mi).1.cls)) (hk : k + 1 + mc1 ≤ mc) (hm : n + N + ms1 ≤ ms)
    (kk : x_WP E d mi i4 L S (kObj f M q b kd N) (k + 1 + mc1) (n + N + ms1) mc ms Q) : x_WP E d mi i L (.ref q :: S) M k n mc ms Q := by
  refine wp_new h1 hkd hp1 hr hN (by omega) (by omega) (wp_dup h2 rfl (wp_invI (d1 := d - 1) h3 hcm hp3 (by omega) ?_ (by omega) hk hm (hC _ kd_new) (fun v M' hv => ?_)))
  · show (1 + (1 + (S.map fun v => v.category).sum)) ≤ 8
    omega
  · obtain ⟨hv, e⟩ := hv
    obtain ⟨l, hl⟩ := hf
    rw [hv, e]
    exact wp_putR h4 ha (kd_app hl (kd_app (M := M) (l := [(kd, N)]) rfl hq)) (by omega) hR hfin kk
theorem w_objIN {f : XM → Nat → XM} {mc1 ms1 q NN N a b kd cm i1 i2 i3 i4 pc1 pc2 pc3 pc4 b1 a2 b2 idx1 idx3 idx4 : Nat} {ps1 ps2 ps3 ps4 : List Nat} {r : vw_C} (h1 : x_op mi i = some (pc1, 3, .new idx1, i1, kd, b1, ps1)) (hkd : kd < 9) (hp1 : ps1 = [ps1.getD 0 0, ps1.getD 1 0, ps1.getD 2 0]) (hr : vwCl[kd]? = some r) (hN : r.2.2 = N)
    (h2 : x_op mi i1 = some (pc2, 1, .dup, i2, a2, b2, ps2)) (h3 : x_op mi i2 = some (pc3, 3, .invokespecial idx3, i3, cm, 0, ps3)) (hcm : 0 < cm ∧ cm < 192) (hp3 : ps3 = [ps3.getD 0 0, ps3.getD 1 0, ps3.getD 2 0, ps3.getD 3 0, ps3.getD 4 0]) (hcat : (S.map fun v => v.category).sum + 2 ≤ 8) (hd : 2 ≤ d)
    (hC : ∀ M1 : XM, x_kd M1 (64 + M.1.length) = some (kd, N) → x_C E (d - 1) cm [.ref (64 + M.1.length)] M1 mc1 ms1 (fun v M' => v = none ∧ M' = f M1 (64 + M.1.length))) (hf : ∃ l, (f (x_new M kd N) (64 + M.1.length)).1 = (x_new M kd N).1 ++ l)
    (h4 : x_op mi i3 = some (pc4, 3, .putfield idx4, i4, a, b, ps4)) (ha : a < 9) (hq : x_kd M q = some (a, NN)) (hR : x_isR a b = true) (hfin : x_fin a b = false ∨ ((x_m mi).1.name = "<init>" ∧ (vwCl[a]?).map (fun r => r.1) = some (x_m mi).1.cls)) (hk : k + 1 + mc1 ≤ mc) (hm : n + N + ms1 ≤ ms)
    (kk : x_WP E d mi i4 L S (kObj f M q b kd N) (k + 1 + mc1) (n + N + ms1) mc ms Q) : x_WP E d mi i L (.ref q :: S) M k n mc ms Q := by
  refine wp_new h1 hkd hp1 hr hN (by omega) (by omega) (wp_dup h2 rfl (wp_invIN (d1 := d - 1) h3 hcm hp3 (by omega) ?_ (by omega) hk hm (hC _ kd_new) (fun v M' hv => ?_)))
  · show (1 + (1 + (S.map fun v => v.category).sum)) ≤ 8
    omega
  · obtain ⟨hv, e⟩ := hv
    obtain ⟨l, hl⟩ := hf
    rw [hv, e]
    exact wp_putR h4 ha (kd_app hl (kd_app (M := M) (l := [(kd, N)]) rfl hq)) (by omega) hR hfin kk
theorem k_Man {q : Nat} (hq : x_kd M q = some (1, 9)) (hd : 1 ≤ d) : x_C E d 22 [.ref q] M 1 4 (fun v M' => v = none ∧ M' = kMan M q) := by
  have hq64 := (x_kd_lt hq).1
  refine x_C.of (L := [.ref q]) (by decide) (by decide) rfl rfl ?_ rfl
  refine wp_aload_n rfl rfl rfl ?_
  refine wp_objI rfl rfl hq64 (Nat.le_of_ble_eq_true rfl) (by omega) ?_
  refine wp_aload_n rfl rfl rfl ?_
  refine wp_iconst (v := (4 : Int32)) rfl (by decide) ?_
  refine w_arr (N := 4) rfl rfl (by decide) (by decide) (by decide) rfl (by decide) hq rfl (Or.inr ⟨rfl, rfl⟩) (by omega) (by omega) ?_
  exact wp_vret rfl rfl (by omega) (by omega) ⟨rfl, rfl⟩
theorem k_Actor {q : Nat} (hq : x_kd M q = some (0, 2)) (hd : 1 ≤ d) : x_C E d 18 [.ref q] M 1 20 (fun v M' => v = none ∧ M' = kActor M q) := by
  have hq64 := (x_kd_lt hq).1
  refine x_C.of (L := [.ref q]) (by decide) (by decide) rfl rfl ?_ rfl
  refine wp_aload_n rfl rfl rfl ?_
  refine wp_objI rfl rfl hq64 (Nat.le_of_ble_eq_true rfl) (by omega) ?_
  refine wp_aload_n rfl rfl rfl ?_
  refine wp_bipush (v := (20 : Int32)) rfl (by decide) ?_
  refine w_arr (N := 20) rfl rfl (by decide) (by decide) (by decide) rfl (by decide) hq rfl (Or.inr ⟨rfl, rfl⟩) (by omega) (by omega) ?_
  exact wp_vret rfl rfl (by omega) (by omega) ⟨rfl, rfl⟩
theorem k_Pair {q : Nat} (hq : x_kd M q = some (2, 1)) (hd : 1 ≤ d) : x_C E d 29 [.ref q] M 1 64 (fun v M' => v = none ∧ M' = kPair M q) := by
  have hq64 := (x_kd_lt hq).1
  refine x_C.of (L := [.ref q]) (by decide) (by decide) rfl rfl ?_ rfl
  refine wp_aload_n rfl rfl rfl ?_
  refine wp_objI rfl rfl hq64 (Nat.le_of_ble_eq_true rfl) (by omega) ?_
  refine wp_aload_n rfl rfl rfl ?_
  refine wp_bipush (v := (64 : Int32)) rfl (by decide) ?_
  refine w_arr (N := 64) rfl rfl (by decide) (by decide) (by decide) rfl (by decide) hq rfl (Or.inr ⟨rfl, rfl⟩) (by omega) (by omega) ?_
  exact wp_vret rfl rfl (by omega) (by omega) ⟨rfl, rfl⟩
theorem k_Rows {q : Nat} (hq : x_kd M q = some (4, 4)) (hd : 1 ≤ d) : x_C E d 44 [.ref q] M 3 24 (fun v M' => v = none ∧ M' = kRows M q) := by
  have hq64 := (x_kd_lt hq).1
  refine x_C.of (L := [.ref q]) (by decide) (by decide) rfl rfl ?_ rfl
  refine wp_aload_n rfl rfl rfl ?_
  refine wp_objI rfl rfl hq64 (Nat.le_of_ble_eq_true rfl) (by omega) ?_
  refine wp_aload_n rfl rfl rfl ?_
  refine wp_bipush (v := (8 : Int32)) rfl (by decide) ?_
  refine w_arr (N := 8) rfl rfl (by decide) (by decide) (by decide) rfl (by decide) hq rfl (Or.inr ⟨rfl, rfl⟩) (by omega) (by omega) ?_
  have hq1 : x_kd (kArr M q 0 100 8) q = some (4, 4) := kd_app (M := M) (l := [(100, 8)]) rfl hq
  refine wp_aload_n rfl rfl rfl ?_
  refine wp_bipush (v := (8 : Int32)) rfl (by decide) ?_
  refine w_arr (N := 8) rfl rfl (by decide) (by decide) (by decide) rfl (by decide) hq1 rfl (Or.inr ⟨rfl, rfl⟩) (by omega) (by omega) ?_
  have hq2 : x_kd (kArr (kArr M q 0 100 8) q 1 100 8) q = some (4, 4) := kd_app (l := [(100, 8)]) rfl hq1
  refine wp_aload_n rfl rfl rfl ?_
  refine wp_bipush (v := (8 : Int32)) rfl (by decide) ?_
  refine w_arr (N := 8) rfl rfl (by decide) (by decide) (by decide) rfl (by decide) hq2 rfl (Or.inr ⟨rfl, rfl⟩) (by omega) (by omega) ?_
  exact wp_vret rfl rfl (by omega) (by omega) ⟨rfl, rfl⟩
theorem k_Town {q : Nat} (hq : x_kd M q = some (5, 7)) (hd : 1 ≤ d) : x_C E d 48 [.ref q] M 4 126 (fun v M' => v = none ∧ M' = kTown M q) := by
  have hq64 := (x_kd_lt hq).1
  refine x_C.of (L := [.ref q]) (by decide) (by decide) rfl rfl ?_ rfl
  refine wp_aload_n rfl rfl rfl ?_
  refine wp_objI rfl rfl hq64 (Nat.le_of_ble_eq_true rfl) (by omega) ?_
  refine wp_aload_n rfl rfl rfl ?_
  refine wp_bipush (v := (90 : Int32)) rfl (by decide) ?_
  refine wp_putI rfl (by decide) hq rfl rfl (x_fit_int _) ?_
  have hq0 : x_kd (kInt M q 0 90) q = some (5, 7) := hq
  refine (?_ : x_WP E d 48 5 [.ref q] [] (kInt M q 0 90) 0 0 4 126 _)
  refine wp_aload_n rfl rfl rfl ?_
  refine wp_bipush (v := (10 : Int32)) rfl (by decide) ?_
  refine w_arr (N := 10) rfl rfl (by decide) (by decide) (by decide) rfl (by decide) hq0 rfl (Or.inr ⟨rfl, rfl⟩) (by omega) (by omega) ?_
  have hqt0 : x_kd (kArr (kInt M q 0 90) q 2 100 10) q = some (5, 7) := kd_app (l := [(100, 10)]) rfl hq0
  refine wp_aload_n rfl rfl rfl ?_
  refine wp_bipush (v := (10 : Int32)) rfl (by decide) ?_
  refine w_arr (N := 10) rfl rfl (by decide) (by decide) (by decide) rfl (by decide) hqt0 rfl (Or.inr ⟨rfl, rfl⟩) (by omega) (by omega) ?_
  have hqt1 : x_kd (kArr (kArr (kInt M q 0 90) q 2 100 10) q 3 100 10) q = some (5, 7) := kd_app (l := [(100, 10)]) rfl hqt0
  refine wp_aload_n rfl rfl rfl ?_
  refine wp_bipush (v := (100 : Int32)) rfl (by decide) ?_
  refine w_arr (N := 100) rfl rfl (by decide) (by decide) (by decide) rfl (by decide) hqt1 rfl (Or.inr ⟨rfl, rfl⟩) (by omega) (by omega) ?_
  have hqt2 : x_kd (kArr (kArr (kArr (kInt M q 0 90) q 2 100 10) q 3 100 10) q 4 100 100) q = some (5, 7) := kd_app (l := [(100, 100)]) rfl hqt1
  refine wp_aload_n rfl rfl rfl ?_
  refine wp_bipush (v := (6 : Int32)) rfl (by decide) ?_
  refine w_arr (N := 6) rfl rfl (by decide) (by decide) (by decide) rfl (by decide) hqt2 rfl (Or.inr ⟨rfl, rfl⟩) (by omega) (by omega) ?_
  exact wp_vret rfl rfl (by omega) (by omega) ⟨rfl, rfl⟩
theorem k_Reader {q : Nat} (hq : x_kd M q = some (3, 5)) (hd : 2 ≤ d) : x_C E d 34 [.ref q] M 6 233 (fun v M' => v = none ∧ M' = kReader M q) := by
  have hq64 := (x_kd_lt hq).1
  refine x_C.of (L := [.ref q]) (by decide) (by decide) rfl rfl ?_ rfl
  refine wp_aload_n rfl rfl rfl ?_
  refine wp_objI rfl rfl hq64 (Nat.le_of_ble_eq_true rfl) (by omega) ?_
  refine wp_aload_n rfl rfl rfl ?_
  refine w_objIN (f := kTown) (mc1 := 4) (ms1 := 126) (N := 7) rfl (by decide) rfl rfl rfl rfl rfl (by decide) rfl (Nat.le_of_ble_eq_true rfl) (by omega) (fun M1 h1 => k_Town h1 (by omega)) ⟨_, kTown_1⟩ rfl (by decide) hq rfl (Or.inr ⟨rfl, rfl⟩) (by omega) (by omega) ?_
  have hq1 : x_kd (kObj kTown M q 0 5 7) q = some (3, 5) := kd_app (kObj_1 kTown_1) hq
  refine wp_aload_n rfl rfl rfl ?_
  refine wp_bipush (v := (100 : Int32)) rfl (by decide) ?_
  refine w_arr (N := 100) rfl rfl (by decide) (by decide) (by decide) rfl (by decide) hq1 rfl (Or.inr ⟨rfl, rfl⟩) (by omega) (by omega) ?_
  exact wp_vret rfl rfl (by omega) (by omega) ⟨rfl, rfl⟩
theorem k_World {q : Nat} (hq : x_kd M q = some (6, 10)) (hd : 3 ≤ d) : x_C E d 57 [.ref q] M 31 401 (fun v M' => v = none ∧ M' = kWorld M q) := by
  have hq64 := (x_kd_lt hq).1
  refine x_C.of (L := [.ref q, x_jk]) (by decide) (by decide) rfl rfl ?_ rfl
  refine wp_aload_n rfl rfl rfl ?_
  refine wp_objI rfl rfl hq64 (Nat.le_of_ble_eq_true rfl) (by omega) ?_
  refine wp_aload_n rfl rfl rfl ?_
  refine wp_bipush (v := (6 : Int32)) rfl (by decide) ?_
  refine w_anew (N := 6) rfl rfl (by decide) (by decide) (by decide) rfl (by decide) hq rfl (Or.inr ⟨rfl, rfl⟩) (by omega) (by omega) ?_
  have hq1 : x_kd (kArr M q 0 103 6) q = some (6, 10) := kd_app (M := M) (l := [(103, 6)]) rfl hq
  refine wp_aload_n rfl rfl rfl ?_
  refine wp_bipush (v := (100 : Int32)) rfl (by decide) ?_
  refine w_arr (N := 100) rfl rfl (by decide) (by decide) (by decide) rfl (by decide) hq1 rfl (Or.inr ⟨rfl, rfl⟩) (by omega) (by omega) ?_
  have hq2 : x_kd (kArr (kArr M q 0 103 6) q 3 101 100) q = some (6, 10) := kd_app (l := [(101, 100)]) rfl hq1
  refine wp_aload_n rfl rfl rfl ?_
  refine w_objIN (f := kTown) (mc1 := 4) (ms1 := 126) (N := 7) rfl (by decide) rfl rfl rfl rfl rfl (by decide) rfl (Nat.le_of_ble_eq_true rfl) (by omega) (fun M1 h1 => k_Town h1 (by omega)) ⟨_, kTown_1⟩ rfl (by decide) hq2 rfl (Or.inr ⟨rfl, rfl⟩) (by omega) (by omega) ?_
  have hq3 : x_kd (kObj kTown (kArr (kArr M q 0 103 6) q 3 101 100) q 5 5 7) q = some (6, 10) := kd_app (kObj_1 kTown_1) hq2
  refine wp_aload_n rfl rfl rfl ?_
  refine w_objIN (f := kRows) (mc1 := 3) (ms1 := 24) (N := 4) rfl (by decide) rfl rfl rfl rfl rfl (by decide) rfl (Nat.le_of_ble_eq_true rfl) (by omega) (fun M1 h1 => k_Rows h1 (by omega)) ⟨_, kRows_1⟩ rfl (by decide) hq3 rfl (Or.inr ⟨rfl, rfl⟩) (by omega) (by omega) ?_
  have hq4 := kd_app (M' := kObj kRows (kObj kTown (kArr (kArr M q 0 103 6) q 3 101 100) q 5 5 7) q 7 4 4) (kObj_1 kRows_1) hq3
  refine wp_aload_n rfl rfl rfl ?_
  refine w_objIN (f := kRows) (mc1 := 3) (ms1 := 24) (N := 4) rfl (by decide) rfl rfl rfl rfl rfl (by decide) rfl (Nat.le_of_ble_eq_true rfl) (by omega) (fun M1 h1 => k_Rows h1 (by omega)) ⟨_, kRows_1⟩ rfl (by decide) hq4 rfl (Or.inr ⟨rfl, rfl⟩) (by omega) (by omega) ?_
  have hq5 := kd_app (M' := kObj kRows (kObj kRows (kObj kTown (kArr (kArr M q 0 103 6) q 3 101 100) q 5 5 7) q 7 4 4) q 8 4 4) (kObj_1 kRows_1) hq4
  refine wp_aload_n rfl rfl rfl ?_
  refine w_objIN (f := kRows) (mc1 := 3) (ms1 := 24) (N := 4) rfl (by decide) rfl rfl rfl rfl rfl (by decide) rfl (Nat.le_of_ble_eq_true rfl) (by omega) (fun M1 h1 => k_Rows h1 (by omega)) ⟨_, kRows_1⟩ rfl (by decide) hq5 rfl (Or.inr ⟨rfl, rfl⟩) (by omega) (by omega) ?_
  have hq6 : x_kd (kWor0 M q) q = some (6, 10) := kd_app (kObj_1 kRows_1) hq5
  have hqa : x_kd (kWor0 M q) (64 + M.1.length) = some (103, 6) := by
    obtain ⟨l, hl⟩ := kWor0_1 (M := M) (q := q)
    unfold x_kd
    rw [if_neg (by omega), Nat.add_sub_cancel_left, hl]
    simp
  have hR0 : (kWor0 M q).2.1 q 0 = .ref (64 + M.1.length) := kWor0_0 hq
  refine wp_iconst (v := (0 : Int32)) rfl (by decide) ?_
  refine wp_istore_n (L' := [.ref q, .int (0 : Int32)]) rfl rfl (by decide) rfl rfl ?_
  have key : ∀ r j (k n : Nat), j + r = 6 → k = 19 + 2 * j → n = 323 + 13 * j → x_WP E d 57 32 [.ref q, .int (nI j)] [] (kMen (64 + M.1.length) j (kWor0 M q)) k n 31 401 (fun v M' => v = none ∧ M' = kWorld M q) := by
    intro r
    induction r with
    | zero =>
      intro j k n hj hk hn
      have ej : j = 6 := by omega
      subst ej
      refine wp_iload_n rfl rfl rfl ?_
      refine wp_bipush (v := (6 : Int32)) rfl (by decide) ?_
      refine wp_icmp_ge rfl (fun _ => ?_) (fun c => absurd (by decide) c)
      exact wp_vret rfl rfl (by omega) (by omega) ⟨rfl, rfl⟩
    | succ r ih =>
      intro j k n hj hk hn
      obtain ⟨l, hl⟩ := kMen_1 (a := 64 + M.1.length) (M := kWor0 M q) j
      refine wp_iload_n rfl rfl rfl ?_
      refine wp_bipush (v := (6 : Int32)) rfl (by decide) ?_
      refine wp_icmp_ge rfl (fun c => absurd c (nI_ge (a := j) (b := 6) (by omega) (by decide))) (fun _ => ?_)
      refine wp_aload_n rfl rfl rfl ?_
      refine wp_getR (v := .ref (64 + M.1.length)) rfl (by decide) (kd_app hl hq6) rfl (kMen_0 hq hR0 j) ?_
      refine wp_iload_n rfl rfl rfl ?_
      refine wp_new (N := 9) rfl (by decide) rfl rfl rfl (by omega) (by omega) ?_
      refine wp_dup rfl rfl ?_
      refine wp_invIN (d1 := d - 1) (mc1 := 1) (ms1 := 4) (Q1 := fun v M' => v = none ∧ M' = kMan (x_new (kMen (64 + M.1.length) j (kWor0 M q)) 1 9) (64 + (kMen (64 + M.1.length) j (kWor0 M q)).1.length)) rfl (by decide) rfl (by omega) (Nat.le_of_ble_eq_true rfl) (by omega) (by omega) (by omega) (k_Man kd_new (by omega)) (fun v M' hv => ?_)
      obtain ⟨hv, e⟩ := hv
      rw [hv, e]
      refine wp_aast rfl (kd_app kMan_1 (kd_app (M := kMen (64 + M.1.length) j (kWor0 M q)) (l := [(1, 9)]) rfl (kd_app hl hqa))) (kd_app kMan_1 kd_new) (vp_in_nI (by omega) (by decide)) ?_
      rw [nI_clamp (by omega)]
      refine wp_iinc (v := nI (j + 1)) (L' := [.ref q, .int (nI (j + 1))]) rfl rfl (nI_1 j) rfl rfl ?_
      refine wp_goto rfl ?_
      exact ih (j + 1) (k + 1 + 1) (n + 9 + 4) (by omega) (by omega) (by omega)
  have kk := key 6 0 19 323 (by omega) (by omega) (by omega)
  rw [nI_0] at kk
  exact kk
theorem k_Class {q : Nat} (hq : x_kd M q = some (7, 7)) (hd : 4 ≤ d) : x_C E d 62 [.ref q] M 77 1160 (fun v M' => v = none ∧ M' = kClass M q) := by
  have hq64 := (x_kd_lt hq).1
  refine x_C.of (L := [.ref q]) (by decide) (by decide) rfl rfl ?_ rfl
  refine wp_aload_n rfl rfl rfl ?_
  refine wp_objI rfl rfl hq64 (Nat.le_of_ble_eq_true rfl) (by omega) ?_
  refine wp_aload_n rfl rfl rfl ?_
  refine w_objI (f := kWorld) (mc1 := 31) (ms1 := 401) (N := 10) rfl (by decide) rfl rfl rfl rfl rfl (by decide) rfl (Nat.le_of_ble_eq_true rfl) (by omega) (fun M1 h1 => k_World h1 (by omega)) kWorld_1 rfl (by decide) hq rfl (Or.inr ⟨rfl, rfl⟩) (by omega) (by omega) ?_
  have hc0 : x_kd (kObj kWorld M q 0 6 10) q = some (7, 7) := by
    obtain ⟨l, hl⟩ := kWorld_1 (M := x_new M 6 10) (q := 64 + M.1.length)
    exact kd_app (kObj_1 hl) hq
  refine wp_aload_n rfl rfl rfl ?_
  refine w_objI (f := kWorld) (mc1 := 31) (ms1 := 401) (N := 10) rfl (by decide) rfl rfl rfl rfl rfl (by decide) rfl (Nat.le_of_ble_eq_true rfl) (by omega) (fun M1 h1 => k_World h1 (by omega)) kWorld_1 rfl (by decide) hc0 rfl (Or.inr ⟨rfl, rfl⟩) (by omega) (by omega) ?_
  have hc1 : x_kd (kObj kWorld (kObj kWorld M q 0 6 10) q 1 6 10) q = some (7, 7) := by
    obtain ⟨l, hl⟩ := kWorld_1 (M := x_new (kObj kWorld M q 0 6 10) 6 10) (q := 64 + (kObj kWorld M q 0 6 10).1.length)
    exact kd_app (kObj_1 hl) hc0
  refine wp_aload_n rfl rfl rfl ?_
  refine w_objIN (f := kMan) (mc1 := 1) (ms1 := 4) (N := 9) rfl (by decide) rfl rfl rfl rfl rfl (by decide) rfl (Nat.le_of_ble_eq_true rfl) (by omega) (fun M1 h1 => k_Man h1 (by omega)) ⟨_, kMan_1⟩ rfl (by decide) hc1 rfl (Or.inr ⟨rfl, rfl⟩) (by omega) (by omega) ?_
  have hc2 : x_kd (kObj kMan (kObj kWorld (kObj kWorld M q 0 6 10) q 1 6 10) q 3 1 9) q = some (7, 7) := kd_app (kObj_1 kMan_1) hc1
  refine wp_aload_n rfl rfl rfl ?_
  refine w_objIN (f := kReader) (mc1 := 6) (ms1 := 233) (N := 5) rfl (by decide) rfl rfl rfl rfl rfl (by decide) rfl (Nat.le_of_ble_eq_true rfl) (by omega) (fun M1 h1 => k_Reader h1 (by omega)) ⟨_, kReader_1⟩ rfl (by decide) hc2 rfl (Or.inr ⟨rfl, rfl⟩) (by omega) (by omega) ?_
  have hc3 : x_kd (kObj kReader (kObj kMan (kObj kWorld (kObj kWorld M q 0 6 10) q 1 6 10) q 3 1 9) q 4 3 5) q = some (7, 7) := kd_app (kObj_1 kReader_1) hc2
  refine wp_aload_n rfl rfl rfl ?_
  refine w_objIN (f := kActor) (mc1 := 1) (ms1 := 20) (N := 2) rfl (by decide) rfl rfl rfl rfl rfl (by decide) rfl (Nat.le_of_ble_eq_true rfl) (by omega) (fun M1 h1 => k_Actor h1 (by omega)) ⟨_, kActor_1⟩ rfl (by decide) hc3 rfl (Or.inr ⟨rfl, rfl⟩) (by omega) (by omega) ?_
  have hc4 : x_kd (kObj kActor (kObj kReader (kObj kMan (kObj kWorld (kObj kWorld M q 0 6 10) q 1 6 10) q 3 1 9) q 4 3 5) q 5 0 2) q = some (7, 7) := kd_app (kObj_1 kActor_1) hc3
  refine wp_aload_n rfl rfl rfl ?_
  refine w_objIN (f := kPair) (mc1 := 1) (ms1 := 64) (N := 1) rfl (by decide) rfl rfl rfl rfl rfl (by decide) rfl (Nat.le_of_ble_eq_true rfl) (by omega) (fun M1 h1 => k_Pair h1 (by omega)) ⟨_, kPair_1⟩ rfl (by decide) hc4 rfl (Or.inr ⟨rfl, rfl⟩) (by omega) (by omega) ?_
  exact wp_vret rfl rfl (by omega) (by omega) ⟨rfl, rfl⟩
theorem k_Model {q : Nat} (hq : x_kd M q = some (8, 20)) (hd : 1 ≤ d) : x_C E d 108 [.ref q] M 8 1995 (fun v M' => v = none ∧ M' = kModel M q) := by
  have hq64 := (x_kd_lt hq).1
  refine x_C.of (L := [.ref q]) (by decide) (by decide) rfl rfl ?_ rfl
  refine wp_aload_n rfl rfl rfl ?_
  refine wp_objI rfl rfl hq64 (Nat.le_of_ble_eq_true rfl) (by omega) ?_
  refine wp_aload_n rfl rfl rfl ?_
  refine wp_sipush (v := (931 : Int32)) rfl (by decide) ?_
  refine w_arr (N := 931) rfl rfl (by decide) (by decide) (by decide) rfl (by decide) hq rfl (Or.inr ⟨rfl, rfl⟩) (by omega) (by omega) ?_
  have hm0 : x_kd (kArr M q 1 100 931) q = some (8, 20) := kd_app (M := M) (l := [(100, 931)]) rfl hq
  refine wp_aload_n rfl rfl rfl ?_
  refine wp_sipush (v := (931 : Int32)) rfl (by decide) ?_
  refine w_arr (N := 931) rfl rfl (by decide) (by decide) (by decide) rfl (by decide) hm0 rfl (Or.inr ⟨rfl, rfl⟩) (by omega) (by omega) ?_
  have hm1 : x_kd (kArr (kArr M q 1 100 931) q 2 100 931) q = some (8, 20) := kd_app (M := (kArr M q 1 100 931)) (l := [(100, 931)]) rfl hm0
  refine wp_aload_n rfl rfl rfl ?_
  refine wp_bipush (v := (31 : Int32)) rfl (by decide) ?_
  refine w_arr (N := 31) rfl rfl (by decide) (by decide) (by decide) rfl (by decide) hm1 rfl (Or.inr ⟨rfl, rfl⟩) (by omega) (by omega) ?_
  have hm2 : x_kd (kArr (kArr (kArr M q 1 100 931) q 2 100 931) q 3 100 31) q = some (8, 20) := kd_app (M := (kArr (kArr M q 1 100 931) q 2 100 931)) (l := [(100, 31)]) rfl hm1
  refine wp_aload_n rfl rfl rfl ?_
  refine wp_bipush (v := (6 : Int32)) rfl (by decide) ?_
  refine w_arr (N := 6) rfl rfl (by decide) (by decide) (by decide) rfl (by decide) hm2 rfl (Or.inr ⟨rfl, rfl⟩) (by omega) (by omega) ?_
  have hm3 : x_kd (kArr (kArr (kArr (kArr M q 1 100 931) q 2 100 931) q 3 100 31) q 10 100 6) q = some (8, 20) := kd_app (M := (kArr (kArr (kArr M q 1 100 931) q 2 100 931) q 3 100 31)) (l := [(100, 6)]) rfl hm2
  refine wp_aload_n rfl rfl rfl ?_
  refine wp_bipush (v := (64 : Int32)) rfl (by decide) ?_
  refine w_arr (N := 64) rfl rfl (by decide) (by decide) (by decide) rfl (by decide) hm3 rfl (Or.inr ⟨rfl, rfl⟩) (by omega) (by omega) ?_
  have hm4 : x_kd (kArr (kArr (kArr (kArr (kArr M q 1 100 931) q 2 100 931) q 3 100 31) q 10 100 6) q 11 102 64) q = some (8, 20) := kd_app (M := (kArr (kArr (kArr (kArr M q 1 100 931) q 2 100 931) q 3 100 31) q 10 100 6)) (l := [(102, 64)]) rfl hm3
  refine wp_aload_n rfl rfl rfl ?_
  refine wp_bipush (v := (6 : Int32)) rfl (by decide) ?_
  refine w_arr (N := 6) rfl rfl (by decide) (by decide) (by decide) rfl (by decide) hm4 rfl (Or.inr ⟨rfl, rfl⟩) (by omega) (by omega) ?_
  have hm5 : x_kd (kArr (kArr (kArr (kArr (kArr (kArr M q 1 100 931) q 2 100 931) q 3 100 31) q 10 100 6) q 11 102 64) q 12 100 6) q = some (8, 20) := kd_app (M := (kArr (kArr (kArr (kArr (kArr M q 1 100 931) q 2 100 931) q 3 100 31) q 10 100 6) q 11 102 64)) (l := [(100, 6)]) rfl hm4
  refine wp_aload_n rfl rfl rfl ?_
  refine wp_bipush (v := (6 : Int32)) rfl (by decide) ?_
  refine w_arr (N := 6) rfl rfl (by decide) (by decide) (by decide) rfl (by decide) hm5 rfl (Or.inr ⟨rfl, rfl⟩) (by omega) (by omega) ?_
  have hm6 : x_kd (kArr (kArr (kArr (kArr (kArr (kArr (kArr M q 1 100 931) q 2 100 931) q 3 100 31) q 10 100 6) q 11 102 64) q 12 100 6) q 13 100 6) q = some (8, 20) := kd_app (M := (kArr (kArr (kArr (kArr (kArr (kArr M q 1 100 931) q 2 100 931) q 3 100 31) q 10 100 6) q 11 102 64) q 12 100 6)) (l := [(100, 6)]) rfl hm5
  refine wp_aload_n rfl rfl rfl ?_
  refine wp_bipush (v := (20 : Int32)) rfl (by decide) ?_
  refine w_arr (N := 20) rfl rfl (by decide) (by decide) (by decide) rfl (by decide) hm6 rfl (Or.inr ⟨rfl, rfl⟩) (by omega) (by omega) ?_
  have hm7 : x_kd (kArr (kArr (kArr (kArr (kArr (kArr (kArr (kArr M q 1 100 931) q 2 100 931) q 3 100 31) q 10 100 6) q 11 102 64) q 12 100 6) q 13 100 6) q 15 100 20) q = some (8, 20) := kd_app (M := (kArr (kArr (kArr (kArr (kArr (kArr (kArr M q 1 100 931) q 2 100 931) q 3 100 31) q 10 100 6) q 11 102 64) q 12 100 6) q 13 100 6)) (l := [(100, 20)]) rfl hm6
  have hl := kd_len hq
  have hR : (kMod0 M q).2.1 q 1 = .ref (64 + M.1.length) := by
    unfold kMod0
    rw [kArr_r (by show q < 64 + ((((((((M.1 ++ [(100, 931)]) ++ [(100, 931)]) ++ [(100, 31)]) ++ [(100, 6)]) ++ [(102, 64)]) ++ [(100, 6)]) ++ [(100, 6)])).length; simp; omega) (Or.inr (by decide)), kArr_r (by show q < 64 + (((((((M.1 ++ [(100, 931)]) ++ [(100, 931)]) ++ [(100, 31)]) ++ [(100, 6)]) ++ [(102, 64)]) ++ [(100, 6)])).length; simp; omega) (Or.inr (by decide)), kArr_r (by show q < 64 + ((((((M.1 ++ [(100, 931)]) ++ [(100, 931)]) ++ [(100, 31)]) ++ [(100, 6)]) ++ [(102, 64)])).length; simp; omega) (Or.inr (by decide)), kArr_r (by show q < 64 + (((((M.1 ++ [(100, 931)]) ++ [(100, 931)]) ++ [(100, 31)]) ++ [(100, 6)])).length; simp; omega) (Or.inr (by decide)), kArr_r (by show q < 64 + ((((M.1 ++ [(100, 931)]) ++ [(100, 931)]) ++ [(100, 31)])).length; simp; omega) (Or.inr (by decide)), kArr_r (by show q < 64 + (((M.1 ++ [(100, 931)]) ++ [(100, 931)])).length; simp; omega) (Or.inr (by decide)), kArr_r (by show q < 64 + ((M.1 ++ [(100, 931)])).length; simp; omega) (Or.inr (by decide))]
    exact up_i
  have ha : x_kd (kMod0 M q) (64 + M.1.length) = some (100, 931) := by
    have e : (kMod0 M q).1 = M.1 ++ [(100, 931), (100, 931), (100, 31), (100, 6), (102, 64), (100, 6), (100, 6), (100, 20)] := by
      show (((((((M.1 ++ [(100, 931)]) ++ [(100, 931)]) ++ [(100, 31)]) ++ [(100, 6)]) ++ [(102, 64)]) ++ [(100, 6)]) ++ [(100, 6)]) ++ [(100, 20)] = _
      simp
    unfold x_kd
    rw [if_neg (by omega), Nat.add_sub_cancel_left, e]
    simp
  refine wp_aload_n rfl rfl rfl ?_
  refine wp_getR (M := kMod0 M q) (v := .ref (64 + M.1.length)) rfl (by decide) hm7 rfl hR ?_
  refine wp_bipush (v := (37 : Int32)) rfl (by decide) ?_
  refine wp_iconst (v := (-1 : Int32)) rfl (by decide) ?_
  refine wp_iast rfl ha (x_vic rfl) ?_
  exact wp_vret rfl rfl (by omega) (by omega) ⟨rfl, rfl⟩
end CON
