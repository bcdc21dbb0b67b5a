/-! ===== making cells; copying arrays ===== -/
def x_new (M : XM) (kd N : Nat) : XM := (M.1 ++ [(kd, N)], fun i j => if i = 64 + M.1.length then .null else M.2.1 i j, fun i j => if i = 64 + M.1.length then 0 else M.2.2 i j)
theorem x_dfl {a : Nat} (ha : a < 9) (k : Nat) : defaultValue (x_tyt a k) = if x_isR a k = true then .null else .int 0 := by
  unfold x_isR x_ty
  match a, ha with
  | 0, _ => show defaultValue (tyX0 k) = if (match tyX0 k with | .object _ => true | .array _ => true | _ => false) = true then _ else _; unfold tyX0; split <;> rfl
  | 1, _ => show defaultValue (tyX1 k) = if (match tyX1 k with | .object _ => true | .array _ => true | _ => false) = true then _ else _; unfold tyX1; split <;> rfl
  | 2, _ => show defaultValue (tyX2 k) = if (match tyX2 k with | .object _ => true | .array _ => true | _ => false) = true then _ else _; unfold tyX2; split <;> rfl
  | 3, _ => show defaultValue (tyX3 k) = if (match tyX3 k with | .object _ => true | .array _ => true | _ => false) = true then _ else _; unfold tyX3; split <;> rfl
  | 4, _ => show defaultValue (tyX4 k) = if (match tyX4 k with | .object _ => true | .array _ => true | _ => false) = true then _ else _; unfold tyX4; split <;> rfl
  | 5, _ => show defaultValue (tyX5 k) = if (match tyX5 k with | .object _ => true | .array _ => true | _ => false) = true then _ else _; unfold tyX5; split <;> rfl
  | 6, _ => show defaultValue (tyX6 k) = if (match tyX6 k with | .object _ => true | .array _ => true | _ => false) = true then _ else _; unfold tyX6; split <;> rfl
  | 7, _ => show defaultValue (tyX7 k) = if (match tyX7 k with | .object _ => true | .array _ => true | _ => false) = true then _ else _; unfold tyX7; split <;> rfl
  | 8, _ => show defaultValue (tyX8 k) = if (match tyX8 k with | .object _ => true | .array _ => true | _ => false) = true then _ else _; unfold tyX8; split <;> rfl
section XN
variable {E : XE} {d mi i k n mc ms nx a b pc : Nat} {ps : List Nat} {L S : List Value} {M : XM} {Q : Option Value → XM → Prop}
theorem x_new_v {ex : Nat → Value} {base kd N : Nat} {p : Nat × Nat} {i0 k0 : Nat} (h : ¬ i0 = 64 + M.1.length) : x_v ex base (x_new M kd N) p i0 k0 = x_v ex base M p i0 k0 := by
  unfold x_v x_new
  simp only [if_neg h]
theorem x_new_v0 {ex : Nat → Value} {base kd N : Nat} {p : Nat × Nat} {k0 : Nat} : x_v ex base (x_new M kd N) p (64 + M.1.length) k0 = if p.1 = 103 ∨ (p.1 < 100 ∧ x_isR p.1 k0 = true) then .null else .int 0 := by
  unfold x_v x_new
  simp only [if_true]
  rfl
theorem x_new_World {D : va_G} {T : Nat → ClassId} {ex : Nat → Value} {base kd N : Nat} {H H' : Heap} (hW : x_World D T ex base M H) (hz : H'.size = H.size + 1) (ho : ∀ q, q < H.size → H'[q]? = H[q]?) (hat : x_at D T ex base (x_new M kd N) H' M.1.length (kd, N)) : x_World D T ex base (x_new M kd N) H' := by
  have hl : (x_new M kd N).1.length = M.1.length + 1 := by simp [x_new]
  refine ⟨by rw [hz, hW.1, hl]; omega, fun j p hj => ?_⟩
  by_cases hlt : j < M.1.length
  · have hj' : M.1[j]? = some p := by
      rw [← hj]
      exact (List.getElem?_append_left hlt).symm
    exact x_at_kept (hW.2 j p hj') (ho _ (by rw [hW.1]; omega)) (fun k => x_new_v (by omega))
  · have hj2 : j = M.1.length := by
      have := (List.getElem?_eq_some_iff.mp hj).1
      omega
    subst hj2
    have hp : p = (kd, N) := by
      have : (x_new M kd N).1[M.1.length]? = some (kd, N) := by
        show (M.1 ++ [(kd, N)])[M.1.length]? = _
        rw [List.getElem?_append_right (Nat.le_refl _), Nat.sub_self]
        rfl
      exact Option.some.inj (hj.symm.trans this)
    subst hp
    exact hat
theorem x_S_new {base : Nat} {H0 H H' : Heap} {locs : List Loc} (hS : va_S (x_A base) H0 H locs) (hz : H'.size = H.size + 1) (ho : ∀ q, q < H.size → H'[q]? = H[q]?) : va_S (x_A base) H0 H' locs :=
  ⟨by rw [hz]; exact Nat.le_succ_of_le hS.1, fun q h1 h2 => (ho q (Nat.lt_of_lt_of_le h1 hS.1)).trans (hS.2.1 q h1 h2), hS.2.2⟩
theorem x_cv_new {ex : Nat → Value} {base : Nat} : x_cv ex base (.ref (64 + M.1.length)) = .ref (base + M.1.length) := by
  rw [x_cv_m (by omega)]
  congr 2
  omega
theorem wp_new {idx N : Nat} {r : vw_C} (ho : x_op mi i = some (pc, 3, .new idx, nx, a, b, ps)) (ha : a < 9) (hp1 : ps = [ps.getD 0 0, ps.getD 1 0, ps.getD 2 0]) (hr : vwCl[a]? = some r) (hN : r.2.2 = N) (hk : k + 1 ≤ mc) (hm : n + N ≤ ms)
    (kk : x_WP E d mi nx L (.ref (64 + M.1.length) :: S) (x_new M a N) (k + 1) (n + N) mc ms Q) : x_WP E d mi i L S M k n mc ms Q := by
  intro p l e R s m args below meth c H locs ls D T ex base h
  obtain ⟨hd, hp, hn, hI⟩ := x_dc ho
  rw [hp]
  rw [hp1] at hI
  subst hN
  obtain ⟨C, TF, N⟩ := r
  simp only [x_ckI, if_neg (show ¬ a = 999 by omega), hr, Bool.and_eq_true] at hI
  have h0 := h
  obtain ⟨⟨hx, hb, hml, hown, hts⟩, ⟨-, -, -, -, -, hcR, hsR⟩, ⟨hbs, hK, hE⟩, hW, hS, hL⟩ := h
  obtain ⟨hSl, hfc, hkk⟩ := hK.1 a _ hr
  refine W.newcK hx hb hown (hts _ (x_w_in hI.1.1)) (hts _ (x_w_in hI.1.2)) (hts _ (x_w_in hI.2)) rfl hd (by omega) (by show n + N ≤ _; exact Nat.le_trans hm hsR) hfc hW.1 (fun H1 kC hkC e1 z1 o1 => ?_)
  have hW' : x_World D T ex base (x_new M a N) H1 := by
    refine x_new_World hW (by rw [z1, hW.1]) (fun q hq => o1 q (by rw [← hW.1]; exact hq)) ?_
    unfold x_at
    rw [if_pos (by show a < 100; omega)]
    refine ⟨_, hr, rfl, (u_born (x_tyt a) hts (x_inA hr) ⟨hSl, hfc, hkk⟩ hkC e1 (x_tyA hr)).to (fun j hj => ?_)⟩
    rw [x_new_v0, x_dfl ha]
    by_cases hR : x_isR a j = true
    · rw [if_pos hR, if_pos (Or.inr ⟨by show a < 100; omega, hR⟩)]
    · rw [if_neg hR, if_neg (by rintro (h | ⟨-, h⟩); (· exact absurd h (by show ¬ a = 103; omega)); (· exact hR h))]
  have k1 := kk p l e R s m args below meth c H1 locs ls D T ex base ⟨h0.1, h0.2.1, h0.2.2.1, hW', x_S_new hS (by rw [z1, hW.1]) (fun q hq => o1 q (by rw [← hW.1]; exact hq)), hL⟩
  rw [hn rfl, List.map_cons, x_cv_new] at k1
  exact k1
theorem wp_newa {t : ArrayType} {z : Int32} {N : Nat} (ho : x_op mi i = some (pc, 2, .newarray t, nx, a, b, ps)) (hp1 : ps = [ps.headD 0]) (hz : ¬ z < 0) (hN : z.toNatClampNeg = N) (hN2 : N ≤ 1000) (hk : k + 1 ≤ mc) (hm : n + N ≤ ms)
    (kk : x_WP E d mi nx L (.ref (64 + M.1.length) :: S) (x_new M a N) (k + 1) (n + N) mc ms Q) : x_WP E d mi i L (.int z :: S) M k n mc ms Q := by
  intro p l e R s m args below meth c H locs ls D T ex base h
  obtain ⟨hd, hp, hn, hI⟩ := x_dc ho
  rw [hp]
  rw [hp1] at hI
  simp only [x_ckI, Bool.and_eq_true, decide_eq_true_eq] at hI
  obtain ⟨⟨hI1, hI2⟩, hI3⟩ := hI
  have h0 := h
  obtain ⟨⟨hx, hb, hml, hown, hts⟩, ⟨-, -, -, -, -, hcR, hsR⟩, ⟨hbs, hK, hE⟩, hW, hS, hL⟩ := h
  refine va_newaK hx hb (by rw [hI2]; exact hts _ (x_w_in hI1)) rfl hd rfl hz hN (by
    rw [hI2]
    have : componentBytes (x_kty a) ≤ 8 := by unfold x_kty; split <;> (try split) <;> decide
    have := Nat.mul_le_mul hN2 this
    omega) (by omega) (by omega) hW.1 (fun H1 cA e1 z1 o1 hAr hNm => ?_)
  rw [hI2] at e1 hNm
  have hcA : cA = T a := by
    rcases (show a = 100 ∨ a = 101 ∨ a = 102 by omega) with rfl | rfl | rfl
    · exact Option.some.inj (hNm.symm.trans (hK.2 0 _ rfl).2)
    · exact Option.some.inj (hNm.symm.trans (hK.2 1 _ rfl).2)
    · exact Option.some.inj (hNm.symm.trans (hK.2 2 _ rfl).2)
  subst hcA
  have hW' : x_World D T ex base (x_new M a N) H1 := by
    refine x_new_World hW (by rw [z1, hW.1]) (fun q hq => o1 q (by rw [← hW.1]; exact hq)) ?_
    unfold x_at
    rw [if_neg (by show ¬ a < 100; omega), e1]
    congr 2
    funext j
    rw [x_new_v0, if_neg (by rintro (h | ⟨h, -⟩); (· exact absurd h (by show ¬ a = 103; omega)); (· exact absurd h (by show ¬ a < 100; omega)))]
    unfold x_kty
    split
    · rfl
    · split <;> rfl
  have k1 := kk p l e R s m args below meth c H1 locs ls D T ex base ⟨h0.1, h0.2.1, h0.2.2.1, hW', x_S_new hS (by rw [z1, hW.1]) (fun q hq => o1 q (by rw [← hW.1]; exact hq)), hL⟩
  rw [hn rfl, List.map_cons, x_cv_new] at k1
  exact k1
theorem wp_anew {idx : Nat} {z : Int32} {N : Nat} (ho : x_op mi i = some (pc, 3, .anewarray idx, nx, a, b, ps)) (hp1 : ps = [ps.getD 0 0, ps.getD 1 0]) (hz : ¬ z < 0) (hN : z.toNatClampNeg = N) (hN2 : N ≤ 1000) (hk : k + 1 ≤ mc) (hm : n + N ≤ ms)
    (kk : x_WP E d mi nx L (.ref (64 + M.1.length) :: S) (x_new M 103 N) (k + 1) (n + N) mc ms Q) : x_WP E d mi i L (.int z :: S) M k n mc ms Q := by
  intro p l e R s m args below meth c H locs ls D T ex base h
  obtain ⟨hd, hp, hn, hI⟩ := x_dc ho
  rw [hp]
  rw [hp1] at hI
  simp only [x_ckI, Bool.and_eq_true] at hI
  have h0 := h
  obtain ⟨⟨hx, hb, hml, hown, hts⟩, ⟨-, -, -, -, -, hcR, hsR⟩, ⟨hbs, hK, hE⟩, hW, hS, hL⟩ := h
  subst hN
  refine W.anew hx hb hown (hts _ (x_w_in hI.1)) (va_AO.use hE.2.2.2.2.2.2.2) rfl hd rfl hz (by omega) (by omega) (by omega) (fun cA kA comp f1 f2 f3 f4 => ?_)
  have hcA : cA = T 103 := by
    obtain ⟨kA', comp', g1, g2, g3, g4⟩ := (hK.2 3 _ rfl).2
    exact Option.some.inj (f1.symm.trans g4)
  subst hcA
  rw [arrV_new]
  have z1 : (H.push (arrV (T 103) z.toNatClampNeg (fun _ => Value.null))).size = H.size + 1 := by simp
  have o1 : ∀ q, q < H.size → (H.push (arrV (T 103) z.toNatClampNeg (fun _ => Value.null)))[q]? = H[q]? := fun q hq => by rw [Array.getElem?_push, if_neg (Nat.ne_of_lt hq)]
  have hW' : x_World D T ex base (x_new M 103 z.toNatClampNeg) (H.push (arrV (T 103) z.toNatClampNeg (fun _ => Value.null))) := by
    refine x_new_World hW z1 o1 ?_
    unfold x_at
    rw [if_neg (by show ¬ 103 < 100; omega), ← hW.1, Array.getElem?_push, if_pos rfl]
    congr 2
    funext j
    rw [x_new_v0, if_pos (Or.inl rfl)]
  have k1 := kk p l e R s m args below meth c _ locs ls D T ex base ⟨h0.1, h0.2.1, h0.2.2.1, hW', x_S_new hS z1 o1, hL⟩
  rw [hn rfl, List.map_cons, x_cv_new, ← hW.1] at k1
  exact k1
def x_cpy (M : XM) (qs qd : Nat) (sp dp n : Nat) : XM := (M.1, M.2.1, fun i j => if i = qd then va_cpy (M.2.2 qs) (M.2.2 qd) sp dp n j else M.2.2 i j)
theorem wp_copy {idx qs qd kd N1 N2 : Nat} {sp dp n0 : Int32} (ho : x_op mi i = some (pc, 3, .invokestatic idx, nx, 1001, b, ps)) (hp1 : ps = [ps.getD 0 0, ps.getD 1 0, ps.getD 2 0, ps.getD 3 0]) (hs1 : x_kd M qs = some (kd, N1)) (hs2 : x_kd M qd = some (kd, N2)) (hkd : kd = 100 ∨ kd = 101)
    (h1 : ¬ sp < 0) (h2 : ¬ dp < 0) (h3 : ¬ n0 < 0) (h4 : sp.toNatClampNeg + n0.toNatClampNeg ≤ N1) (h5 : dp.toNatClampNeg + n0.toNatClampNeg ≤ N2) (hfit : kd = 101 → ∀ j, j < N1 → fits .byte (.int (M.2.2 qs j)) = true) (hcat : (S.map fun v => v.category).sum ≤ 8) (hd1 : 1 ≤ d)
    (kk : x_WP E d mi nx L S (x_cpy M qs qd sp.toNatClampNeg dp.toNatClampNeg n0.toNatClampNeg) k n mc ms Q) : x_WP E d mi i L (.int n0 :: .int dp :: .ref qd :: .int sp :: .ref qs :: S) M k n mc ms Q := by
  intro p l e R s m args below meth c H locs ls D T ex base h
  obtain ⟨hd, hp, hn, hI⟩ := x_dc ho
  rw [hp, List.map_cons, List.map_cons, List.map_cons, List.map_cons, List.map_cons, x_cv_m (x_kd_lt hs1).1, x_cv_m (x_kd_lt hs2).1]
  rw [hp1] at hI
  simp only [x_ckI, if_neg (show ¬ 1001 < 192 by decide), if_true, Bool.and_eq_true] at hI
  obtain ⟨⟨⟨hI1, hI2⟩, hI3⟩, hI4⟩ := hI
  have h0 := h
  obtain ⟨⟨hx, hb, hml, hown, hts⟩, ⟨-, -, -, hdR, hlR, hcR, hsR⟩, ⟨hbs, hK, hE⟩, hW, hS, hL⟩ := h
  have hAT := x_arrT h0
  have hkd2 : 100 ≤ kd := by omega
  have hkd3 : ¬ kd = 103 := by omega
  obtain ⟨ty, hty, hprim, hfit2⟩ : ∃ ty, ArrOfT s (T kd) ty ∧ refKind ty = false ∧ ∀ j, j < N1 → fits ty (.int (M.2.2 qs j)) = true := by
    rcases hkd with rfl | rfl
    · exact ⟨.int, hAT.1, rfl, fun _ _ => rfl⟩
    · exact ⟨.byte, hAT.2.1, rfl, hfit rfl⟩
  have ev : ∀ q N, (fun j => Value.int (M.2.2 q j)) = x_v ex base M (kd, N) q := fun q N => funext fun j => (x_vi hkd2 hkd3).symm
  have hc0 : H[base + (qs - 64)]? = some (arrV (T kd) N1 (fun j => Value.int (M.2.2 qs j))) := by rw [ev qs N1]; exact x_arr hW hs1 hkd2
  have hc1 : H[base + (qd - 64)]? = some (arrV (T kd) N2 (fun j => Value.int (M.2.2 qd j))) := by rw [ev qd N2]; exact x_arr hW hs2 hkd2
  have nn : ∀ z : Int32, ¬ z < 0 → z.toInt = (z.toNatClampNeg : Int) := by
    intro z hz
    have hz0 : (0 : Int) ≤ z.toInt := by
      have := Int32.not_lt.mp hz
      simpa using Int32.le_iff_toInt_le.mp this
    show z.toInt = ((z.toInt.toNat : Nat) : Int)
    omega
  intro T0 hT X
  obtain ⟨-, k0, hk0, cm0, hkk0⟩ := hty N1 (fun j => .int (M.2.2 qs j))
  obtain ⟨-, k1', hk1, cm1, hkk1⟩ := hty N2 (fun j => .int (M.2.2 qd j))
  obtain ⟨vm', X', step⟩ := X.arraycopy hx hown (hts _ (x_w_in hI1)) (hts _ (x_w_in hI2)) (hts _ (x_w_in hI3)) (hts _ (x_w_in hI4)) (src := base + (qs - 64)) (dst := base + (qd - 64)) (cs := arrV (T kd) N1 (fun j => Value.int (M.2.2 qs j))) (cd := arrV (T kd) N2 (fun j => Value.int (M.2.2 qd j))) (srcPos := sp) (destPos := dp) (n := n0) (by rw [hT]; exact hc0) (by rw [hT]; exact hc1)
    (fun _ h => by cases h) (fun _ h => by cases h) (fun h => by cases h) (fun h => by cases h) hk0 hk1 hkk0 hkk1 (by simp [hprim]) h1 h2 h3
    (by rw [nn sp h1, nn n0 h3, arrV_size]; omega)
    (by rw [nn dp h2, nn n0 h3, arrV_size]; omega)
    (fun vm₁ _ j hj => by
      have e : (arrV (T kd) N1 (fun j => Value.int (M.2.2 qs j))).slots.getD (sp.toNatClampNeg + j) .null = .int (M.2.2 qs (sp.toNatClampNeg + j)) := by
        rw [Array.getD_eq_getD_getElem?, arrV_read _ _ (by omega)]
        rfl
      refine ⟨?_, ?_⟩
      · rw [e]
        exact hfit2 _ (by omega)
      · rw [e]
        exact trivial)
    (g := F0 m pc ls (.int n0 :: .int dp :: .ref (base + (qd - 64)) :: .int sp :: .ref (base + (qs - 64)) :: S.map (x_cv ex base))) rfl (by show ls.size = _; rw [hL.1, hml]) (rest := S.map (x_cv ex base)) rfl (by rw [hb]; exact hd) (by omega)
    (by show 2 * 0 + _ + _ ≤ _; rw [x_cat_sum hE.1]; have : nativeFrameWords "java/lang/System" "arraycopy" 5 = 7 := rfl; omega)
  have e1 : copied (arrV (T kd) N1 (fun j => Value.int (M.2.2 qs j))) (arrV (T kd) N2 (fun j => Value.int (M.2.2 qd j))) sp dp n0 = arrV (T kd) N2 (fun j => Value.int (va_cpy (M.2.2 qs) (M.2.2 qd) sp.toNatClampNeg dp.toNatClampNeg n0.toNatClampNeg j)) := va_copied (fun z => .int z) (T kd) (T kd) (M.2.2 qs) (M.2.2 qd) h4
  rw [e1] at X' step
  have hl : base + (qd - 64) < H.size := (Array.getElem?_eq_some_iff.mp hc1).1
  have hheap : ((T0.setVm vm').setCell (base + (qd - 64)) (arrV (T kd) N2 (fun j => Value.int (va_cpy (M.2.2 qs) (M.2.2 qd) sp.toNatClampNeg dp.toNatClampNeg n0.toNatClampNeg j)))).heap = H.setIfInBounds (base + (qd - 64)) (arrV (T kd) N2 (fun j => Value.int (va_cpy (M.2.2 qs) (M.2.2 qd) sp.toNatClampNeg dp.toNatClampNeg n0.toNatClampNeg j))) := by rw [← hT]; rfl
  have oq : ∀ q : Nat, q ≠ base + (qd - 64) → (H.setIfInBounds (base + (qd - 64)) (arrV (T kd) N2 (fun j => Value.int (va_cpy (M.2.2 qs) (M.2.2 qd) sp.toNatClampNeg dp.toNatClampNeg n0.toNatClampNeg j))))[q]? = H[q]? := fun q hq => by simp [Array.getElem?_setIfInBounds, Ne.symm hq]
  have hv2 : ∀ p' i' k', i' ≠ qd → x_v ex base (x_cpy M qs qd sp.toNatClampNeg dp.toNatClampNeg n0.toNatClampNeg) p' i' k' = x_v ex base M p' i' k' := by
    intro p' i' k' hne
    unfold x_v x_cpy
    simp only [if_neg hne]
  have hW' : x_World D T ex base (x_cpy M qs qd sp.toNatClampNeg dp.toNatClampNeg n0.toNatClampNeg) (H.setIfInBounds (base + (qd - 64)) (arrV (T kd) N2 (fun j => Value.int (va_cpy (M.2.2 qs) (M.2.2 qd) sp.toNatClampNeg dp.toNatClampNeg n0.toNatClampNeg j)))) := by
    refine x_World_put hW hs2 rfl (by simp) oq hv2 ?_
    unfold x_at
    rw [if_neg (by show ¬ kd < 100; omega), show 64 + (qd - 64) = qd by have := (x_kd_lt hs2).1; omega]
    rw [Array.getElem?_setIfInBounds, if_pos rfl, if_pos hl]
    congr 2
    funext j
    rw [x_vi hkd2 hkd3]
    simp [x_cpy]
  have k1 := fun locs1 hS1 => kk p l e R s m args below meth c _ locs1 ls D T ex base ⟨h0.1, h0.2.1, h0.2.2.1, hW', hS1, hL⟩
  rw [hn rfl] at k1
  have k2 := fun hS1 => k1 _ hS1 _ hheap X'
  obtain ⟨t, a1, b1⟩ := k2 ⟨by simp; exact hS.1, fun q g1 g2 => by
      rw [oq q (fun e => g2 (by rw [e]; show base ≤ _; omega))]
      exact hS.2.1 q g1 g2, fun q hq => by
      rcases List.mem_append.mp hq with h | h
      · exact hS.2.2 q h
      · obtain ⟨z, -, hz⟩ := List.mem_map.mp h
        rw [← hz]
        show base ≤ base + (qd - 64)
        omega⟩
  exact ⟨t, step t a1, b1⟩
end XN
