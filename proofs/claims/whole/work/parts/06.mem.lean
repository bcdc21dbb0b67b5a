/-! ===== memory ===== -/
def x_kd (M : XM) (q : Nat) : Option (Nat × Nat) := if q < 64 then none else M.1[q - 64]?
def x_up {α : Type} (f : Nat → Nat → α) (q k : Nat) (x : α) : Nat → Nat → α := fun i j => if i = q ∧ j = k then x else f i j
def x_fin (a b : Nat) : Bool := match vwCl[a]? with
  | some r => (r.2.1 b).2.2.2
  | none => true
theorem x_inG {ws : List Jvm.Cond} (h : ∀ w ∈ ws, w ∈ lw_tbl) (hg : ws.all goodWord = true) : ∀ w ∈ ws, w ∈ x_gt := fun w hw => List.mem_filter.mpr ⟨h w hw, List.all_eq_true.mp hg w hw⟩
theorem x_inA {a : Nat} {r : vw_C} (h : vwCl[a]? = some r) : ∀ w ∈ u_ws r.1 r.2.1 r.2.2, w ∈ x_gt := by
  match a, h with
  | 0, h => cases h; exact x_inG x_in0 (by decide +kernel)
  | 1, h => cases h; exact x_inG x_in1 (by decide +kernel)
  | 2, h => cases h; exact x_inG x_in2 (by decide +kernel)
  | 3, h => cases h; exact x_inG x_in3 (by decide +kernel)
  | 4, h => cases h; exact x_inG x_in4 (by decide +kernel)
  | 5, h => cases h; exact x_inG x_in5 (by decide +kernel)
  | 6, h => cases h; exact x_inG x_in6 (by decide +kernel)
  | 7, h => cases h; exact x_inG x_in7 (by decide +kernel)
  | 8, h => cases h; exact x_inG x_in8 (by decide +kernel)
  | a + 9, h => simp [vwCl] at h
theorem x_tyA {a : Nat} {r : vw_C} (h : vwCl[a]? = some r) : ∀ k, k < r.2.2 → parseFieldDescriptor (r.2.1 k).2.2.1 = some (x_tyt a k) := by
  match a, h with
  | 0, h => cases h; exact tyX0_ok
  | 1, h => cases h; exact tyX1_ok
  | 2, h => cases h; exact tyX2_ok
  | 3, h => cases h; exact tyX3_ok
  | 4, h => cases h; exact tyX4_ok
  | 5, h => cases h; exact tyX5_ok
  | 6, h => cases h; exact tyX6_ok
  | 7, h => cases h; exact tyX7_ok
  | 8, h => cases h; exact tyX8_ok
  | a + 9, h => simp [vwCl] at h
theorem x_nmA {a : Nat} {r : vw_C} (h : vwCl[a]? = some r) : ∀ x, x < r.2.2 → ∀ y, y < r.2.2 → x ≠ y → (r.2.1 x).2.1 ≠ (r.2.1 y).2.1 := by
  match a, h with
  | 0, h => cases h; exact nmX0
  | 1, h => cases h; exact nmX1
  | 2, h => cases h; exact nmX2
  | 3, h => cases h; exact nmX3
  | 4, h => cases h; exact nmX4
  | 5, h => cases h; exact nmX5
  | 6, h => cases h; exact nmX6
  | 7, h => cases h; exact nmX7
  | 8, h => cases h; exact nmX8
  | a + 9, h => simp [vwCl] at h
theorem x_ckF_spec {own : String} {idx a b : Nat} {ps : List Nat} {C : String} {T : u_T} {N : Nat} (h : x_ckF own idx a b ps = true) (hr : vwCl[a]? = some (C, T, N)) :
    b < N ∧ Jvm.Cond.fieldLink own idx C (T b).2.1 (T b).2.2.1 ∈ x_gt ∧ (T b).1 = C := by
  unfold x_ckF at h
  rw [hr] at h
  split at h
  · rename_i C' T' N' p heq
    cases heq
    simp only [Bool.and_eq_true, decide_eq_true_eq] at h
    exact ⟨h.1.1, x_w_in h.1.2, h.2⟩
  · cases h
section XM1
variable {D : va_G} {T : Nat → ClassId} {ex : Nat → Value} {base : Nat} {M M' : XM} {H H' : Heap}
theorem x_kd_lt {q : Nat} {p : Nat × Nat} (h : x_kd M q = some p) : ¬ q < 64 ∧ M.1[q - 64]? = some p := by
  unfold x_kd at h
  split at h
  · cases h
  · exact ⟨by assumption, h⟩
theorem x_obj {q a N : Nat} (hW : x_World D T ex base M H) (hq : x_kd M q = some (a, N)) (ha : a < 9) :
    ∃ r : vw_C, vwCl[a]? = some r ∧ N = r.2.2 ∧ t_OB (base + (q - 64)) (D.1 a) N (D.2 a) H (x_v ex base M (a, N) q) := by
  obtain ⟨h1, h2⟩ := x_kd_lt hq
  have h3 := hW.2 _ _ h2
  unfold x_at at h3
  rw [if_pos (by show a < 100; omega), show 64 + (q - 64) = q by omega] at h3
  exact h3
theorem x_arr {q a N : Nat} (hW : x_World D T ex base M H) (hq : x_kd M q = some (a, N)) (ha : 100 ≤ a) : H[base + (q - 64)]? = some (arrV (T a) N (x_v ex base M (a, N) q)) := by
  obtain ⟨h1, h2⟩ := x_kd_lt hq
  have h3 := hW.2 _ _ h2
  unfold x_at at h3
  rw [if_neg (by show ¬ a < 100; omega), show 64 + (q - 64) = q by omega] at h3
  exact h3
theorem x_at_kept {j : Nat} {p : Nat × Nat} (h : x_at D T ex base M H j p) (hH : H'[base + j]? = H[base + j]?) (hv : ∀ k, x_v ex base M' p (64 + j) k = x_v ex base M p (64 + j) k) : x_at D T ex base M' H' j p := by
  have e : x_v ex base M' p (64 + j) = x_v ex base M p (64 + j) := funext hv
  unfold x_at at h ⊢
  rw [e]
  split at h
  · rename_i hlt
    rw [if_pos hlt]
    obtain ⟨r, h1, h2, h3⟩ := h
    exact ⟨r, h1, h2, h3.kept hH⟩
  · rename_i hlt
    rw [if_neg hlt, hH]
    exact h
theorem x_World_put {q : Nat} {p : Nat × Nat} (hW : x_World D T ex base M H) (hq : x_kd M q = some p) (hG : M'.1 = M.1) (hsz : H'.size = H.size) (ho : ∀ z : Nat, z ≠ base + (q - 64) → H'[z]? = H[z]?)
    (hv : ∀ p' i k, i ≠ q → x_v ex base M' p' i k = x_v ex base M p' i k) (hat : x_at D T ex base M' H' (q - 64) p) : x_World D T ex base M' H' := by
  obtain ⟨h1, h2⟩ := x_kd_lt hq
  refine ⟨by rw [hsz, hG]; exact hW.1, fun j p' hj => ?_⟩
  rw [hG] at hj
  by_cases hjq : j = q - 64
  · subst hjq
    cases h2.symm.trans hj
    exact hat
  · exact x_at_kept (hW.2 j p' hj) (ho _ (by omega)) (fun k => hv p' _ k (by omega))
theorem x_vI {q k0 : Nat} {x : Int32} {p : Nat × Nat} {i k : Nat} (h : ¬ (i = q ∧ k = k0)) : x_v ex base (M.1, M.2.1, x_up M.2.2 q k0 x) p i k = x_v ex base M p i k := by
  unfold x_v x_up
  simp only [if_neg h]
theorem x_vR {q k0 : Nat} {x : Value} {p : Nat × Nat} {i k : Nat} (h : ¬ (i = q ∧ k = k0)) : x_v ex base (M.1, x_up M.2.1 q k0 x, M.2.2) p i k = x_v ex base M p i k := by
  unfold x_v x_up
  simp only [if_neg h]
end XM1
def x_fit (ty : FieldType) (x : Int32) : Prop := narrow ty (.int x) = .int x ∧ fits ty (.int x) = true
theorem x_fit_int (x : Int32) : x_fit .int x := ⟨rfl, rfl⟩
theorem x_fit_b0 : x_fit .boolean 0 := ⟨rfl, rfl⟩
theorem x_fit_b1 : x_fit .boolean 1 := ⟨rfl, rfl⟩
section XO1
variable {E : XE} {d mi i k n mc ms nx a b pc : Nat} {ps : List Nat} {L S : List Value} {M : XM} {Q : Option Value → XM → Prop}
theorem x_getf {idx q N : Nat} (ho : x_op mi i = some (pc, 3, .getfield idx, nx, a, b, ps)) (ha : a < 9) (hq : x_kd M q = some (a, N))
    {v : Value} (hv : ∀ ex base, x_v ex base M (a, N) q b = x_cv ex base v) (kk : x_WP E d mi nx L (v :: S) M k n mc ms Q) : x_WP E d mi i L (.ref q :: S) M k n mc ms Q := by
  intro p l e R s m args below meth c H locs ls D T ex base h
  obtain ⟨hd, hp, hn, hI⟩ := x_dc ho
  have k1 := kk p l e R s m args below meth c H locs ls D T ex base h
  rw [hn rfl] at k1
  rw [hp, List.map_cons, x_cv_m (x_kd_lt hq).1]
  obtain ⟨⟨hx, hb, hml, hown, hts⟩, -, ⟨hbs, hK, hE⟩, hW, hS, hL⟩ := h
  obtain ⟨⟨C, TF, N0⟩, hr, hN, cell, q1, q2, q3, q4⟩ := x_obj hW hq ha
  dsimp only at hN
  subst hN
  have hI2 : x_ckF (x_m mi).1.cls idx a b ps = true := by
    simp only [x_ckI, if_pos ha] at hI
    exact hI
  obtain ⟨hbN, hlink, hown2⟩ := x_ckF_spec hI2 hr
  obtain ⟨hSl, hfc, kC, hkC, hkind⟩ := hK.1 a _ hr
  obtain ⟨cf, kf, fi, f, hi, hsl⟩ := hSl b hbN
  have hst := (u_facts hfc hkC (u_lays hts (x_inA hr) hbN) hi).1
  dsimp only at hi
  rw [hown2] at hi
  refine W.getf (v := x_cv ex base v) hx hb hown (hts _ hlink) hi hst q1 (by rw [q3]; exact fun h => by cases h) ?_ rfl rfl hd k1
  rw [hsl, q4 b hbN, hv]
theorem wp_getI {idx q N : Nat} (ho : x_op mi i = some (pc, 3, .getfield idx, nx, a, b, ps)) (ha : a < 9) (hq : x_kd M q = some (a, N)) (hR : x_isR a b = false) (kk : x_WP E d mi nx L (.int (M.2.2 q b) :: S) M k n mc ms Q) : x_WP E d mi i L (.ref q :: S) M k n mc ms Q :=
  x_getf ho ha hq (v := .int (M.2.2 q b)) (fun ex base => by
    unfold x_v
    rw [if_neg (by show ¬ (a = 103 ∨ (a < 100 ∧ x_isR a b = true)); rw [hR]; rintro (h | ⟨-, h⟩); (· omega); (· cases h))]
    rfl) kk
theorem wp_getR {idx q N : Nat} {v : Value} (ho : x_op mi i = some (pc, 3, .getfield idx, nx, a, b, ps)) (ha : a < 9) (hq : x_kd M q = some (a, N)) (hR : x_isR a b = true) (hv : M.2.1 q b = v) (kk : x_WP E d mi nx L (v :: S) M k n mc ms Q) : x_WP E d mi i L (.ref q :: S) M k n mc ms Q :=
  x_getf ho ha hq (fun ex base => by
    unfold x_v
    rw [if_pos (by show a = 103 ∨ (a < 100 ∧ x_isR a b = true); exact Or.inr ⟨by omega, hR⟩), hv]) kk
/-- putfield, at the level of the heap -/
theorem x_putf {idx q N : Nat} {v : Value} {M' : XM} (ho : x_op mi i = some (pc, 3, .putfield idx, nx, a, b, ps)) (ha : a < 9) (hq : x_kd M q = some (a, N)) (hfin : x_fin a b = false ∨ ((x_m mi).1.name = "<init>" ∧ (vwCl[a]?).map (fun r => r.1) = some (x_m mi).1.cls))
    (hfit : ∀ ex base, x_exr ex → narrow (x_ty a b) (x_cv ex base v) = x_cv ex base v ∧ fits (x_ty a b) (x_cv ex base v) = true)
    (hG : M'.1 = M.1) (hv1 : ∀ ex base, x_v ex base M' (a, N) q b = x_cv ex base v) (hv2 : ∀ ex base p' i' k', ¬ (i' = q ∧ k' = b) → x_v ex base M' p' i' k' = x_v ex base M p' i' k')
    (kk : x_WP E d mi nx L S M' k n mc ms Q) : x_WP E d mi i L (v :: .ref q :: S) M k n mc ms Q := by
  intro p l e R s m args below meth c H locs ls D T ex base h
  obtain ⟨hd, hp, hn, hI⟩ := x_dc ho
  rw [hp, List.map_cons, List.map_cons, x_cv_m (x_kd_lt hq).1]
  have h0 := h
  obtain ⟨⟨hx, hb, hml, hown, hts⟩, ⟨-, -, hnm, -⟩, ⟨hbs, hK, hE⟩, hW, hS, hL⟩ := h
  obtain ⟨⟨C, TF, N0⟩, hr, hN, cell, q1, q2, q3, q4⟩ := x_obj hW hq ha
  dsimp only at hN
  subst hN
  have hI2 : x_ckF (x_m mi).1.cls idx a b ps = true := hI
  obtain ⟨hbN, hlink, hown2⟩ := x_ckF_spec hI2 hr
  have hKa := hK.1 a _ hr
  obtain ⟨hSl, hfc, kC, hkC, hkind⟩ := hKa
  obtain ⟨cf, kf, fi, f, hi, hsl⟩ := hSl b hbN
  have hlays := u_lays hts (x_inA hr) hbN
  have hst := (u_facts hfc hkC hlays hi).1
  obtain ⟨hft1, hft2⟩ := hfit ex base hE.1
  have hty := x_tyA hr b hbN
  have hlay := hts _ (x_inA hr _ (u_in_lay hbN))
  dsimp only at hlay hty hi hlays hSl
  have hap := va_apart (own := (x_m mi).1.cls) hts (x_inA hr) (x_tyt a) (x_tyA hr) (x_nmA hr) hK hr
  have hi' := hi
  rw [hown2] at hi'
  have hend : ∀ (H' : Heap) (locs1 : List Loc), H'[base + (q - 64)]? = some (cell.setSlot f.slot (x_cv ex base v)) → H'.size = H.size → (∀ z, z ≠ base + (q - 64) → H'[z]? = H[z]?) → locs1 = locs ++ [⟨base + (q - 64), f.slot⟩] →
      W p l e R s m args below meth c H' locs1 k n (MQ below (x_Qc D T ex base Q) args s mc ms (x_A base)) (F0 m (pc + 3) ls (List.map (x_cv ex base) S)) := by
    intro H' locs1 e1 e2 e3 e4
    have hW' : x_World D T ex base M' H' := by
      refine x_World_put hW hq hG e2 e3 (fun p' i' k' hne => hv2 ex base p' i' k' (fun z => hne z.1)) ?_
      unfold x_at
      rw [if_pos (by show a < 100; omega), show 64 + (q - 64) = q by have := (x_kd_lt hq).1; omega]
      refine ⟨_, hr, rfl, t_OB.to (V := updV (x_v ex base M (a, N) q) b (x_cv ex base v)) ⟨_, e1, q2, q3, ?_⟩ (fun j hj => ?_)⟩
      · rw [hsl]
        exact t_set q4 hap hbN _
      · by_cases hjb : j = b
        · subst hjb
          rw [hv1]
          simp [updV]
        · rw [hv2 ex base _ _ _ (fun z => hjb z.2)]
          simp [updV, hjb]
    have k1 := kk p l e R s m args below meth c H' locs1 ls D T ex base ⟨h0.1, h0.2.1, h0.2.2.1, hW', by rw [e4]; exact hS.put e2 e3 (by show base ≤ _; omega), hL⟩
    rw [hn rfl] at k1
    exact k1
  unfold u_lay at hlay
  by_cases hf : (TF b).2.2.2 = true
  · have hinit : (x_m mi).1.name = "<init>" ∧ (vwCl[a]?).map (fun r => r.1) = some (x_m mi).1.cls := by
      rcases hfin with hfin | hfin
      · unfold x_fin at hfin
        rw [hr] at hfin
        dsimp only at hfin
        rw [hf] at hfin
        cases hfin
      · exact hfin
    rw [if_pos hf] at hlay
    have hcf : m.cls = cf := by
      obtain ⟨c0, _, c', _, _, _, g1, -, hf', -, -, -, hown3, -⟩ := Cond.laysFinal_spec hlay
      have e1 : c' = cf := by have := hi.symm.trans hf'; simp at this; exact this.1.symm
      rw [hown2] at hown3
      have hco : C = (x_m mi).1.cls := by
        have := hinit.2
        rw [hr] at this
        exact Option.some.inj this
      rw [hco] at hown3
      rw [← e1]; exact Option.some.inj (hown.symm.trans hown3)
    have h6 := u_fits hfc hkC hkind (Or.inr hlay) hi hty hft1 hft2
    exact W.putFinK hx hb hown (hts _ hlink) hi' hst hcf (hnm.trans hinit.1) (by rw [q2]; exact h6) q1 q3 (by rw [hsl]; exact k2_hasslot (q4 b hbN)) rfl rfl hd (fun H' e1 e2 e3 => hend H' _ e1 e2 e3 rfl)
  · rw [if_neg hf] at hlay
    have h6 := u_store hfc hkC hkind hlay hi hty hft1 hft2
    exact W.putK hx hb (f := f) ⟨hown, hts _ hlink, ⟨_, _, _, hi'⟩, hst⟩ (by rw [q2]; exact h6) q1 q3 (by rw [hsl]; exact k2_hasslot (q4 b hbN)) rfl rfl hd (fun H' e1 e2 e3 => hend H' _ e1 e2 e3 rfl)
theorem wp_putI {idx q N : Nat} {x : Int32} (ho : x_op mi i = some (pc, 3, .putfield idx, nx, a, b, ps)) (ha : a < 9) (hq : x_kd M q = some (a, N)) (hR : x_isR a b = false) (hfin : x_fin a b = false) (hfit : x_fit (x_ty a b) x)
    (kk : x_WP E d mi nx L S (M.1, M.2.1, x_up M.2.2 q b x) k n mc ms Q) : x_WP E d mi i L (.int x :: .ref q :: S) M k n mc ms Q :=
  x_putf (v := .int x) (M' := (M.1, M.2.1, x_up M.2.2 q b x)) ho ha hq (Or.inl hfin) (fun ex base _ => hfit) rfl (fun ex base => by
    unfold x_v
    rw [if_neg (by show ¬ (a = 103 ∨ (a < 100 ∧ x_isR a b = true)); rw [hR]; rintro (h | ⟨-, h⟩); (· omega); (· cases h))]
    simp [x_up, x_cv]) (fun ex base p' i' k' h => x_vI h) kk
theorem wp_putR {idx q N r : Nat} (ho : x_op mi i = some (pc, 3, .putfield idx, nx, a, b, ps)) (ha : a < 9) (hq : x_kd M q = some (a, N)) (hr : ¬ r < 64) (hR : x_isR a b = true) (hfin : x_fin a b = false ∨ ((x_m mi).1.name = "<init>" ∧ (vwCl[a]?).map (fun r => r.1) = some (x_m mi).1.cls))
    (kk : x_WP E d mi nx L S (M.1, x_up M.2.1 q b (.ref r), M.2.2) k n mc ms Q) : x_WP E d mi i L (.ref r :: .ref q :: S) M k n mc ms Q :=
  x_putf (v := .ref r) (M' := (M.1, x_up M.2.1 q b (.ref r), M.2.2)) ho ha hq hfin (fun ex base _ => by
    rw [x_cv_m hr]
    unfold x_isR at hR
    cases hty : x_ty a b <;> rw [hty] at hR <;> first | exact ⟨rfl, rfl⟩ | cases hR) rfl (fun ex base => by
    unfold x_v
    rw [if_pos (by show a = 103 ∨ (a < 100 ∧ x_isR a b = true); exact Or.inr ⟨by omega, hR⟩)]
    simp [x_up]) (fun ex base p' i' k' h => x_vR h) kk
/-! arrays -/
theorem x_arrT {E : XE} {p : Program} {R : Room} {s : State} {m : MethodId} {args : Array Value} {meth : Method} {c : Code} {H : Heap} {locs : List Loc} {ls : Array Slot} {D : va_G} {T : Nat → ClassId} {ex : Nat → Value} {base : Nat}
    (h : x_Mh E d mi L M mc ms p R s m args meth c H locs ls D T ex base) : ArrOfT s (T 100) .int ∧ ArrOfT s (T 101) .byte ∧ ArrOfT s (T 102) .boolean ∧ ArrOfT s (T 103) (.object "StarchedCollars$Man") :=
  have hK := h.2.2.1.2.1
  ⟨(hK.2 0 _ rfl).1, (hK.2 1 _ rfl).1, (hK.2 2 _ rfl).1, (hK.2 3 _ rfl).1⟩
theorem x_vi {ex : Nat → Value} {base : Nat} {kd N q k0 : Nat} (h : 100 ≤ kd) (h2 : ¬ kd = 103) : x_v ex base M (kd, N) q k0 = .int (M.2.2 q k0) := by
  unfold x_v
  rw [if_neg]
  rintro (h3 | ⟨h3, -⟩)
  · exact h2 h3
  · exact absurd h3 (by show ¬ kd < 100; omega)
theorem wp_iald {q N : Nat} {j : Int32} (ho : x_op mi i = some (pc, 1, .iaload, nx, a, b, ps)) (hq : x_kd M q = some (100, N)) (hin : vp_in j N) (kk : x_WP E d mi nx L (.int (M.2.2 q j.toNatClampNeg) :: S) M k n mc ms Q) : x_WP E d mi i L (.int j :: .ref q :: S) M k n mc ms Q :=
  x_stk (S' := .int (M.2.2 q j.toNatClampNeg) :: S) ho rfl (fun p l e R s m args below meth c H locs ls D T ex base Z h hx hb hd k1 => by
    rw [List.map_cons, List.map_cons, x_cv_m (x_kd_lt hq).1]
    have hlt : j.toNatClampNeg < N := Nat.not_le.mp fun z => hin (Or.inr z)
    refine W.iald (v := .int (M.2.2 q j.toNatClampNeg)) hx hb (x_arr h.2.2.2.1 hq (Nat.le_refl _)) ((x_arrT h).1 _ _) (fun z => by cases z) (by rw [arrV_size]; exact hin) ?_ rfl rfl hd k1
    rw [arrV_read _ _ hlt, x_vi (Nat.le_refl _) (by decide)]) kk
theorem wp_bald {q N : Nat} {j : Int32} (ho : x_op mi i = some (pc, 1, .baload, nx, a, b, ps)) (hq : x_kd M q = some (101, N)) (hin : vp_in j N) (kk : x_WP E d mi nx L (.int (M.2.2 q j.toNatClampNeg) :: S) M k n mc ms Q) : x_WP E d mi i L (.int j :: .ref q :: S) M k n mc ms Q :=
  x_stk (S' := .int (M.2.2 q j.toNatClampNeg) :: S) ho rfl (fun p l e R s m args below meth c H locs ls D T ex base Z h hx hb hd k1 => by
    rw [List.map_cons, List.map_cons, x_cv_m (x_kd_lt hq).1]
    have hlt : j.toNatClampNeg < N := Nat.not_le.mp fun z => hin (Or.inr z)
    refine W.bald (v := .int (M.2.2 q j.toNatClampNeg)) hx hb (x_arr h.2.2.2.1 hq (by decide)) ((x_arrT h).2.1 _ _) (fun z => by cases z) (by rw [arrV_size]; exact hin) ?_ rfl rfl hd k1
    rw [arrV_read _ _ hlt, x_vi (by decide) (by decide)]) kk
theorem wp_zald {q N : Nat} {j : Int32} (ho : x_op mi i = some (pc, 1, .baload, nx, a, b, ps)) (hq : x_kd M q = some (102, N)) (hin : vp_in j N) (kk : x_WP E d mi nx L (.int (M.2.2 q j.toNatClampNeg) :: S) M k n mc ms Q) : x_WP E d mi i L (.int j :: .ref q :: S) M k n mc ms Q :=
  x_stk (S' := .int (M.2.2 q j.toNatClampNeg) :: S) ho rfl (fun p l e R s m args below meth c H locs ls D T ex base Z h hx hb hd k1 => by
    rw [List.map_cons, List.map_cons, x_cv_m (x_kd_lt hq).1]
    have hlt : j.toNatClampNeg < N := Nat.not_le.mp fun z => hin (Or.inr z)
    refine W.zald (v := .int (M.2.2 q j.toNatClampNeg)) hx hb (x_arr h.2.2.2.1 hq (by decide)) ((x_arrT h).2.2.1 _ _) (fun z => by cases z) (by rw [arrV_size]; exact hin) ?_ rfl rfl hd k1
    rw [arrV_read _ _ hlt, x_vi (by decide) (by decide)]) kk
theorem wp_aald {q N : Nat} {j : Int32} {v : Value} (ho : x_op mi i = some (pc, 1, .aaload, nx, a, b, ps)) (hq : x_kd M q = some (103, N)) (hin : vp_in j N) (hv : M.2.1 q j.toNatClampNeg = v) (kk : x_WP E d mi nx L (v :: S) M k n mc ms Q) : x_WP E d mi i L (.int j :: .ref q :: S) M k n mc ms Q :=
  x_stk (S' := v :: S) ho rfl (fun p l e R s m args below meth c H locs ls D T ex base Z h hx hb hd k1 => by
    rw [List.map_cons, List.map_cons, x_cv_m (x_kd_lt hq).1]
    have hlt : j.toNatClampNeg < N := Nat.not_le.mp fun z => hin (Or.inr z)
    refine W.aald (v := x_cv ex base v) (ty := .object "StarchedCollars$Man") hx hb (x_arr h.2.2.2.1 hq (by decide)) ((x_arrT h).2.2.2 _ _) rfl (fun z => by cases z) (by rw [arrV_size]; exact hin) ?_ rfl rfl hd k1
    rw [arrV_read _ _ hlt]
    unfold x_v
    rw [if_pos (Or.inl rfl), hv]) kk
theorem wp_alen {q kd N : Nat} {v : Int32} (ho : x_op mi i = some (pc, 1, .arraylength, nx, a, b, ps)) (hq : x_kd M q = some (kd, N)) (hkd : 100 ≤ kd ∧ kd ≤ 103) (hv : Int32.ofNat N = v) (kk : x_WP E d mi nx L (.int v :: S) M k n mc ms Q) : x_WP E d mi i L (.ref q :: S) M k n mc ms Q :=
  x_stk (S' := .int v :: S) ho rfl (fun p l e R s m args below meth c H locs ls D T ex base Z h hx hb hd k1 => by
    rw [List.map_cons, x_cv_m (x_kd_lt hq).1]
    obtain ⟨h0, h1, h2, h3⟩ := x_arrT h
    have hA : ∃ ty, ArrOfT s (T kd) ty := by
      rcases (show kd = 100 ∨ kd = 101 ∨ kd = 102 ∨ kd = 103 by omega) with rfl | rfl | rfl | rfl
      · exact ⟨_, h0⟩
      · exact ⟨_, h1⟩
      · exact ⟨_, h2⟩
      · exact ⟨_, h3⟩
    obtain ⟨ty, hA⟩ := hA
    exact W.alen (n := v) hx hb (x_arr h.2.2.2.1 hq hkd.1) (hA _ _) (by rw [arrV_size]; exact hv) rfl rfl hd k1) kk
/-- a store into an array, at the level of the heap -/
theorem x_ast {ins : Jvm.ClassFile.Instr} {q kd N : Nat} {j : Int32} {v w : Value} {M' : XM} (ho : x_op mi i = some (pc, 1, ins, nx, a, b, ps)) (ht : x_term ins = false) (hq : x_kd M q = some (kd, N)) (hkd : 100 ≤ kd) (hin : vp_in j N)
    (hG : M'.1 = M.1) (hv1 : ∀ ex base, x_v ex base M' (kd, N) q j.toNatClampNeg = x_cv ex base w) (hv2 : ∀ ex base p' i' k', ¬ (i' = q ∧ k' = j.toNatClampNeg) → x_v ex base M' p' i' k' = x_v ex base M p' i' k')
    (hs : ∀ (p : Program) (l : Launch) (e : Env) (R : Room) (s : State) (m : MethodId) (args : Array Value) (below : List Frame) (meth : Method) (c : Code) (H : Heap) (locs : List Loc) (ls : Array Slot) (D : va_G) (T : Nat → ClassId) (ex : Nat → Value) (base : Nat) (Z : State → Prop),
      x_Mh E d mi L M mc ms p R s m args meth c H locs ls D T ex base → p.tables.exec = Jvm.exec → c.code = (x_m mi).2.1 → decode (x_m mi).2.1 pc = .ok (ins, 1) → H[base + (q - 64)]? = some (arrV (T kd) N (x_v ex base M (kd, N) q)) →
      (∀ H' : Heap, H'[base + (q - 64)]? = some ((arrV (T kd) N (x_v ex base M (kd, N) q)).setSlot j.toNatClampNeg (x_cv ex base w)) → H'.size = H.size → (∀ z, z ≠ base + (q - 64) → H'[z]? = H[z]?) → W p l e R s m args below meth c H' (locs ++ [⟨base + (q - 64), j.toNatClampNeg⟩]) k n Z (F0 m (pc + 1) ls (S.map (x_cv ex base)))) →
      W p l e R s m args below meth c H locs k n Z (F0 m pc ls (x_cv ex base v :: .int j :: .ref (base + (q - 64)) :: S.map (x_cv ex base))))
    (kk : x_WP E d mi nx L S M' k n mc ms Q) : x_WP E d mi i L (v :: .int j :: .ref q :: S) M k n mc ms Q := by
  intro p l e R s m args below meth c H locs ls D T ex base h
  obtain ⟨hd, hp, hn, -⟩ := x_dc ho
  rw [hp, List.map_cons, List.map_cons, List.map_cons, x_cv_m (x_kd_lt hq).1]
  refine hs p l e R s m args below meth c H locs ls D T ex base _ h h.1.1 h.1.2.1 hd (x_arr h.2.2.2.1 hq hkd) (fun H' e1 e2 e3 => ?_)
  have hW' : x_World D T ex base M' H' := by
    refine x_World_put h.2.2.2.1 hq hG e2 e3 (fun p' i' k' hne => hv2 ex base p' i' k' (fun z => hne z.1)) ?_
    unfold x_at
    rw [if_neg (by show ¬ kd < 100; omega), show 64 + (q - 64) = q by have := (x_kd_lt hq).1; omega, e1, arrV_store]
    congr 2
    funext z
    by_cases hz : z = j.toNatClampNeg
    · subst hz
      rw [hv1]
      simp [updV]
    · rw [hv2 ex base _ _ _ (fun y => hz y.2)]
      simp [updV, hz]
  have k1 := kk p l e R s m args below meth c H' _ ls D T ex base ⟨h.1, h.2.1, h.2.2.1, hW', h.2.2.2.2.1.put (k := j.toNatClampNeg) e2 e3 (by show base ≤ _; omega), h.2.2.2.2.2⟩
  rw [hn ht] at k1
  exact k1
theorem x_vi1 {ex : Nat → Value} {base : Nat} {kd N q k0 : Nat} {x : Int32} (h : 100 ≤ kd) (h2 : ¬ kd = 103) : x_v ex base (M.1, M.2.1, x_up M.2.2 q k0 x) (kd, N) q k0 = .int x := by
  rw [x_vi h h2]
  simp [x_up]
theorem wp_iast {q N : Nat} {j x : Int32} (ho : x_op mi i = some (pc, 1, .iastore, nx, a, b, ps)) (hq : x_kd M q = some (100, N)) (hin : vp_in j N) (kk : x_WP E d mi nx L S (M.1, M.2.1, x_up M.2.2 q j.toNatClampNeg x) k n mc ms Q) : x_WP E d mi i L (.int x :: .int j :: .ref q :: S) M k n mc ms Q :=
  x_ast (w := .int x) (M' := (M.1, M.2.1, x_up M.2.2 q j.toNatClampNeg x)) ho rfl hq (by decide) hin rfl (fun ex base => x_vi1 (by decide) (by decide)) (fun ex base p' i' k' h => x_vI h) (fun p l e R s m args below meth c H locs ls D T ex base Z h hx hb hd hc k1 =>
    W.iast hx hb hc ((x_arrT h).1 _ _) (fun z => by cases z) (by rw [arrV_size]; exact hin) rfl rfl hd k1) kk
theorem wp_bast {q N : Nat} {j x : Int32} (ho : x_op mi i = some (pc, 1, .bastore, nx, a, b, ps)) (hq : x_kd M q = some (101, N)) (hin : vp_in j N) (kk : x_WP E d mi nx L S (M.1, M.2.1, x_up M.2.2 q j.toNatClampNeg x.toInt8.toInt32) k n mc ms Q) : x_WP E d mi i L (.int x :: .int j :: .ref q :: S) M k n mc ms Q :=
  x_ast (w := .int x.toInt8.toInt32) (M' := (M.1, M.2.1, x_up M.2.2 q j.toNatClampNeg x.toInt8.toInt32)) ho rfl hq (by decide) hin rfl (fun ex base => x_vi1 (by decide) (by decide)) (fun ex base p' i' k' h => x_vI h) (fun p l e R s m args below meth c H locs ls D T ex base Z h hx hb hd hc k1 =>
    W.bast hx hb hc ((x_arrT h).2.1 _ _) (fun z => by cases z) (by rw [arrV_size]; exact hin) rfl rfl hd k1) kk
theorem wp_zast {q N : Nat} {j x : Int32} (ho : x_op mi i = some (pc, 1, .bastore, nx, a, b, ps)) (hq : x_kd M q = some (102, N)) (hin : vp_in j N) (hx1 : narrow .boolean (.int x) = .int x) (kk : x_WP E d mi nx L S (M.1, M.2.1, x_up M.2.2 q j.toNatClampNeg x) k n mc ms Q) : x_WP E d mi i L (.int x :: .int j :: .ref q :: S) M k n mc ms Q :=
  x_ast (w := .int x) (M' := (M.1, M.2.1, x_up M.2.2 q j.toNatClampNeg x)) ho rfl hq (by decide) hin rfl (fun ex base => x_vi1 (by decide) (by decide)) (fun ex base p' i' k' h => x_vI h) (fun p l e R s m args below meth c H locs ls D T ex base Z h hx hb hd hc k1 =>
    W.zast hx hb hc ((x_arrT h).2.2.1 _ _) (fun z => by cases z) (by rw [arrV_size]; exact hin) rfl rfl hd (fun H' e1 => k1 H' (by rw [e1, hx1]; rfl))) kk
theorem wp_aast {q N r : Nat} {j : Int32} (ho : x_op mi i = some (pc, 1, .aastore, nx, a, b, ps)) (hq : x_kd M q = some (103, N)) (hr : x_kd M r = some (1, 9)) (hin : vp_in j N) (kk : x_WP E d mi nx L S (M.1, x_up M.2.1 q j.toNatClampNeg (.ref r), M.2.2) k n mc ms Q) : x_WP E d mi i L (.ref r :: .int j :: .ref q :: S) M k n mc ms Q :=
  x_ast (w := .ref r) (M' := (M.1, x_up M.2.1 q j.toNatClampNeg (.ref r), M.2.2)) ho rfl hq (by decide) hin rfl (fun ex base => by
    unfold x_v
    rw [if_pos (Or.inl rfl)]
    simp [x_up]) (fun ex base p' i' k' h => x_vR h) (fun p l e R s m args below meth c H locs ls D T ex base Z h hx hb hd hc k1 => by
    have hlt : j.toNatClampNeg < N := Nat.not_le.mp fun z => hin (Or.inr z)
    have h0 : ¬ j < 0 := fun z => hin (Or.inl z)
    obtain ⟨r1, hr1, hN, cellV, g1, g2, g3, -⟩ := x_obj h.2.2.2.1 hr (by decide)
    have hK := h.2.2.1.2.1
    have hcls := (hK.1 1 r1 hr1).2
    obtain ⟨kA, comp, k1', k2', k3', -⟩ := (hK.2 3 _ rfl).2
    have hr1' : r1 = (RX1, TX1, 9) := by cases hr1; rfl
    subst hr1'
    have hcomp : comp = D.1 1 := Option.some.inj (k3'.symm.trans hcls.1)
    subst hcomp
    obtain ⟨kC, hkC, hkk⟩ := hcls.2
    rw [x_cv_m (x_kd_lt hr).1] at k1 ⊢
    exact W.aast hx hb hc (fun z e => by cases e) (fun e => by cases e) k1' k2' rfl hkC ⟨h0, by rw [arrV_size]; exact hlt⟩ g1 (fun z e => by rw [g3] at e; cases e) (by rw [g2]; exact hkC) (by rw [g2]; exact va_assign hcls) rfl rfl hd k1) kk
/-! what lies outside -/
theorem wp_gets {idx : Nat} {C n0 d0 : String} (ho : x_op mi i = some (pc, 3, .getstatic idx, nx, a, b, ps)) (ha : a < 6) (he : x_ext a = some (C, n0, d0)) (hp1 : ps = [ps.headD 0]) (kk : x_WP E d mi nx L (.ref a :: S) M k n mc ms Q) : x_WP E d mi i L S M k n mc ms Q := by
  have hI := (x_dc ho).2.2.2
  refine x_stk (S' := .ref a :: S) ho rfl (fun p l e R s m args below meth c H locs ls D T ex base Z h hx hb hd k1 => ?_) kk
  rw [hp1] at hI
  simp only [x_ckI, he] at hI
  have hcv : x_cv ex base (.ref a) = ex a := by simp [x_cv, show a < 64 by omega]
  rw [List.map_cons, hcv] at k1
  exact va_gets hx hb (h.2.2.1.2.2.2.2.1 a C n0 d0 ha he) h.2.2.2.2.1 h.1.2.2.2.1 (h.1.2.2.2.2 _ (x_w_in hI)) (fun x hx => hx) hd k1
theorem wp_getsC {idx : Nat} (ho : x_op mi i = some (pc, 3, .getstatic idx, nx, 902, b, ps)) (hp1 : ps = [ps.headD 0]) (kk : x_WP E d mi nx L (.int 1 :: S) M k n mc ms Q) : x_WP E d mi i L S M k n mc ms Q := by
  have hI := (x_dc ho).2.2.2
  refine x_stk (S' := .int 1 :: S) ho rfl (fun p l e R s m args below meth c H locs ls D T ex base Z h hx hb hd k1 => ?_) kk
  rw [hp1] at hI
  exact va_gets hx hb h.2.2.1.2.2.2.2.2.1 h.2.2.2.2.1 h.1.2.2.2.1 (h.1.2.2.2.2 _ (x_w_in hI)) (fun x hx => hx) hd k1
theorem x_arX {E : XE} {p : Program} {R : Room} {s : State} {m : MethodId} {args : Array Value} {meth : Method} {c : Code} {H : Heap} {locs : List Loc} {ls : Array Slot} {D : va_G} {T : Nat → ClassId} {ex : Nat → Value} {base : Nat}
    (h : x_Mh E d mi L M mc ms p R s m args meth c H locs ls D T ex base) {e0 N : Nat} {ty : FieldType} {f : Nat → Int32} (he : x_Ar E e0 = some (ty, N, f)) : ∃ t : Nat, x_cv ex base (.ref e0) = .ref t ∧ va_T ty t N (fun j => .int (f j)) (x_A base) s s.heap := by
  obtain ⟨t, h1, h2⟩ := h.2.2.1.2.2.2.1 e0 ty N f he
  have hlt : e0 < 64 := by
    by_cases h9 : e0 < 32
    · omega
    · exfalso
      unfold x_Ar at he
      split at he <;> first | omega | cases he
  exact ⟨t, by simp [x_cv, hlt, h1], h2⟩
theorem wp_ialdX {e0 N : Nat} {f : Nat → Int32} {j : Int32} (ho : x_op mi i = some (pc, 1, .iaload, nx, a, b, ps)) (he : x_Ar E e0 = some (.int, N, f)) (hin : vp_in j N) (kk : x_WP E d mi nx L (.int (f j.toNatClampNeg) :: S) M k n mc ms Q) : x_WP E d mi i L (.int j :: .ref e0 :: S) M k n mc ms Q :=
  x_stk (S' := .int (f j.toNatClampNeg) :: S) ho rfl (fun p l e R s m args below meth c H locs ls D T ex base Z h hx hb hd k1 => by
    obtain ⟨t, h1, h2⟩ := x_arX h he
    rw [List.map_cons, List.map_cons, h1]
    exact va_ti hx hb h2 h.2.2.2.2.1 hin rfl hd k1) kk
theorem wp_baldX {e0 N : Nat} {f : Nat → Int32} {j : Int32} (ho : x_op mi i = some (pc, 1, .baload, nx, a, b, ps)) (he : x_Ar E e0 = some (.byte, N, f)) (hin : vp_in j N) (kk : x_WP E d mi nx L (.int (f j.toNatClampNeg) :: S) M k n mc ms Q) : x_WP E d mi i L (.int j :: .ref e0 :: S) M k n mc ms Q :=
  x_stk (S' := .int (f j.toNatClampNeg) :: S) ho rfl (fun p l e R s m args below meth c H locs ls D T ex base Z h hx hb hd k1 => by
    obtain ⟨t, h1, h2⟩ := x_arX h he
    rw [List.map_cons, List.map_cons, h1]
    exact va_tb hx hb h2 h.2.2.2.2.1 hin rfl hd k1) kk
theorem wp_alenX {e0 N : Nat} {ty : FieldType} {f : Nat → Int32} {v : Int32} (ho : x_op mi i = some (pc, 1, .arraylength, nx, a, b, ps)) (he : x_Ar E e0 = some (ty, N, f)) (hv : Int32.ofNat N = v) (kk : x_WP E d mi nx L (.int v :: S) M k n mc ms Q) : x_WP E d mi i L (.ref e0 :: S) M k n mc ms Q :=
  x_stk (S' := .int v :: S) ho rfl (fun p l e R s m args below meth c H locs ls D T ex base Z h hx hb hd k1 => by
    obtain ⟨t, h1, h2⟩ := x_arX h he
    rw [List.map_cons, h1]
    exact va_tlen hx hb h2 h.2.2.2.2.1 hv hd k1) kk
/-- a String's fields: its bytes, its coder -/
theorem wp_getSv {idx e0 : Nat} (ho : x_op mi i = some (pc, 3, .getfield idx, nx, 900, b, ps)) (hp1 : ps = [ps.headD 0]) (he : e0 < 8) (kk : x_WP E d mi nx L (.ref (24 + e0) :: S) M k n mc ms Q) : x_WP E d mi i L (.ref (8 + e0) :: S) M k n mc ms Q := by
  have hI := (x_dc ho).2.2.2
  refine x_stk (S' := .ref (24 + e0) :: S) ho rfl (fun p l e R s m args below meth c H locs ls D T ex base Z h hx hb hd k1 => ?_) kk
  rw [hp1] at hI
  obtain ⟨t, h1, -, -, h2⟩ := h.2.2.1.2.2.2.2.2.2.1 e0 he
  have hcv : x_cv ex base (.ref (24 + e0)) = ex (24 + e0) := by simp [x_cv, show 24 + e0 < 64 by omega]
  have hcv2 : x_cv ex base (.ref (8 + e0)) = .ref t := by simp [x_cv, show 8 + e0 < 64 by omega, h1]
  rw [List.map_cons, hcv] at k1
  rw [List.map_cons, hcv2]
  exact vk_getf hx hb h2 h.2.2.2.2.1 h.1.2.2.2.1 (h.1.2.2.2.2 _ (x_w_in hI)) (fun x hx => hx) hd k1
theorem wp_getSc {idx e0 : Nat} (ho : x_op mi i = some (pc, 3, .getfield idx, nx, 901, b, ps)) (hp1 : ps = [ps.headD 0]) (he : e0 < 8) (kk : x_WP E d mi nx L (.int 0 :: S) M k n mc ms Q) : x_WP E d mi i L (.ref (8 + e0) :: S) M k n mc ms Q := by
  have hI := (x_dc ho).2.2.2
  refine x_stk (S' := .int 0 :: S) ho rfl (fun p l e R s m args below meth c H locs ls D T ex base Z h hx hb hd k1 => ?_) kk
  rw [hp1] at hI
  obtain ⟨t, h1, -, h2, -⟩ := h.2.2.1.2.2.2.2.2.2.1 e0 he
  have hcv2 : x_cv ex base (.ref (8 + e0)) = .ref t := by simp [x_cv, show 8 + e0 < 64 by omega, h1]
  rw [List.map_cons, hcv2]
  exact vk_getf hx hb h2 h.2.2.2.2.1 h.1.2.2.2.1 (h.1.2.2.2.2 _ (x_w_in hI)) (fun x hx => hx) hd k1
/-! constants of the pool -/
theorem wp_ldcS {idx j0 : Nat} {tx : String} (ho : x_op mi i = some (pc, 2, .ldc idx, nx, 8 + j0, 1, ps)) (hp1 : ps = [ps.headD 0]) (hs : x_strs[j0]? = some tx) (hj : j0 < 8) (kk : x_WP E d mi nx L (.ref (8 + j0) :: S) M k n mc ms Q) : x_WP E d mi i L S M k n mc ms Q := by
  have hI := (x_dc ho).2.2.2
  refine x_stk (S' := .ref (8 + j0) :: S) ho rfl (fun p l e R s m args below meth c H locs ls D T ex base Z h hx hb hd k1 => ?_) kk
  rw [hp1] at hI
  simp only [x_ckI, Nat.add_sub_cancel_left, hs, if_neg (show ¬ 8 + j0 = 999 by omega), Bool.and_eq_true, if_true] at hI
  obtain ⟨t, h1, h2⟩ := h.2.2.1.2.2.2.2.2.2.2.1 _ idx j0 tx (x_w_tbl hI.1) hs
  have hcv : x_cv ex base (.ref (8 + j0)) = .ref t := by simp [x_cv, show 8 + j0 < 64 by omega, h1]
  rw [List.map_cons, hcv] at k1
  exact va_ldcS hx hb h.1.2.2.2.1 h2 hd k1
theorem wp_ldc {idx : Nat} {v : Int32 × Int64} (ho : x_op mi i = some (pc, 2, .ldc idx, nx, a, 2, ps)) (hp1 : ps = [ps.headD 0]) (ha : a < 999) (hv : x_kv[a]? = some v) (kk : x_WP E d mi nx L (.int v.1 :: S) M k n mc ms Q) : x_WP E d mi i L S M k n mc ms Q := by
  have hI := (x_dc ho).2.2.2
  refine x_stk (S' := .int v.1 :: S) ho rfl (fun p l e R s m args below meth c H locs ls D T ex base Z h hx hb hd k1 => ?_) kk
  rw [hp1] at hI
  simp only [x_ckI, hv, if_neg (show ¬ a = 999 by omega)] at hI
  rw [if_neg (by decide)] at hI
  exact lv_ldc hx hb h.1.2.2.2.1 (h.1.2.2.2.2 _ (x_w_in hI)) hd k1
theorem wp_ldcw {idx : Nat} {v : Int32 × Int64} (ho : x_op mi i = some (pc, 3, .ldc_w idx, nx, a, b, ps)) (hp1 : ps = [ps.headD 0]) (ha : a < 999) (hv : x_kv[a]? = some v) (kk : x_WP E d mi nx L (.int v.1 :: S) M k n mc ms Q) : x_WP E d mi i L S M k n mc ms Q := by
  have hI := (x_dc ho).2.2.2
  refine x_stk (S' := .int v.1 :: S) ho rfl (fun p l e R s m args below meth c H locs ls D T ex base Z h hx hb hd k1 => ?_) kk
  rw [hp1] at hI
  simp only [x_ckI, hv, if_neg (show ¬ a = 999 by omega)] at hI
  exact lv_ldcw hx hb h.1.2.2.2.1 (h.1.2.2.2.2 _ (x_w_in hI)) hd k1
theorem wp_ldc2 {idx : Nat} {v : Int32 × Int64} (ho : x_op mi i = some (pc, 3, .ldc2_w idx, nx, a, b, ps)) (hp1 : ps = [ps.headD 0]) (hv : x_kv[a]? = some v) (kk : x_WP E d mi nx L (.long v.2 :: S) M k n mc ms Q) : x_WP E d mi i L S M k n mc ms Q := by
  have hI := (x_dc ho).2.2.2
  refine x_stk (S' := .long v.2 :: S) ho rfl (fun p l e R s m args below meth c H locs ls D T ex base Z h hx hb hd k1 => ?_) kk
  rw [hp1] at hI
  simp only [x_ckI, hv] at hI
  exact lv_ldc2 hx hb h.1.2.2.2.1 (h.1.2.2.2.2 _ (x_w_in hI)) hd k1
end XO1
