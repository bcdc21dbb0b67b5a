/-! ===== branches, stores, memory ===== -/
theorem x_cv_m {ex : Nat → Value} {base r : Nat} (hr : ¬ r < 64) : x_cv ex base (.ref r) = .ref (base + (r - 64)) := by
  simp only [x_cv, if_neg hr]
section XB
variable {E : XE} {d mi i k n mc ms nx a b pc : Nat} {ps : List Nat} {L S : List Value} {M : XM} {Q : Option Value → XM → Prop}
theorem wp_goto {off : Int} (ho : x_op mi i = some (pc, 3, .goto off, nx, a, b, ps)) (kk : x_WP E d mi a L S M k n mc ms Q) : x_WP E d mi i L S M k n mc ms Q := by
  intro p l e R s m args below meth c H locs ls D T ex base h
  obtain ⟨hd, hp, -, hI⟩ := x_dc ho
  have k1 := kk p l e R s m args below meth c H locs ls D T ex base h
  rw [hp]
  exact lv_goto (tgt := x_pc mi a) h.1.1 h.1.2.1 hd (of_decide_eq_true hI) k1
theorem x_br {ln : Nat} {ins : Jvm.ClassFile.Instr} {S' : List Value} {c1 c2 : Prop} (ho : x_op mi i = some (pc, 3, ins, nx, a, b, ps)) (ht : x_term ins = false) {off : Int} (hI0 : x_ckI (x_m mi).1.cls (x_m mi).2.2.2.2 pc ins a b ps = true → (pc : Int) + off = (x_pc mi a : Int))
    (hs : ∀ (p : Program) (l : Launch) (e : Env) (R : Room) (s : State) (m : MethodId) (args : Array Value) (below : List Frame) (meth : Method) (c : Code) (H : Heap) (locs : List Loc) (ls : Array Slot) (D : va_G) (T : Nat → ClassId) (ex : Nat → Value) (base : Nat) (Z : State → Prop) (tgt : Nat),
      x_Mh E d mi L M mc ms p R s m args meth c H locs ls D T ex base → p.tables.exec = Jvm.exec → c.code = (x_m mi).2.1 → decode (x_m mi).2.1 pc = .ok (ins, 3) → (pc : Int) + off = (tgt : Int) →
      (c1 → W p l e R s m args below meth c H locs k n Z (F0 m tgt ls (S'.map (x_cv ex base)))) → (c2 → W p l e R s m args below meth c H locs k n Z (F0 m (pc + 3) ls (S'.map (x_cv ex base)))) → W p l e R s m args below meth c H locs k n Z (F0 m pc ls (S.map (x_cv ex base))))
    (kt : c1 → x_WP E d mi a L S' M k n mc ms Q) (kf : c2 → x_WP E d mi nx L S' M k n mc ms Q) : x_WP E d mi i L S M k n mc ms Q := by
  intro p l e R s m args below meth c H locs ls D T ex base h
  obtain ⟨hd, hp, hn, hI⟩ := x_dc ho
  rw [hp]
  refine hs p l e R s m args below meth c H locs ls D T ex base _ (x_pc mi a) h h.1.1 h.1.2.1 hd (hI0 hI) (fun q => kt q p l e R s m args below meth c H locs ls D T ex base h) (fun q => ?_)
  have k1 := kf q p l e R s m args below meth c H locs ls D T ex base h
  rw [hn ht] at k1
  exact k1
theorem wp_icmp_eq {x y : Int32} {off : Int} (ho : x_op mi i = some (pc, 3, .if_icmp .eq off, nx, a, b, ps)) (kt : x = y → x_WP E d mi a L S M k n mc ms Q) (kf : ¬ x = y → x_WP E d mi nx L S M k n mc ms Q) : x_WP E d mi i L (.int y :: .int x :: S) M k n mc ms Q :=
  x_br (ln := 3) ho rfl (fun hI => of_decide_eq_true hI) (fun p l e R s m args below meth c H locs ls D T ex base Z tgt h hx hb hd ht k1 k2 => lv_icmp_eq hx hb hd ht k1 k2) kt kf
theorem wp_icmp_ne {x y : Int32} {off : Int} (ho : x_op mi i = some (pc, 3, .if_icmp .ne off, nx, a, b, ps)) (kt : ¬ x = y → x_WP E d mi a L S M k n mc ms Q) (kf : x = y → x_WP E d mi nx L S M k n mc ms Q) : x_WP E d mi i L (.int y :: .int x :: S) M k n mc ms Q :=
  x_br (ln := 3) ho rfl (fun hI => of_decide_eq_true hI) (fun p l e R s m args below meth c H locs ls D T ex base Z tgt h hx hb hd ht k1 k2 => lv_icmp_ne hx hb hd ht k1 k2) kt kf
theorem wp_icmp_lt {x y : Int32} {off : Int} (ho : x_op mi i = some (pc, 3, .if_icmp .lt off, nx, a, b, ps)) (kt : x < y → x_WP E d mi a L S M k n mc ms Q) (kf : ¬ x < y → x_WP E d mi nx L S M k n mc ms Q) : x_WP E d mi i L (.int y :: .int x :: S) M k n mc ms Q :=
  x_br (ln := 3) ho rfl (fun hI => of_decide_eq_true hI) (fun p l e R s m args below meth c H locs ls D T ex base Z tgt h hx hb hd ht k1 k2 => lv_icmp_lt hx hb hd ht k1 k2) kt kf
theorem wp_icmp_ge {x y : Int32} {off : Int} (ho : x_op mi i = some (pc, 3, .if_icmp .ge off, nx, a, b, ps)) (kt : y ≤ x → x_WP E d mi a L S M k n mc ms Q) (kf : ¬ y ≤ x → x_WP E d mi nx L S M k n mc ms Q) : x_WP E d mi i L (.int y :: .int x :: S) M k n mc ms Q :=
  x_br (ln := 3) ho rfl (fun hI => of_decide_eq_true hI) (fun p l e R s m args below meth c H locs ls D T ex base Z tgt h hx hb hd ht k1 k2 => lv_icmp_ge hx hb hd ht k1 k2) kt kf
theorem wp_icmp_gt {x y : Int32} {off : Int} (ho : x_op mi i = some (pc, 3, .if_icmp .gt off, nx, a, b, ps)) (kt : y < x → x_WP E d mi a L S M k n mc ms Q) (kf : ¬ y < x → x_WP E d mi nx L S M k n mc ms Q) : x_WP E d mi i L (.int y :: .int x :: S) M k n mc ms Q :=
  x_br (ln := 3) ho rfl (fun hI => of_decide_eq_true hI) (fun p l e R s m args below meth c H locs ls D T ex base Z tgt h hx hb hd ht k1 k2 => lv_icmp_gt hx hb hd ht k1 k2) kt kf
theorem wp_icmp_le {x y : Int32} {off : Int} (ho : x_op mi i = some (pc, 3, .if_icmp .le off, nx, a, b, ps)) (kt : x ≤ y → x_WP E d mi a L S M k n mc ms Q) (kf : ¬ x ≤ y → x_WP E d mi nx L S M k n mc ms Q) : x_WP E d mi i L (.int y :: .int x :: S) M k n mc ms Q :=
  x_br (ln := 3) ho rfl (fun hI => of_decide_eq_true hI) (fun p l e R s m args below meth c H locs ls D T ex base Z tgt h hx hb hd ht k1 k2 => lv_icmp_le hx hb hd ht k1 k2) kt kf
theorem wp_if_eq {x : Int32} {off : Int} (ho : x_op mi i = some (pc, 3, .ifCond .eq off, nx, a, b, ps)) (kt : x = 0 → x_WP E d mi a L S M k n mc ms Q) (kf : ¬ x = 0 → x_WP E d mi nx L S M k n mc ms Q) : x_WP E d mi i L (.int x :: S) M k n mc ms Q :=
  x_br (ln := 3) ho rfl (fun hI => of_decide_eq_true hI) (fun p l e R s m args below meth c H locs ls D T ex base Z tgt h hx hb hd ht k1 k2 => lv_if_eq hx hb hd ht k1 k2) kt kf
theorem wp_if_ne {x : Int32} {off : Int} (ho : x_op mi i = some (pc, 3, .ifCond .ne off, nx, a, b, ps)) (kt : ¬ x = 0 → x_WP E d mi a L S M k n mc ms Q) (kf : x = 0 → x_WP E d mi nx L S M k n mc ms Q) : x_WP E d mi i L (.int x :: S) M k n mc ms Q :=
  x_br (ln := 3) ho rfl (fun hI => of_decide_eq_true hI) (fun p l e R s m args below meth c H locs ls D T ex base Z tgt h hx hb hd ht k1 k2 => lv_if_ne hx hb hd ht k1 k2) kt kf
theorem wp_if_lt {x : Int32} {off : Int} (ho : x_op mi i = some (pc, 3, .ifCond .lt off, nx, a, b, ps)) (kt : x < 0 → x_WP E d mi a L S M k n mc ms Q) (kf : ¬ x < 0 → x_WP E d mi nx L S M k n mc ms Q) : x_WP E d mi i L (.int x :: S) M k n mc ms Q :=
  x_br (ln := 3) ho rfl (fun hI => of_decide_eq_true hI) (fun p l e R s m args below meth c H locs ls D T ex base Z tgt h hx hb hd ht k1 k2 => lv_if_lt hx hb hd ht k1 k2) kt kf
theorem wp_if_ge {x : Int32} {off : Int} (ho : x_op mi i = some (pc, 3, .ifCond .ge off, nx, a, b, ps)) (kt : 0 ≤ x → x_WP E d mi a L S M k n mc ms Q) (kf : ¬ 0 ≤ x → x_WP E d mi nx L S M k n mc ms Q) : x_WP E d mi i L (.int x :: S) M k n mc ms Q :=
  x_br (ln := 3) ho rfl (fun hI => of_decide_eq_true hI) (fun p l e R s m args below meth c H locs ls D T ex base Z tgt h hx hb hd ht k1 k2 => lv_if_ge hx hb hd ht k1 k2) kt kf
theorem wp_if_gt {x : Int32} {off : Int} (ho : x_op mi i = some (pc, 3, .ifCond .gt off, nx, a, b, ps)) (kt : 0 < x → x_WP E d mi a L S M k n mc ms Q) (kf : ¬ 0 < x → x_WP E d mi nx L S M k n mc ms Q) : x_WP E d mi i L (.int x :: S) M k n mc ms Q :=
  x_br (ln := 3) ho rfl (fun hI => of_decide_eq_true hI) (fun p l e R s m args below meth c H locs ls D T ex base Z tgt h hx hb hd ht k1 k2 => lv_if_gt hx hb hd ht k1 k2) kt kf
theorem wp_if_le {x : Int32} {off : Int} (ho : x_op mi i = some (pc, 3, .ifCond .le off, nx, a, b, ps)) (kt : x ≤ 0 → x_WP E d mi a L S M k n mc ms Q) (kf : ¬ x ≤ 0 → x_WP E d mi nx L S M k n mc ms Q) : x_WP E d mi i L (.int x :: S) M k n mc ms Q :=
  x_br (ln := 3) ho rfl (fun hI => of_decide_eq_true hI) (fun p l e R s m args below meth c H locs ls D T ex base Z tgt h hx hb hd ht k1 k2 => lv_if_le hx hb hd ht k1 k2) kt kf
theorem wp_ifnull {r : Nat} {off : Int} (ho : x_op mi i = some (pc, 3, .ifnull off, nx, a, b, ps)) (hr : ¬ r < 64) (kk : x_WP E d mi nx L S M k n mc ms Q) : x_WP E d mi i L (.ref r :: S) M k n mc ms Q :=
  x_stk ho rfl (fun p l e R s m args below meth c H locs ls D T ex base Z h hx hb hd k1 => by
    rw [List.map_cons, x_cv_m hr]
    exact lv_ifnull hx hb hd k1) kk
theorem wp_ifnullN {off : Int} (ho : x_op mi i = some (pc, 3, .ifnull off, nx, a, b, ps)) (kk : x_WP E d mi a L S M k n mc ms Q) : x_WP E d mi i L (.null :: S) M k n mc ms Q := by
  intro p l e R s m args below meth c H locs ls D T ex base h
  obtain ⟨hd, hp, -, hI⟩ := x_dc ho
  have k1 := kk p l e R s m args below meth c H locs ls D T ex base h
  rw [hp]
  exact lv_ifnullN (tgt := x_pc mi a) h.1.1 h.1.2.1 hd (of_decide_eq_true hI) k1
theorem wp_ifnonnull {r : Nat} {off : Int} (ho : x_op mi i = some (pc, 3, .ifnonnull off, nx, a, b, ps)) (hr : ¬ r < 64) (kk : x_WP E d mi a L S M k n mc ms Q) : x_WP E d mi i L (.ref r :: S) M k n mc ms Q := by
  intro p l e R s m args below meth c H locs ls D T ex base h
  obtain ⟨hd, hp, -, hI⟩ := x_dc ho
  have k1 := kk p l e R s m args below meth c H locs ls D T ex base h
  rw [hp, List.map_cons, x_cv_m hr]
  exact lv_ifnonnull (tgt := x_pc mi a) h.1.1 h.1.2.1 hd (of_decide_eq_true hI) k1
theorem wp_ifnonnullN {off : Int} (ho : x_op mi i = some (pc, 3, .ifnonnull off, nx, a, b, ps)) (kk : x_WP E d mi nx L S M k n mc ms Q) : x_WP E d mi i L (.null :: S) M k n mc ms Q :=
  x_stk ho rfl (fun p l e R s m args below meth c H locs ls D T ex base Z h hx hb hd k1 => lv_ifnonnullN hx hb hd k1) kk
theorem wp_tswOut {ln : Nat} {d0 lo hi : Int} {offs : Array Int} {x : Int32} {t : Nat} {ts : List Nat} (ho : x_op mi i = some (pc, ln, .tableswitch d0 lo hi offs, nx, a, b, t :: ts)) (hx0 : x.toInt < lo ∨ hi < x.toInt) (kk : x_WP E d mi t L S M k n mc ms Q) : x_WP E d mi i L (.int x :: S) M k n mc ms Q := by
  intro p l e R s m args below meth c H locs ls D T ex base h
  obtain ⟨hd, hp, -, hI⟩ := x_dc ho
  have k1 := kk p l e R s m args below meth c H locs ls D T ex base h
  simp only [x_ckI, Bool.and_eq_true, decide_eq_true_eq] at hI
  rw [hp]
  exact lv_tableOut (tgt := x_pc mi t) h.1.1 h.1.2.1 hd hx0 hI.1.1.1 k1
theorem wp_tswIn {ln : Nat} {d0 lo hi : Int} {offs : Array Int} {x : Int32} {t j u : Nat} {ts : List Nat} (ho : x_op mi i = some (pc, ln, .tableswitch d0 lo hi offs, nx, a, b, t :: ts)) (hj : ts[j]? = some u) (hx0 : x.toInt = lo + j) (kk : x_WP E d mi u L S M k n mc ms Q) : x_WP E d mi i L (.int x :: S) M k n mc ms Q := by
  intro p l e R s m args below meth c H locs ls D T ex base h
  obtain ⟨hd, hp, -, hI⟩ := x_dc ho
  have k1 := kk p l e R s m args below meth c H locs ls D T ex base h
  simp only [x_ckI, Bool.and_eq_true, decide_eq_true_eq] at hI
  obtain ⟨⟨⟨-, h2⟩, h3⟩, h4⟩ := hI
  have hlt := (List.getElem?_eq_some_iff.mp hj).1
  have ho1 : offs.toList[j]? = some offs.toList[j] := List.getElem?_eq_getElem (by rw [Array.length_toList]; omega)
  have hz : (ts.zip offs.toList)[j]? = some (u, offs.toList[j]) := by
    rw [List.getElem?_zip_eq_some]
    exact ⟨hj, ho1⟩
  have h5 := of_decide_eq_true (List.all_eq_true.mp h4 _ (List.mem_of_getElem? hz))
  rw [hp]
  refine lv_tableIn (tgt := x_pc mi u) (off := offs.toList[j]) h.1.1 h.1.2.1 hd (by omega) (by omega) ?_ h5 k1
  rw [show (x.toInt - lo).toNat = j by omega, ← Array.getElem?_toList]
  exact ho1
theorem wp_lsw {ln : Nat} {d0 : Int} {prs : Array (Int × Int)} {x : Int32} {v off : Int} {t u : Nat} {ts : List Nat} (ho : x_op mi i = some (pc, ln, .lookupswitch d0 prs, nx, a, b, t :: ts)) (hv : x.toInt = v) (hf : Op.lookupswitch.offset prs.toList d0 v = off) (ht : (pc : Int) + off = (x_pc mi u : Int)) (kk : x_WP E d mi u L S M k n mc ms Q) : x_WP E d mi i L (.int x :: S) M k n mc ms Q := by
  intro p l e R s m args below meth c H locs ls D T ex base h
  obtain ⟨hd, hp, -, hI⟩ := x_dc ho
  have k1 := kk p l e R s m args below meth c H locs ls D T ex base h
  simp only [x_ckI, Bool.and_eq_true, decide_eq_true_eq] at hI
  rw [hp]
  subst hv
  exact lv_lookup (tgt := x_pc mi u) h.1.1 h.1.2.1 hd hI.2 hf ht k1
/-! stores into locals -/
theorem x_sto {ln : Nat} {ins : Jvm.ClassFile.Instr} {w : Value} {j0 : Nat} {L' : List Value} (ho : x_op mi i = some (pc, ln, ins, nx, a, b, ps)) (ht : x_term ins = false) (hj0 : j0 < (x_m mi).2.2.1) (hk : x_okst L j0 = true) (hL' : L.set j0 w = L')
    (hs : ∀ (p : Program) (l : Launch) (e : Env) (R : Room) (s : State) (m : MethodId) (args : Array Value) (below : List Frame) (meth : Method) (c : Code) (H : Heap) (locs : List Loc) (ls : Array Slot) (ex : Nat → Value) (base : Nat) (Z : State → Prop), p.tables.exec = Jvm.exec → c.code = (x_m mi).2.1 → decode (x_m mi).2.1 pc = .ok (ins, ln) → x_exr ex → lv_has ls (x_m mi).2.2.1 (x_la ex base (x_m mi).2.2.1 L) →
      (∀ ls', lv_has ls' (x_m mi).2.2.1 ((j0, x_cv ex base w) :: (x_la ex base (x_m mi).2.2.1 L).filter (fun q => !(q.1 == j0) && !(q.1 + 1 == j0 && q.2.category == 2))) → W p l e R s m args below meth c H locs k n Z (F0 m (pc + ln) ls' (S.map (x_cv ex base)))) →
      W p l e R s m args below meth c H locs k n Z (F0 m pc ls ((w :: S).map (x_cv ex base))))
    (kk : x_WP E d mi nx L' S M k n mc ms Q) : x_WP E d mi i L (w :: S) M k n mc ms Q := by
  intro p l e R s m args below meth c H locs ls D T ex base h
  obtain ⟨hd, hp, hn, -⟩ := x_dc ho
  rw [hp]
  refine hs p l e R s m args below meth c H locs ls ex base _ h.1.1 h.1.2.1 hd h.2.2.1.2.2.1 (x_L_has h.2.2.2.2.2) (fun ls' hl' => ?_)
  have hL2 := x_L_st1 h.2.2.1.2.2.1 h.2.2.2.2.2.2.2.1 hj0 hk hl'
  subst hL'
  have k1 := kk p l e R s m args below meth c H locs ls' D T ex base ⟨h.1, h.2.1, h.2.2.1, h.2.2.2.1, h.2.2.2.2.1, hL2⟩
  rw [hn ht] at k1
  exact k1
theorem wp_istore_n {j : Fin 4} {j0 : Nat} {x : Int32} {L' : List Value} (ho : x_op mi i = some (pc, 1, .istore_n j, nx, a, b, ps)) (hj : (j : Nat) = j0) (hj0 : j0 < (x_m mi).2.2.1) (hk : x_okst L j0 = true) (hL : L.set j0 (.int x) = L') (kk : x_WP E d mi nx L' S M k n mc ms Q) : x_WP E d mi i L (.int x :: S) M k n mc ms Q :=
  x_sto ho rfl hj0 hk hL (fun p l e R s m args below meth c H locs ls ex base Z hx hb hd hr h kk => lv_istore_n hx hb hd hj h hj0 rfl kk) kk
theorem wp_astore_nN {j : Fin 4} {j0 : Nat} {L' : List Value} (ho : x_op mi i = some (pc, 1, .astore_n j, nx, a, b, ps)) (hj : (j : Nat) = j0) (hj0 : j0 < (x_m mi).2.2.1) (hk : x_okst L j0 = true) (hL : L.set j0 .null = L') (kk : x_WP E d mi nx L' S M k n mc ms Q) : x_WP E d mi i L (.null :: S) M k n mc ms Q :=
  x_sto ho rfl hj0 hk hL (fun p l e R s m args below meth c H locs ls ex base Z hx hb hd hr h kk => lv_astore_nN hx hb hd hj h hj0 rfl kk) kk
theorem wp_astore_n {j : Fin 4} {j0 : Nat} {r : Nat} {L' : List Value} (ho : x_op mi i = some (pc, 1, .astore_n j, nx, a, b, ps)) (hj : (j : Nat) = j0) (hj0 : j0 < (x_m mi).2.2.1) (hk : x_okst L j0 = true) (hL : L.set j0 (.ref r) = L') (kk : x_WP E d mi nx L' S M k n mc ms Q) : x_WP E d mi i L (.ref r :: S) M k n mc ms Q :=
  x_sto ho rfl hj0 hk hL (fun p l e R s m args below meth c H locs ls ex base Z hx hb hd hr h kk => by
    rw [List.map_cons]
    rcases x_cv_ref (base := base) hr r with ⟨t, e1⟩ | e1
    · rw [e1] at kk ⊢
      exact lv_astore_n hx hb hd hj h hj0 rfl kk
    · rw [e1] at kk ⊢
      exact lv_astore_nN hx hb hd hj h hj0 rfl kk) kk
theorem wp_lstore_n {j : Fin 4} {j0 : Nat} {x : Int64} {L' : List Value} (ho : x_op mi i = some (pc, 1, .lstore_n j, nx, a, b, ps)) (hj : (j : Nat) = j0) (hj0 : j0 + 1 < (x_m mi).2.2.1) (hk : x_okst L j0 = true) (hL : (L.set j0 (.long x)).set (j0 + 1) x_jk = L') (kk : x_WP E d mi nx L' S M k n mc ms Q) : x_WP E d mi i L (.long x :: S) M k n mc ms Q := by
  intro p l e R s m args below meth c H locs ls D T ex base h
  obtain ⟨hd, hp, hn, -⟩ := x_dc ho
  rw [hp]
  refine lv_lstore_n h.1.1 h.1.2.1 hd hj (x_L_has h.2.2.2.2.2) hj0 rfl (fun ls' hl' => ?_)
  have hL2 := x_L_st2 (w := .long x) h.2.2.1.2.2.1 h.2.2.2.2.2.2.2.1 hj0 hk hl'
  subst hL
  have k1 := kk p l e R s m args below meth c H locs ls' D T ex base ⟨h.1, h.2.1, h.2.2.1, h.2.2.2.1, h.2.2.2.2.1, hL2⟩
  rw [hn rfl] at k1
  exact k1
theorem wp_istore {j0 : Nat} {x : Int32} {L' : List Value} (ho : x_op mi i = some (pc, 2, .istore j0, nx, a, b, ps))  (hj0 : j0 < (x_m mi).2.2.1) (hk : x_okst L j0 = true) (hL : L.set j0 (.int x) = L') (kk : x_WP E d mi nx L' S M k n mc ms Q) : x_WP E d mi i L (.int x :: S) M k n mc ms Q :=
  x_sto ho rfl hj0 hk hL (fun p l e R s m args below meth c H locs ls ex base Z hx hb hd hr h kk => lv_istore hx hb hd h hj0 rfl kk) kk
theorem wp_astoreN {j0 : Nat} {L' : List Value} (ho : x_op mi i = some (pc, 2, .astore j0, nx, a, b, ps))  (hj0 : j0 < (x_m mi).2.2.1) (hk : x_okst L j0 = true) (hL : L.set j0 .null = L') (kk : x_WP E d mi nx L' S M k n mc ms Q) : x_WP E d mi i L (.null :: S) M k n mc ms Q :=
  x_sto ho rfl hj0 hk hL (fun p l e R s m args below meth c H locs ls ex base Z hx hb hd hr h kk => lv_astoreN hx hb hd h hj0 rfl kk) kk
theorem wp_astore {j0 : Nat} {r : Nat} {L' : List Value} (ho : x_op mi i = some (pc, 2, .astore j0, nx, a, b, ps))  (hj0 : j0 < (x_m mi).2.2.1) (hk : x_okst L j0 = true) (hL : L.set j0 (.ref r) = L') (kk : x_WP E d mi nx L' S M k n mc ms Q) : x_WP E d mi i L (.ref r :: S) M k n mc ms Q :=
  x_sto ho rfl hj0 hk hL (fun p l e R s m args below meth c H locs ls ex base Z hx hb hd hr h kk => by
    rw [List.map_cons]
    rcases x_cv_ref (base := base) hr r with ⟨t, e1⟩ | e1
    · rw [e1] at kk ⊢
      exact lv_astore hx hb hd h hj0 rfl kk
    · rw [e1] at kk ⊢
      exact lv_astoreN hx hb hd h hj0 rfl kk) kk
theorem wp_lstore {j0 : Nat} {x : Int64} {L' : List Value} (ho : x_op mi i = some (pc, 2, .lstore j0, nx, a, b, ps))  (hj0 : j0 + 1 < (x_m mi).2.2.1) (hk : x_okst L j0 = true) (hL : (L.set j0 (.long x)).set (j0 + 1) x_jk = L') (kk : x_WP E d mi nx L' S M k n mc ms Q) : x_WP E d mi i L (.long x :: S) M k n mc ms Q := by
  intro p l e R s m args below meth c H locs ls D T ex base h
  obtain ⟨hd, hp, hn, -⟩ := x_dc ho
  rw [hp]
  refine lv_lstore h.1.1 h.1.2.1 hd (x_L_has h.2.2.2.2.2) hj0 rfl (fun ls' hl' => ?_)
  have hL2 := x_L_st2 (w := .long x) h.2.2.1.2.2.1 h.2.2.2.2.2.2.2.1 hj0 hk hl'
  subst hL
  have k1 := kk p l e R s m args below meth c H locs ls' D T ex base ⟨h.1, h.2.1, h.2.2.1, h.2.2.2.1, h.2.2.2.2.1, hL2⟩
  rw [hn rfl] at k1
  exact k1
theorem wp_iinc {j0 : Nat} {z : Int} {x v : Int32} {L' : List Value} (ho : x_op mi i = some (pc, 3, .iinc j0 z, nx, a, b, ps)) (hl : L[j0]? = some (.int x)) (hv : x + Int32.ofInt z = v) (hk : x_okst L j0 = true) (hL : L.set j0 (.int v) = L') (kk : x_WP E d mi nx L' S M k n mc ms Q) : x_WP E d mi i L S M k n mc ms Q := by
  intro p l e R s m args below meth c H locs ls D T ex base h
  obtain ⟨hd, hp, hn, -⟩ := x_dc ho
  rw [hp]
  have hln := h.2.2.2.2.2.2.2.1
  have hj0 : j0 < (x_m mi).2.2.1 := by
    have := (List.getElem?_eq_some_iff.mp hl).1
    omega
  have hm : (j0, Value.int x) ∈ x_la ex base (x_m mi).2.2.1 L := (x_la_mem hln).mpr ⟨.int x, hl, (fun e => by cases e), rfl⟩
  obtain ⟨k0, hk0⟩ := List.getElem?_of_mem hm
  refine lv_iinc h.1.1 h.1.2.1 hd (x_L_has h.2.2.2.2.2) hk0 hv hj0 rfl (fun ls' hl' => ?_)
  have hL2 := x_L_st1 (w := .int v) h.2.2.1.2.2.1 hln hj0 hk hl'
  subst hL
  have k1 := kk p l e R s m args below meth c H locs ls' D T ex base ⟨h.1, h.2.1, h.2.2.1, h.2.2.2.1, h.2.2.2.2.1, hL2⟩
  rw [hn rfl] at k1
  exact k1
end XB
