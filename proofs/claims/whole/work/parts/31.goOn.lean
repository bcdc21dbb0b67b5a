/-! ===== the class: weeks of one man ===== -/
theorem stp_u8 {bu : Int32} {sm : (Nat → Int32) → Int32} {nu ki v aw : Int32} {ro : Nat → Int32} {w : Nat} {x : Dn} (h : u8 x.1) : u8 (stp bu sm nu ki v aw ro w x).1 := by
  unfold stp
  split
  · exact h
  · split
    · exact h
    · split
      · exact h
      · exact u8_and _ h
theorem stp_b1 {bu : Int32} {sm : (Nat → Int32) → Int32} {nu ki v aw : Int32} {ro : Nat → Int32} {w : Nat} {x : Dn} (h : b1 x.2.2) : b1 (stp bu sm nu ki v aw ro w x).2.2 := by
  unfold stp
  split
  · exact h
  · split
    · exact h
    · split
      · exact h
      · exact Or.inr rfl
theorem trj_u8 {bu : Int32} {sm : (Nat → Int32) → Int32} {nu ki v aw : Int32} {ro : Nat → Int32} {w : Nat} {x : Dn} (h : u8 x.1) : ∀ k, u8 (trj bu sm nu ki v aw ro w k x).1
  | 0 => h
  | k + 1 => stp_u8 (trj_u8 h k)
theorem trj_b1 {bu : Int32} {sm : (Nat → Int32) → Int32} {nu ki v aw : Int32} {ro : Nat → Int32} {w : Nat} {x : Dn} (h : b1 x.2.2) : ∀ k, b1 (trj bu sm nu ki v aw ro w k x).2.2
  | 0 => h
  | k + 1 => stp_b1 (trj_b1 h k)
theorem manR.rfl' {r : Nat} {I : Nat → Nat → Int32} : manR r (dynC I r) I I := ⟨rfl, fun _ _ _ _ => rfl, kp.rfl'⟩
theorem manR.trans {r : Nat} {x y : Dn} {I J K : Nat → Nat → Int32} (h1 : manR r x I J) (h2 : manR r y J K) : manR r y I K :=
  ⟨h2.1, fun j a b c => (h2.2.1 j a b c).trans (h1.2.1 j a b c), h1.2.2.trans h2.2.2⟩
theorem manR.cell {r q : Nat} {x : Dn} {I J : Nat → Nat → Int32} (h : manR r x I J) (h1 : q ≠ 72) (h2 : r ≠ q) : J q = I q := h.2.2 q (by simp; omega)
theorem manR_stpR {r w : Nat} {x y : Dn} {I J : Nat → Nat → Int32} (hm : x_man r) (h : manR r x I J) : stpR J r w y = stpR I r w y := by
  unfold stpR smC
  rw [h.cell (q := 68) (by decide) (man_ne hm rfl), h.cell (q := 65 + 4) (by decide) (man_ne hm rfl), h.cell (q := 65 + 5) (by decide) (man_ne hm rfl), h.cell (q := 65 + 6) (by decide) (man_ne hm rfl), h.cell (q := r + 1) (man_ne1 hm rfl) (by omega),
    h.2.1 0 (by decide) (by decide) (by decide), h.2.1 1 (by decide) (by decide) (by decide), h.2.1 2 (by decide) (by decide) (by decide), h.2.1 7 (by decide) (by decide) (by decide)]
theorem manR_tcW {r : Nat} {x : Dn} {I J : Nat → Nat → Int32} (hm : x_man r) (h : manR r x I J) (ht : tcW I 65) : tcW J 65 := by
  unfold tcW at ht ⊢
  rw [h.cell (q := 65 + 3) (by decide) (man_ne hm rfl), h.cell (q := 65 + 5) (by decide) (man_ne hm rfl)]
  exact ht
section GOON
variable {E : XE} {d : Nat} {I : Nat → Nat → Int32}
theorem c_goOn {r w k : Nat} (hm : x_man r) (ht : tcW I 65) (hc : u8 (I r 4)) (h6 : b1 (I r 6)) (h7 : b1 (I r 7)) (h2 : I 65 2 = nI w) (hw : w + k < 2 ^ 31) (hd : 6 ≤ d) :
    x_K E d 96 [.ref 64, .ref r, .int (nI k)] I (fun v I' => v = none ∧ manR r (trjR I r w k) I I') := by
  refine x_K.of (by decide) (by decide) rfl rfl rfl (r_C_goOn_0 (by omega) r hm _ ?_)
  have key : ∀ m j (J : Nat → Nat → Int32), j + m = k → manR r (trjR I r w j) I J → x_P E d 96 2 [.ref 64, .ref r, .int (nI k), .int (nI j)] [] J (fun v I' => v = none ∧ manR r (trjR I r w k) I I') := by
    intro m
    induction m with
    | zero =>
      intro j J hj hJ
      refine r_C_goOn_2 (by omega) r hm _ _ ⟨fun _ => ⟨rfl, by rw [show k = j by omega]; exact hJ⟩, fun c => absurd (nI_le (by omega) (by omega)) c⟩
    | succ m ih =>
      intro j J hj hJ
      refine r_C_goOn_2 (by omega) r hm _ _ ⟨fun c => absurd c (nI_ge (by omega) (by omega)), fun _ => ?_⟩
      rw [hJ.cell (q := 65) (by decide) (man_ne hm rfl), h2, nI_add]
      have hx : dynC J r = trjR I r w j := hJ.1
      have e4 : J r 4 = (trjR I r w j).1 := congrArg Prod.fst hx
      have e6 : J r 6 = (trjR I r w j).2.2 := congrArg (fun x => x.2.2) hx
      refine (c_live (w := w + j) hm (manR_tcW hm hJ ht) (by rw [e4]; exact trj_u8 hc j) (by rw [e6]; exact trj_b1 h6 j) (by rw [hJ.2.1 7 (by decide) (by decide) (by decide)]; exact h7) (by omega) (by omega)).mono (fun v J2 hv => ?_)
      obtain ⟨hv, hJ2⟩ := hv
      rw [hv]
      refine r_C_goOn_15 (by omega) r hm _ _ ?_
      rw [nI_1]
      refine ih (j + 1) J2 (by omega) ?_
      have e : stpR J r (w + j) (dynC J r) = trjR I r w (j + 1) := by rw [manR_stpR hm hJ, hx]; rfl
      rw [e] at hJ2
      exact hJ.trans hJ2
  have kk := key k 0 I (by omega) manR.rfl'
  rw [nI_0] at kk
  exact kk
end GOON
