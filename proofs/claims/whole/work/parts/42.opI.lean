/-! ===== one call to both: when ===== -/
section OPI
variable {E : XE} {d : Nat} {I : Nat → Nat → Int32} {s : Nat → Int32} {n w : Nat}
/-- the model's state when man p alone has gone k weeks on -/
def alR (s t : Nat → Int32) (w k p : Nat) : Prop := t 0 = nI (w + k) ∧ agH s t ∧ dynM t p = trjM s w k p
theorem c_alone {J : Nat → Nat → Int32} {p k : Nat} (hp : p < 6) (hw : twM s) (h : alR s (J 143) w k p) (hw2 : w + k < 2 ^ 31) (hd : 5 ≤ d) :
    x_K E d 151 [.ref 142, .int (nI p)] J (fun v K => v = none ∧ alR s (K 143) w (k + 1) p ∧ kp [143, 146, 147] J K) := by
  obtain ⟨h0, ha, hdy⟩ := h
  refine (c_goesAlone (w := w + k) hp (twM_ag ha hw) h0 hw2 hd).mono (fun v K ⟨e1, e2, e3, e4, e5⟩ => ⟨e1, ⟨e2, ha.trans e3, ?_⟩, e5⟩)
  rw [e4 p hp, if_pos rfl, stpM_ag ha, hdy, trjM_s]
theorem alR_0 {p : Nat} (h0 : s 0 = nI w) : alR s s w 0 p := ⟨h0, agH.refl, rfl⟩
theorem op_when {a1 : Int32} (h : RW I 65 s n w) (hd : 20 ≤ d) : op2 E d I s 75 154 [.int a1] := by
  have hn := h.1.1
  have hw := h.1.2.1
  have h65 := h.1.2.2.2.2.1
  have h31 := h.1.2.2.1
  rcases mn_cases a1 hn with ⟨p, hp, rfl, hin⟩ | ⟨hno, hno2⟩
  · have ok := (h.2.1.1 p hp).2
    have hb : ∀ k, b1 (trjM s w k p).2.2 := fun k => trj_b1 ok.2.2.2.2.2.1 k
    refine ⟨.int (fwF (fun k => decide ((trjM s w k p).2.2 = 1)) 61 0), s, n, w, x_K.of (by decide) (by decide) rfl rfl rfl (r_C_when_0 (by omega) _ ((c_find1 h65 hn hp (by omega)).pu (r_C_when_4 (by omega) _ (x_man_now (by omega)).1 ((c_ghost h hp (by omega)).mono (fun v J0 hv => ?_))))), fun J hJ => x_K.of (by decide) (by decide) rfl rfl rfl (r_M_when_0 (by omega) _ ?_)⟩
    · obtain ⟨hv, hg, k1⟩ := hv
      rw [hv]
      have hJ0 : RW J0 65 s n w := RW_kp (wkp_of k1 (by decide)) h
      refine r_C_when_13 (by omega) ?_
      have key : ∀ m k (K : Nat → Nat → Int32), k + m = 61 → manR 129 (trjM s w k p) J0 K → fwF (fun k => decide ((trjM s w k p).2.2 = 1)) m k = fwF (fun k => decide ((trjM s w k p).2.2 = 1)) 61 0 →
          x_P E d 75 15 [.ref 64, x_jk, x_jk, .int (nI k)] [] K (fun v K => v = some (.int (fwF (fun k => decide ((trjM s w k p).2.2 = 1)) 61 0)) ∧ RW K 65 s n w ∧ ckp I K) := by
        intro m
        induction m with
        | zero =>
          intro k K hk hK hf
          have k2 : kp [72, 129, 130] I K := (k1.mono (by simp)).trans (hK.2.2.mono (by simp))
          refine r_C_when_15 (by omega) _ ⟨fun _ => ⟨by rw [← hf]; rfl, RW_kp (wkp_of k2 (by decide)) h, ckp_of k2 (by decide)⟩, fun c => absurd (nI_lt (a := 60) (by omega) (by omega)) c⟩
        | succ m ih =>
          intro k K hk hK hf
          have k2 : kp [72, 129, 130] I K := (k1.mono (by simp)).trans (hK.2.2.mono (by simp))
          have e6 : K 129 6 = (trjM s w k p).2.2 := congrArg (fun x => x.2.2) hK.1
          rw [fwF] at hf
          refine r_C_when_15 (by omega) _ ⟨fun c => absurd c (nI_nlt (b := k) (a := 60) (by omega) (by decide)), fun _ => ⟨fun c => ?_, fun c => ?_⟩⟩
          · rw [e6] at c
            rw [if_neg (by rw [c]; decide)] at hf
            rw [hK.cell (q := 65) (by decide) (by decide), hJ0.1.2.2.2.2.2, nI_add]
            refine (c_ghostStep hJ0 hg ok hK (by omega) (by omega)).mono (fun v K2 hv => ?_)
            obtain ⟨hv, hK2⟩ := hv
            rw [hv]
            refine r_C_when_35 (by omega) _ ?_
            rw [nI_1]
            exact ih (k + 1) K2 (by omega) hK2 hf
          · rw [e6] at c
            have c1 := (hb k).resolve_left c
            rw [if_pos (by rw [c1]; rfl)] at hf
            exact ⟨by rw [hf], RW_kp (wkp_of k2 (by decide)) h, ckp_of k2 (by decide)⟩
      have kk := key 61 0 J0 rfl (by rw [show trjM s w 0 p = dynC J0 129 from hg.2.2.2.2.1.symm]; exact manR.rfl') rfl
      rw [nI_0] at kk
      exact kk
    · subst hJ
      rw [h31]
      refine ⟨fun _ => (c_keeps (by omega)).mono (fun v J1 hv => ?_), fun c => absurd hin c⟩
      obtain ⟨hv, q145, k1⟩ := hv
      rw [hv]
      have s1 : J1 143 = J 143 := k1 143 (by simp)
      refine r_M_when_8 (by omega) _ ?_
      have back : ∀ (K : Nat → Nat → Int32) (z : Int32), (∀ j, j < 31 → K 145 j = J 143 j) → (∀ j, 31 ≤ j → K 143 j = J 143 j) → kp [143, 145, 146, 147] J K →
          x_K E (d - 1) 113 [.ref 142] K (fun v I2 => x_P E d 154 37 [x_jk, x_jk, .int z, x_jk] (v.toList ++ []) I2 (fun v K => v = some (.int z) ∧ K 143 = J 143 ∧ mkp J K)) := by
        intro K z b145 bhi kk
        refine (m_back b145 bhi kk (by omega)).mono (fun v K2 hv => ?_)
        obtain ⟨hv, e1, e2⟩ := hv
        rw [hv]
        exact r_M_when_37 (by omega) _ ⟨rfl, e1, mkp_of e2 (by decide)⟩
      have key : ∀ m k (K : Nat → Nat → Int32), k + m = 61 → alR (J 143) (K 143) w k p → (∀ j, j < 31 → K 145 j = J 143 j) → kp [143, 145, 146, 147] J K → fwF (fun k => decide ((trjM (J 143) w k p).2.2 = 1)) m k = fwF (fun k => decide ((trjM (J 143) w k p).2.2 = 1)) 61 0 →
          x_P E d 154 12 [.ref 142, .int (nI p), .int (-5), .int (nI k)] [] K (fun v K => v = some (.int (fwF (fun k => decide ((trjM (J 143) w k p).2.2 = 1)) 61 0)) ∧ K 143 = J 143 ∧ mkp J K) := by
        intro m
        induction m with
        | zero =>
          intro k K hk hK b145 kk hf
          have hz : fwF (fun k => decide ((trjM (J 143) w k p).2.2 = 1)) 61 0 = (-5 : Int32) := by rw [← hf]; rfl
          rw [hz]
          exact r_M_when_12 (by omega) _ _ _ ⟨fun _ => back K _ b145 (fun j hj => hK.2.1 j (by omega)) kk, fun c => absurd (nI_lt (a := 60) (by omega) (by omega)) c⟩
        | succ m ih =>
          intro k K hk hK b145 kk hf
          have e6 : K 143 (13 + p) = (trjM (J 143) w k p).2.2 := congrArg (fun x => x.2.2) hK.2.2
          rw [fwF] at hf
          refine r_M_when_12 (by omega) _ _ _ ⟨fun c => absurd c (nI_nlt (b := k) (a := 60) (by omega) (by decide)), fun _ => ⟨fun _ => ⟨vi_c (c' := 13) rfl (by omega) (by decide), fun z hz => ?_⟩, fun c => absurd rfl c⟩⟩
          rw [ix_c (c := 13) (c' := 13) rfl (by omega), e6] at hz
          refine (c_alone (s := J 143) (by omega) h.2.2.1.1 hK (by omega) (by omega)).mono (fun v K2 hv => ?_)
          obtain ⟨hv, hK2, k2⟩ := hv
          rw [hv]
          have b2 : ∀ j, j < 31 → K2 145 j = J 143 j := fun j hj => by rw [k2 145 (by simp)]; exact b145 j hj
          have kk2 : kp [143, 145, 146, 147] J K2 := kk.trans (k2.mono (by simp))
          refine r_M_when_33 (by omega) _ _ _ ?_
          rw [nI_1]
          rcases hb k with c | c
          · rw [c, if_neg (by decide)] at hz
            rw [if_neg (by rw [c]; decide)] at hf
            rw [hz]
            exact ih (k + 1) K2 (by omega) hK2 b2 kk2 hf
          · rw [c, if_pos rfl] at hz
            rw [if_pos (by rw [c]; rfl)] at hf
            rw [hz, ← hf]
            exact r_M_when_12 (by omega) _ _ _ ⟨fun _ => back K2 _ b2 (fun j hj => hK2.2.1 j (by omega)) kk2, fun _ => ⟨fun c => absurd c (nI_ne_neg (by omega) (by decide)), fun _ => back K2 _ b2 (fun j hj => hK2.2.1 j (by omega)) kk2⟩⟩
      have kk := key 61 0 J1 rfl (by rw [s1]; exact alR_0 h.1.2.2.2.1) q145 (k1.mono (by simp)) rfl
      rw [nI_0] at kk
      exact kk
  · refine ⟨.int (-1), s, n, w, x_K.of (by decide) (by decide) rfl rfl rfl (r_C_when_0 (by omega) _ ((c_find0 h65 hno2 (by omega)).pu (r_C_when_4N (by omega) ⟨rfl, h, ckp.rfl'⟩))), fun J hJ => x_K.of (by decide) (by decide) rfl rfl rfl (r_M_when_0 (by omega) _ ?_)⟩
    subst hJ
    rw [h31]
    exact ⟨fun c => absurd c hno, fun _ => ⟨rfl, rfl, mkp.rfl'⟩⟩
end OPI
