/-! ===== one call to both: highs and firm, the class's half ===== -/
theorem asB_f {s : Nat → Int32} {p n j : Nat} {h : Int32} (g : asB s p h n j = false) : ∀ k, asB s p h n (j + k) = false
  | 0 => g
  | k + 1 => by
    show (asB s p h n (j + k) && _) = false
    rw [asB_f g k]
    rfl
/-- the class's rows of what is seen -/
def rwS (I : Nat → Nat → Int32) (s : Nat → Int32) (kk : Nat) : Prop := kk ≤ 5 ∧ I 73 3 = nI kk ∧ ∀ i, i < kk → I 74 i = s (74 + i) ∧ I 75 i = s (79 + i) ∧ I 76 i = s (84 + i) ∧ upto (s (79 + i)) 20
theorem rwS_kp {I J : Nat → Nat → Int32} {s : Nat → Int32} {kk : Nat} (h : ∀ q, 73 ≤ q → q < 77 → J q = I q) (g : rwS I s kk) : rwS J s kk := by
  unfold rwS
  rw [h 73 (by omega) (by omega), h 74 (by omega) (by omega), h 75 (by omega) (by omega), h 76 (by omega) (by omega)]
  exact g
theorem mnR_su2 {I : Nat → Nat → Int32} {r p : Nat} {s : Nat → Int32} {x : Int32} (hp : p < 6) (h : mnR I r s p) : mnR (x_up I r 2 x) r (su s (44 + p) x) p := by
  obtain ⟨g4, g5, g6⟩ := mnR_dyn h
  obtain ⟨g0, g1, g2, g3, -, g7, g8⟩ := h
  unfold mnR dynC dynM
  rw [up_su]
  refine ⟨?_, ?_, ?_, ?_, ?_, ?_, fun k hk => ?_⟩
  · rw [su_ne (by decide)]; exact g0
  · rw [su_ne (by decide), su_ne (by omega)]; exact g1
  · rw [su_eq, su_eq]
  · rw [su_ne (by decide), su_ne (by omega)]; exact g3
  · rw [su_ne (by decide), su_ne (by decide), su_ne (by decide), su_ne (by omega), su_ne (by omega), su_ne (by omega), g4, g5, g6]
  · rw [su_ne (by decide), su_ne (by omega)]; exact g7
  · rw [up_ne (by omega), su_ne (by omega)]
    exact g8 k hk
theorem mnOK_su2 {p : Nat} {s : Nat → Int32} {x : Int32} (hp : p < 6) (hx : upto x 9) (h : mnOK s p) : mnOK (su s (44 + p) x) p := by
  obtain ⟨g1, g2, g3, g4, g5, g6, g7⟩ := h
  unfold mnOK
  rw [su_eq, su_ne (by omega), su_ne (by omega), su_ne (by omega), su_ne (by omega), su_ne (by omega), su_ne (by omega)]
  exact ⟨g1, hx, g3, g4, g5, g6, g7⟩
section OPP
variable {E : XE} {d : Nat} {I : Nat → Nat → Int32} {s : Nat → Int32} {n w : Nat}
theorem c_gst {J0 K : Nat → Nat → Int32} {t : Nat → Int32} {p k : Nat} (ht : towR J0 65 t) (hg : mnR J0 129 t p) (ok : mnOK t p) (hK : manR 129 (trjM t w k p) J0 K) (hw : w + k < 2 ^ 31) (hd : 5 ≤ d) :
    x_K E d 28 [.ref 129, .ref 68, .int (nI (w + k))] K (fun v K2 => v = none ∧ manR 129 (trjM t w (k + 1) p) J0 K2) := by
  have e4 : K 129 4 = (trjM t w k p).1 := congrArg Prod.fst hK.1
  have e6 : K 129 6 = (trjM t w k p).2.2 := congrArg (fun x => x.2.2) hK.1
  have e7 : K 129 7 = J0 129 7 := hK.2.1 7 (by decide) (by decide) (by decide)
  refine (c_live (w := w + k) x_man_129 (manR_tcW x_man_129 hK ht.2.1) (by rw [e4]; exact trj_u8 ok.2.2.2.1 k) (by rw [e6]; exact trj_b1 ok.2.2.2.2.2.1 k) (by rw [e7, hg.2.2.2.2.2.1]; exact ok.2.2.2.2.2.2) hw hd).mono (fun v K2 hv => ?_)
  obtain ⟨hv, hK2⟩ := hv
  have e : stpR K 129 (w + k) (dynC K 129) = trjM t w (k + 1) p := by rw [manR_stpR x_man_129 hK, hK.1, stp_rel ht hg]; rfl
  rw [e] at hK2
  exact ⟨hv, hK.trans hK2⟩
theorem c_latest {p kk : Nat} (h : rwS I s kk) (hd : 1 ≤ d) : x_K E d 104 [.ref 64, .int (nI p)] I (x_pu (.int (nI (ltF s p kk) - 1)) I) := by
  obtain ⟨hk, h73, hrow⟩ := h
  refine x_K.of (by decide) (by decide) rfl rfl rfl (r_C_latestSeen_0 (by omega) _ ?_)
  have key : ∀ r j, j + r = kk → x_P E d 104 4 [.ref 64, .int (nI p), .int (nI (ltF s p j) - 1), .int (nI j)] [] I (x_pu (.int (nI (ltF s p kk) - 1)) I) := by
    intro r
    induction r with
    | zero =>
      intro j hj
      refine r_C_latestSeen_4 (by omega) _ _ _ ⟨fun _ => ⟨by rw [show kk = j by omega], rfl⟩, fun g => absurd ?_ g⟩
      rw [h73]
      exact nI_le (by omega) (by omega)
    | succ r ih =>
      intro j hj
      obtain ⟨r1, r2, r3, b, hb, r4⟩ := hrow j (by omega)
      have nx := ih (j + 1) (by omega)
      rw [show ltF s p (j + 1) = if s (74 + j) = nI p then max (ltF s p j) ((s (79 + j)).toNatClampNeg + 1) else ltF s p j from rfl, r4, nI_clamp (by omega)] at nx
      refine r_C_latestSeen_4 (by omega) _ _ _ ⟨fun g => absurd g ?_, fun _ => ?_⟩
      · rw [h73]
        exact nI_ge (by omega) (by omega)
      rw [nI_clamp (by omega), r1, r2, r4, nI_1]
      refine ⟨vp_in_nI (by omega) (by decide), fun c => ⟨vp_in_nI (by omega) (by decide), ?_⟩, fun c => ?_⟩
      · rw [if_pos c] at nx
        rw [lt_fin _ (by have := ltF_le (s := s) (p := p) j (fun i hi => (hrow i (by omega)).2.2.2); omega) _ (by omega)]
        exact nx
      · rw [if_neg c] at nx
        exact nx
  exact key kk 0 (by omega)
theorem c_isAt {K : Nat → Nat → Int32} {p m kk : Nat} {h : Int32} (hr : rwS K s kk) (h0 : K 129 0 = nI p) (h5 : K 129 5 = h) (hm : m < 100) (hd : 1 ≤ d) :
    x_K E d 106 [.ref 64, .int (nI m)] K (x_pu (.int (bI (asB s p h m kk))) K) := by
  obtain ⟨hk, h73, hrow⟩ := hr
  refine x_K.of (by decide) (by decide) rfl rfl rfl (r_C_isGhostAsSeenAt_0 (by omega) _ ?_)
  have key : ∀ r j, j + r = kk → asB s p h m j = true → x_P E d 106 6 [.ref 64, .int (nI m), .ref 73, .int (nI j), x_jk] [] K (x_pu (.int (bI (asB s p h m kk))) K) := by
    intro r
    induction r with
    | zero =>
      intro j hj ht
      refine r_C_isGhostAsSeenAt_6 (by omega) _ _ ⟨fun _ => ⟨by rw [show kk = j by omega, ht]; rfl, rfl⟩, fun g => absurd ?_ g⟩
      rw [h73]
      exact nI_le (by omega) (by omega)
    | succ r ih =>
      intro j hj ht
      obtain ⟨r1, r2, r3, -⟩ := hrow j (by omega)
      refine r_C_isGhostAsSeenAt_6 (by omega) _ _ ⟨fun g => absurd g ?_, fun _ => ?_⟩
      · rw [h73]
        exact nI_ge (by omega) (by omega)
      rw [nI_clamp (by omega), r1, r2, r3, h0, h5, nI_1]
      have nx : (¬ s (74 + j) = nI p ∨ ¬ s (79 + j) = nI m ∨ h = s (84 + j)) → asB s p h m (j + 1) = true := fun g => by
        show (asB s p h m j && _) = true
        rw [ht, decide_eq_true g]
        rfl
      refine ⟨vp_in_nI (by omega) (by decide), fun _ => vp_in_nI (by omega) (by decide), fun c => ⟨vp_in_nI (by omega) (by decide), fun c2 => ih (j + 1) (by omega) (nx (Or.inr (Or.inr c2.symm))), fun c2 => ⟨?_, rfl⟩⟩, fun c => ih (j + 1) (by omega) (nx ?_)⟩
      · have : asB s p h m (j + 1) = false := by
          show (asB s p h m j && _) = false
          rw [ht, decide_eq_false]
          · rfl
          · intro g
            rcases g with g | g | g
            · exact g c.1
            · exact g c.2
            · exact c2 g.symm
        rw [show kk = j + 1 + r by omega, asB_f this]
        rfl
      · by_cases c1 : s (74 + j) = nI p
        · exact Or.inr (Or.inl (fun g => c ⟨c1, g⟩))
        · exact Or.inl c1
  have k2 := key kk 0 (by omega) rfl
  rw [nI_0] at k2
  exact k2
theorem c_ghostSeen {K0 : Nat → Nat → Int32} {t : Nat → Int32} {p kk L : Nat} (hr : rwS K0 s kk) (ht : towR K0 65 t) (hg : mnR K0 129 t p) (ok : mnOK t p) (h2 : K0 65 2 = nI w) (hw : w ≤ 9999) (hL : L < 22) (hd : 6 ≤ d) :
    x_K E d 105 [.ref 64, .int (nI L - 1)] K0 (fun v K => v = some (.int (bI (asA s t w p kk L))) ∧ kp [72, 129] K0 K) := by
  refine x_K.of (by decide) (by decide) rfl rfl rfl (r_C_isGhostAsSeen_0 (by omega) _ ?_)
  have key : ∀ r m (K : Nat → Nat → Int32), m + r = L → manR 129 (trjM t w m p) K0 K → asA s t w p kk m = true → x_P E d 105 2 [.ref 64, .int (nI L - 1), .int (nI m)] [] K (fun v K => v = some (.int (bI (asA s t w p kk L))) ∧ kp [72, 129] K0 K) := by
    intro r
    induction r with
    | zero =>
      intro m K hm hK ha
      exact r_C_isGhostAsSeen_2 (by omega) _ _ ⟨fun _ => ⟨by rw [show L = m by omega, ha]; rfl, hK.2.2⟩, fun g => absurd ((lt_fin2 L hL m (by omega)).mpr (by omega)) g⟩
    | succ r ih =>
      intro m K hm hK ha
      have e5 : K 129 5 = (trjM t w m p).2.1 := congrArg (fun x => x.2.1) hK.1
      have e0 : K 129 0 = nI p := (hK.2.1 0 (by decide) (by decide) (by decide)).trans hg.1
      have hrK : rwS K s kk := rwS_kp (fun q h1 h2 => hK.2.2 q (by simp; omega)) hr
      refine r_C_isGhostAsSeen_2 (by omega) _ _ ⟨fun g => absurd ((lt_fin2 L hL m (by omega)).mp g) (by omega), fun _ => (c_isAt hrK e0 e5 (by omega) (by omega)).pu (r_C_isGhostAsSeen_8 (by omega) _ _ _ ⟨fun c => ?_, fun c => ?_⟩)⟩
      · have c := (bI_0 _).mp c
        have : asA s t w p kk (m + 1) = false := by
          show (asA s t w p kk m && _) = false
          rw [ha, c]
          rfl
        refine ⟨?_, hK.2.2⟩
        rw [show L = m + 1 + r by omega, asA_f this]
        rfl
      · have c1 : asB s p (trjM t w m p).2.1 m kk = true := by
          cases e : asB s p (trjM t w m p).2.1 m kk
          · exact absurd (by rw [e]; rfl) c
          · rfl
        rw [hK.2.2 65 (by decide), h2, nI_add]
        refine (c_gst ht hg ok hK (by omega) (by omega)).mono (fun v K2 hv => ?_)
        obtain ⟨hv, hK2⟩ := hv
        rw [hv]
        refine r_C_isGhostAsSeen_22 (by omega) _ _ ?_
        rw [nI_1]
        refine ih (m + 1) K2 (by omega) hK2 ?_
        show (asA s t w p kk m && _) = true
        rw [ha, c1]
        rfl
  have k2 := key L 0 K0 (by omega) (by rw [show trjM t w 0 p = dynC K0 129 from hg.2.2.2.2.1.symm]; exact manR.rfl') rfl
  rw [nI_0] at k2
  exact k2
theorem c_fitting {p kk e M : Nat} {a2 a3 : Int32} (c : Nat → Bool) (h : RW I 65 s n w) (hp : p < n) (hr : rwS I s kk) (h2 : 0 ≤ a2 ∧ a2 ≤ 1) (he : (a3 = 1 ∧ M = 99 ∧ e = 7 + p) ∨ (a3 = 0 ∧ M = 9 ∧ e = 44 + p))
    (hc : ∀ v, v ≤ M → c v = asA s (su s e (nI v)) w p kk 21) (hd : 9 ≤ d) :
    x_K E d 103 [.ref 64, .ref (85 + 2 * p), .int a2, .int a3] I (fun v K => v = some (.int (if a2 = 0 then (ftF c M (M + 1)).1 else (ftF c M (M + 1)).2)) ∧ kp [72, 129, 130] I K) := by
  have hn := h.1.1
  have hw := h.1.2.1
  have hM : M ≤ 99 := by omega
  have hL := ltF_le (s := s) (p := p) kk (fun i hi => (hr.2.2 i hi).2.2.2)
  have ok := (h.2.1.1 p hp).2
  have e0 : I (85 + 2 * p) 0 = nI p := (h.2.1.1 p hp).1.1
  refine x_K.of (by decide) (by decide) rfl rfl rfl (r_C_fitting_0 (by omega) _ (x_man_now (by omega)).1 _ _ ⟨fun _ => ?_, fun g => absurd h2 g⟩)
  rw [e0]
  refine (c_latest hr (by omega)).pu (r_C_fitting_12 (by omega) _ (x_man_now (by omega)).1 _ _ _ (fun z hz => ?_))
  have hz : z = nI M := by rcases he with ⟨a, b, _⟩ | ⟨a, b, _⟩ <;> rw [hz, a, b] <;> rfl
  rw [hz]
  have key : ∀ r i (K : Nat → Nat → Int32), i + r = M + 1 → kp [72, 129, 130] I K →
      x_P E d 103 25 [.ref 64, .ref (85 + 2 * p), .int a2, .int a3, .int (nI (ltF s p kk) - 1), x_jk, .int (ftF c M i).1, .int (ftF c M i).2, .int (nI r + (-1 : Int32))] [] K (fun v K => v = some (.int (if a2 = 0 then (ftF c M (M + 1)).1 else (ftF c M (M + 1)).2)) ∧ kp [72, 129, 130] I K) := by
    intro r
    induction r with
    | zero =>
      intro i K hi k1
      exact r_C_fitting_25 (by omega) _ (x_man_now (by omega)).1 _ _ _ _ _ _ ⟨fun _ => ⟨by rw [show M + 1 = i by omega], k1⟩, fun g => absurd (by decide) g⟩
    | succ r ih =>
      intro i K hi k1
      rw [nI_dec]
      have hK : RW K 65 s n w := RW_kp (wkp_of k1 (by decide)) h
      refine r_C_fitting_25 (by omega) _ (x_man_now (by omega)).1 _ _ _ _ _ _ ⟨fun g => absurd g (nI_pos (by omega)), fun _ => (c_ghost hK hp (by omega)).mono (fun v K1 hv => ?_)⟩
      obtain ⟨hv, hg, k2⟩ := hv
      rw [hv]
      have fin : ∀ K2, RW K2 65 s n w → kp [72, 129, 130] I K2 → mnR K2 129 (su s e (nI r)) p → mnOK (su s e (nI r)) p →
          x_K E (d - 1) 105 [.ref 64, .int (nI (ltF s p kk) - 1)] K2 (fun v I2 => x_P E d 103 45 [.ref 64, .ref (85 + 2 * p), .int a2, .int a3, .int (nI (ltF s p kk) - 1), x_jk, .int (ftF c M i).1, .int (ftF c M i).2, .int (nI r)] (v.toList ++ []) I2 (fun v K => v = some (.int (if a2 = 0 then (ftF c M (M + 1)).1 else (ftF c M (M + 1)).2)) ∧ kp [72, 129, 130] I K)) := by
        intro K2 hK2 kk2 hg2 ok2
        have hlo : ∀ j, j ≠ e → su s e (nI r) j = s j := fun j hj => su_ne hj
        have ht : towR K2 65 (su s e (nI r)) := towR_c ⟨rfl, rfl, rfl, rfl⟩ rfl (hlo 32 (by omega)) (hlo 37 (by omega)) (fun j hj => hlo j (by omega)) hK2.2.2.1
        refine (c_ghostSeen (s := s) (w := w) (rwS_kp (fun q a b => kk2 q (by simp; omega)) hr) ht hg2 ok2 hK2.1.2.2.2.2.2 hw (by omega) (by omega)).mono (fun v K3 hv => ?_)
        obtain ⟨hv, k3⟩ := hv
        rw [hv, ← asA_21 (fun i hi => (hr.2.2 i hi).2.2.2), ← hc r (by omega)]
        have nx := ih (i + 1) K3 (by omega) (kk2.trans (k3.mono (by simp)))
        rw [show ftF c M (i + 1) = if c (M - i) = true then ((ftF c M i).1 + 1, nI (M - i)) else ftF c M i from rfl, show M - i = r by omega] at nx
        refine r_C_fitting_45 (by omega) _ (x_man_now (by omega)).1 _ _ _ _ _ _ _ ⟨fun g => ?_, fun g => ?_⟩
        · rw [if_neg (by rw [(bI_0 _).mp g]; decide)] at nx
          exact nx
        · have ec : c r = true := by
            cases ec : c r
            · exact absurd (by rw [ec]; rfl) g
            · rfl
          rw [if_pos ec] at nx
          exact nx
      have k12 : kp [72, 129, 130] I K1 := k1.trans (k2.mono (by simp))
      refine r_C_fitting_31 (by omega) _ (x_man_now (by omega)).1 _ _ _ _ _ _ ⟨fun g => ?_, fun g => ?_⟩
      · have he2 : e = 44 + p ∧ M = 9 := by
          rcases he with ⟨a, _, _⟩ | ⟨_, b, c⟩
          · rw [a] at g
            exact absurd g (by decide)
          · exact ⟨c, b⟩
        intro I2 e2
        have kk2 : kp [72, 129, 130] I I2 := k12.trans (by rw [e2]; exact kp.up (by simp))
        refine fin I2 (RW_kp (wkp_of kk2 (by decide)) h) kk2 ?_ ?_
        · rw [he2.1, e2]
          exact mnR_su2 (by omega) hg
        · rw [he2.1]
          exact mnOK_su2 (by omega) ⟨r, by omega, rfl⟩ ok
      · have he2 : e = 7 + p ∧ M = 99 := by
          rcases he with ⟨_, b, c⟩ | ⟨a, _, _⟩
          · exact ⟨c, b⟩
          · exact absurd a g
        intro I2 e2
        have kk2 : kp [72, 129, 130] I I2 := k12.trans (by rw [e2]; exact kp.up (by simp))
        refine fin I2 (RW_kp (wkp_of kk2 (by decide)) h) kk2 ?_ ?_
        · rw [he2.1, e2]
          exact mnR_su (fld := 5) (off := 7) (by omega) (by unfold fo; omega) hg
        · rw [he2.1]
          exact mnOK_su (fld := 5) (off := 7) (by omega) (by unfold fo; omega) ⟨fun g => absurd g (by decide), fun g => absurd g (by decide), fun _ => ⟨r, by omega, rfl⟩, fun g => absurd g (by decide), fun g => absurd g (by decide)⟩ ok
  have k2 := key (M + 1) 0 I (by omega) kp.rfl'
  rw [nI_dec] at k2
  exact k2
theorem rwS_of (h : RW I 65 s n w) : ∃ kk, rwS I s kk ∧ s 33 = nI kk := by
  obtain ⟨kk, hk, h33, h73, hrow⟩ := h.2.2.2.2.1
  exact ⟨kk, ⟨hk, h73, fun i hi => ⟨(hrow i hi).1, (hrow i hi).2.1, (hrow i hi).2.2.1, (hrow i hi).2.2.2.2⟩⟩, h33⟩
theorem op_highs {a1 a2 : Int32} (h : RW I 65 s n w) (hd : 20 ≤ d) : op2 E d I s 80 167 [.int a1, .int a2] := by
  have hn := h.1.1
  have h65 := h.1.2.2.2.2.1
  have h31 := h.1.2.2.1
  obtain ⟨kk, hr, h33⟩ := rwS_of h
  rcases mn_cases a1 hn with ⟨p, hp, rfl, hin⟩ | ⟨hno, hno2⟩
  · by_cases h2 : 0 ≤ a2 ∧ a2 ≤ 1
    · refine ⟨.int (if a2 = 0 then (ftF (fun v => asA s (su s (7 + p) (nI v)) w p kk 21) 99 (99 + 1)).1 else (ftF (fun v => asA s (su s (7 + p) (nI v)) w p kk 21) 99 (99 + 1)).2), s, n, w, x_K.of (by decide) (by decide) rfl rfl rfl (r_C_highs_0 (by omega) _ _ ((c_find1 h65 hn hp (by omega)).pu (r_C_highs_5 (by omega) _ _ (x_man_now (by omega)).1 ((c_fitting (e := 7 + p) (M := 99) (fun v => asA s (su s (7 + p) (nI v)) w p kk 21) h hp hr h2 (Or.inl ⟨rfl, rfl, rfl⟩) (fun _ _ => rfl) (by omega)).mono (fun v K hv => ?_))))), fun J hJ => x_K.of (by decide) (by decide) rfl rfl rfl (r_M_highs_0 (by omega) _ _ ?_)⟩
      · obtain ⟨hv, k1⟩ := hv
        rw [hv]
        exact r_C_highs_8 (by omega) _ ⟨rfl, RW_kp (wkp_of k1 (by decide)) h, ckp_of k1 (by decide)⟩
      · subst hJ
        rw [h31]
        refine ⟨fun _ => ⟨fun _ => ?_, fun g => absurd h2 g⟩, fun g => absurd hin g⟩
        rw [show (7 : Int32) + nI p = nI (7 + p) from nI_add 7 p]
        refine (m_fitting (M := 99) (fun v => asA (J 143) (su (J 143) (7 + p) (nI v)) w p kk 21) (by omega) hr.1 rfl h.1.2.2.2.1 h.1.2.1 h33 h.2.2.1.1 (Or.inl rfl) (by omega) (fun _ _ => rfl) (by omega)).mono (fun v K hv => ?_)
        obtain ⟨hv, e1, k1⟩ := hv
        rw [hv]
        exact r_M_highs_17 (by omega) _ ⟨rfl, e1, mkp_of k1 (by decide)⟩
    · refine ⟨.int (-1), s, n, w, x_K.of (by decide) (by decide) rfl rfl rfl (r_C_highs_0 (by omega) _ _ ((c_find1 h65 hn hp (by omega)).pu (r_C_highs_5 (by omega) _ _ (x_man_now (by omega)).1 (x_K.of (by decide) (by decide) rfl rfl rfl (r_C_fitting_0 (by omega) _ (x_man_now (by omega)).1 _ _ ⟨fun g => absurd g h2, fun _ => r_C_highs_8 (by omega) _ ⟨rfl, h, ckp.rfl'⟩⟩))))), fun J hJ => x_K.of (by decide) (by decide) rfl rfl rfl (r_M_highs_0 (by omega) _ _ ?_)⟩
      subst hJ
      rw [h31]
      exact ⟨fun _ => ⟨fun g => absurd g h2, fun _ => ⟨rfl, rfl, mkp.rfl'⟩⟩, fun g => absurd hin g⟩
  · refine ⟨.int (-1), s, n, w, x_K.of (by decide) (by decide) rfl rfl rfl (r_C_highs_0 (by omega) _ _ ((c_find0 h65 hno2 (by omega)).pu (r_C_highs_5N (by omega) _ (x_K.of (by decide) (by decide) rfl rfl rfl (r_C_fitting_0N _ _ (r_C_highs_8 (by omega) _ ⟨rfl, h, ckp.rfl'⟩)))))), fun J hJ => x_K.of (by decide) (by decide) rfl rfl rfl (r_M_highs_0 (by omega) _ _ ?_)⟩
    subst hJ
    rw [h31]
    exact ⟨fun g => absurd g hno, fun _ => ⟨rfl, rfl, mkp.rfl'⟩⟩
theorem op_firm {a1 a2 : Int32} (h : RW I 65 s n w) (hd : 20 ≤ d) : op2 E d I s 81 168 [.int a1, .int a2] := by
  have hn := h.1.1
  have h65 := h.1.2.2.2.2.1
  have h31 := h.1.2.2.1
  obtain ⟨kk, hr, h33⟩ := rwS_of h
  rcases mn_cases a1 hn with ⟨p, hp, rfl, hin⟩ | ⟨hno, hno2⟩
  · by_cases h2 : 0 ≤ a2 ∧ a2 ≤ 1
    · refine ⟨.int (if a2 = 0 then (ftF (fun v => asA s (su s (44 + p) (nI v)) w p kk 21) 9 (9 + 1)).1 else (ftF (fun v => asA s (su s (44 + p) (nI v)) w p kk 21) 9 (9 + 1)).2), s, n, w, x_K.of (by decide) (by decide) rfl rfl rfl (r_C_firm_0 (by omega) _ _ ((c_find1 h65 hn hp (by omega)).pu (r_C_firm_5 (by omega) _ _ (x_man_now (by omega)).1 ((c_fitting (e := 44 + p) (M := 9) (fun v => asA s (su s (44 + p) (nI v)) w p kk 21) h hp hr h2 (Or.inr ⟨rfl, rfl, rfl⟩) (fun _ _ => rfl) (by omega)).mono (fun v K hv => ?_))))), fun J hJ => x_K.of (by decide) (by decide) rfl rfl rfl (r_M_firm_0 (by omega) _ _ ?_)⟩
      · obtain ⟨hv, k1⟩ := hv
        rw [hv]
        exact r_C_firm_8 (by omega) _ ⟨rfl, RW_kp (wkp_of k1 (by decide)) h, ckp_of k1 (by decide)⟩
      · subst hJ
        rw [h31]
        refine ⟨fun _ => ⟨fun _ => ?_, fun g => absurd h2 g⟩, fun g => absurd hin g⟩
        rw [show (44 : Int32) + nI p = nI (44 + p) from nI_add 44 p]
        refine (m_fitting (M := 9) (fun v => asA (J 143) (su (J 143) (44 + p) (nI v)) w p kk 21) (by omega) hr.1 rfl h.1.2.2.2.1 h.1.2.1 h33 h.2.2.1.1 (Or.inr rfl) (by omega) (fun _ _ => rfl) (by omega)).mono (fun v K hv => ?_)
        obtain ⟨hv, e1, k1⟩ := hv
        rw [hv]
        exact r_M_firm_17 (by omega) _ ⟨rfl, e1, mkp_of k1 (by decide)⟩
    · refine ⟨.int (-1), s, n, w, x_K.of (by decide) (by decide) rfl rfl rfl (r_C_firm_0 (by omega) _ _ ((c_find1 h65 hn hp (by omega)).pu (r_C_firm_5 (by omega) _ _ (x_man_now (by omega)).1 (x_K.of (by decide) (by decide) rfl rfl rfl (r_C_fitting_0 (by omega) _ (x_man_now (by omega)).1 _ _ ⟨fun g => absurd g h2, fun _ => r_C_firm_8 (by omega) _ ⟨rfl, h, ckp.rfl'⟩⟩))))), fun J hJ => x_K.of (by decide) (by decide) rfl rfl rfl (r_M_firm_0 (by omega) _ _ ?_)⟩
      subst hJ
      rw [h31]
      exact ⟨fun _ => ⟨fun g => absurd g h2, fun _ => ⟨rfl, rfl, mkp.rfl'⟩⟩, fun g => absurd hin g⟩
  · refine ⟨.int (-1), s, n, w, x_K.of (by decide) (by decide) rfl rfl rfl (r_C_firm_0 (by omega) _ _ ((c_find0 h65 hno2 (by omega)).pu (r_C_firm_5N (by omega) _ (x_K.of (by decide) (by decide) rfl rfl rfl (r_C_fitting_0N _ _ (r_C_firm_8 (by omega) _ ⟨rfl, h, ckp.rfl'⟩)))))), fun J hJ => x_K.of (by decide) (by decide) rfl rfl rfl (r_M_firm_0 (by omega) _ _ ?_)⟩
    subst hJ
    rw [h31]
    exact ⟨fun g => absurd g hno, fun _ => ⟨rfl, rfl, mkp.rfl'⟩⟩
end OPP
