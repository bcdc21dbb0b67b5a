/-! ===== the start ===== -/
def kM0 : XM := ([], fun _ _ => .null, fun _ _ => 0)
def kStart : XM := kModel (x_new (kClass (x_new kM0 7 7) 64) 8 20) 142
def vqV : Value → Option Nat
  | .ref n => some (n + 1)
  | .null => some 0
  | _ => none
theorem vqV_0 {a : Value} (h : vqV a = some 0) : a = .null := by
  cases a with
  | null => rfl
  | ref n => exact absurd (Option.some.inj h) (Nat.succ_ne_zero n)
  | _ => cases h
theorem vqV_1 {a : Value} {n : Nat} (h : vqV a = some (n + 1)) : a = .ref n := by
  cases a with
  | null => exact absurd (Option.some.inj h).symm (Nat.succ_ne_zero n)
  | ref m => rw [Nat.succ.inj (Option.some.inj h)]
  | _ => cases h
set_option maxRecDepth 100000 in
theorem kStart_1 : kStart.1 = xG := by decide +kernel
def kOK (i k : Nat) : Bool := match vqV (kStart.2.1 i k), vqV (xR i k) with
  | some a, some b => decide (a = b)
  | _, _ => false
set_option maxRecDepth 100000 in
theorem kStart_r : ∀ i, i < 87 → ∀ k, k < 20 → kOK (64 + i) k = true := by decide +kernel
theorem kOK_eq {i k : Nat} (h : kOK i k = true) : kStart.2.1 i k = xR i k := by
  unfold kOK at h
  split at h
  · rename_i a b h1 h2
    have e := of_decide_eq_true h
    subst e
    match a, h1, h2 with
    | 0, h1, h2 => rw [vqV_0 h1, vqV_0 h2]
    | n + 1, h1, h2 => rw [vqV_1 h1, vqV_1 h2]
  · exact absurd h (by decide)
/-- nothing refers from place 20 on -/
def nul (M : XM) : Prop := ∀ i k, 20 ≤ k → M.2.1 i k = .null
theorem nul_new {M : XM} {kd N : Nat} (h : nul M) : nul (x_new M kd N) := fun i k hk => by
  show (if i = 64 + M.1.length then Value.null else M.2.1 i k) = .null
  split
  · rfl
  · exact h i k hk
theorem nul_ref {M : XM} {q b r : Nat} (hb : b < 20) (h : nul M) : nul (kRef M q b r) := fun i k hk => (kRef_r (Or.inr (by omega))).trans (h i k hk)
theorem nul_int {M : XM} {q b : Nat} {x : Int32} (h : nul M) : nul (kInt M q b x) := h
theorem nul_arr {M : XM} {q b kd N : Nat} (hb : b < 20) (h : nul M) : nul (kArr M q b kd N) := nul_ref hb (nul_new h)
theorem nul_obj {f : XM → Nat → XM} {M : XM} {q b kd N : Nat} (hf : ∀ M q, nul M → nul (f M q)) (hb : b < 20) (h : nul M) : nul (kObj f M q b kd N) := nul_ref hb (hf _ _ (nul_new h))
theorem nul_man (M : XM) (q : Nat) (h : nul M) : nul (kMan M q) := nul_arr (by decide) h
theorem nul_actor (M : XM) (q : Nat) (h : nul M) : nul (kActor M q) := nul_arr (by decide) h
theorem nul_pair (M : XM) (q : Nat) (h : nul M) : nul (kPair M q) := nul_arr (by decide) h
theorem nul_rows (M : XM) (q : Nat) (h : nul M) : nul (kRows M q) := nul_arr (by decide) (nul_arr (by decide) (nul_arr (by decide) h))
theorem nul_town (M : XM) (q : Nat) (h : nul M) : nul (kTown M q) := nul_arr (by decide) (nul_arr (by decide) (nul_arr (by decide) (nul_arr (by decide) (nul_int h))))
theorem nul_reader (M : XM) (q : Nat) (h : nul M) : nul (kReader M q) := nul_arr (by decide) (nul_obj nul_town (by decide) h)
theorem nul_men {a : Nat} {M : XM} (h : nul M) : ∀ j, j ≤ 6 → nul (kMen a j M)
  | 0, _ => h
  | j + 1, hj => nul_ref (by omega) (nul_man _ _ (nul_new (nul_men h j (by omega))))
theorem nul_world (M : XM) (q : Nat) (h : nul M) : nul (kWorld M q) := nul_men (nul_obj nul_rows (by decide) (nul_obj nul_rows (by decide) (nul_obj nul_rows (by decide) (nul_obj nul_town (by decide) (nul_arr (by decide) (nul_arr (by decide) h)))))) 6 (Nat.le_refl _)
theorem nul_class (M : XM) (q : Nat) (h : nul M) : nul (kClass M q) := nul_obj nul_pair (by decide) (nul_obj nul_actor (by decide) (nul_obj nul_reader (by decide) (nul_obj nul_man (by decide) (nul_obj nul_world (by decide) (nul_obj nul_world (by decide) h)))))
theorem nul_model (M : XM) (q : Nat) (h : nul M) : nul (kModel M q) := nul_int (nul_arr (by decide) (nul_arr (by decide) (nul_arr (by decide) (nul_arr (by decide) (nul_arr (by decide) (nul_arr (by decide) (nul_arr (by decide) (nul_arr (by decide) h))))))))
theorem nul_start : nul kStart := nul_model _ _ (nul_new (nul_class _ _ (nul_new (fun _ _ _ => rfl))))
theorem xR_20 : ∀ i, i < 87 → (xRt.getD i []).length ≤ 20 := by decide +kernel
theorem xR_nul {i k : Nat} (hi : i < 87) (hk : 20 ≤ k) : xR (64 + i) k = .null := by
  unfold xR
  rw [if_neg (by omega), Nat.add_sub_cancel_left]
  have := xR_20 i hi
  rw [List.getD_eq_getElem?_getD, List.getElem?_eq_none (by omega)]
  rfl
theorem kStart_R {i k : Nat} (hi : i < 87) : kStart.2.1 (64 + i) k = xR (64 + i) k := by
  rcases Nat.lt_or_ge k 20 with h | h
  · exact kOK_eq (kStart_r i hi k h)
  · rw [nul_start _ _ h, xR_nul hi h]
def kI : Nat → Nat → Int32 := kStart.2.2
theorem kStart_World {D : va_G} {T : Nat → ClassId} {ex : Nat → Value} {base : Nat} {H : Heap} (h : x_World D T ex base kStart H) : x_World D T ex base (x_mk kI) H := by
  obtain ⟨h1, h2⟩ := h
  rw [kStart_1] at h1 h2
  refine ⟨h1, fun j q hq => ?_⟩
  have hj : j < 87 := by
    have := (List.getElem?_eq_some_iff.mp hq).1
    exact this
  have hx := h2 j q hq
  have e : x_v ex base kStart q (64 + j) = x_v ex base (x_mk kI) q (64 + j) := by
    funext k
    unfold x_v
    rw [kStart_R hj]
    rfl
  unfold x_at at hx ⊢
  rw [e] at hx
  exact hx
/-- the run goes on where only ints change -/
theorem kStart_WP {E : XE} {d mi i k n mc ms : Nat} {L S : List Value} {Q : Option Value → XM → Prop} (h : x_WP E d mi i L S (x_mk kI) k n mc ms Q) : x_WP E d mi i L S kStart k n mc ms Q :=
  fun p l e R s m args below meth c H locs ls D T ex base hh => h p l e R s m args below meth c H locs ls D T ex base ⟨hh.1, hh.2.1, hh.2.2.1, kStart_World hh.2.2.2.1, hh.2.2.2.2.1, hh.2.2.2.2.2⟩
set_option maxRecDepth 100000 in
theorem kI_ints : (kI 65 1 = 0 ∧ kI 65 2 = 0 ∧ kI 65 4 = 0 ∧ kI 65 6 = 0 ∧ kI 68 0 = 90 ∧ kI 68 1 = 0 ∧ kI 73 3 = 0 ∧ kI 77 3 = 0 ∧ kI 81 3 = 0 ∧ kI 138 1 = 0 ∧ kI 142 16 = 0 ∧ kI 142 4 = 0 ∧ kI 64 2 = 0 ∧ kI 141 0 = 0)
    ∧ (kI 143 0 = 0 ∧ kI 143 31 = 0 ∧ kI 143 32 = 0 ∧ kI 143 33 = 0 ∧ kI 143 34 = 0 ∧ kI 143 35 = 0 ∧ kI 143 36 = 0 ∧ kI 143 37 = (-1 : Int32)) ∧ (∀ p, p < 6 → kI (85 + 2 * p) 6 = 0 ∧ kI (85 + 2 * p) 7 = 0) ∧ ∀ j, j < 100 → kI 67 j = 0 := by decide +kernel
theorem inv_start : inv kI := by
  obtain ⟨⟨a1, a2, a4, a6, b0, b1', c1, c2, c3, d1, d2, d3, d4, d5⟩, ⟨s0, s31, s32, s33, s34, s35, s36, s37⟩, hm, ht⟩ := kI_ints
  refine ⟨kI 143, 0, 0, ⟨⟨by omega, by omega, s31, s0, a1, a2⟩, ⟨fun p hp => absurd hp (by omega), fun p hp => ⟨Or.inl (hm p hp).1, Or.inl (hm p hp).2⟩⟩, ⟨Or.inl s37, ⟨0, by omega, b1', fun i hi => absurd hi (by omega)⟩, ?_, fun f => ?_, 0, by omega, s32, a6, by rw [s37]; rfl⟩, ⟨fun j hj => ?_, 0, by omega, s36, a4, fun i hi => absurd hi (by omega)⟩, ⟨0, by omega, s33, c1, fun i hi => absurd hi (by omega)⟩, ⟨0, by omega, s34, c2, fun i hi => absurd hi (by omega)⟩, 0, by omega, s35, c3, fun i hi => absurd hi (by omega)⟩, rfl, d5, ⟨0, by omega, d1, d2, fun i hi => absurd hi (by omega)⟩, Or.inl ⟨d4, d3⟩⟩
  · show kI 68 0 = _
    unfold buM
    rw [b0, if_pos s37]
  · show (csF (kI 69) (kI 70) (kI 71) f (kI 68 1).toNatClampNeg).1 = _
    unfold smF
    rw [b1', if_pos s37]
    rfl
  · show fits .byte (.int (kI 67 j)) = true
    rw [ht j hj]
    rfl
