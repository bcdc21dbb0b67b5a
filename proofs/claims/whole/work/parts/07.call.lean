/-! ===== returns, calls, making, contracts ===== -/
theorem x_good {ws : List Jvm.Cond} (h : ∀ w ∈ ws, w ∈ x_gt) : GoodIn x_gt ws := fun w hw => ⟨h w hw, good_of_word (List.mem_filter.mp (h w hw)).2⟩
theorem x_tb_in {c i : Nat} {w : Jvm.Cond} (h : (x_tb c)[i]? = some w) (hg : goodWord w = true := by rfl) : w ∈ x_gt := by
  refine List.mem_filter.mpr ⟨?_, hg⟩
  have h1 := List.mem_of_getElem? h
  unfold lw_tbl
  unfold x_tb at h1
  refine List.mem_append.mpr ?_
  split at h1
  · exact Or.inl h1
  all_goals (refine Or.inr ?_; unfold tables_1; simp only [List.mem_append]; simp only [h1, true_or, or_true])
def x_codeW (X : XI) : Jvm.Cond := Jvm.Cond.code X.1 X.2.1 X.2.2.1 X.2.2.2.1
set_option maxRecDepth 100000 in
theorem x_codes_all : ∀ X ∈ x_ms.drop 1, x_codeW X ∈ x_gt := by
  show ∀ X ∈ [xi_1, xi_2, xi_3, xi_4, xi_5, xi_6, xi_7, xi_8, xi_9, xi_10, xi_11, xi_12, xi_13, xi_14, xi_15, xi_16, xi_17, xi_18, xi_19, xi_20, xi_21, xi_22, xi_23, xi_24, xi_25, xi_26, xi_27, xi_28, xi_29, xi_30, xi_31, xi_32, xi_33, xi_34, xi_35, xi_36, xi_37, xi_38, xi_39, xi_40, xi_41, xi_42, xi_43, xi_44, xi_45, xi_46, xi_47, xi_48, xi_49, xi_50, xi_51, xi_52, xi_53, xi_54, xi_55, xi_56, xi_57, xi_58, xi_59, xi_60, xi_61, xi_62, xi_63, xi_64, xi_65, xi_66, xi_67, xi_68, xi_69, xi_70, xi_71, xi_72, xi_73, xi_74, xi_75, xi_76, xi_77, xi_78, xi_79, xi_80, xi_81, xi_82, xi_83, xi_84, xi_85, xi_86, xi_87, xi_88, xi_89, xi_90, xi_91, xi_92, xi_93, xi_94, xi_95, xi_96, xi_97, xi_98, xi_99, xi_100, xi_101, xi_102, xi_103, xi_104, xi_105, xi_106, xi_107, xi_108, xi_109, xi_110, xi_111, xi_112, xi_113, xi_114, xi_115, xi_116, xi_117, xi_118, xi_119, xi_120, xi_121, xi_122, xi_123, xi_124, xi_125, xi_126, xi_127, xi_128, xi_129, xi_130, xi_131, xi_132, xi_133, xi_134, xi_135, xi_136, xi_137, xi_138, xi_139, xi_140, xi_141, xi_142, xi_143, xi_144, xi_145, xi_146, xi_147, xi_148, xi_149, xi_150, xi_151, xi_152, xi_153, xi_154, xi_155, xi_156, xi_157, xi_158, xi_159, xi_160, xi_161, xi_162, xi_163, xi_164, xi_165, xi_166, xi_167, xi_168, xi_169, xi_170, xi_171, xi_172, xi_173, xi_174, xi_175, xi_176, xi_177, xi_178, xi_179, xi_180, xi_181, xi_182, xi_183, xi_184, xi_185, xi_186, xi_187, xi_188, xi_189, xi_190, xi_191], x_codeW X ∈ x_gt
  simp only [List.forall_mem_cons, List.not_mem_nil, false_imp_iff, implies_true, and_true]
  exact ⟨x_tb_in xc_1, x_tb_in xc_2, x_tb_in xc_3, x_tb_in xc_4, x_tb_in xc_5, x_tb_in xc_6, x_tb_in xc_7, x_tb_in xc_8, x_tb_in xc_9, x_tb_in xc_10, x_tb_in xc_11, x_tb_in xc_12, x_tb_in xc_13, x_tb_in xc_14, x_tb_in xc_15, x_tb_in xc_16, x_tb_in xc_17, x_tb_in xc_18, x_tb_in xc_19, x_tb_in xc_20, x_tb_in xc_21, x_tb_in xc_22, x_tb_in xc_23, x_tb_in xc_24, x_tb_in xc_25, x_tb_in xc_26, x_tb_in xc_27, x_tb_in xc_28, x_tb_in xc_29, x_tb_in xc_30, x_tb_in xc_31, x_tb_in xc_32, x_tb_in xc_33, x_tb_in xc_34, x_tb_in xc_35, x_tb_in xc_36, x_tb_in xc_37, x_tb_in xc_38, x_tb_in xc_39, x_tb_in xc_40, x_tb_in xc_41, x_tb_in xc_42, x_tb_in xc_43, x_tb_in xc_44, x_tb_in xc_45, x_tb_in xc_46, x_tb_in xc_47, x_tb_in xc_48, x_tb_in xc_49, x_tb_in xc_50, x_tb_in xc_51, x_tb_in xc_52, x_tb_in xc_53, x_tb_in xc_54, x_tb_in xc_55, x_tb_in xc_56, x_tb_in xc_57, x_tb_in xc_58, x_tb_in xc_59, x_tb_in xc_60, x_tb_in xc_61, x_tb_in xc_62, x_tb_in xc_63, x_tb_in xc_64, x_tb_in xc_65, x_tb_in xc_66, x_tb_in xc_67, x_tb_in xc_68, x_tb_in xc_69, x_tb_in xc_70, x_tb_in xc_71, x_tb_in xc_72, x_tb_in xc_73, x_tb_in xc_74, x_tb_in xc_75, x_tb_in xc_76, x_tb_in xc_77, x_tb_in xc_78, x_tb_in xc_79, x_tb_in xc_80, x_tb_in xc_81, x_tb_in xc_82, x_tb_in xc_83, x_tb_in xc_84, x_tb_in xc_85, x_tb_in xc_86, x_tb_in xc_87, x_tb_in xc_88, x_tb_in xc_89, x_tb_in xc_90, x_tb_in xc_91, x_tb_in xc_92, x_tb_in xc_93, x_tb_in xc_94, x_tb_in xc_95, x_tb_in xc_96, x_tb_in xc_97, x_tb_in xc_98, x_tb_in xc_99, x_tb_in xc_100, x_tb_in xc_101, x_tb_in xc_102, x_tb_in xc_103, x_tb_in xc_104, x_tb_in xc_105, x_tb_in xc_106, x_tb_in xc_107, x_tb_in xc_108, x_tb_in xc_109, x_tb_in xc_110, x_tb_in xc_111, x_tb_in xc_112, x_tb_in xc_113, x_tb_in xc_114, x_tb_in xc_115, x_tb_in xc_116, x_tb_in xc_117, x_tb_in xc_118, x_tb_in xc_119, x_tb_in xc_120, x_tb_in xc_121, x_tb_in xc_122, x_tb_in xc_123, x_tb_in xc_124, x_tb_in xc_125, x_tb_in xc_126, x_tb_in xc_127, x_tb_in xc_128, x_tb_in xc_129, x_tb_in xc_130, x_tb_in xc_131, x_tb_in xc_132, x_tb_in xc_133, x_tb_in xc_134, x_tb_in xc_135, x_tb_in xc_136, x_tb_in xc_137, x_tb_in xc_138, x_tb_in xc_139, x_tb_in xc_140, x_tb_in xc_141, x_tb_in xc_142, x_tb_in xc_143, x_tb_in xc_144, x_tb_in xc_145, x_tb_in xc_146, x_tb_in xc_147, x_tb_in xc_148, x_tb_in xc_149, x_tb_in xc_150, x_tb_in xc_151, x_tb_in xc_152, x_tb_in xc_153, x_tb_in xc_154, x_tb_in xc_155, x_tb_in xc_156, x_tb_in xc_157, x_tb_in xc_158, x_tb_in xc_159, x_tb_in xc_160, x_tb_in xc_161, x_tb_in xc_162, x_tb_in xc_163, x_tb_in xc_164, x_tb_in xc_165, x_tb_in xc_166, x_tb_in xc_167, x_tb_in xc_168, x_tb_in xc_169, x_tb_in xc_170, x_tb_in xc_171, x_tb_in xc_172, x_tb_in xc_173, x_tb_in xc_174, x_tb_in xc_175, x_tb_in xc_176, x_tb_in xc_177, x_tb_in xc_178, x_tb_in xc_179, x_tb_in xc_180, x_tb_in xc_181, x_tb_in xc_182, x_tb_in xc_183, x_tb_in xc_184, x_tb_in xc_185, x_tb_in xc_186, x_tb_in xc_187, x_tb_in xc_188, x_tb_in xc_189, x_tb_in xc_190, x_tb_in xc_191⟩
set_option maxRecDepth 100000 in
theorem x_plain_all : ∀ X ∈ x_ms, X.1.cls = "java/lang/Math" ∨ Jvm.plainName X.1.cls = true := by
  have h : x_ms.all (fun X => decide (X.1.cls = "java/lang/Math") || Jvm.plainName X.1.cls) = true := by decide +kernel
  intro X hX
  have h1 := List.all_eq_true.mp h X hX
  rw [Bool.or_eq_true, decide_eq_true_eq] at h1
  exact h1
theorem x_m_in {a : Nat} (h : a < 192) : x_m a ∈ x_ms := by
  unfold x_m
  have hl : x_ms.length = 192 := rfl
  rw [List.getD_eq_getElem?_getD, List.getElem?_eq_getElem (by omega)]
  exact List.getElem_mem (by omega)
theorem x_code_in {a : Nat} (h0 : 0 < a) (h : a < 192) : x_codeW (x_m a) ∈ x_gt := by
  refine x_codes_all _ ?_
  have hl : x_ms.length = 192 := rfl
  have : (x_ms.drop 1)[a - 1]? = some (x_m a) := by
    rw [List.getElem?_drop, show 1 + (a - 1) = a by omega, List.getElem?_eq_getElem (by omega)]
    unfold x_m
    rw [List.getD_eq_getElem?_getD, List.getElem?_eq_getElem (by omega)]
    rfl
  exact List.mem_of_getElem? this
theorem x_ws_good {a : Nat} (h0 : 0 < a) (h : a < 192) : ∀ w ∈ x_ws a, w ∈ x_gt := by
  intro w hw
  rcases List.mem_cons.mp hw with rfl | hw
  · exact x_code_in h0 h
  · exact hw
/-! how what lies outside stays -/
theorem x_Ext.kept {E : XE} {ex : Nat → Value} {A : Nat → Prop} {U : State} {H H1 : Heap} (h : x_Ext E ex A U H) (hq : ∀ a : Nat, a < H.size → ¬ A a → H1[a]? = H[a]?) : x_Ext E ex A U H1 := by
  obtain ⟨h0, h1, h2, h3, h4, h5⟩ := h
  refine ⟨h0, fun e ty N f he => ?_, fun e C n d he hx => (h2 e C n d he hx).kept hq, h3.kept hq, fun j hj => ?_, h5⟩
  · obtain ⟨t, g1, g2⟩ := h1 e ty N f he
    exact ⟨t, g1, g2.kept hq⟩
  · obtain ⟨t, g1, g2, g3, g4⟩ := h4 j hj
    exact ⟨t, g1, g2.kept hq, g3.kept hq, g4.kept hq⟩
theorem x_Ext.moved {E : XE} {ex : Nat → Value} {A : Nat → Prop} {u U : State} {H : Heap} (hvm : u.vm.Alike U.vm) (hR : ∀ own k tx a, vk_R own k tx a u → vk_R own k tx a U) (hN : ∀ own idx y host, va_Nw (.methodLinkNest own idx y host) u → va_Nw (.methodLinkNest own idx y host) U) (h : x_Ext E ex A u H) : x_Ext E ex A U H := by
  obtain ⟨h0, h1, h2, h3, h4, h5, h6, h7⟩ := h
  refine ⟨h0, fun e ty N f he => ?_, fun e C n d he hx => va_Z.moved hvm (h2 e C n d he hx), va_Z.moved hvm h3, fun j hj => ?_, fun own idx j tx hw hs => ?_, fun own idx y host hw => hN _ _ _ _ (h6 own idx y host hw), va_AO.moved hvm h7⟩
  · obtain ⟨t, g1, g2⟩ := h1 e ty N f he
    exact ⟨t, g1, va_T.moved hvm g2⟩
  · obtain ⟨t, g1, g2, g3, g4⟩ := h4 j hj
    exact ⟨t, g1, va_O.moved hvm g2, va_OF.moved hvm g3, va_OF.moved hvm g4⟩
  · obtain ⟨t, g1, g2⟩ := h5 own idx j tx hw hs
    exact ⟨t, g1, hR _ _ _ _ g2⟩
theorem x_In_blind {E : XE} {D : va_G} {T : Nat → ClassId} {ex : Nat → Value} {base : Nat} {M : XM} {av : List Value} : FrameBlind (va_Pc av (x_In E D T ex base M)) := by
  intro a U g mk q
  obtain ⟨h1, h2, h3, h4, h5⟩ := q
  exact ⟨h1, h2, h3, va_K.moved (u := U) (U := U.calling g mk a) (Vm.Alike.refl U.vm) h4, x_Ext.moved (u := U) (U := U.calling g mk a) (Vm.Alike.refl U.vm) (fun _ _ _ _ q => vk_R.same rfl q) (fun _ _ _ _ q => va_Nw.same rfl rfl q) h5⟩
theorem x_In_of {E : XE} {d mi mc ms : Nat} {L : List Value} {M : XM} {p : Program} {R : Room} {s : State} {m : MethodId} {args : Array Value} {meth : Method} {c : Code} {H : Heap} {locs : List Loc} {ls : Array Slot} {D : va_G} {T : Nat → ClassId} {ex : Nat → Value} {base : Nat}
    (h : x_Mh E d mi L M mc ms p R s m args meth c H locs ls D T ex base) {U : State} (hU : U.heap = H) (hW : s.WarmedH U.vm) : x_In E D T ex base M U := by
  obtain ⟨-, -, ⟨hbs, hK, hE⟩, hWo, hS, -⟩ := h
  refine ⟨by rw [hU, hWo.1]; omega, by rw [hU]; exact hWo, va_K.moved hW.alike hK, ?_⟩
  rw [hU]
  exact x_Ext.moved hW.alike (fun _ _ _ _ q => vk_R.warm hW q) (fun _ _ _ _ q => va_Nw.warmM hW q) (hE.kept hS.2.1)
theorem x_In.of_vm {E : XE} {D : va_G} {T : Nat → ClassId} {ex : Nat → Value} {base : Nat} {M : XM} {U : State} (h : x_In E D T ex base M U) : True := trivial
section XC1
variable {E : XE} {d mi i k n mc ms nx a b pc : Nat} {ps : List Nat} {L S : List Value} {M : XM} {Q : Option Value → XM → Prop}
/-- the end of a method: at the level of the machine -/
theorem x_fin_q {p : Program} {R : Room} {s : State} {m : MethodId} {args : Array Value} {meth : Method} {c : Code} {H : Heap} {locs : List Loc} {ls : Array Slot} {D : va_G} {T : Nat → ClassId} {ex : Nat → Value} {base : Nat} {v : Option Value}
    (h : x_Mh E d mi L M mc ms p R s m args meth c H locs ls D T ex base) (hQ : Q v M) : ∀ t : State, t.heap = H → s.WarmedH t.vm → x_Qc D T ex base Q args s (.returned (v.map (x_cv ex base))) t := by
  intro t ht hW
  exact ⟨⟨v, M, rfl, hQ, by rw [ht]; exact h.2.2.2.1⟩, h.2.2.2.2.1.F ht⟩
theorem wp_iret {x : Int32} {ty : FieldType} (ho : x_op mi i = some (pc, 1, .ireturn, nx, a, b, ps)) (hr : (x_m mi).2.2.2.1 = some ty) (hn : narrow ty (.int x) = .int x) (hk : k ≤ mc) (hm : n ≤ ms) (hQ : Q (some (.int x)) M) : x_WP E d mi i L [.int x] M k n mc ms Q := by
  intro p l e R s m args below meth c H locs ls D T ex base h
  obtain ⟨hd, hp, -, -⟩ := x_dc ho
  rw [hp]
  refine W.widen hk hm ?_
  exact W.zret h.1.1 h.1.2.1 (h.2.1.1.trans hr) hn (x_fin_q (v := some (.int x)) h hQ) h.2.2.2.2.1.2.2 hd h.2.1.2.1
theorem wp_lret {x : Int64} (ho : x_op mi i = some (pc, 1, .lreturn, nx, a, b, ps)) (hr : (x_m mi).2.2.2.1 = some .long) (hk : k ≤ mc) (hm : n ≤ ms) (hQ : Q (some (.long x)) M) : x_WP E d mi i L [.long x] M k n mc ms Q := by
  intro p l e R s m args below meth c H locs ls D T ex base h
  obtain ⟨hd, hp, -, -⟩ := x_dc ho
  rw [hp]
  refine W.widen hk hm ?_
  exact W.lret h.1.1 h.1.2.1 (h.2.1.1.trans hr) (x_fin_q (v := some (.long x)) h hQ) h.2.2.2.2.1.2.2 hd h.2.1.2.1
theorem wp_vret (ho : x_op mi i = some (pc, 1, .return_, nx, a, b, ps)) (hr : (x_m mi).2.2.2.1 = none) (hk : k ≤ mc) (hm : n ≤ ms) (hQ : Q none M) : x_WP E d mi i L [] M k n mc ms Q := by
  intro p l e R s m args below meth c H locs ls D T ex base h
  obtain ⟨hd, hp, -, -⟩ := x_dc ho
  rw [hp]
  refine W.widen hk hm ?_
  exact W.vret h.1.1 h.1.2.1 (h.2.1.1.trans hr) (x_fin_q (v := none) h hQ) h.2.2.2.2.1.2.2 hd h.2.1.2.1
theorem wp_aret {v : Value} {C : String} (ho : x_op mi i = some (pc, 1, .areturn, nx, a, b, ps)) (hr : (x_m mi).2.2.2.1 = some (.object C)) (hv : v = .null ∨ ∃ r, v = .ref r) (hk : k ≤ mc) (hm : n ≤ ms) (hQ : Q (some v) M) : x_WP E d mi i L [v] M k n mc ms Q := by
  intro p l e R s m args below meth c H locs ls D T ex base h
  obtain ⟨hd, hp, -, -⟩ := x_dc ho
  rw [hp]
  refine W.widen hk hm ?_
  refine W.aret h.1.1 h.1.2.1 (h.2.1.1.trans hr) (Or.inl ⟨C, rfl⟩) ?_ (x_fin_q (v := some v) h hQ) h.2.2.2.2.1.2.2 hd h.2.1.2.1
  rcases hv with rfl | ⟨r, rfl⟩
  · exact Or.inl rfl
  · rcases x_cv_ref (base := base) h.2.2.1.2.2.1 r with ⟨t, e1⟩ | e1
    · exact Or.inr ⟨t, e1⟩
    · exact Or.inl e1
/-- behind a call -/
theorem x_callW {p : Program} {l : Launch} {e : Env} {R : Room} {s : State} {m : MethodId} {args : Array Value} {below : List Frame} {meth : Method} {c : Code} {H : Heap} {locs : List Loc} {ls : Array Slot} {D : va_G} {T : Nat → ClassId} {ex : Nat → Value} {base : Nat}
    {st0 rest : List Value} {ar : Array Value} {mc1 ms1 : Nat} {Q1 : Option Value → XM → Prop} {Z : State → Prop}
    (hr : va_Run p l e R s m args below meth c H locs k n mc1 ms1 (F0 m pc ls st0) rest (x_Qc D T ex base Q1 ar) (x_A base)) (hS : va_S (x_A base) s.heap H locs)
    (kk : ∀ (v : Option Value) (M' : XM) (H1 : Heap) (locs1 : List Loc), Q1 v M' → x_World D T ex base M' H1 → va_S (x_A base) s.heap H1 locs1 → W p l e R s m args below meth c H1 locs1 (k + mc1) (n + ms1) Z (F0 m (pc + 3) ls ((v.map (x_cv ex base)).toList ++ rest))) :
    W p l e R s m args below meth c H locs k n Z (F0 m pc ls st0) := by
  intro T0 hT X
  obtain ⟨v, st₀, t, T', L0, h0, X', hL, e1, e2, ⟨⟨v1, M1, hv, hq, hw⟩, hz, hk⟩, st⟩ := hr T0 hT X
  cases hv
  rw [h0] at hz hk
  obtain ⟨t2, a1, b1⟩ := kk v1 M1 T'.heap (locs ++ L0) hq (by rw [e1]; exact hw) ⟨Nat.le_trans hS.1 (by rw [e1]; exact hz), fun q h1 h2 => by rw [e1, hk q (Nat.lt_of_lt_of_le h1 hS.1) h2]; exact hS.2.1 q h1 h2, fun q hq => by
      rcases List.mem_append.mp hq with h | h
      · exact hS.2.2 q h
      · exact hL q h⟩ T' rfl X'
  exact ⟨t2, st t2 a1, b1⟩
theorem x_cat_sum {ex : Nat → Value} {base : Nat} (hx : x_exr ex) (S : List Value) : ((S.map (x_cv ex base)).map fun v => v.category).sum = (S.map fun v => v.category).sum := by
  rw [List.map_map]
  congr 1
  apply List.map_congr_left
  intro v _
  exact x_cv_cat2 hx v
theorem x_okc_spec {C : String} (h : x_okc C = true) : C ≠ "java/lang/invoke/MethodHandle" ∧ C ≠ "java/lang/invoke/VarHandle" := of_decide_eq_true h
/-- invokevirtual of a method of a's -/
theorem x_invV {idx q : Nat} {As S0 : List Value} {d1 mc1 ms1 : Nat} {Q1 : Option Value → XM → Prop} (ho : x_op mi i = some (pc, 3, .invokevirtual idx, nx, a, b, ps)) (ha : 0 < a ∧ a < 192) (hp1 : ps = [ps.getD 0 0, ps.getD 1 0, ps.getD 2 0, ps.getD 3 0, ps.getD 4 0]) (hb1 : As.length = b) (hst : S0 = As.reverse ++ .ref q :: S) (hcat : (S.map fun v => v.category).sum ≤ 8) (hd1 : d1 + 1 ≤ d) (hkm : k + mc1 ≤ mc) (hnm : n + ms1 ≤ ms)
    (hrecv : ∀ (s : State) (H : Heap) (D : va_G) (T : Nat → ClassId) (ex : Nat → Value) (base : Nat), va_K D vwCl (x_tys T) s → x_Ext E ex (x_A base) s H → x_World D T ex base M H → ∃ (t : Nat) (cellB : Cell), x_cv ex base (.ref q) = .ref t ∧ H[t]? = some cellB ∧ cellB.vm.isStatics = false ∧ s.vm.findClass (x_m a).1.cls = some cellB.cls)
    (hC : x_C E d1 a (.ref q :: As) M mc1 ms1 Q1) (kk : ∀ v M', Q1 v M' → x_WP E d mi nx L (v.toList ++ S) M' (k + mc1) (n + ms1) mc ms Q) : x_WP E d mi i L S0 M k n mc ms Q := by
  intro p l e R s m args below meth c H locs ls D T ex base h
  obtain ⟨hd, hp, hn, hI⟩ := x_dc ho
  rw [hp, hst]
  rw [hp1] at hI
  simp only [x_ckI, if_pos ha.2, Bool.and_eq_true] at hI
  obtain ⟨⟨⟨hI1, hI2⟩, hI3⟩, hI4⟩ := hI
  simp only [x_ckY, Bool.and_eq_true, decide_eq_true_eq] at hI4
  obtain ⟨⟨⟨hY1, hY2⟩, hY3⟩, hY4⟩ := hI4
  have hok := x_okc_spec hY3
  have h0 := h
  obtain ⟨⟨hx, hb, hml, hown, hts⟩, ⟨hr, hlk, hnm', hdR, hlR, hcR, hsR⟩, ⟨hbs, hK, hE⟩, hW, hS, hL⟩ := h
  obtain ⟨t, cellB, g1, g2, g3, g4⟩ := hrecv s H D T ex base hK (hE.kept hS.2.1) hW
  have hM := hC l D T ex base
  have hcw : CallW R s args (x_m mi).1.cls (x_m a).1.cls idx (x_m a).1 (x_m a).2.1 (x_m a).2.2.1 (x_m a).2.2.2.1 (x_ws a) (x_rm d1 mc1 ms1) mc1 ms1 b := by
    refine ⟨callB_of (Ts := x_gt) b hts (x_good (x_ws_good ha.1 ha.2)) rfl rfl rfl (hts _ (x_w_in hY1)) (hts _ (x_w_in hI1)) ⟨hok.1, hok.2, hY2⟩ ⟨by show d1 + 1 ≤ R.frames; omega, by show 8 + (_ + 11) + 64 * d1 ≤ R.locals; omega⟩, hts _ (x_w_in hI2), hts _ (x_w_in hI3)⟩
  have e1 : (As.reverse ++ Value.ref q :: S).map (x_cv ex base) = (As.map (x_cv ex base)).reverse ++ Value.ref t :: S.map (x_cv ex base) := by
    rw [List.map_append, List.map_cons, g1, List.map_reverse]
  rw [e1]
  refine x_callW (rest := S.map (x_cv ex base)) (va_runV (C := (x_m a).1.cls) (b := t) (As := As.map (x_cv ex base)) ⟨hx, hb, hml, hown, hts⟩ hM hcw ⟨x_In_blind, ⟨cellB, g2, g3, g4⟩, fun U hU hWU => ⟨by rw [List.map_cons, g1], x_In_of h0 hU hWU⟩⟩ rfl (by rw [List.length_map]; exact hb1) hL.1 rfl (by show 2 * 0 + _ ≤ 8; rw [x_cat_sum hE.1]; omega) hd ⟨by omega, by omega⟩) hS (fun v M' H1 locs1 hq hw hS1 => ?_)
  have k1 := kk v M' hq p l e R s m args below meth c H1 locs1 ls D T ex base ⟨h0.1, h0.2.1, h0.2.2.1, hw, hS1, hL⟩
  rw [hn rfl, List.map_append] at k1
  cases v <;> exact k1
/-- invokevirtual on an object of the memory -/
theorem wp_invV {idx q c1 N : Nat} {r1 : vw_C} {As S0 : List Value} {d1 mc1 ms1 : Nat} {Q1 : Option Value → XM → Prop} (ho : x_op mi i = some (pc, 3, .invokevirtual idx, nx, a, b, ps)) (ha : 0 < a ∧ a < 192) (hp1 : ps = [ps.getD 0 0, ps.getD 1 0, ps.getD 2 0, ps.getD 3 0, ps.getD 4 0]) (hb1 : As.length = b) (hst : S0 = As.reverse ++ .ref q :: S) (hcat : (S.map fun v => v.category).sum ≤ 8) (hd1 : d1 + 1 ≤ d) (hkm : k + mc1 ≤ mc) (hnm : n + ms1 ≤ ms)
    (hq : x_kd M q = some (c1, N)) (hc9 : c1 < 9) (hr1 : vwCl[c1]? = some r1) (hcls : r1.1 = (x_m a).1.cls)
    (hC : x_C E d1 a (.ref q :: As) M mc1 ms1 Q1) (kk : ∀ v M', Q1 v M' → x_WP E d mi nx L (v.toList ++ S) M' (k + mc1) (n + ms1) mc ms Q) : x_WP E d mi i L S0 M k n mc ms Q :=
  x_invV ho ha hp1 hb1 hst hcat hd1 hkm hnm (fun s H D T ex base hK hE hW => by
    obtain ⟨r, h1, -, cell, g1, g2, g3, -⟩ := x_obj hW hq hc9
    cases hr1.symm.trans h1
    refine ⟨base + (q - 64), cell, x_cv_m (x_kd_lt hq).1, g1, by rw [g3]; rfl, ?_⟩
    rw [g2, ← hcls]
    exact (hK.1 c1 r1 h1).2.1) hC kk
/-- invokevirtual on a String constant -/
theorem wp_invS {idx e0 : Nat} {As S0 : List Value} {d1 mc1 ms1 : Nat} {Q1 : Option Value → XM → Prop} (ho : x_op mi i = some (pc, 3, .invokevirtual idx, nx, a, b, ps)) (ha : 0 < a ∧ a < 192) (hp1 : ps = [ps.getD 0 0, ps.getD 1 0, ps.getD 2 0, ps.getD 3 0, ps.getD 4 0]) (hb1 : As.length = b) (hst : S0 = As.reverse ++ .ref (8 + e0) :: S) (hcat : (S.map fun v => v.category).sum ≤ 8) (hd1 : d1 + 1 ≤ d) (hkm : k + mc1 ≤ mc) (hnm : n + ms1 ≤ ms)
    (he : e0 < 8) (hcls : (x_m a).1.cls = "java/lang/String")
    (hC : x_C E d1 a (.ref (8 + e0) :: As) M mc1 ms1 Q1) (kk : ∀ v M', Q1 v M' → x_WP E d mi nx L (v.toList ++ S) M' (k + mc1) (n + ms1) mc ms Q) : x_WP E d mi i L S0 M k n mc ms Q :=
  x_invV ho ha hp1 hb1 hst hcat hd1 hkm hnm (fun s H D T ex base hK hE hW => by
    obtain ⟨t, h1, ⟨cell, g1, g2, g3, -⟩, -⟩ := hE.2.2.2.2.1 e0 he
    exact ⟨t, cell, by simp [x_cv, show 8 + e0 < 64 by omega, h1], g1, g2, by rw [hcls]; exact g3⟩) hC kk
theorem wp_invSt {idx : Nat} {As S0 : List Value} {d1 mc1 ms1 : Nat} {Q1 : Option Value → XM → Prop} (ho : x_op mi i = some (pc, 3, .invokestatic idx, nx, a, b, ps)) (ha : 0 < a ∧ a < 192) (hp1 : ps = [ps.getD 0 0, ps.getD 1 0, ps.getD 2 0, ps.getD 3 0]) (hb1 : As.length = b) (hst : S0 = As.reverse ++ S) (hcat : (S.map fun v => v.category).sum ≤ 8) (hd1 : d1 + 1 ≤ d) (hkm : k + mc1 ≤ mc) (hnm : n + ms1 ≤ ms)
    (hC : x_C E d1 a As M mc1 ms1 Q1) (kk : ∀ v M', Q1 v M' → x_WP E d mi nx L (v.toList ++ S) M' (k + mc1) (n + ms1) mc ms Q) : x_WP E d mi i L S0 M k n mc ms Q := by
  intro p l e R s m args below meth c H locs ls D T ex base h
  obtain ⟨hd, hp, hn, hI⟩ := x_dc ho
  rw [hp, hst]
  rw [hp1] at hI
  simp only [x_ckI, if_pos ha.2, Bool.and_eq_true] at hI
  obtain ⟨⟨hI1, hI2⟩, hI4⟩ := hI
  simp only [x_ckY, Bool.and_eq_true, decide_eq_true_eq] at hI4
  obtain ⟨⟨⟨hY1, hY2⟩, hY3⟩, hY4⟩ := hI4
  have hok := x_okc_spec hY3
  have h0 := h
  obtain ⟨⟨hx, hb, hml, hown, hts⟩, ⟨hr, hlk, hnm', hdR, hlR, hcR, hsR⟩, ⟨hbs, hK, hE⟩, hW, hS, hL⟩ := h
  have hM := hC l D T ex base
  have hcw : CallB R s args (x_m mi).1.cls idx (x_m a).1 (x_m a).2.1 (x_m a).2.2.1 (x_m a).2.2.2.1 (x_ws a) (x_rm d1 mc1 ms1) mc1 ms1 b ∧ (Jvm.Cond.static (x_m a).1).before args s = true := by
    refine ⟨callB_of (Ts := x_gt) b hts (x_good (x_ws_good ha.1 ha.2)) rfl rfl rfl (hts _ (x_w_in hY1)) (hts _ (x_w_in hI1)) ⟨hok.1, hok.2, hY2⟩ ⟨by show d1 + 1 ≤ R.frames; omega, by show 8 + (_ + 11) + 64 * d1 ≤ R.locals; omega⟩, hts _ (x_w_in hI2)⟩
  rw [List.map_append, List.map_reverse]
  refine x_callW (rest := S.map (x_cv ex base)) (va_runS (As := As.map (x_cv ex base)) ⟨hx, hb, hml, hown, hts⟩ hM hcw ⟨x_In_blind, fun U hU hWU => ⟨rfl, x_In_of h0 hU hWU⟩⟩ rfl (by rw [List.length_map]; exact hb1) hL.1 rfl (by show 2 * 0 + _ ≤ 8; rw [x_cat_sum hE.1]; omega) hd ⟨by omega, by omega⟩) hS (fun v M' H1 locs1 hq hw hS1 => ?_)
  have k1 := kk v M' hq p l e R s m args below meth c H1 locs1 ls D T ex base ⟨h0.1, h0.2.1, h0.2.2.1, hw, hS1, hL⟩
  rw [hn rfl, List.map_append] at k1
  cases v <;> exact k1
/-- a constructor's call: by methodLink, or of a nest mate -/
theorem wp_invI {idx q : Nat} {d1 mc1 ms1 : Nat} {Q1 : Option Value → XM → Prop} (ho : x_op mi i = some (pc, 3, .invokespecial idx, nx, a, 0, ps)) (ha : 0 < a ∧ a < 192) (hp1 : ps = [ps.getD 0 0, ps.getD 1 0, ps.getD 2 0, ps.getD 3 0]) (hq : ¬ q < 64) (hcat : (S.map fun v => v.category).sum ≤ 8) (hd1 : d1 + 1 ≤ d) (hkm : k + mc1 ≤ mc) (hnm : n + ms1 ≤ ms)
    (hC : x_C E d1 a [.ref q] M mc1 ms1 Q1) (kk : ∀ v M', Q1 v M' → x_WP E d mi nx L (v.toList ++ S) M' (k + mc1) (n + ms1) mc ms Q) : x_WP E d mi i L (.ref q :: S) M k n mc ms Q := by
  intro p l e R s m args below meth c H locs ls D T ex base h
  obtain ⟨hd, hp, hn, hI⟩ := x_dc ho
  rw [hp]
  rw [hp1] at hI
  simp only [x_ckI, if_pos ha.2, Bool.and_eq_true, decide_eq_true_eq] at hI
  obtain ⟨⟨⟨⟨hI1, hI2⟩, hI4⟩, hI5⟩, hI6⟩ := hI
  simp only [x_ckY, Bool.and_eq_true, decide_eq_true_eq] at hI4
  obtain ⟨⟨⟨hY1, hY2⟩, hY3⟩, hY4⟩ := hI4
  have hok := x_okc_spec hY3
  have h0 := h
  obtain ⟨⟨hx, hb, hml, hown, hts⟩, ⟨hr, hlk, hnm', hdR, hlR, hcR, hsR⟩, ⟨hbs, hK, hE⟩, hW, hS, hL⟩ := h
  have hM := hC l D T ex base
  have hcw := cwI (R := R) (s := s) (args := args) (Ts := x_gt) (own := (x_m mi).1.cls) (index := idx) (y := (x_m a).1) (bytes := (x_m a).2.1) (maxL := (x_m a).2.2.1) (ws := x_ws a) (rm := x_rm d1 mc1 ms1) (mc := mc1) (ms := ms1) 0 hts (x_good (x_ws_good ha.1 ha.2)) (by unfold x_ws; rw [hI6]) rfl rfl (hts _ (x_w_in hY1)) (hts _ (x_w_in hI1)) (hts _ (x_w_in hI2)) hI5 ⟨hok.1, hok.2, hY2⟩ ⟨by show d1 + 1 ≤ R.frames; omega, by show 8 + (_ + 11) + 64 * d1 ≤ R.locals; omega⟩
  rw [List.map_cons, x_cv_m hq]
  refine x_callW (rest := S.map (x_cv ex base)) (va_runI (b := base + (q - 64)) (As := []) ⟨hx, hb, hml, hown, hts⟩ hM hcw ⟨x_In_blind, fun U hU hWU => ⟨by rw [List.map_cons, x_cv_m hq]; rfl, x_In_of h0 hU hWU⟩⟩ rfl rfl hL.1 rfl (by show 2 * 0 + _ ≤ 8; rw [x_cat_sum hE.1]; omega) hd ⟨by omega, by omega⟩) hS (fun v M' H1 locs1 hq hw hS1 => ?_)
  have k1 := kk v M' hq p l e R s m args below meth c H1 locs1 ls D T ex base ⟨h0.1, h0.2.1, h0.2.2.1, hw, hS1, hL⟩
  rw [hn rfl, List.map_append] at k1
  cases v <;> exact k1
theorem wp_invIN {idx q : Nat} {d1 mc1 ms1 : Nat} {Q1 : Option Value → XM → Prop} (ho : x_op mi i = some (pc, 3, .invokespecial idx, nx, a, 0, ps)) (ha : 0 < a ∧ a < 192) (hp1 : ps = [ps.getD 0 0, ps.getD 1 0, ps.getD 2 0, ps.getD 3 0, ps.getD 4 0]) (hq : ¬ q < 64) (hcat : (S.map fun v => v.category).sum ≤ 8) (hd1 : d1 + 1 ≤ d) (hkm : k + mc1 ≤ mc) (hnm : n + ms1 ≤ ms)
    (hC : x_C E d1 a [.ref q] M mc1 ms1 Q1) (kk : ∀ v M', Q1 v M' → x_WP E d mi nx L (v.toList ++ S) M' (k + mc1) (n + ms1) mc ms Q) : x_WP E d mi i L (.ref q :: S) M k n mc ms Q := by
  intro p l e R s m args below meth c H locs ls D T ex base h
  obtain ⟨hd, hp, hn, hI⟩ := x_dc ho
  rw [hp]
  rw [hp1] at hI
  simp only [x_ckI, if_pos ha.2, Bool.and_eq_true, decide_eq_true_eq] at hI
  obtain ⟨⟨⟨⟨hI1, hI2⟩, hI4⟩, hI5⟩, hI6⟩ := hI
  simp only [x_ckY, Bool.and_eq_true, decide_eq_true_eq] at hI4
  obtain ⟨⟨⟨hY1, hY2⟩, hY3⟩, hY4⟩ := hI4
  have hok := x_okc_spec hY3
  have h0 := h
  obtain ⟨⟨hx, hb, hml, hown, hts⟩, ⟨hr, hlk, hnm', hdR, hlR, hcR, hsR⟩, ⟨hbs, hK, hE⟩, hW, hS, hL⟩ := h
  have hM := hC l D T ex base
  have hcw := va_cnB (R := R) (s := s) (args := args) (Ts := x_gt) (own := (x_m mi).1.cls) (host := "StarchedCollars") (index := idx) (y := (x_m a).1) (bytes := (x_m a).2.1) (maxL := (x_m a).2.2.1) (ret := none) (ws := x_ws a) (rm := x_rm d1 mc1 ms1) (mc := mc1) (ms := ms1) 0 hts (x_good (x_ws_good ha.1 ha.2)) (by unfold x_ws; rw [hI6]) rfl rfl (hE.2.2.2.2.2.2.1 _ _ _ _ (x_w_tbl hI1)) (hts _ (x_w_in hY1)) ⟨hok.1, hok.2, hY2⟩ ⟨by show d1 + 1 ≤ R.frames; omega, by show 8 + (_ + 11) + 64 * d1 ≤ R.locals; omega⟩
  rw [List.map_cons, x_cv_m hq]
  refine x_callW (rest := S.map (x_cv ex base)) (va_runIN (b := base + (q - 64)) (As := []) ⟨hx, hb, hml, hown, hts⟩ hM ⟨hcw, hI5, hts _ (x_w_in hI2)⟩ ⟨x_In_blind, fun U hU hWU => ⟨by rw [List.map_cons, x_cv_m hq]; rfl, x_In_of h0 hU hWU⟩⟩ rfl rfl hL.1 rfl (by show 2 * 0 + _ ≤ 8; rw [x_cat_sum hE.1]; omega) hd ⟨by omega, by omega⟩) hS (fun v M' H1 locs1 hq hw hS1 => ?_)
  have k1 := kk v M' hq p l e R s m args below meth c H1 locs1 ls D T ex base ⟨h0.1, h0.2.1, h0.2.2.1, hw, hS1, hL⟩
  rw [hn rfl, List.map_append] at k1
  cases v <;> exact k1
theorem wp_objI {idx q : Nat} (ho : x_op mi i = some (pc, 3, .invokespecial idx, nx, 1000, b, ps)) (hp1 : ps = [ps.getD 0 0, ps.getD 1 0, ps.getD 2 0]) (hq : ¬ q < 64) (hcat : (S.map fun v => v.category).sum ≤ 8) (hd1 : 1 ≤ d) (kk : x_WP E d mi nx L S M k n mc ms Q) : x_WP E d mi i L (.ref q :: S) M k n mc ms Q := by
  have hI := (x_dc ho).2.2.2
  refine x_stk (S' := S) ho rfl (fun p l e R s m args below meth c H locs ls D T ex base Z h hx hb hd k1 => ?_) kk
  rw [hp1] at hI
  simp only [x_ckI, if_neg (show ¬ 1000 < 192 by decide), if_true, Bool.and_eq_true] at hI
  have hts := h.1.2.2.2.2
  rw [List.map_cons, x_cv_m hq]
  exact W.objInit hx hb h.1.2.2.2.1 (hts _ (x_w_in hI.1.1)) (hts _ (x_w_in hI.1.2)) (hts _ (x_w_in hI.2)) rfl (h.2.2.2.2.2.1.trans h.1.2.2.1.symm) rfl hd (by have := h.2.1.2.2.2.1; omega) (by show 2 * 0 + _ + 12 ≤ _; rw [x_cat_sum h.2.2.1.2.2.1]; have := h.2.1.2.2.2.2.1; omega) k1
/-! Math.max, min, abs: numbers 4, 5, 3 -/
theorem wp_mmax {idx : Nat} {x y : Int32} (ho : x_op mi i = some (pc, 3, .invokestatic idx, nx, 4, b, ps)) (hp1 : ps = [ps.getD 0 0, ps.getD 1 0, ps.getD 2 0, ps.getD 3 0]) (hcat : (S.map fun v => v.category).sum ≤ 8) (hd1 : 1 ≤ d) (hk : k ≤ mc) (hm : n ≤ ms) (kk : x_WP E d mi nx L (.int (if x < y then y else x) :: S) M k n mc ms Q) : x_WP E d mi i L (.int y :: .int x :: S) M k n mc ms Q := by
  have hI := (x_dc ho).2.2.2
  refine x_stk (S' := .int (if x < y then y else x) :: S) ho rfl (fun p l e R s m args below meth c H locs ls D T ex base Z h hx hb hd k1 => ?_) kk
  rw [hp1] at hI
  simp only [x_ckI, if_pos (show 4 < 192 by decide), Bool.and_eq_true, x_ckY] at hI
  have hts := h.1.2.2.2.2
  obtain ⟨-, -, -, hdR, hlR, hcR, hsR⟩ := h.2.1
  exact va_mmax hx hb (h.1.2.2.1.trans h.2.2.2.2.2.1.symm) h.1.2.2.2.1 (hts _ (x_w_in hI.1.1)) (hts _ (x_w_in hI.1.2)) (hts _ (x_w_in hI.2.1.1.1)) (hts _ (x_code_in (a := 4) (by decide) (by decide))) (by omega) (by show (((S.map (x_cv ex base)).map fun v => v.category).sum) + 13 ≤ _; rw [x_cat_sum h.2.2.1.2.2.1]; omega) (by omega) (by omega) hd k1
theorem wp_mmin {idx : Nat} {x y : Int32} (ho : x_op mi i = some (pc, 3, .invokestatic idx, nx, 5, b, ps)) (hp1 : ps = [ps.getD 0 0, ps.getD 1 0, ps.getD 2 0, ps.getD 3 0]) (hcat : (S.map fun v => v.category).sum ≤ 8) (hd1 : 1 ≤ d) (hk : k ≤ mc) (hm : n ≤ ms) (kk : x_WP E d mi nx L (.int (if y < x then y else x) :: S) M k n mc ms Q) : x_WP E d mi i L (.int y :: .int x :: S) M k n mc ms Q := by
  have hI := (x_dc ho).2.2.2
  refine x_stk (S' := .int (if y < x then y else x) :: S) ho rfl (fun p l e R s m args below meth c H locs ls D T ex base Z h hx hb hd k1 => ?_) kk
  rw [hp1] at hI
  simp only [x_ckI, if_pos (show 5 < 192 by decide), Bool.and_eq_true, x_ckY] at hI
  have hts := h.1.2.2.2.2
  obtain ⟨-, -, -, hdR, hlR, hcR, hsR⟩ := h.2.1
  exact va_mmin hx hb (h.1.2.2.1.trans h.2.2.2.2.2.1.symm) h.1.2.2.2.1 (hts _ (x_w_in hI.1.1)) (hts _ (x_w_in hI.1.2)) (hts _ (x_w_in hI.2.1.1.1)) (hts _ (x_code_in (a := 5) (by decide) (by decide))) (by omega) (by show (((S.map (x_cv ex base)).map fun v => v.category).sum) + 13 ≤ _; rw [x_cat_sum h.2.2.1.2.2.1]; omega) (by omega) (by omega) hd k1
theorem wp_mabs {idx : Nat} {x : Int32} (ho : x_op mi i = some (pc, 3, .invokestatic idx, nx, 3, b, ps)) (hp1 : ps = [ps.getD 0 0, ps.getD 1 0, ps.getD 2 0, ps.getD 3 0]) (hcat : (S.map fun v => v.category).sum ≤ 8) (hd1 : 1 ≤ d) (hk : k ≤ mc) (hm : n ≤ ms) (kk : x_WP E d mi nx L (.int (if 0 ≤ x then x else 0 - x) :: S) M k n mc ms Q) : x_WP E d mi i L (.int x :: S) M k n mc ms Q := by
  have hI := (x_dc ho).2.2.2
  refine x_stk (S' := .int (if 0 ≤ x then x else 0 - x) :: S) ho rfl (fun p l e R s m args below meth c H locs ls D T ex base Z h hx hb hd k1 => ?_) kk
  rw [hp1] at hI
  simp only [x_ckI, if_pos (show 3 < 192 by decide), Bool.and_eq_true, x_ckY] at hI
  have hts := h.1.2.2.2.2
  obtain ⟨-, -, -, hdR, hlR, hcR, hsR⟩ := h.2.1
  exact va_mabs hx hb (h.1.2.2.1.trans h.2.2.2.2.2.1.symm) h.1.2.2.2.1 (hts _ (x_w_in hI.1.1)) (hts _ (x_w_in hI.1.2)) (hts _ (x_w_in hI.2.1.1.1)) (hts _ (x_code_in (a := 3) (by decide) (by decide))) (by omega) (by show (((S.map (x_cv ex base)).map fun v => v.category).sum) + 13 ≤ _; rw [x_cat_sum h.2.2.1.2.2.1]; omega) (by omega) (by omega) hd k1
/-! a method's entry -/
def x_ent (nL : Nat) (As : List Value) : List Value := (As.flatMap fun v => if v.category = 2 then [v, x_jk] else [v]) ++ List.replicate (nL - (As.flatMap fun v => if v.category = 2 then [v, x_jk] else [v]).length) x_jk
theorem x_ent_la {ex : Nat → Value} {base : Nat} (hx : x_exr ex) : ∀ (As : List Value) (j k : Nat) (v : Value), (As.flatMap fun v => if v.category = 2 then [v, x_jk] else [v])[k]? = some v → v ≠ x_jk → (j + k, x_cv ex base v) ∈ lv_args j (As.map (x_cv ex base)) := by
  intro As
  induction As with
  | nil => intro j k v h; simp at h
  | cons w As ih =>
    intro j k v h hv
    rw [List.map_cons, lv_args]
    rw [List.flatMap_cons] at h
    by_cases hc : w.category = 2
    · rw [if_pos hc] at h
      rw [x_cv_cat2 hx, if_pos hc]
      match k, h with
      | 0, h => cases h; exact List.mem_cons_self
      | 1, h => cases h; exact absurd rfl hv
      | k + 2, h =>
        have := ih (j + 2) k v h hv
        rw [show j + (k + 2) = j + 2 + k by omega]
        exact List.mem_cons_of_mem _ this
    · rw [if_neg hc] at h
      rw [x_cv_cat2 hx, if_neg hc]
      match k, h with
      | 0, h => cases h; exact List.mem_cons_self
      | k + 1, h =>
        have := ih (j + 1) k v h hv
        rw [show j + (k + 1) = j + 1 + k by omega]
        exact List.mem_cons_of_mem _ this
theorem x_ent_len {ex : Nat → Value} {base : Nat} (hx : x_exr ex) (As : List Value) : (lg_sl (As.map (x_cv ex base))).length = (As.flatMap fun v => if v.category = 2 then [v, x_jk] else [v]).length := by
  unfold lg_sl
  induction As with
  | nil => rfl
  | cons w As ih =>
    rw [List.map_cons, List.flatMap_cons, List.flatMap_cons, List.length_append, List.length_append, ih, x_cv_cat2 hx]
    by_cases hc : w.category = 2
    · rw [if_pos hc, if_pos hc]; rfl
    · rw [if_neg hc, if_neg hc]; rfl
set_option maxHeartbeats 4000000 in
/-- a contract out of a run from the entry -/
theorem x_C.of {As L : List Value} (ha : 0 < mi ∧ mi < 192) (hM : ¬ (x_m mi).1.cls = "java/lang/Math") (hL : x_ent (x_m mi).2.2.1 As = L) (hl : L.length = (x_m mi).2.2.1) (h : x_WP E d mi 0 L [] M 0 0 mc ms Q) (hpc : x_pc mi 0 = 0) : x_C E d mi As M mc ms Q := by
  intro l D T ex base
  refine Met.ofW (cc := (x_m mi).2.1) (maxL := (x_m mi).2.2.1) (ret := (x_m mi).2.2.2.1) ?_ rfl ?_
  · rcases x_plain_all _ (x_m_in ha.2) with h1 | h1
    · exact absurd h1 hM
    · exact h1
  intro p e s m args below meth c s₁ B hml hv
  obtain ⟨rfl, hbs, hW, hK, hE⟩ := hv
  have hts : ∀ w ∈ x_ws mi, w.before _ s = true := atoms_spec (ws := x_ws mi) B.pre
  have hle : (lg_sl (As.map (x_cv ex base))).length ≤ (x_m mi).2.2.1 := by
    rw [x_ent_len hE.1]
    have h1 := hl
    rw [← hL] at h1
    unfold x_ent at h1
    rw [List.length_append] at h1
    omega
  have hle2 := lv_entry (As.map (x_cv ex base)) (n := (x_m mi).2.2.1) hle
  rw [lg_entry_eq]
  have hLx : x_L ex base (lg_sl (As.map (x_cv ex base)) ++ List.replicate ((x_m mi).2.2.1 - (lg_sl (As.map (x_cv ex base))).length) Slot.unset).toArray (x_m mi).2.2.1 L := by
    refine ⟨hle2.1, hle2.2.1, hl, fun k v hk hv => ?_⟩
    rw [← hL] at hk
    unfold x_ent at hk
    by_cases hlt : k < (As.flatMap fun v => if v.category = 2 then [v, x_jk] else [v]).length
    · rw [List.getElem?_append_left hlt] at hk
      have := x_ent_la (base := base) hE.1 As 0 k v hk hv
      rw [Nat.zero_add] at this
      exact hle2.2.2 _ this
    · rw [List.getElem?_append_right (by omega)] at hk
      exact absurd (List.eq_of_mem_replicate (List.mem_of_getElem? hk)) hv
  have hR : (headSpec (x_ws mi) (x_rm d mc ms)).room = x_rm d mc ms := rfl
  have k1 := h p l e (x_rm d mc ms) s m (As.map (x_cv ex base)).toArray below meth c s.heap [] _ D T ex base ⟨⟨B.exec, B.bytes, hml, findClass_of_methodNamed B.named, fun w hw => hts w (List.mem_cons_of_mem _ hw)⟩, ⟨B.returns, B.notSynchronized, (name_of_methodNamed B.named B.method).1, Nat.le_refl _, Nat.le_refl _, Nat.le_refl _, Nat.le_refl _⟩, ⟨hbs, hK, hE⟩, hW, va_S.rf, hLx⟩
  rw [hpc] at k1
  exact k1
theorem x_C.mono {As : List Value} {Q' : Option Value → XM → Prop} (h : x_C E d mi As M mc ms Q') (hq : ∀ v M', Q' v M' → Q v M') : x_C E d mi As M mc ms Q := by
  intro l D T ex base
  have h1 := h l D T ex base
  intro p e ha hc hk s m args below hf happ hP hK
  obtain ⟨n0, o, a1, a2, a3, ⟨⟨v, M', b1, b2, b3⟩, b4⟩, b5⟩ := h1 p e ha hc hk s m args below hf happ hP hK
  exact ⟨n0, o, a1, a2, a3, ⟨⟨v, M', b1, hq _ _ b2, b3⟩, b4⟩, b5⟩
end XC1
