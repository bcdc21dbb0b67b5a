set_option maxRecDepth 20000 in
theorem r_JI_bitCount_0 {E : XE} {d : Nat} {I : Nat → Nat → Int32} {Q : Option Value → (Nat → Nat → Int32) → Prop} (hd : 1 ≤ d) (a0 : Int32)
    (H : Q (some (.int ((((((((a0 - (((a0.toUInt32 >>> ((1 : Int32).toUInt32 &&& Int32.toUInt32 31)).toInt32) &&& (1431655765 : Int32))) &&& (858993459 : Int32)) + ((((a0 - (((a0.toUInt32 >>> ((1 : Int32).toUInt32 &&& Int32.toUInt32 31)).toInt32) &&& (1431655765 : Int32))).toUInt32 >>> ((2 : Int32).toUInt32 &&& Int32.toUInt32 31)).toInt32) &&& (858993459 : Int32))) + (((((a0 - (((a0.toUInt32 >>> ((1 : Int32).toUInt32 &&& Int32.toUInt32 31)).toInt32) &&& (1431655765 : Int32))) &&& (858993459 : Int32)) + ((((a0 - (((a0.toUInt32 >>> ((1 : Int32).toUInt32 &&& Int32.toUInt32 31)).toInt32) &&& (1431655765 : Int32))).toUInt32 >>> ((2 : Int32).toUInt32 &&& Int32.toUInt32 31)).toInt32) &&& (858993459 : Int32))).toUInt32 >>> ((4 : Int32).toUInt32 &&& Int32.toUInt32 31)).toInt32)) &&& (252645135 : Int32)) + (((((((a0 - (((a0.toUInt32 >>> ((1 : Int32).toUInt32 &&& Int32.toUInt32 31)).toInt32) &&& (1431655765 : Int32))) &&& (858993459 : Int32)) + ((((a0 - (((a0.toUInt32 >>> ((1 : Int32).toUInt32 &&& Int32.toUInt32 31)).toInt32) &&& (1431655765 : Int32))).toUInt32 >>> ((2 : Int32).toUInt32 &&& Int32.toUInt32 31)).toInt32) &&& (858993459 : Int32))) + (((((a0 - (((a0.toUInt32 >>> ((1 : Int32).toUInt32 &&& Int32.toUInt32 31)).toInt32) &&& (1431655765 : Int32))) &&& (858993459 : Int32)) + ((((a0 - (((a0.toUInt32 >>> ((1 : Int32).toUInt32 &&& Int32.toUInt32 31)).toInt32) &&& (1431655765 : Int32))).toUInt32 >>> ((2 : Int32).toUInt32 &&& Int32.toUInt32 31)).toInt32) &&& (858993459 : Int32))).toUInt32 >>> ((4 : Int32).toUInt32 &&& Int32.toUInt32 31)).toInt32)) &&& (252645135 : Int32)).toUInt32 >>> ((8 : Int32).toUInt32 &&& Int32.toUInt32 31)).toInt32)) + ((((((((a0 - (((a0.toUInt32 >>> ((1 : Int32).toUInt32 &&& Int32.toUInt32 31)).toInt32) &&& (1431655765 : Int32))) &&& (858993459 : Int32)) + ((((a0 - (((a0.toUInt32 >>> ((1 : Int32).toUInt32 &&& Int32.toUInt32 31)).toInt32) &&& (1431655765 : Int32))).toUInt32 >>> ((2 : Int32).toUInt32 &&& Int32.toUInt32 31)).toInt32) &&& (858993459 : Int32))) + (((((a0 - (((a0.toUInt32 >>> ((1 : Int32).toUInt32 &&& Int32.toUInt32 31)).toInt32) &&& (1431655765 : Int32))) &&& (858993459 : Int32)) + ((((a0 - (((a0.toUInt32 >>> ((1 : Int32).toUInt32 &&& Int32.toUInt32 31)).toInt32) &&& (1431655765 : Int32))).toUInt32 >>> ((2 : Int32).toUInt32 &&& Int32.toUInt32 31)).toInt32) &&& (858993459 : Int32))).toUInt32 >>> ((4 : Int32).toUInt32 &&& Int32.toUInt32 31)).toInt32)) &&& (252645135 : Int32)) + (((((((a0 - (((a0.toUInt32 >>> ((1 : Int32).toUInt32 &&& Int32.toUInt32 31)).toInt32) &&& (1431655765 : Int32))) &&& (858993459 : Int32)) + ((((a0 - (((a0.toUInt32 >>> ((1 : Int32).toUInt32 &&& Int32.toUInt32 31)).toInt32) &&& (1431655765 : Int32))).toUInt32 >>> ((2 : Int32).toUInt32 &&& Int32.toUInt32 31)).toInt32) &&& (858993459 : Int32))) + (((((a0 - (((a0.toUInt32 >>> ((1 : Int32).toUInt32 &&& Int32.toUInt32 31)).toInt32) &&& (1431655765 : Int32))) &&& (858993459 : Int32)) + ((((a0 - (((a0.toUInt32 >>> ((1 : Int32).toUInt32 &&& Int32.toUInt32 31)).toInt32) &&& (1431655765 : Int32))).toUInt32 >>> ((2 : Int32).toUInt32 &&& Int32.toUInt32 31)).toInt32) &&& (858993459 : Int32))).toUInt32 >>> ((4 : Int32).toUInt32 &&& Int32.toUInt32 31)).toInt32)) &&& (252645135 : Int32)).toUInt32 >>> ((8 : Int32).toUInt32 &&& Int32.toUInt32 31)).toInt32)).toUInt32 >>> ((16 : Int32).toUInt32 &&& Int32.toUInt32 31)).toInt32)) &&& (63 : Int32)))) I) :
    x_P E d 1 0 [.int a0] [] I Q := by
  refine wp_iload_n rfl rfl rfl ?_
  refine wp_iload_n rfl rfl rfl ?_
  refine wp_iconst (v := (1 : Int32)) rfl (by decide) ?_
  refine wp_iushr rfl ?_
  refine wp_ldcw (v := (1431655765, 0)) rfl rfl (by decide) rfl ?_
  refine wp_iand rfl ?_
  refine wp_isub rfl ?_
  refine wp_istore_n (L' := [.int (a0 - (((a0.toUInt32 >>> ((1 : Int32).toUInt32 &&& Int32.toUInt32 31)).toInt32) &&& (1431655765 : Int32)))]) rfl rfl (by decide) rfl rfl ?_
  refine wp_iload_n rfl rfl rfl ?_
  refine wp_ldcw (v := (858993459, 0)) rfl rfl (by decide) rfl ?_
  refine wp_iand rfl ?_
  refine wp_iload_n rfl rfl rfl ?_
  refine wp_iconst (v := (2 : Int32)) rfl (by decide) ?_
  refine wp_iushr rfl ?_
  refine wp_ldcw (v := (858993459, 0)) rfl rfl (by decide) rfl ?_
  refine wp_iand rfl ?_
  refine wp_iadd rfl ?_
  refine wp_istore_n (L' := [.int (((a0 - (((a0.toUInt32 >>> ((1 : Int32).toUInt32 &&& Int32.toUInt32 31)).toInt32) &&& (1431655765 : Int32))) &&& (858993459 : Int32)) + ((((a0 - (((a0.toUInt32 >>> ((1 : Int32).toUInt32 &&& Int32.toUInt32 31)).toInt32) &&& (1431655765 : Int32))).toUInt32 >>> ((2 : Int32).toUInt32 &&& Int32.toUInt32 31)).toInt32) &&& (858993459 : Int32)))]) rfl rfl (by decide) rfl rfl ?_
  refine wp_iload_n rfl rfl rfl ?_
  refine wp_iload_n rfl rfl rfl ?_
  refine wp_iconst (v := (4 : Int32)) rfl (by decide) ?_
  refine wp_iushr rfl ?_
  refine wp_iadd rfl ?_
  refine wp_ldcw (v := (252645135, 0)) rfl rfl (by decide) rfl ?_
  refine wp_iand rfl ?_
  refine wp_istore_n (L' := [.int (((((a0 - (((a0.toUInt32 >>> ((1 : Int32).toUInt32 &&& Int32.toUInt32 31)).toInt32) &&& (1431655765 : Int32))) &&& (858993459 : Int32)) + ((((a0 - (((a0.toUInt32 >>> ((1 : Int32).toUInt32 &&& Int32.toUInt32 31)).toInt32) &&& (1431655765 : Int32))).toUInt32 >>> ((2 : Int32).toUInt32 &&& Int32.toUInt32 31)).toInt32) &&& (858993459 : Int32))) + (((((a0 - (((a0.toUInt32 >>> ((1 : Int32).toUInt32 &&& Int32.toUInt32 31)).toInt32) &&& (1431655765 : Int32))) &&& (858993459 : Int32)) + ((((a0 - (((a0.toUInt32 >>> ((1 : Int32).toUInt32 &&& Int32.toUInt32 31)).toInt32) &&& (1431655765 : Int32))).toUInt32 >>> ((2 : Int32).toUInt32 &&& Int32.toUInt32 31)).toInt32) &&& (858993459 : Int32))).toUInt32 >>> ((4 : Int32).toUInt32 &&& Int32.toUInt32 31)).toInt32)) &&& (252645135 : Int32))]) rfl rfl (by decide) rfl rfl ?_
  refine wp_iload_n rfl rfl rfl ?_
  refine wp_iload_n rfl rfl rfl ?_
  refine wp_bipush (v := (8 : Int32)) rfl (by decide) ?_
  refine wp_iushr rfl ?_
  refine wp_iadd rfl ?_
  refine wp_istore_n (L' := [.int ((((((a0 - (((a0.toUInt32 >>> ((1 : Int32).toUInt32 &&& Int32.toUInt32 31)).toInt32) &&& (1431655765 : Int32))) &&& (858993459 : Int32)) + ((((a0 - (((a0.toUInt32 >>> ((1 : Int32).toUInt32 &&& Int32.toUInt32 31)).toInt32) &&& (1431655765 : Int32))).toUInt32 >>> ((2 : Int32).toUInt32 &&& Int32.toUInt32 31)).toInt32) &&& (858993459 : Int32))) + (((((a0 - (((a0.toUInt32 >>> ((1 : Int32).toUInt32 &&& Int32.toUInt32 31)).toInt32) &&& (1431655765 : Int32))) &&& (858993459 : Int32)) + ((((a0 - (((a0.toUInt32 >>> ((1 : Int32).toUInt32 &&& Int32.toUInt32 31)).toInt32) &&& (1431655765 : Int32))).toUInt32 >>> ((2 : Int32).toUInt32 &&& Int32.toUInt32 31)).toInt32) &&& (858993459 : Int32))).toUInt32 >>> ((4 : Int32).toUInt32 &&& Int32.toUInt32 31)).toInt32)) &&& (252645135 : Int32)) + (((((((a0 - (((a0.toUInt32 >>> ((1 : Int32).toUInt32 &&& Int32.toUInt32 31)).toInt32) &&& (1431655765 : Int32))) &&& (858993459 : Int32)) + ((((a0 - (((a0.toUInt32 >>> ((1 : Int32).toUInt32 &&& Int32.toUInt32 31)).toInt32) &&& (1431655765 : Int32))).toUInt32 >>> ((2 : Int32).toUInt32 &&& Int32.toUInt32 31)).toInt32) &&& (858993459 : Int32))) + (((((a0 - (((a0.toUInt32 >>> ((1 : Int32).toUInt32 &&& Int32.toUInt32 31)).toInt32) &&& (1431655765 : Int32))) &&& (858993459 : Int32)) + ((((a0 - (((a0.toUInt32 >>> ((1 : Int32).toUInt32 &&& Int32.toUInt32 31)).toInt32) &&& (1431655765 : Int32))).toUInt32 >>> ((2 : Int32).toUInt32 &&& Int32.toUInt32 31)).toInt32) &&& (858993459 : Int32))).toUInt32 >>> ((4 : Int32).toUInt32 &&& Int32.toUInt32 31)).toInt32)) &&& (252645135 : Int32)).toUInt32 >>> ((8 : Int32).toUInt32 &&& Int32.toUInt32 31)).toInt32))]) rfl rfl (by decide) rfl rfl ?_
  refine wp_iload_n rfl rfl rfl ?_
  refine wp_iload_n rfl rfl rfl ?_
  refine wp_bipush (v := (16 : Int32)) rfl (by decide) ?_
  refine wp_iushr rfl ?_
  refine wp_iadd rfl ?_
  refine wp_istore_n (L' := [.int (((((((a0 - (((a0.toUInt32 >>> ((1 : Int32).toUInt32 &&& Int32.toUInt32 31)).toInt32) &&& (1431655765 : Int32))) &&& (858993459 : Int32)) + ((((a0 - (((a0.toUInt32 >>> ((1 : Int32).toUInt32 &&& Int32.toUInt32 31)).toInt32) &&& (1431655765 : Int32))).toUInt32 >>> ((2 : Int32).toUInt32 &&& Int32.toUInt32 31)).toInt32) &&& (858993459 : Int32))) + (((((a0 - (((a0.toUInt32 >>> ((1 : Int32).toUInt32 &&& Int32.toUInt32 31)).toInt32) &&& (1431655765 : Int32))) &&& (858993459 : Int32)) + ((((a0 - (((a0.toUInt32 >>> ((1 : Int32).toUInt32 &&& Int32.toUInt32 31)).toInt32) &&& (1431655765 : Int32))).toUInt32 >>> ((2 : Int32).toUInt32 &&& Int32.toUInt32 31)).toInt32) &&& (858993459 : Int32))).toUInt32 >>> ((4 : Int32).toUInt32 &&& Int32.toUInt32 31)).toInt32)) &&& (252645135 : Int32)) + (((((((a0 - (((a0.toUInt32 >>> ((1 : Int32).toUInt32 &&& Int32.toUInt32 31)).toInt32) &&& (1431655765 : Int32))) &&& (858993459 : Int32)) + ((((a0 - (((a0.toUInt32 >>> ((1 : Int32).toUInt32 &&& Int32.toUInt32 31)).toInt32) &&& (1431655765 : Int32))).toUInt32 >>> ((2 : Int32).toUInt32 &&& Int32.toUInt32 31)).toInt32) &&& (858993459 : Int32))) + (((((a0 - (((a0.toUInt32 >>> ((1 : Int32).toUInt32 &&& Int32.toUInt32 31)).toInt32) &&& (1431655765 : Int32))) &&& (858993459 : Int32)) + ((((a0 - (((a0.toUInt32 >>> ((1 : Int32).toUInt32 &&& Int32.toUInt32 31)).toInt32) &&& (1431655765 : Int32))).toUInt32 >>> ((2 : Int32).toUInt32 &&& Int32.toUInt32 31)).toInt32) &&& (858993459 : Int32))).toUInt32 >>> ((4 : Int32).toUInt32 &&& Int32.toUInt32 31)).toInt32)) &&& (252645135 : Int32)).toUInt32 >>> ((8 : Int32).toUInt32 &&& Int32.toUInt32 31)).toInt32)) + ((((((((a0 - (((a0.toUInt32 >>> ((1 : Int32).toUInt32 &&& Int32.toUInt32 31)).toInt32) &&& (1431655765 : Int32))) &&& (858993459 : Int32)) + ((((a0 - (((a0.toUInt32 >>> ((1 : Int32).toUInt32 &&& Int32.toUInt32 31)).toInt32) &&& (1431655765 : Int32))).toUInt32 >>> ((2 : Int32).toUInt32 &&& Int32.toUInt32 31)).toInt32) &&& (858993459 : Int32))) + (((((a0 - (((a0.toUInt32 >>> ((1 : Int32).toUInt32 &&& Int32.toUInt32 31)).toInt32) &&& (1431655765 : Int32))) &&& (858993459 : Int32)) + ((((a0 - (((a0.toUInt32 >>> ((1 : Int32).toUInt32 &&& Int32.toUInt32 31)).toInt32) &&& (1431655765 : Int32))).toUInt32 >>> ((2 : Int32).toUInt32 &&& Int32.toUInt32 31)).toInt32) &&& (858993459 : Int32))).toUInt32 >>> ((4 : Int32).toUInt32 &&& Int32.toUInt32 31)).toInt32)) &&& (252645135 : Int32)) + (((((((a0 - (((a0.toUInt32 >>> ((1 : Int32).toUInt32 &&& Int32.toUInt32 31)).toInt32) &&& (1431655765 : Int32))) &&& (858993459 : Int32)) + ((((a0 - (((a0.toUInt32 >>> ((1 : Int32).toUInt32 &&& Int32.toUInt32 31)).toInt32) &&& (1431655765 : Int32))).toUInt32 >>> ((2 : Int32).toUInt32 &&& Int32.toUInt32 31)).toInt32) &&& (858993459 : Int32))) + (((((a0 - (((a0.toUInt32 >>> ((1 : Int32).toUInt32 &&& Int32.toUInt32 31)).toInt32) &&& (1431655765 : Int32))) &&& (858993459 : Int32)) + ((((a0 - (((a0.toUInt32 >>> ((1 : Int32).toUInt32 &&& Int32.toUInt32 31)).toInt32) &&& (1431655765 : Int32))).toUInt32 >>> ((2 : Int32).toUInt32 &&& Int32.toUInt32 31)).toInt32) &&& (858993459 : Int32))).toUInt32 >>> ((4 : Int32).toUInt32 &&& Int32.toUInt32 31)).toInt32)) &&& (252645135 : Int32)).toUInt32 >>> ((8 : Int32).toUInt32 &&& Int32.toUInt32 31)).toInt32)).toUInt32 >>> ((16 : Int32).toUInt32 &&& Int32.toUInt32 31)).toInt32))]) rfl rfl (by decide) rfl rfl ?_
  refine wp_iload_n rfl rfl rfl ?_
  refine wp_bipush (v := (63 : Int32)) rfl (by decide) ?_
  refine wp_iand rfl ?_
  exact s_iret rfl rfl rfl H
set_option maxRecDepth 20000 in
theorem r_JI_numberOfTrailingZeros_0 {E : XE} {d : Nat} {I : Nat → Nat → Int32} {Q : Option Value → (Nat → Nat → Int32) → Prop} (hd : 1 ≤ d) (a0 : Int32)
    (H : ((0 < ((a0 ^^^ (-1 : Int32)) &&& (a0 - (1 : Int32))) → ((((a0 ^^^ (-1 : Int32)) &&& (a0 - (1 : Int32))) ≤ (65536 : Int32) → ((((a0 ^^^ (-1 : Int32)) &&& (a0 - (1 : Int32))) ≤ (256 : Int32) → ((((a0 ^^^ (-1 : Int32)) &&& (a0 - (1 : Int32))) ≤ (16 : Int32) → ((((a0 ^^^ (-1 : Int32)) &&& (a0 - (1 : Int32))) ≤ (4 : Int32) → Q (some (.int ((1 : Int32) + ((((a0 ^^^ (-1 : Int32)) &&& (a0 - (1 : Int32))).toUInt32 >>> ((1 : Int32).toUInt32 &&& Int32.toUInt32 31)).toInt32)))) I) ∧ (¬ (((a0 ^^^ (-1 : Int32)) &&& (a0 - (1 : Int32))) ≤ (4 : Int32)) → Q (some (.int (((1 : Int32) + 2) + ((((((a0 ^^^ (-1 : Int32)) &&& (a0 - (1 : Int32))).toUInt32 >>> ((2 : Int32).toUInt32 &&& Int32.toUInt32 31)).toInt32).toUInt32 >>> ((1 : Int32).toUInt32 &&& Int32.toUInt32 31)).toInt32)))) I))) ∧ (¬ (((a0 ^^^ (-1 : Int32)) &&& (a0 - (1 : Int32))) ≤ (16 : Int32)) → ((((((a0 ^^^ (-1 : Int32)) &&& (a0 - (1 : Int32))).toUInt32 >>> ((4 : Int32).toUInt32 &&& Int32.toUInt32 31)).toInt32) ≤ (4 : Int32) → Q (some (.int (((1 : Int32) + 4) + ((((((a0 ^^^ (-1 : Int32)) &&& (a0 - (1 : Int32))).toUInt32 >>> ((4 : Int32).toUInt32 &&& Int32.toUInt32 31)).toInt32).toUInt32 >>> ((1 : Int32).toUInt32 &&& Int32.toUInt32 31)).toInt32)))) I) ∧ (¬ (((((a0 ^^^ (-1 : Int32)) &&& (a0 - (1 : Int32))).toUInt32 >>> ((4 : Int32).toUInt32 &&& Int32.toUInt32 31)).toInt32) ≤ (4 : Int32)) → Q (some (.int ((((1 : Int32) + 4) + 2) + ((((((((a0 ^^^ (-1 : Int32)) &&& (a0 - (1 : Int32))).toUInt32 >>> ((4 : Int32).toUInt32 &&& Int32.toUInt32 31)).toInt32).toUInt32 >>> ((2 : Int32).toUInt32 &&& Int32.toUInt32 31)).toInt32).toUInt32 >>> ((1 : Int32).toUInt32 &&& Int32.toUInt32 31)).toInt32)))) I))))) ∧ (¬ (((a0 ^^^ (-1 : Int32)) &&& (a0 - (1 : Int32))) ≤ (256 : Int32)) → ((((((a0 ^^^ (-1 : Int32)) &&& (a0 - (1 : Int32))).toUInt32 >>> ((8 : Int32).toUInt32 &&& Int32.toUInt32 31)).toInt32) ≤ (16 : Int32) → ((((((a0 ^^^ (-1 : Int32)) &&& (a0 - (1 : Int32))).toUInt32 >>> ((8 : Int32).toUInt32 &&& Int32.toUInt32 31)).toInt32) ≤ (4 : Int32) → Q (some (.int (((1 : Int32) + 8) + ((((((a0 ^^^ (-1 : Int32)) &&& (a0 - (1 : Int32))).toUInt32 >>> ((8 : Int32).toUInt32 &&& Int32.toUInt32 31)).toInt32).toUInt32 >>> ((1 : Int32).toUInt32 &&& Int32.toUInt32 31)).toInt32)))) I) ∧ (¬ (((((a0 ^^^ (-1 : Int32)) &&& (a0 - (1 : Int32))).toUInt32 >>> ((8 : Int32).toUInt32 &&& Int32.toUInt32 31)).toInt32) ≤ (4 : Int32)) → Q (some (.int ((((1 : Int32) + 8) + 2) + ((((((((a0 ^^^ (-1 : Int32)) &&& (a0 - (1 : Int32))).toUInt32 >>> ((8 : Int32).toUInt32 &&& Int32.toUInt32 31)).toInt32).toUInt32 >>> ((2 : Int32).toUInt32 &&& Int32.toUInt32 31)).toInt32).toUInt32 >>> ((1 : Int32).toUInt32 &&& Int32.toUInt32 31)).toInt32)))) I))) ∧ (¬ (((((a0 ^^^ (-1 : Int32)) &&& (a0 - (1 : Int32))).toUInt32 >>> ((8 : Int32).toUInt32 &&& Int32.toUInt32 31)).toInt32) ≤ (16 : Int32)) → ((((((((a0 ^^^ (-1 : Int32)) &&& (a0 - (1 : Int32))).toUInt32 >>> ((8 : Int32).toUInt32 &&& Int32.toUInt32 31)).toInt32).toUInt32 >>> ((4 : Int32).toUInt32 &&& Int32.toUInt32 31)).toInt32) ≤ (4 : Int32) → Q (some (.int ((((1 : Int32) + 8) + 4) + ((((((((a0 ^^^ (-1 : Int32)) &&& (a0 - (1 : Int32))).toUInt32 >>> ((8 : Int32).toUInt32 &&& Int32.toUInt32 31)).toInt32).toUInt32 >>> ((4 : Int32).toUInt32 &&& Int32.toUInt32 31)).toInt32).toUInt32 >>> ((1 : Int32).toUInt32 &&& Int32.toUInt32 31)).toInt32)))) I) ∧ (¬ (((((((a0 ^^^ (-1 : Int32)) &&& (a0 - (1 : Int32))).toUInt32 >>> ((8 : Int32).toUInt32 &&& Int32.toUInt32 31)).toInt32).toUInt32 >>> ((4 : Int32).toUInt32 &&& Int32.toUInt32 31)).toInt32) ≤ (4 : Int32)) → Q (some (.int (((((1 : Int32) + 8) + 4) + 2) + ((((((((((a0 ^^^ (-1 : Int32)) &&& (a0 - (1 : Int32))).toUInt32 >>> ((8 : Int32).toUInt32 &&& Int32.toUInt32 31)).toInt32).toUInt32 >>> ((4 : Int32).toUInt32 &&& Int32.toUInt32 31)).toInt32).toUInt32 >>> ((2 : Int32).toUInt32 &&& Int32.toUInt32 31)).toInt32).toUInt32 >>> ((1 : Int32).toUInt32 &&& Int32.toUInt32 31)).toInt32)))) I))))))) ∧ (¬ (((a0 ^^^ (-1 : Int32)) &&& (a0 - (1 : Int32))) ≤ (65536 : Int32)) → ((((((a0 ^^^ (-1 : Int32)) &&& (a0 - (1 : Int32))).toUInt32 >>> ((16 : Int32).toUInt32 &&& Int32.toUInt32 31)).toInt32) ≤ (256 : Int32) → ((((((a0 ^^^ (-1 : Int32)) &&& (a0 - (1 : Int32))).toUInt32 >>> ((16 : Int32).toUInt32 &&& Int32.toUInt32 31)).toInt32) ≤ (16 : Int32) → ((((((a0 ^^^ (-1 : Int32)) &&& (a0 - (1 : Int32))).toUInt32 >>> ((16 : Int32).toUInt32 &&& Int32.toUInt32 31)).toInt32) ≤ (4 : Int32) → Q (some (.int (((1 : Int32) + 16) + ((((((a0 ^^^ (-1 : Int32)) &&& (a0 - (1 : Int32))).toUInt32 >>> ((16 : Int32).toUInt32 &&& Int32.toUInt32 31)).toInt32).toUInt32 >>> ((1 : Int32).toUInt32 &&& Int32.toUInt32 31)).toInt32)))) I) ∧ (¬ (((((a0 ^^^ (-1 : Int32)) &&& (a0 - (1 : Int32))).toUInt32 >>> ((16 : Int32).toUInt32 &&& Int32.toUInt32 31)).toInt32) ≤ (4 : Int32)) → Q (some (.int ((((1 : Int32) + 16) + 2) + ((((((((a0 ^^^ (-1 : Int32)) &&& (a0 - (1 : Int32))).toUInt32 >>> ((16 : Int32).toUInt32 &&& Int32.toUInt32 31)).toInt32).toUInt32 >>> ((2 : Int32).toUInt32 &&& Int32.toUInt32 31)).toInt32).toUInt32 >>> ((1 : Int32).toUInt32 &&& Int32.toUInt32 31)).toInt32)))) I))) ∧ (¬ (((((a0 ^^^ (-1 : Int32)) &&& (a0 - (1 : Int32))).toUInt32 >>> ((16 : Int32).toUInt32 &&& Int32.toUInt32 31)).toInt32) ≤ (16 : Int32)) → ((((((((a0 ^^^ (-1 : Int32)) &&& (a0 - (1 : Int32))).toUInt32 >>> ((16 : Int32).toUInt32 &&& Int32.toUInt32 31)).toInt32).toUInt32 >>> ((4 : Int32).toUInt32 &&& Int32.toUInt32 31)).toInt32) ≤ (4 : Int32) → Q (some (.int ((((1 : Int32) + 16) + 4) + ((((((((a0 ^^^ (-1 : Int32)) &&& (a0 - (1 : Int32))).toUInt32 >>> ((16 : Int32).toUInt32 &&& Int32.toUInt32 31)).toInt32).toUInt32 >>> ((4 : Int32).toUInt32 &&& Int32.toUInt32 31)).toInt32).toUInt32 >>> ((1 : Int32).toUInt32 &&& Int32.toUInt32 31)).toInt32)))) I) ∧ (¬ (((((((a0 ^^^ (-1 : Int32)) &&& (a0 - (1 : Int32))).toUInt32 >>> ((16 : Int32).toUInt32 &&& Int32.toUInt32 31)).toInt32).toUInt32 >>> ((4 : Int32).toUInt32 &&& Int32.toUInt32 31)).toInt32) ≤ (4 : Int32)) → Q (some (.int (((((1 : Int32) + 16) + 4) + 2) + ((((((((((a0 ^^^ (-1 : Int32)) &&& (a0 - (1 : Int32))).toUInt32 >>> ((16 : Int32).toUInt32 &&& Int32.toUInt32 31)).toInt32).toUInt32 >>> ((4 : Int32).toUInt32 &&& Int32.toUInt32 31)).toInt32).toUInt32 >>> ((2 : Int32).toUInt32 &&& Int32.toUInt32 31)).toInt32).toUInt32 >>> ((1 : Int32).toUInt32 &&& Int32.toUInt32 31)).toInt32)))) I))))) ∧ (¬ (((((a0 ^^^ (-1 : Int32)) &&& (a0 - (1 : Int32))).toUInt32 >>> ((16 : Int32).toUInt32 &&& Int32.toUInt32 31)).toInt32) ≤ (256 : Int32)) → ((((((((a0 ^^^ (-1 : Int32)) &&& (a0 - (1 : Int32))).toUInt32 >>> ((16 : Int32).toUInt32 &&& Int32.toUInt32 31)).toInt32).toUInt32 >>> ((8 : Int32).toUInt32 &&& Int32.toUInt32 31)).toInt32) ≤ (16 : Int32) → ((((((((a0 ^^^ (-1 : Int32)) &&& (a0 - (1 : Int32))).toUInt32 >>> ((16 : Int32).toUInt32 &&& Int32.toUInt32 31)).toInt32).toUInt32 >>> ((8 : Int32).toUInt32 &&& Int32.toUInt32 31)).toInt32) ≤ (4 : Int32) → Q (some (.int ((((1 : Int32) + 16) + 8) + ((((((((a0 ^^^ (-1 : Int32)) &&& (a0 - (1 : Int32))).toUInt32 >>> ((16 : Int32).toUInt32 &&& Int32.toUInt32 31)).toInt32).toUInt32 >>> ((8 : Int32).toUInt32 &&& Int32.toUInt32 31)).toInt32).toUInt32 >>> ((1 : Int32).toUInt32 &&& Int32.toUInt32 31)).toInt32)))) I) ∧ (¬ (((((((a0 ^^^ (-1 : Int32)) &&& (a0 - (1 : Int32))).toUInt32 >>> ((16 : Int32).toUInt32 &&& Int32.toUInt32 31)).toInt32).toUInt32 >>> ((8 : Int32).toUInt32 &&& Int32.toUInt32 31)).toInt32) ≤ (4 : Int32)) → Q (some (.int (((((1 : Int32) + 16) + 8) + 2) + ((((((((((a0 ^^^ (-1 : Int32)) &&& (a0 - (1 : Int32))).toUInt32 >>> ((16 : Int32).toUInt32 &&& Int32.toUInt32 31)).toInt32).toUInt32 >>> ((8 : Int32).toUInt32 &&& Int32.toUInt32 31)).toInt32).toUInt32 >>> ((2 : Int32).toUInt32 &&& Int32.toUInt32 31)).toInt32).toUInt32 >>> ((1 : Int32).toUInt32 &&& Int32.toUInt32 31)).toInt32)))) I))) ∧ (¬ (((((((a0 ^^^ (-1 : Int32)) &&& (a0 - (1 : Int32))).toUInt32 >>> ((16 : Int32).toUInt32 &&& Int32.toUInt32 31)).toInt32).toUInt32 >>> ((8 : Int32).toUInt32 &&& Int32.toUInt32 31)).toInt32) ≤ (16 : Int32)) → ((((((((((a0 ^^^ (-1 : Int32)) &&& (a0 - (1 : Int32))).toUInt32 >>> ((16 : Int32).toUInt32 &&& Int32.toUInt32 31)).toInt32).toUInt32 >>> ((8 : Int32).toUInt32 &&& Int32.toUInt32 31)).toInt32).toUInt32 >>> ((4 : Int32).toUInt32 &&& Int32.toUInt32 31)).toInt32) ≤ (4 : Int32) → Q (some (.int (((((1 : Int32) + 16) + 8) + 4) + ((((((((((a0 ^^^ (-1 : Int32)) &&& (a0 - (1 : Int32))).toUInt32 >>> ((16 : Int32).toUInt32 &&& Int32.toUInt32 31)).toInt32).toUInt32 >>> ((8 : Int32).toUInt32 &&& Int32.toUInt32 31)).toInt32).toUInt32 >>> ((4 : Int32).toUInt32 &&& Int32.toUInt32 31)).toInt32).toUInt32 >>> ((1 : Int32).toUInt32 &&& Int32.toUInt32 31)).toInt32)))) I) ∧ (¬ (((((((((a0 ^^^ (-1 : Int32)) &&& (a0 - (1 : Int32))).toUInt32 >>> ((16 : Int32).toUInt32 &&& Int32.toUInt32 31)).toInt32).toUInt32 >>> ((8 : Int32).toUInt32 &&& Int32.toUInt32 31)).toInt32).toUInt32 >>> ((4 : Int32).toUInt32 &&& Int32.toUInt32 31)).toInt32) ≤ (4 : Int32)) → Q (some (.int ((((((1 : Int32) + 16) + 8) + 4) + 2) + ((((((((((((a0 ^^^ (-1 : Int32)) &&& (a0 - (1 : Int32))).toUInt32 >>> ((16 : Int32).toUInt32 &&& Int32.toUInt32 31)).toInt32).toUInt32 >>> ((8 : Int32).toUInt32 &&& Int32.toUInt32 31)).toInt32).toUInt32 >>> ((4 : Int32).toUInt32 &&& Int32.toUInt32 31)).toInt32).toUInt32 >>> ((2 : Int32).toUInt32 &&& Int32.toUInt32 31)).toInt32).toUInt32 >>> ((1 : Int32).toUInt32 &&& Int32.toUInt32 31)).toInt32)))) I))))))))) ∧ (¬ (0 < ((a0 ^^^ (-1 : Int32)) &&& (a0 - (1 : Int32)))) → Q (some (.int (((a0 ^^^ (-1 : Int32)) &&& (a0 - (1 : Int32))) &&& (32 : Int32)))) I))) :
    x_P E d 2 0 [.int a0, x_jk] [] I Q := by
  refine wp_iload_n rfl rfl rfl ?_
  refine wp_iconst (v := (-1 : Int32)) rfl (by decide) ?_
  refine wp_ixor rfl ?_
  refine wp_iload_n rfl rfl rfl ?_
  refine wp_iconst (v := (1 : Int32)) rfl (by decide) ?_
  refine wp_isub rfl ?_
  refine wp_iand rfl ?_
  refine wp_istore_n (L' := [.int ((a0 ^^^ (-1 : Int32)) &&& (a0 - (1 : Int32))), x_jk]) rfl rfl (by decide) rfl rfl ?_
  refine wp_iload_n rfl rfl rfl ?_
  refine wp_if_gt rfl (fun c_1 => ?_) (fun c_1 => ?_)
  · replace H := H.1 c_1
    refine wp_iconst (v := (1 : Int32)) rfl (by decide) ?_
    refine wp_istore_n (L' := [.int ((a0 ^^^ (-1 : Int32)) &&& (a0 - (1 : Int32))), .int (1 : Int32)]) rfl rfl (by decide) rfl rfl ?_
    refine wp_iload_n rfl rfl rfl ?_
    refine wp_ldcw (v := (65536, 0)) rfl rfl (by decide) rfl ?_
    refine wp_icmp_le rfl (fun c_2 => ?_) (fun c_2 => ?_)
    · replace H := H.1 c_2
      refine wp_iload_n rfl rfl rfl ?_
      refine wp_sipush (v := (256 : Int32)) rfl (by decide) ?_
      refine wp_icmp_le rfl (fun c_3 => ?_) (fun c_3 => ?_)
      · replace H := H.1 c_3
        refine wp_iload_n rfl rfl rfl ?_
        refine wp_bipush (v := (16 : Int32)) rfl (by decide) ?_
        refine wp_icmp_le rfl (fun c_4 => ?_) (fun c_4 => ?_)
        · replace H := H.1 c_4
          refine wp_iload_n rfl rfl rfl ?_
          refine wp_iconst (v := (4 : Int32)) rfl (by decide) ?_
          refine wp_icmp_le rfl (fun c_5 => ?_) (fun c_5 => ?_)
          · replace H := H.1 c_5
            refine wp_iload_n rfl rfl rfl ?_
            refine wp_iload_n rfl rfl rfl ?_
            refine wp_iconst (v := (1 : Int32)) rfl (by decide) ?_
            refine wp_iushr rfl ?_
            refine wp_iadd rfl ?_
            exact s_iret rfl rfl rfl H
          · replace H := H.2 c_5
            refine wp_iinc (v := (1 : Int32) + 2) (L' := [.int ((a0 ^^^ (-1 : Int32)) &&& (a0 - (1 : Int32))), .int ((1 : Int32) + 2)]) rfl rfl rfl rfl rfl ?_
            refine wp_iload_n rfl rfl rfl ?_
            refine wp_iconst (v := (2 : Int32)) rfl (by decide) ?_
            refine wp_iushr rfl ?_
            refine wp_istore_n (L' := [.int ((((a0 ^^^ (-1 : Int32)) &&& (a0 - (1 : Int32))).toUInt32 >>> ((2 : Int32).toUInt32 &&& Int32.toUInt32 31)).toInt32), .int ((1 : Int32) + 2)]) rfl rfl (by decide) rfl rfl ?_
            refine wp_iload_n rfl rfl rfl ?_
            refine wp_iload_n rfl rfl rfl ?_
            refine wp_iconst (v := (1 : Int32)) rfl (by decide) ?_
            refine wp_iushr rfl ?_
            refine wp_iadd rfl ?_
            exact s_iret rfl rfl rfl H
        · replace H := H.2 c_4
          refine wp_iinc (v := (1 : Int32) + 4) (L' := [.int ((a0 ^^^ (-1 : Int32)) &&& (a0 - (1 : Int32))), .int ((1 : Int32) + 4)]) rfl rfl rfl rfl rfl ?_
          refine wp_iload_n rfl rfl rfl ?_
          refine wp_iconst (v := (4 : Int32)) rfl (by decide) ?_
          refine wp_iushr rfl ?_
          refine wp_istore_n (L' := [.int ((((a0 ^^^ (-1 : Int32)) &&& (a0 - (1 : Int32))).toUInt32 >>> ((4 : Int32).toUInt32 &&& Int32.toUInt32 31)).toInt32), .int ((1 : Int32) + 4)]) rfl rfl (by decide) rfl rfl ?_
          refine wp_iload_n rfl rfl rfl ?_
          refine wp_iconst (v := (4 : Int32)) rfl (by decide) ?_
          refine wp_icmp_le rfl (fun c_6 => ?_) (fun c_6 => ?_)
          · replace H := H.1 c_6
            refine wp_iload_n rfl rfl rfl ?_
            refine wp_iload_n rfl rfl rfl ?_
            refine wp_iconst (v := (1 : Int32)) rfl (by decide) ?_
            refine wp_iushr rfl ?_
            refine wp_iadd rfl ?_
            exact s_iret rfl rfl rfl H
          · replace H := H.2 c_6
            refine wp_iinc (v := ((1 : Int32) + 4) + 2) (L' := [.int ((((a0 ^^^ (-1 : Int32)) &&& (a0 - (1 : Int32))).toUInt32 >>> ((4 : Int32).toUInt32 &&& Int32.toUInt32 31)).toInt32), .int (((1 : Int32) + 4) + 2)]) rfl rfl rfl rfl rfl ?_
            refine wp_iload_n rfl rfl rfl ?_
            refine wp_iconst (v := (2 : Int32)) rfl (by decide) ?_
            refine wp_iushr rfl ?_
            refine wp_istore_n (L' := [.int ((((((a0 ^^^ (-1 : Int32)) &&& (a0 - (1 : Int32))).toUInt32 >>> ((4 : Int32).toUInt32 &&& Int32.toUInt32 31)).toInt32).toUInt32 >>> ((2 : Int32).toUInt32 &&& Int32.toUInt32 31)).toInt32), .int (((1 : Int32) + 4) + 2)]) rfl rfl (by decide) rfl rfl ?_
            refine wp_iload_n rfl rfl rfl ?_
            refine wp_iload_n rfl rfl rfl ?_
            refine wp_iconst (v := (1 : Int32)) rfl (by decide) ?_
            refine wp_iushr rfl ?_
            refine wp_iadd rfl ?_
            exact s_iret rfl rfl rfl H
      · replace H := H.2 c_3
        refine wp_iinc (v := (1 : Int32) + 8) (L' := [.int ((a0 ^^^ (-1 : Int32)) &&& (a0 - (1 : Int32))), .int ((1 : Int32) + 8)]) rfl rfl rfl rfl rfl ?_
        refine wp_iload_n rfl rfl rfl ?_
        refine wp_bipush (v := (8 : Int32)) rfl (by decide) ?_
        refine wp_iushr rfl ?_
        refine wp_istore_n (L' := [.int ((((a0 ^^^ (-1 : Int32)) &&& (a0 - (1 : Int32))).toUInt32 >>> ((8 : Int32).toUInt32 &&& Int32.toUInt32 31)).toInt32), .int ((1 : Int32) + 8)]) rfl rfl (by decide) rfl rfl ?_
        refine wp_iload_n rfl rfl rfl ?_
        refine wp_bipush (v := (16 : Int32)) rfl (by decide) ?_
        refine wp_icmp_le rfl (fun c_7 => ?_) (fun c_7 => ?_)
        · replace H := H.1 c_7
          refine wp_iload_n rfl rfl rfl ?_
          refine wp_iconst (v := (4 : Int32)) rfl (by decide) ?_
          refine wp_icmp_le rfl (fun c_8 => ?_) (fun c_8 => ?_)
          · replace H := H.1 c_8
            refine wp_iload_n rfl rfl rfl ?_
            refine wp_iload_n rfl rfl rfl ?_
            refine wp_iconst (v := (1 : Int32)) rfl (by decide) ?_
            refine wp_iushr rfl ?_
            refine wp_iadd rfl ?_
            exact s_iret rfl rfl rfl H
          · replace H := H.2 c_8
            refine wp_iinc (v := ((1 : Int32) + 8) + 2) (L' := [.int ((((a0 ^^^ (-1 : Int32)) &&& (a0 - (1 : Int32))).toUInt32 >>> ((8 : Int32).toUInt32 &&& Int32.toUInt32 31)).toInt32), .int (((1 : Int32) + 8) + 2)]) rfl rfl rfl rfl rfl ?_
            refine wp_iload_n rfl rfl rfl ?_
            refine wp_iconst (v := (2 : Int32)) rfl (by decide) ?_
            refine wp_iushr rfl ?_
            refine wp_istore_n (L' := [.int ((((((a0 ^^^ (-1 : Int32)) &&& (a0 - (1 : Int32))).toUInt32 >>> ((8 : Int32).toUInt32 &&& Int32.toUInt32 31)).toInt32).toUInt32 >>> ((2 : Int32).toUInt32 &&& Int32.toUInt32 31)).toInt32), .int (((1 : Int32) + 8) + 2)]) rfl rfl (by decide) rfl rfl ?_
            refine wp_iload_n rfl rfl rfl ?_
            refine wp_iload_n rfl rfl rfl ?_
            refine wp_iconst (v := (1 : Int32)) rfl (by decide) ?_
            refine wp_iushr rfl ?_
            refine wp_iadd rfl ?_
            exact s_iret rfl rfl rfl H
        · replace H := H.2 c_7
          refine wp_iinc (v := ((1 : Int32) + 8) + 4) (L' := [.int ((((a0 ^^^ (-1 : Int32)) &&& (a0 - (1 : Int32))).toUInt32 >>> ((8 : Int32).toUInt32 &&& Int32.toUInt32 31)).toInt32), .int (((1 : Int32) + 8) + 4)]) rfl rfl rfl rfl rfl ?_
          refine wp_iload_n rfl rfl rfl ?_
          refine wp_iconst (v := (4 : Int32)) rfl (by decide) ?_
          refine wp_iushr rfl ?_
          refine wp_istore_n (L' := [.int ((((((a0 ^^^ (-1 : Int32)) &&& (a0 - (1 : Int32))).toUInt32 >>> ((8 : Int32).toUInt32 &&& Int32.toUInt32 31)).toInt32).toUInt32 >>> ((4 : Int32).toUInt32 &&& Int32.toUInt32 31)).toInt32), .int (((1 : Int32) + 8) + 4)]) rfl rfl (by decide) rfl rfl ?_
          refine wp_iload_n rfl rfl rfl ?_
          refine wp_iconst (v := (4 : Int32)) rfl (by decide) ?_
          refine wp_icmp_le rfl (fun c_9 => ?_) (fun c_9 => ?_)
          · replace H := H.1 c_9
            refine wp_iload_n rfl rfl rfl ?_
            refine wp_iload_n rfl rfl rfl ?_
            refine wp_iconst (v := (1 : Int32)) rfl (by decide) ?_
            refine wp_iushr rfl ?_
            refine wp_iadd rfl ?_
            exact s_iret rfl rfl rfl H
          · replace H := H.2 c_9
            refine wp_iinc (v := (((1 : Int32) + 8) + 4) + 2) (L' := [.int ((((((a0 ^^^ (-1 : Int32)) &&& (a0 - (1 : Int32))).toUInt32 >>> ((8 : Int32).toUInt32 &&& Int32.toUInt32 31)).toInt32).toUInt32 >>> ((4 : Int32).toUInt32 &&& Int32.toUInt32 31)).toInt32), .int ((((1 : Int32) + 8) + 4) + 2)]) rfl rfl rfl rfl rfl ?_
            refine wp_iload_n rfl rfl rfl ?_
            refine wp_iconst (v := (2 : Int32)) rfl (by decide) ?_
            refine wp_iushr rfl ?_
            refine wp_istore_n (L' := [.int ((((((((a0 ^^^ (-1 : Int32)) &&& (a0 - (1 : Int32))).toUInt32 >>> ((8 : Int32).toUInt32 &&& Int32.toUInt32 31)).toInt32).toUInt32 >>> ((4 : Int32).toUInt32 &&& Int32.toUInt32 31)).toInt32).toUInt32 >>> ((2 : Int32).toUInt32 &&& Int32.toUInt32 31)).toInt32), .int ((((1 : Int32) + 8) + 4) + 2)]) rfl rfl (by decide) rfl rfl ?_
            refine wp_iload_n rfl rfl rfl ?_
            refine wp_iload_n rfl rfl rfl ?_
            refine wp_iconst (v := (1 : Int32)) rfl (by decide) ?_
            refine wp_iushr rfl ?_
            refine wp_iadd rfl ?_
            exact s_iret rfl rfl rfl H
    · replace H := H.2 c_2
      refine wp_iinc (v := (1 : Int32) + 16) (L' := [.int ((a0 ^^^ (-1 : Int32)) &&& (a0 - (1 : Int32))), .int ((1 : Int32) + 16)]) rfl rfl rfl rfl rfl ?_
      refine wp_iload_n rfl rfl rfl ?_
      refine wp_bipush (v := (16 : Int32)) rfl (by decide) ?_
      refine wp_iushr rfl ?_
      refine wp_istore_n (L' := [.int ((((a0 ^^^ (-1 : Int32)) &&& (a0 - (1 : Int32))).toUInt32 >>> ((16 : Int32).toUInt32 &&& Int32.toUInt32 31)).toInt32), .int ((1 : Int32) + 16)]) rfl rfl (by decide) rfl rfl ?_
      refine wp_iload_n rfl rfl rfl ?_
      refine wp_sipush (v := (256 : Int32)) rfl (by decide) ?_
      refine wp_icmp_le rfl (fun c_10 => ?_) (fun c_10 => ?_)
      · replace H := H.1 c_10
        refine wp_iload_n rfl rfl rfl ?_
        refine wp_bipush (v := (16 : Int32)) rfl (by decide) ?_
        refine wp_icmp_le rfl (fun c_11 => ?_) (fun c_11 => ?_)
        · replace H := H.1 c_11
          refine wp_iload_n rfl rfl rfl ?_
          refine wp_iconst (v := (4 : Int32)) rfl (by decide) ?_
          refine wp_icmp_le rfl (fun c_12 => ?_) (fun c_12 => ?_)
          · replace H := H.1 c_12
            refine wp_iload_n rfl rfl rfl ?_
            refine wp_iload_n rfl rfl rfl ?_
            refine wp_iconst (v := (1 : Int32)) rfl (by decide) ?_
            refine wp_iushr rfl ?_
            refine wp_iadd rfl ?_
            exact s_iret rfl rfl rfl H
          · replace H := H.2 c_12
            refine wp_iinc (v := ((1 : Int32) + 16) + 2) (L' := [.int ((((a0 ^^^ (-1 : Int32)) &&& (a0 - (1 : Int32))).toUInt32 >>> ((16 : Int32).toUInt32 &&& Int32.toUInt32 31)).toInt32), .int (((1 : Int32) + 16) + 2)]) rfl rfl rfl rfl rfl ?_
            refine wp_iload_n rfl rfl rfl ?_
            refine wp_iconst (v := (2 : Int32)) rfl (by decide) ?_
            refine wp_iushr rfl ?_
            refine wp_istore_n (L' := [.int ((((((a0 ^^^ (-1 : Int32)) &&& (a0 - (1 : Int32))).toUInt32 >>> ((16 : Int32).toUInt32 &&& Int32.toUInt32 31)).toInt32).toUInt32 >>> ((2 : Int32).toUInt32 &&& Int32.toUInt32 31)).toInt32), .int (((1 : Int32) + 16) + 2)]) rfl rfl (by decide) rfl rfl ?_
            refine wp_iload_n rfl rfl rfl ?_
            refine wp_iload_n rfl rfl rfl ?_
            refine wp_iconst (v := (1 : Int32)) rfl (by decide) ?_
            refine wp_iushr rfl ?_
            refine wp_iadd rfl ?_
            exact s_iret rfl rfl rfl H
        · replace H := H.2 c_11
          refine wp_iinc (v := ((1 : Int32) + 16) + 4) (L' := [.int ((((a0 ^^^ (-1 : Int32)) &&& (a0 - (1 : Int32))).toUInt32 >>> ((16 : Int32).toUInt32 &&& Int32.toUInt32 31)).toInt32), .int (((1 : Int32) + 16) + 4)]) rfl rfl rfl rfl rfl ?_
          refine wp_iload_n rfl rfl rfl ?_
          refine wp_iconst (v := (4 : Int32)) rfl (by decide) ?_
          refine wp_iushr rfl ?_
          refine wp_istore_n (L' := [.int ((((((a0 ^^^ (-1 : Int32)) &&& (a0 - (1 : Int32))).toUInt32 >>> ((16 : Int32).toUInt32 &&& Int32.toUInt32 31)).toInt32).toUInt32 >>> ((4 : Int32).toUInt32 &&& Int32.toUInt32 31)).toInt32), .int (((1 : Int32) + 16) + 4)]) rfl rfl (by decide) rfl rfl ?_
          refine wp_iload_n rfl rfl rfl ?_
          refine wp_iconst (v := (4 : Int32)) rfl (by decide) ?_
          refine wp_icmp_le rfl (fun c_13 => ?_) (fun c_13 => ?_)
          · replace H := H.1 c_13
            refine wp_iload_n rfl rfl rfl ?_
            refine wp_iload_n rfl rfl rfl ?_
            refine wp_iconst (v := (1 : Int32)) rfl (by decide) ?_
            refine wp_iushr rfl ?_
            refine wp_iadd rfl ?_
            exact s_iret rfl rfl rfl H
          · replace H := H.2 c_13
            refine wp_iinc (v := (((1 : Int32) + 16) + 4) + 2) (L' := [.int ((((((a0 ^^^ (-1 : Int32)) &&& (a0 - (1 : Int32))).toUInt32 >>> ((16 : Int32).toUInt32 &&& Int32.toUInt32 31)).toInt32).toUInt32 >>> ((4 : Int32).toUInt32 &&& Int32.toUInt32 31)).toInt32), .int ((((1 : Int32) + 16) + 4) + 2)]) rfl rfl rfl rfl rfl ?_
            refine wp_iload_n rfl rfl rfl ?_
            refine wp_iconst (v := (2 : Int32)) rfl (by decide) ?_
            refine wp_iushr rfl ?_
            refine wp_istore_n (L' := [.int ((((((((a0 ^^^ (-1 : Int32)) &&& (a0 - (1 : Int32))).toUInt32 >>> ((16 : Int32).toUInt32 &&& Int32.toUInt32 31)).toInt32).toUInt32 >>> ((4 : Int32).toUInt32 &&& Int32.toUInt32 31)).toInt32).toUInt32 >>> ((2 : Int32).toUInt32 &&& Int32.toUInt32 31)).toInt32), .int ((((1 : Int32) + 16) + 4) + 2)]) rfl rfl (by decide) rfl rfl ?_
            refine wp_iload_n rfl rfl rfl ?_
            refine wp_iload_n rfl rfl rfl ?_
            refine wp_iconst (v := (1 : Int32)) rfl (by decide) ?_
            refine wp_iushr rfl ?_
            refine wp_iadd rfl ?_
            exact s_iret rfl rfl rfl H
      · replace H := H.2 c_10
        refine wp_iinc (v := ((1 : Int32) + 16) + 8) (L' := [.int ((((a0 ^^^ (-1 : Int32)) &&& (a0 - (1 : Int32))).toUInt32 >>> ((16 : Int32).toUInt32 &&& Int32.toUInt32 31)).toInt32), .int (((1 : Int32) + 16) + 8)]) rfl rfl rfl rfl rfl ?_
        refine wp_iload_n rfl rfl rfl ?_
        refine wp_bipush (v := (8 : Int32)) rfl (by decide) ?_
        refine wp_iushr rfl ?_
        refine wp_istore_n (L' := [.int ((((((a0 ^^^ (-1 : Int32)) &&& (a0 - (1 : Int32))).toUInt32 >>> ((16 : Int32).toUInt32 &&& Int32.toUInt32 31)).toInt32).toUInt32 >>> ((8 : Int32).toUInt32 &&& Int32.toUInt32 31)).toInt32), .int (((1 : Int32) + 16) + 8)]) rfl rfl (by decide) rfl rfl ?_
        refine wp_iload_n rfl rfl rfl ?_
        refine wp_bipush (v := (16 : Int32)) rfl (by decide) ?_
        refine wp_icmp_le rfl (fun c_14 => ?_) (fun c_14 => ?_)
        · replace H := H.1 c_14
          refine wp_iload_n rfl rfl rfl ?_
          refine wp_iconst (v := (4 : Int32)) rfl (by decide) ?_
          refine wp_icmp_le rfl (fun c_15 => ?_) (fun c_15 => ?_)
          · replace H := H.1 c_15
            refine wp_iload_n rfl rfl rfl ?_
            refine wp_iload_n rfl rfl rfl ?_
            refine wp_iconst (v := (1 : Int32)) rfl (by decide) ?_
            refine wp_iushr rfl ?_
            refine wp_iadd rfl ?_
            exact s_iret rfl rfl rfl H
          · replace H := H.2 c_15
            refine wp_iinc (v := (((1 : Int32) + 16) + 8) + 2) (L' := [.int ((((((a0 ^^^ (-1 : Int32)) &&& (a0 - (1 : Int32))).toUInt32 >>> ((16 : Int32).toUInt32 &&& Int32.toUInt32 31)).toInt32).toUInt32 >>> ((8 : Int32).toUInt32 &&& Int32.toUInt32 31)).toInt32), .int ((((1 : Int32) + 16) + 8) + 2)]) rfl rfl rfl rfl rfl ?_
            refine wp_iload_n rfl rfl rfl ?_
            refine wp_iconst (v := (2 : Int32)) rfl (by decide) ?_
            refine wp_iushr rfl ?_
            refine wp_istore_n (L' := [.int ((((((((a0 ^^^ (-1 : Int32)) &&& (a0 - (1 : Int32))).toUInt32 >>> ((16 : Int32).toUInt32 &&& Int32.toUInt32 31)).toInt32).toUInt32 >>> ((8 : Int32).toUInt32 &&& Int32.toUInt32 31)).toInt32).toUInt32 >>> ((2 : Int32).toUInt32 &&& Int32.toUInt32 31)).toInt32), .int ((((1 : Int32) + 16) + 8) + 2)]) rfl rfl (by decide) rfl rfl ?_
            refine wp_iload_n rfl rfl rfl ?_
            refine wp_iload_n rfl rfl rfl ?_
            refine wp_iconst (v := (1 : Int32)) rfl (by decide) ?_
            refine wp_iushr rfl ?_
            refine wp_iadd rfl ?_
            exact s_iret rfl rfl rfl H
        · replace H := H.2 c_14
          refine wp_iinc (v := (((1 : Int32) + 16) + 8) + 4) (L' := [.int ((((((a0 ^^^ (-1 : Int32)) &&& (a0 - (1 : Int32))).toUInt32 >>> ((16 : Int32).toUInt32 &&& Int32.toUInt32 31)).toInt32).toUInt32 >>> ((8 : Int32).toUInt32 &&& Int32.toUInt32 31)).toInt32), .int ((((1 : Int32) + 16) + 8) + 4)]) rfl rfl rfl rfl rfl ?_
          refine wp_iload_n rfl rfl rfl ?_
          refine wp_iconst (v := (4 : Int32)) rfl (by decide) ?_
          refine wp_iushr rfl ?_
          refine wp_istore_n (L' := [.int ((((((((a0 ^^^ (-1 : Int32)) &&& (a0 - (1 : Int32))).toUInt32 >>> ((16 : Int32).toUInt32 &&& Int32.toUInt32 31)).toInt32).toUInt32 >>> ((8 : Int32).toUInt32 &&& Int32.toUInt32 31)).toInt32).toUInt32 >>> ((4 : Int32).toUInt32 &&& Int32.toUInt32 31)).toInt32), .int ((((1 : Int32) + 16) + 8) + 4)]) rfl rfl (by decide) rfl rfl ?_
          refine wp_iload_n rfl rfl rfl ?_
          refine wp_iconst (v := (4 : Int32)) rfl (by decide) ?_
          refine wp_icmp_le rfl (fun c_16 => ?_) (fun c_16 => ?_)
          · replace H := H.1 c_16
            refine wp_iload_n rfl rfl rfl ?_
            refine wp_iload_n rfl rfl rfl ?_
            refine wp_iconst (v := (1 : Int32)) rfl (by decide) ?_
            refine wp_iushr rfl ?_
            refine wp_iadd rfl ?_
            exact s_iret rfl rfl rfl H
          · replace H := H.2 c_16
            refine wp_iinc (v := ((((1 : Int32) + 16) + 8) + 4) + 2) (L' := [.int ((((((((a0 ^^^ (-1 : Int32)) &&& (a0 - (1 : Int32))).toUInt32 >>> ((16 : Int32).toUInt32 &&& Int32.toUInt32 31)).toInt32).toUInt32 >>> ((8 : Int32).toUInt32 &&& Int32.toUInt32 31)).toInt32).toUInt32 >>> ((4 : Int32).toUInt32 &&& Int32.toUInt32 31)).toInt32), .int (((((1 : Int32) + 16) + 8) + 4) + 2)]) rfl rfl rfl rfl rfl ?_
            refine wp_iload_n rfl rfl rfl ?_
            refine wp_iconst (v := (2 : Int32)) rfl (by decide) ?_
            refine wp_iushr rfl ?_
            refine wp_istore_n (L' := [.int ((((((((((a0 ^^^ (-1 : Int32)) &&& (a0 - (1 : Int32))).toUInt32 >>> ((16 : Int32).toUInt32 &&& Int32.toUInt32 31)).toInt32).toUInt32 >>> ((8 : Int32).toUInt32 &&& Int32.toUInt32 31)).toInt32).toUInt32 >>> ((4 : Int32).toUInt32 &&& Int32.toUInt32 31)).toInt32).toUInt32 >>> ((2 : Int32).toUInt32 &&& Int32.toUInt32 31)).toInt32), .int (((((1 : Int32) + 16) + 8) + 4) + 2)]) rfl rfl (by decide) rfl rfl ?_
            refine wp_iload_n rfl rfl rfl ?_
            refine wp_iload_n rfl rfl rfl ?_
            refine wp_iconst (v := (1 : Int32)) rfl (by decide) ?_
            refine wp_iushr rfl ?_
            refine wp_iadd rfl ?_
            exact s_iret rfl rfl rfl H
  · replace H := H.2 c_1
    refine wp_iload_n rfl rfl rfl ?_
    refine wp_bipush (v := (32 : Int32)) rfl (by decide) ?_
    refine wp_iand rfl ?_
    exact s_iret rfl rfl rfl H
set_option maxRecDepth 20000 in
theorem r_Actor_perform_0 {E : XE} {d : Nat} {I : Nat → Nat → Int32} {Q : Option Value → (Nat → Nat → Int32) → Prop} (hd : 1 ≤ d) (r1 : Nat) (hm1 : x_man r1) (a2 : Int32) (a3 : Int32)
    (H : (∀ I_1, I_1 = x_up I 138 1 (0 : Int32) → (((I_1 r1 1) < 0 → Q (some (.int (0 : Int32))) I_1) ∧ (¬ ((I_1 r1 1) < 0) → (((I_1 r1 1) ≤ (6 : Int32) → ((a2 = (0 : Int32) → (vp_in (I_1 r1 1) 7) ∧ x_K E (d - 1) 20 [.ref 138, .int (([1, 11, 1, 1, 11, 51, 1] : List Int32).getD (I_1 r1 1).toNatClampNeg 0), .ref r1, .int a3, .int (0 : Int32)] I_1 (fun v I2 => x_P E d 19 25 [x_jk, x_jk, x_jk, x_jk] (v.toList ++ []) I2 Q)) ∧ (a2 = (1 : Int32) → (vp_in (I_1 r1 1) 7) ∧ x_K E (d - 1) 20 [.ref 138, .int (([2, 2, 21, 2, 2, 21, 61] : List Int32).getD (I_1 r1 1).toNatClampNeg 0), .ref r1, .int a3, .int (0 : Int32)] I_1 (fun v I2 => x_P E d 19 35 [x_jk, x_jk, x_jk, x_jk] (v.toList ++ []) I2 Q)) ∧ (a2 = (2 : Int32) → (vp_in (I_1 r1 1) 7) ∧ x_K E (d - 1) 20 [.ref 138, .int (([3, 3, 3, 31, 41, 3, 31] : List Int32).getD (I_1 r1 1).toNatClampNeg 0), .ref r1, .int a3, .int (0 : Int32)] I_1 (fun v I2 => x_P E d 19 45 [x_jk, x_jk, x_jk, x_jk] (v.toList ++ []) I2 Q)) ∧ (¬ a2 = (0 : Int32) → ¬ a2 = (1 : Int32) → ¬ a2 = (2 : Int32) → Q (some (.int (0 : Int32))) I_1))) ∧ (¬ ((I_1 r1 1) ≤ (6 : Int32)) → Q (some (.int (0 : Int32))) I_1)))))) :
    x_P E d 19 0 [.ref 138, .ref r1, .int a2, .int a3] [] I Q := by
  refine wp_aload_n rfl rfl rfl ?_
  refine wp_iconst (v := (0 : Int32)) rfl (by decide) ?_
  refine s_putI rfl (by decide) (kd_138 _) rfl rfl (x_fit_int _) ?_
  generalize hI_1 : x_up I 138 1 (0 : Int32) = I_1
  replace H := H _ hI_1.symm
  refine wp_aload_n rfl rfl rfl ?_
  refine wp_ifnull rfl hm1.2.2.2 ?_
  refine wp_aload_n rfl rfl rfl ?_
  refine s_getI rfl (by decide) (hm1.1 _) rfl ?_
  refine wp_if_lt rfl (fun c_2 => ?_) (fun c_2 => ?_)
  · replace H := H.1 c_2
    refine wp_iconst (v := (0 : Int32)) rfl (by decide) ?_
    exact s_iret rfl rfl rfl H
  · replace H := H.2 c_2
    refine wp_aload_n rfl rfl rfl ?_
    refine s_getI rfl (by decide) (hm1.1 _) rfl ?_
    refine wp_bipush (v := (6 : Int32)) rfl (by decide) ?_
    refine wp_icmp_le rfl (fun c_3 => ?_) (fun c_3 => ?_)
    · replace H := H.1 c_3
      refine wp_iload_n rfl rfl rfl ?_
      by_cases c_4 : a2 = (0 : Int32)
      · replace H := H.1 c_4
        refine wp_tswIn (j := 0) rfl rfl (Eq.trans (congrArg Int32.toInt c_4) rfl) ?_
        refine wp_aload_n rfl rfl rfl ?_
        refine wp_gets rfl (by decide) rfl rfl ?_
        refine wp_aload_n rfl rfl rfl ?_
        refine s_getI rfl (by decide) (hm1.1 _) rfl ?_
        obtain ⟨o_5, H⟩ := H
        refine wp_ialdX (N := 7) (f := fun j => ([1, 11, 1, 1, 11, 51, 1] : List Int32).getD j 0) rfl rfl o_5 ?_
        refine wp_aload_n rfl rfl rfl ?_
        refine wp_iload_n rfl rfl rfl ?_
        refine wp_iconst (v := (0 : Int32)) rfl (by decide) ?_
        refine s_invV (As := [.int (([1, 11, 1, 1, 11, 51, 1] : List Int32).getD (I_1 r1 1).toNatClampNeg 0), .ref r1, .int a3, .int (0 : Int32)]) (d1 := d - 1) rfl ⟨by decide, by decide⟩ rfl rfl rfl (Nat.le_of_ble_eq_true rfl) (by omega) (kd_138 _) (by decide) rfl rfl H ?_
        intro v I2 h2
        exact x_P.weak (L := [x_jk, x_jk, x_jk, x_jk]) (by exact ⟨Or.inl rfl, ⟨Or.inl rfl, ⟨Or.inl rfl, ⟨Or.inl rfl, trivial⟩⟩⟩⟩) h2
      · by_cases c_6 : a2 = (1 : Int32)
        · replace H := H.2.1 c_6
          refine wp_tswIn (j := 1) rfl rfl (Eq.trans (congrArg Int32.toInt c_6) rfl) ?_
          refine wp_aload_n rfl rfl rfl ?_
          refine wp_gets rfl (by decide) rfl rfl ?_
          refine wp_aload_n rfl rfl rfl ?_
          refine s_getI rfl (by decide) (hm1.1 _) rfl ?_
          obtain ⟨o_7, H⟩ := H
          refine wp_ialdX (N := 7) (f := fun j => ([2, 2, 21, 2, 2, 21, 61] : List Int32).getD j 0) rfl rfl o_7 ?_
          refine wp_aload_n rfl rfl rfl ?_
          refine wp_iload_n rfl rfl rfl ?_
          refine wp_iconst (v := (0 : Int32)) rfl (by decide) ?_
          refine s_invV (As := [.int (([2, 2, 21, 2, 2, 21, 61] : List Int32).getD (I_1 r1 1).toNatClampNeg 0), .ref r1, .int a3, .int (0 : Int32)]) (d1 := d - 1) rfl ⟨by decide, by decide⟩ rfl rfl rfl (Nat.le_of_ble_eq_true rfl) (by omega) (kd_138 _) (by decide) rfl rfl H ?_
          intro v I2 h2
          exact x_P.weak (L := [x_jk, x_jk, x_jk, x_jk]) (by exact ⟨Or.inl rfl, ⟨Or.inl rfl, ⟨Or.inl rfl, ⟨Or.inl rfl, trivial⟩⟩⟩⟩) h2
        · by_cases c_8 : a2 = (2 : Int32)
          · replace H := H.2.2.1 c_8
            refine wp_tswIn (j := 2) rfl rfl (Eq.trans (congrArg Int32.toInt c_8) rfl) ?_
            refine wp_aload_n rfl rfl rfl ?_
            refine wp_gets rfl (by decide) rfl rfl ?_
            refine wp_aload_n rfl rfl rfl ?_
            refine s_getI rfl (by decide) (hm1.1 _) rfl ?_
            obtain ⟨o_9, H⟩ := H
            refine wp_ialdX (N := 7) (f := fun j => ([3, 3, 3, 31, 41, 3, 31] : List Int32).getD j 0) rfl rfl o_9 ?_
            refine wp_aload_n rfl rfl rfl ?_
            refine wp_iload_n rfl rfl rfl ?_
            refine wp_iconst (v := (0 : Int32)) rfl (by decide) ?_
            refine s_invV (As := [.int (([3, 3, 3, 31, 41, 3, 31] : List Int32).getD (I_1 r1 1).toNatClampNeg 0), .ref r1, .int a3, .int (0 : Int32)]) (d1 := d - 1) rfl ⟨by decide, by decide⟩ rfl rfl rfl (Nat.le_of_ble_eq_true rfl) (by omega) (kd_138 _) (by decide) rfl rfl H ?_
            intro v I2 h2
            exact x_P.weak (L := [x_jk, x_jk, x_jk, x_jk]) (by exact ⟨Or.inl rfl, ⟨Or.inl rfl, ⟨Or.inl rfl, ⟨Or.inl rfl, trivial⟩⟩⟩⟩) h2
          · replace H := H.2.2.2 c_4 c_6 c_8
            have nc_4 := x_tne (z := 0) c_4 rfl
            have nc_6 := x_tne (z := 1) c_6 rfl
            have nc_8 := x_tne (z := 2) c_8 rfl
            have hout : (a2).toInt < 0 ∨ 2 < (a2).toInt := by omega
            refine wp_tswOut rfl hout ?_
            refine wp_iconst (v := (0 : Int32)) rfl (by decide) ?_
            exact s_iret rfl rfl rfl H
    · replace H := H.2 c_3
      refine wp_iconst (v := (0 : Int32)) rfl (by decide) ?_
      exact s_iret rfl rfl rfl H
set_option maxRecDepth 20000 in
theorem r_Actor_perform_25 {E : XE} {d : Nat} {I : Nat → Nat → Int32} {Q : Option Value → (Nat → Nat → Int32) → Prop} (hd : 1 ≤ d) (w : Int32)
    (H : Q (some (.int w)) I) :
    x_P E d 19 25 [x_jk, x_jk, x_jk, x_jk] [.int w] I Q := by
  exact s_iret rfl rfl rfl H
set_option maxRecDepth 20000 in
theorem r_Actor_perform_35 {E : XE} {d : Nat} {I : Nat → Nat → Int32} {Q : Option Value → (Nat → Nat → Int32) → Prop} (hd : 1 ≤ d) (w : Int32)
    (H : Q (some (.int w)) I) :
    x_P E d 19 35 [x_jk, x_jk, x_jk, x_jk] [.int w] I Q := by
  exact s_iret rfl rfl rfl H
set_option maxRecDepth 20000 in
theorem r_Actor_perform_45 {E : XE} {d : Nat} {I : Nat → Nat → Int32} {Q : Option Value → (Nat → Nat → Int32) → Prop} (hd : 1 ≤ d) (w : Int32)
    (H : Q (some (.int w)) I) :
    x_P E d 19 45 [x_jk, x_jk, x_jk, x_jk] [.int w] I Q := by
  exact s_iret rfl rfl rfl H
set_option maxRecDepth 20000 in
theorem r_Actor_run_0 {E : XE} {d : Nat} {I : Nat → Nat → Int32} {Q : Option Value → (Nat → Nat → Int32) → Prop} (hd : 1 ≤ d) (a1 : Int32) (r2 : Nat) (hm2 : x_man r2) (a3 : Int32) (a4 : Int32)
    (H : (((8 : Int32) < a4 → Q (some (.int (0 : Int32))) I) ∧ (¬ ((8 : Int32) < a4) → (((I r2 1) < 0 → Q (some (.int (0 : Int32))) I) ∧ (¬ ((I r2 1) < 0) → (((I r2 1) ≤ (6 : Int32) → x_K E (d - 1) 21 [.ref 138, .int a1] I (fun v I2 => x_P E d 20 15 [.ref 138, .int a1, .ref r2, .int a3, .int a4] (v.toList ++ []) I2 Q)) ∧ (¬ ((I r2 1) ≤ (6 : Int32)) → Q (some (.int (0 : Int32))) I))))))) :
    x_P E d 20 0 [.ref 138, .int a1, .ref r2, .int a3, .int a4] [] I Q := by
  refine wp_iload rfl rfl ?_
  refine wp_bipush (v := (8 : Int32)) rfl (by decide) ?_
  refine wp_icmp_gt rfl (fun c_1 => ?_) (fun c_1 => ?_)
  · replace H := H.1 c_1
    refine wp_iconst (v := (0 : Int32)) rfl (by decide) ?_
    exact s_iret rfl rfl rfl H
  · replace H := H.2 c_1
    refine wp_aload_n rfl rfl rfl ?_
    refine s_getI rfl (by decide) (hm2.1 _) rfl ?_
    refine wp_if_lt rfl (fun c_2 => ?_) (fun c_2 => ?_)
    · replace H := H.1 c_2
      refine wp_iconst (v := (0 : Int32)) rfl (by decide) ?_
      exact s_iret rfl rfl rfl H
    · replace H := H.2 c_2
      refine wp_aload_n rfl rfl rfl ?_
      refine s_getI rfl (by decide) (hm2.1 _) rfl ?_
      refine wp_bipush (v := (6 : Int32)) rfl (by decide) ?_
      refine wp_icmp_le rfl (fun c_3 => ?_) (fun c_3 => ?_)
      · replace H := H.1 c_3
        refine wp_aload_n rfl rfl rfl ?_
        refine wp_iload_n rfl rfl rfl ?_
        refine s_invV (As := [.int a1]) (d1 := d - 1) rfl ⟨by decide, by decide⟩ rfl rfl rfl (Nat.le_of_ble_eq_true rfl) (by omega) (kd_138 _) (by decide) rfl rfl H ?_
        intro v I2 h2
        exact h2
      · replace H := H.2 c_3
        refine wp_iconst (v := (0 : Int32)) rfl (by decide) ?_
        exact s_iret rfl rfl rfl H
set_option maxRecDepth 20000 in
theorem r_Actor_run_15 {E : XE} {d : Nat} {I : Nat → Nat → Int32} {Q : Option Value → (Nat → Nat → Int32) → Prop} (hd : 1 ≤ d) (v1 : Int32) (rv2 : Nat) (hrv2 : x_man rv2) (v3 : Int32) (v4 : Int32)
    (H : ((v1 = (1 : Int32) → Q (some (.int (v3 + (I rv2 0)))) I) ∧ (v1 = (2 : Int32) → (vp_in (I rv2 1) 7) ∧ x_K E (d - 1) 20 [.ref 138, .int (([1, 11, 1, 1, 11, 51, 1] : List Int32).getD (I rv2 1).toNatClampNeg 0), .ref rv2, .int v3, .int (v4 + (1 : Int32))] I (fun v I2 => x_P E d 20 33 [x_jk, x_jk, .ref rv2, x_jk, x_jk] (v.toList ++ []) I2 Q)) ∧ (v1 = (3 : Int32) → (vp_in (I rv2 1) 7) ∧ x_K E (d - 1) 20 [.ref 138, .int (([2, 2, 21, 2, 2, 21, 61] : List Int32).getD (I rv2 1).toNatClampNeg 0), .ref rv2, .int v3, .int (v4 + (1 : Int32))] I (fun v I2 => x_P E d 20 48 [x_jk, x_jk, x_jk, x_jk, x_jk] (v.toList ++ []) I2 Q)) ∧ (v1 = (11 : Int32) → x_K E (d - 1) 20 [.ref 138, .int (1 : Int32), .ref rv2, .int (v3 * (3 : Int32)), .int (v4 + (1 : Int32))] I (fun v I2 => x_P E d 20 61 [x_jk, x_jk, x_jk, x_jk, x_jk] (v.toList ++ []) I2 Q)) ∧ (v1 = (21 : Int32) → x_K E (d - 1) 20 [.ref 138, .int (2 : Int32), .ref rv2, .int v3, .int (v4 + (1 : Int32))] I (fun v I2 => x_P E d 20 70 [x_jk, x_jk, x_jk, x_jk, x_jk] (v.toList ++ []) I2 Q)) ∧ (v1 = (31 : Int32) → x_K E (d - 1) 20 [.ref 138, .int (3 : Int32), .ref rv2, .int v3, .int (v4 + (1 : Int32))] I (fun v I2 => x_P E d 20 80 [x_jk, x_jk, x_jk, x_jk, x_jk] (v.toList ++ []) I2 Q)) ∧ (v1 = (41 : Int32) → x_K E (d - 1) 20 [.ref 138, .int (3 : Int32), .ref rv2, .int (v3 - (1 : Int32)), .int (v4 + (1 : Int32))] I (fun v I2 => x_P E d 20 93 [.ref 138, x_jk, .ref rv2, x_jk, .int v4] (v.toList ++ []) I2 Q)) ∧ (v1 = (51 : Int32) → x_K E (d - 1) 20 [.ref 138, .int (1 : Int32), .ref rv2, .int v3, .int (v4 + (1 : Int32))] I (fun v I2 => x_P E d 20 114 [x_jk, x_jk, .ref rv2, x_jk, x_jk] (v.toList ++ []) I2 Q)) ∧ (v1 = (61 : Int32) → x_K E (d - 1) 20 [.ref 138, .int (2 : Int32), .ref rv2, .int v3, .int (v4 + (1 : Int32))] I (fun v I2 => x_P E d 20 126 [x_jk, x_jk, .ref rv2, x_jk, x_jk] (v.toList ++ []) I2 Q)) ∧ (¬ v1 = (1 : Int32) → ¬ v1 = (2 : Int32) → ¬ v1 = (3 : Int32) → ¬ v1 = (11 : Int32) → ¬ v1 = (21 : Int32) → ¬ v1 = (31 : Int32) → ¬ v1 = (41 : Int32) → ¬ v1 = (51 : Int32) → ¬ v1 = (61 : Int32) → Q (some (.int (0 : Int32))) I))) :
    x_P E d 20 15 [.ref 138, .int v1, .ref rv2, .int v3, .int v4] [] I Q := by
  refine wp_iload_n rfl rfl rfl ?_
  by_cases c_1 : v1 = (1 : Int32)
  · replace H := H.1 c_1
    refine wp_lsw (v := 1) (off := 81) (u := 17) rfl (Eq.trans (congrArg Int32.toInt c_1) rfl) rfl (by decide) ?_
    refine wp_iload_n rfl rfl rfl ?_
    refine wp_aload_n rfl rfl rfl ?_
    refine s_getI rfl (by decide) (hrv2.1 _) rfl ?_
    refine wp_iadd rfl ?_
    exact s_iret rfl rfl rfl H
  · by_cases c_2 : v1 = (2 : Int32)
    · replace H := H.2.1 c_2
      refine wp_lsw (v := 2) (off := 88) (u := 22) rfl (Eq.trans (congrArg Int32.toInt c_2) rfl) rfl (by decide) ?_
      refine wp_aload_n rfl rfl rfl ?_
      refine wp_gets rfl (by decide) rfl rfl ?_
      refine wp_aload_n rfl rfl rfl ?_
      refine s_getI rfl (by decide) (hrv2.1 _) rfl ?_
      obtain ⟨o_3, H⟩ := H
      refine wp_ialdX (N := 7) (f := fun j => ([1, 11, 1, 1, 11, 51, 1] : List Int32).getD j 0) rfl rfl o_3 ?_
      refine wp_aload_n rfl rfl rfl ?_
      refine wp_iload_n rfl rfl rfl ?_
      refine wp_iload rfl rfl ?_
      refine wp_iconst (v := (1 : Int32)) rfl (by decide) ?_
      refine wp_iadd rfl ?_
      refine s_invV (As := [.int (([1, 11, 1, 1, 11, 51, 1] : List Int32).getD (I rv2 1).toNatClampNeg 0), .ref rv2, .int v3, .int (v4 + (1 : Int32))]) (d1 := d - 1) rfl ⟨by decide, by decide⟩ rfl rfl rfl (Nat.le_of_ble_eq_true rfl) (by omega) (kd_138 _) (by decide) rfl rfl H ?_
      intro v I2 h2
      exact x_P.weak (L := [x_jk, x_jk, .ref rv2, x_jk, x_jk]) (by exact ⟨Or.inl rfl, ⟨Or.inl rfl, ⟨Or.inr rfl, ⟨Or.inl rfl, ⟨Or.inl rfl, trivial⟩⟩⟩⟩⟩) h2
    · by_cases c_4 : v1 = (3 : Int32)
      · replace H := H.2.2.1 c_4
        refine wp_lsw (v := 3) (off := 112) (u := 37) rfl (Eq.trans (congrArg Int32.toInt c_4) rfl) rfl (by decide) ?_
        refine wp_aload_n rfl rfl rfl ?_
        refine wp_gets rfl (by decide) rfl rfl ?_
        refine wp_aload_n rfl rfl rfl ?_
        refine s_getI rfl (by decide) (hrv2.1 _) rfl ?_
        obtain ⟨o_5, H⟩ := H
        refine wp_ialdX (N := 7) (f := fun j => ([2, 2, 21, 2, 2, 21, 61] : List Int32).getD j 0) rfl rfl o_5 ?_
        refine wp_aload_n rfl rfl rfl ?_
        refine wp_iload_n rfl rfl rfl ?_
        refine wp_iload rfl rfl ?_
        refine wp_iconst (v := (1 : Int32)) rfl (by decide) ?_
        refine wp_iadd rfl ?_
        refine s_invV (As := [.int (([2, 2, 21, 2, 2, 21, 61] : List Int32).getD (I rv2 1).toNatClampNeg 0), .ref rv2, .int v3, .int (v4 + (1 : Int32))]) (d1 := d - 1) rfl ⟨by decide, by decide⟩ rfl rfl rfl (Nat.le_of_ble_eq_true rfl) (by omega) (kd_138 _) (by decide) rfl rfl H ?_
        intro v I2 h2
        exact x_P.weak (L := [x_jk, x_jk, x_jk, x_jk, x_jk]) (by exact ⟨Or.inl rfl, ⟨Or.inl rfl, ⟨Or.inl rfl, ⟨Or.inl rfl, ⟨Or.inl rfl, trivial⟩⟩⟩⟩⟩) h2
      · by_cases c_6 : v1 = (11 : Int32)
        · replace H := H.2.2.2.1 c_6
          refine wp_lsw (v := 11) (off := 133) (u := 51) rfl (Eq.trans (congrArg Int32.toInt c_6) rfl) rfl (by decide) ?_
          refine wp_aload_n rfl rfl rfl ?_
          refine wp_iconst (v := (1 : Int32)) rfl (by decide) ?_
          refine wp_aload_n rfl rfl rfl ?_
          refine wp_iload_n rfl rfl rfl ?_
          refine wp_iconst (v := (3 : Int32)) rfl (by decide) ?_
          refine wp_imul rfl ?_
          refine wp_iload rfl rfl ?_
          refine wp_iconst (v := (1 : Int32)) rfl (by decide) ?_
          refine wp_iadd rfl ?_
          refine s_invV (As := [.int (1 : Int32), .ref rv2, .int (v3 * (3 : Int32)), .int (v4 + (1 : Int32))]) (d1 := d - 1) rfl ⟨by decide, by decide⟩ rfl rfl rfl (Nat.le_of_ble_eq_true rfl) (by omega) (kd_138 _) (by decide) rfl rfl H ?_
          intro v I2 h2
          exact x_P.weak (L := [x_jk, x_jk, x_jk, x_jk, x_jk]) (by exact ⟨Or.inl rfl, ⟨Or.inl rfl, ⟨Or.inl rfl, ⟨Or.inl rfl, ⟨Or.inl rfl, trivial⟩⟩⟩⟩⟩) h2
        · by_cases c_7 : v1 = (21 : Int32)
          · replace H := H.2.2.2.2.1 c_7
            refine wp_lsw (v := 21) (off := 147) (u := 62) rfl (Eq.trans (congrArg Int32.toInt c_7) rfl) rfl (by decide) ?_
            refine wp_aload_n rfl rfl rfl ?_
            refine wp_iconst (v := (2 : Int32)) rfl (by decide) ?_
            refine wp_aload_n rfl rfl rfl ?_
            refine wp_iload_n rfl rfl rfl ?_
            refine wp_iload rfl rfl ?_
            refine wp_iconst (v := (1 : Int32)) rfl (by decide) ?_
            refine wp_iadd rfl ?_
            refine s_invV (As := [.int (2 : Int32), .ref rv2, .int v3, .int (v4 + (1 : Int32))]) (d1 := d - 1) rfl ⟨by decide, by decide⟩ rfl rfl rfl (Nat.le_of_ble_eq_true rfl) (by omega) (kd_138 _) (by decide) rfl rfl H ?_
            intro v I2 h2
            exact x_P.weak (L := [x_jk, x_jk, x_jk, x_jk, x_jk]) (by exact ⟨Or.inl rfl, ⟨Or.inl rfl, ⟨Or.inl rfl, ⟨Or.inl rfl, ⟨Or.inl rfl, trivial⟩⟩⟩⟩⟩) h2
          · by_cases c_8 : v1 = (31 : Int32)
            · replace H := H.2.2.2.2.2.1 c_8
              refine wp_lsw (v := 31) (off := 160) (u := 72) rfl (Eq.trans (congrArg Int32.toInt c_8) rfl) rfl (by decide) ?_
              refine wp_aload_n rfl rfl rfl ?_
              refine wp_iconst (v := (3 : Int32)) rfl (by decide) ?_
              refine wp_aload_n rfl rfl rfl ?_
              refine wp_iload_n rfl rfl rfl ?_
              refine wp_iload rfl rfl ?_
              refine wp_iconst (v := (1 : Int32)) rfl (by decide) ?_
              refine wp_iadd rfl ?_
              refine s_invV (As := [.int (3 : Int32), .ref rv2, .int v3, .int (v4 + (1 : Int32))]) (d1 := d - 1) rfl ⟨by decide, by decide⟩ rfl rfl rfl (Nat.le_of_ble_eq_true rfl) (by omega) (kd_138 _) (by decide) rfl rfl H ?_
              intro v I2 h2
              exact x_P.weak (L := [x_jk, x_jk, x_jk, x_jk, x_jk]) (by exact ⟨Or.inl rfl, ⟨Or.inl rfl, ⟨Or.inl rfl, ⟨Or.inl rfl, ⟨Or.inl rfl, trivial⟩⟩⟩⟩⟩) h2
            · by_cases c_9 : v1 = (41 : Int32)
              · replace H := H.2.2.2.2.2.2.1 c_9
                refine wp_lsw (v := 41) (off := 175) (u := 83) rfl (Eq.trans (congrArg Int32.toInt c_9) rfl) rfl (by decide) ?_
                refine wp_aload_n rfl rfl rfl ?_
                refine wp_iconst (v := (3 : Int32)) rfl (by decide) ?_
                refine wp_aload_n rfl rfl rfl ?_
                refine wp_iload_n rfl rfl rfl ?_
                refine wp_iconst (v := (1 : Int32)) rfl (by decide) ?_
                refine wp_isub rfl ?_
                refine wp_iload rfl rfl ?_
                refine wp_iconst (v := (1 : Int32)) rfl (by decide) ?_
                refine wp_iadd rfl ?_
                refine s_invV (As := [.int (3 : Int32), .ref rv2, .int (v3 - (1 : Int32)), .int (v4 + (1 : Int32))]) (d1 := d - 1) rfl ⟨by decide, by decide⟩ rfl rfl rfl (Nat.le_of_ble_eq_true rfl) (by omega) (kd_138 _) (by decide) rfl rfl H ?_
                intro v I2 h2
                exact x_P.weak (L := [.ref 138, x_jk, .ref rv2, x_jk, .int v4]) (by exact ⟨Or.inr rfl, ⟨Or.inl rfl, ⟨Or.inr rfl, ⟨Or.inl rfl, ⟨Or.inr rfl, trivial⟩⟩⟩⟩⟩) h2
              · by_cases c_10 : v1 = (51 : Int32)
                · replace H := H.2.2.2.2.2.2.2.1 c_10
                  refine wp_lsw (v := 51) (off := 208) (u := 106) rfl (Eq.trans (congrArg Int32.toInt c_10) rfl) rfl (by decide) ?_
                  refine wp_aload_n rfl rfl rfl ?_
                  refine wp_iconst (v := (1 : Int32)) rfl (by decide) ?_
                  refine wp_aload_n rfl rfl rfl ?_
                  refine wp_iload_n rfl rfl rfl ?_
                  refine wp_iload rfl rfl ?_
                  refine wp_iconst (v := (1 : Int32)) rfl (by decide) ?_
                  refine wp_iadd rfl ?_
                  refine s_invV (As := [.int (1 : Int32), .ref rv2, .int v3, .int (v4 + (1 : Int32))]) (d1 := d - 1) rfl ⟨by decide, by decide⟩ rfl rfl rfl (Nat.le_of_ble_eq_true rfl) (by omega) (kd_138 _) (by decide) rfl rfl H ?_
                  intro v I2 h2
                  exact x_P.weak (L := [x_jk, x_jk, .ref rv2, x_jk, x_jk]) (by exact ⟨Or.inl rfl, ⟨Or.inl rfl, ⟨Or.inr rfl, ⟨Or.inl rfl, ⟨Or.inl rfl, trivial⟩⟩⟩⟩⟩) h2
                · by_cases c_11 : v1 = (61 : Int32)
                  · replace H := H.2.2.2.2.2.2.2.2.1 c_11
                    refine wp_lsw (v := 61) (off := 225) (u := 118) rfl (Eq.trans (congrArg Int32.toInt c_11) rfl) rfl (by decide) ?_
                    refine wp_aload_n rfl rfl rfl ?_
                    refine wp_iconst (v := (2 : Int32)) rfl (by decide) ?_
                    refine wp_aload_n rfl rfl rfl ?_
                    refine wp_iload_n rfl rfl rfl ?_
                    refine wp_iload rfl rfl ?_
                    refine wp_iconst (v := (1 : Int32)) rfl (by decide) ?_
                    refine wp_iadd rfl ?_
                    refine s_invV (As := [.int (2 : Int32), .ref rv2, .int v3, .int (v4 + (1 : Int32))]) (d1 := d - 1) rfl ⟨by decide, by decide⟩ rfl rfl rfl (Nat.le_of_ble_eq_true rfl) (by omega) (kd_138 _) (by decide) rfl rfl H ?_
                    intro v I2 h2
                    exact x_P.weak (L := [x_jk, x_jk, .ref rv2, x_jk, x_jk]) (by exact ⟨Or.inl rfl, ⟨Or.inl rfl, ⟨Or.inr rfl, ⟨Or.inl rfl, ⟨Or.inl rfl, trivial⟩⟩⟩⟩⟩) h2
                  · replace H := H.2.2.2.2.2.2.2.2.2 c_1 c_2 c_4 c_6 c_7 c_8 c_9 c_10 c_11
                    have nc_1 := x_tne (z := 1) c_1 rfl
                    have nc_2 := x_tne (z := 2) c_2 rfl
                    have nc_4 := x_tne (z := 3) c_4 rfl
                    have nc_6 := x_tne (z := 11) c_6 rfl
                    have nc_7 := x_tne (z := 21) c_7 rfl
                    have nc_8 := x_tne (z := 31) c_8 rfl
                    have nc_9 := x_tne (z := 41) c_9 rfl
                    have nc_10 := x_tne (z := 51) c_10 rfl
                    have nc_11 := x_tne (z := 61) c_11 rfl
                    refine wp_lsw (v := (v1).toInt) (off := 242) (u := 130) rfl rfl (by simp only [Op.lookupswitch.offset, if_neg (Ne.symm nc_1), if_neg (Ne.symm nc_2), if_neg (Ne.symm nc_4), if_neg (Ne.symm nc_6), if_neg (Ne.symm nc_7), if_neg (Ne.symm nc_8), if_neg (Ne.symm nc_9), if_neg (Ne.symm nc_10), if_neg (Ne.symm nc_11)]) (by decide) ?_
                    refine wp_iconst (v := (0 : Int32)) rfl (by decide) ?_
                    exact s_iret rfl rfl rfl H
set_option maxRecDepth 20000 in
theorem r_Actor_run_33 {E : XE} {d : Nat} {I : Nat → Nat → Int32} {Q : Option Value → (Nat → Nat → Int32) → Prop} (hd : 1 ≤ d) (rv2 : Nat) (hrv2 : x_man rv2) (w : Int32)
    (H : Q (some (.int (w - (I rv2 2)))) I) :
    x_P E d 20 33 [x_jk, x_jk, .ref rv2, x_jk, x_jk] [.int w] I Q := by
  refine wp_aload_n rfl rfl rfl ?_
  refine s_getI rfl (by decide) (hrv2.1 _) rfl ?_
  refine wp_isub rfl ?_
  exact s_iret rfl rfl rfl H
set_option maxRecDepth 20000 in
theorem r_Actor_run_48 {E : XE} {d : Nat} {I : Nat → Nat → Int32} {Q : Option Value → (Nat → Nat → Int32) → Prop} (hd : 1 ≤ d) (w : Int32)
    (H : Q (some (.int (w * (2 : Int32)))) I) :
    x_P E d 20 48 [x_jk, x_jk, x_jk, x_jk, x_jk] [.int w] I Q := by
  refine wp_iconst (v := (2 : Int32)) rfl (by decide) ?_
  refine wp_imul rfl ?_
  exact s_iret rfl rfl rfl H
set_option maxRecDepth 20000 in
theorem r_Actor_run_61 {E : XE} {d : Nat} {I : Nat → Nat → Int32} {Q : Option Value → (Nat → Nat → Int32) → Prop} (hd : 1 ≤ d) (w : Int32)
    (H : Q (some (.int w)) I) :
    x_P E d 20 61 [x_jk, x_jk, x_jk, x_jk, x_jk] [.int w] I Q := by
  exact s_iret rfl rfl rfl H
set_option maxRecDepth 20000 in
theorem r_Actor_run_70 {E : XE} {d : Nat} {I : Nat → Nat → Int32} {Q : Option Value → (Nat → Nat → Int32) → Prop} (hd : 1 ≤ d) (w : Int32)
    (H : Q (some (.int (-w))) I) :
    x_P E d 20 70 [x_jk, x_jk, x_jk, x_jk, x_jk] [.int w] I Q := by
  refine wp_ineg rfl ?_
  exact s_iret rfl rfl rfl H
set_option maxRecDepth 20000 in
theorem r_Actor_run_80 {E : XE} {d : Nat} {I : Nat → Nat → Int32} {Q : Option Value → (Nat → Nat → Int32) → Prop} (hd : 1 ≤ d) (w : Int32)
    (H : Q (some (.int (w ^^^ (7 : Int32)))) I) :
    x_P E d 20 80 [x_jk, x_jk, x_jk, x_jk, x_jk] [.int w] I Q := by
  refine wp_bipush (v := (7 : Int32)) rfl (by decide) ?_
  refine wp_ixor rfl ?_
  exact s_iret rfl rfl rfl H
set_option maxRecDepth 20000 in
theorem r_Actor_run_93 {E : XE} {d : Nat} {I : Nat → Nat → Int32} {Q : Option Value → (Nat → Nat → Int32) → Prop} (hd : 1 ≤ d) (rv2 : Nat) (hrv2 : x_man rv2) (v4 : Int32) (w : Int32)
    (H : (vp_in (I rv2 1) 7) ∧ x_K E (d - 1) 20 [.ref 138, .int (([1, 11, 1, 1, 11, 51, 1] : List Int32).getD (I rv2 1).toNatClampNeg 0), .ref rv2, .int (2 : Int32), .int (v4 + (1 : Int32))] I (fun v I2 => x_P E d 20 104 [x_jk, x_jk, x_jk, x_jk, x_jk] (v.toList ++ [.int w]) I2 Q)) :
    x_P E d 20 93 [.ref 138, x_jk, .ref rv2, x_jk, .int v4] [.int w] I Q := by
  refine wp_aload_n rfl rfl rfl ?_
  refine wp_gets rfl (by decide) rfl rfl ?_
  refine wp_aload_n rfl rfl rfl ?_
  refine s_getI rfl (by decide) (hrv2.1 _) rfl ?_
  obtain ⟨o_1, H⟩ := H
  refine wp_ialdX (N := 7) (f := fun j => ([1, 11, 1, 1, 11, 51, 1] : List Int32).getD j 0) rfl rfl o_1 ?_
  refine wp_aload_n rfl rfl rfl ?_
  refine wp_iconst (v := (2 : Int32)) rfl (by decide) ?_
  refine wp_iload rfl rfl ?_
  refine wp_iconst (v := (1 : Int32)) rfl (by decide) ?_
  refine wp_iadd rfl ?_
  refine s_invV (As := [.int (([1, 11, 1, 1, 11, 51, 1] : List Int32).getD (I rv2 1).toNatClampNeg 0), .ref rv2, .int (2 : Int32), .int (v4 + (1 : Int32))]) (d1 := d - 1) rfl ⟨by decide, by decide⟩ rfl rfl rfl (Nat.le_of_ble_eq_true rfl) (by omega) (kd_138 _) (by decide) rfl rfl H ?_
  intro v I2 h2
  exact x_P.weak (L := [x_jk, x_jk, x_jk, x_jk, x_jk]) (by exact ⟨Or.inl rfl, ⟨Or.inr rfl, ⟨Or.inl rfl, ⟨Or.inr rfl, ⟨Or.inl rfl, trivial⟩⟩⟩⟩⟩) h2
set_option maxRecDepth 20000 in
theorem r_Actor_run_114 {E : XE} {d : Nat} {I : Nat → Nat → Int32} {Q : Option Value → (Nat → Nat → Int32) → Prop} (hd : 1 ≤ d) (rv2 : Nat) (hrv2 : x_man rv2) (w : Int32)
    (H : Q (some (.int (w ^^^ (I rv2 0)))) I) :
    x_P E d 20 114 [x_jk, x_jk, .ref rv2, x_jk, x_jk] [.int w] I Q := by
  refine wp_aload_n rfl rfl rfl ?_
  refine s_getI rfl (by decide) (hrv2.1 _) rfl ?_
  refine wp_ixor rfl ?_
  exact s_iret rfl rfl rfl H
set_option maxRecDepth 20000 in
theorem r_Actor_run_126 {E : XE} {d : Nat} {I : Nat → Nat → Int32} {Q : Option Value → (Nat → Nat → Int32) → Prop} (hd : 1 ≤ d) (rv2 : Nat) (hrv2 : x_man rv2) (w : Int32)
    (H : Q (some (.int (w + (I rv2 2)))) I) :
    x_P E d 20 126 [x_jk, x_jk, .ref rv2, x_jk, x_jk] [.int w] I Q := by
  refine wp_aload_n rfl rfl rfl ?_
  refine s_getI rfl (by decide) (hrv2.1 _) rfl ?_
  refine wp_iadd rfl ?_
  exact s_iret rfl rfl rfl H
set_option maxRecDepth 20000 in
theorem r_Actor_run_104 {E : XE} {d : Nat} {I : Nat → Nat → Int32} {Q : Option Value → (Nat → Nat → Int32) → Prop} (hd : 1 ≤ d) (s0 : Int32) (w : Int32)
    (H : Q (some (.int (s0 + w))) I) :
    x_P E d 20 104 [x_jk, x_jk, x_jk, x_jk, x_jk] [.int w, .int s0] I Q := by
  refine wp_iadd rfl ?_
  exact s_iret rfl rfl rfl H
set_option maxRecDepth 20000 in
theorem r_Actor_keep_0 {E : XE} {d : Nat} {I : Nat → Nat → Int32} {Q : Option Value → (Nat → Nat → Int32) → Prop} (hd : 1 ≤ d) (a1 : Int32)
    (H : (((20 : Int32) ≤ (I 138 1) → (∀ I_2, I_2 = x_up I 138 1 ((I 138 1) + (1 : Int32)) → Q none I_2)) ∧ (¬ ((20 : Int32) ≤ (I 138 1)) → (vp_in (I 138 1) 20) ∧ (∀ I_4, I_4 = x_up I 139 (I 138 1).toNatClampNeg a1 → (∀ I_5, I_5 = x_up I_4 138 1 ((I_4 138 1) + (1 : Int32)) → Q none I_5))))) :
    x_P E d 21 0 [.ref 138, .int a1] [] I Q := by
  refine wp_aload_n rfl rfl rfl ?_
  refine s_getI rfl (by decide) (kd_138 _) rfl ?_
  refine wp_bipush (v := (20 : Int32)) rfl (by decide) ?_
  refine wp_icmp_ge rfl (fun c_1 => ?_) (fun c_1 => ?_)
  · replace H := H.1 c_1
    refine wp_aload_n rfl rfl rfl ?_
    refine wp_dup rfl rfl ?_
    refine s_getI rfl (by decide) (kd_138 _) rfl ?_
    refine wp_iconst (v := (1 : Int32)) rfl (by decide) ?_
    refine wp_iadd rfl ?_
    refine s_putI rfl (by decide) (kd_138 _) rfl rfl (x_fit_int _) ?_
    generalize hI_2 : x_up I 138 1 ((I 138 1) + (1 : Int32)) = I_2
    replace H := H _ hI_2.symm
    exact s_vret rfl rfl H
  · replace H := H.2 c_1
    refine wp_aload_n rfl rfl rfl ?_
    refine wp_getR (v := .ref 139) rfl (by decide) (kd_138 _) rfl (kr_138_0 _) ?_
    refine wp_aload_n rfl rfl rfl ?_
    refine s_getI rfl (by decide) (kd_138 _) rfl ?_
    refine wp_iload_n rfl rfl rfl ?_
    obtain ⟨o_3, H⟩ := H
    refine s_iast rfl (kd_139 _) o_3 ?_
    generalize hI_4 : x_up I 139 (I 138 1).toNatClampNeg a1 = I_4
    replace H := H _ hI_4.symm
    refine wp_aload_n rfl rfl rfl ?_
    refine wp_dup rfl rfl ?_
    refine s_getI rfl (by decide) (kd_138 _) rfl ?_
    refine wp_iconst (v := (1 : Int32)) rfl (by decide) ?_
    refine wp_iadd rfl ?_
    refine s_putI rfl (by decide) (kd_138 _) rfl rfl (x_fit_int _) ?_
    generalize hI_5 : x_up I_4 138 1 ((I_4 138 1) + (1 : Int32)) = I_5
    replace H := H _ hI_5.symm
    exact s_vret rfl rfl H
set_option maxRecDepth 20000 in
theorem r_Man_begin_0 {E : XE} {d : Nat} {I : Nat → Nat → Int32} {Q : Option Value → (Nat → Nat → Int32) → Prop} (hd : 1 ≤ d) (r : Nat) (hm : x_man r) (a1 : Int32) (a2 : Int32) (a3 : Int32) (a4 : Int32) (a5 : Int32)
    (H : (∀ I_1, I_1 = x_up I r 0 a1 → (∀ I_2, I_2 = x_up I_1 r 1 a2 → (∀ I_3, I_3 = x_up I_2 r 2 a3 → (∀ I_4, I_4 = x_up I_3 r 3 a4 → (∀ I_5, I_5 = x_up I_4 r 4 a5 → (∀ I_6, I_6 = x_up I_5 r 5 (0 : Int32) → (∀ I_7, I_7 = x_up I_6 r 6 (0 : Int32) → (∀ I_8, I_8 = x_up I_7 r 7 (0 : Int32) → x_P E d 23 26 [.ref r, x_jk, x_jk, x_jk, x_jk, x_jk, .int (0 : Int32)] [] I_8 Q))))))))) :
    x_P E d 23 0 [.ref r, .int a1, .int a2, .int a3, .int a4, .int a5, x_jk] [] I Q := by
  refine wp_aload_n rfl rfl rfl ?_
  refine wp_iload_n rfl rfl rfl ?_
  refine s_putI rfl (by decide) (hm.1 _) rfl rfl (x_fit_int _) ?_
  generalize hI_1 : x_up I r 0 a1 = I_1
  replace H := H _ hI_1.symm
  refine wp_aload_n rfl rfl rfl ?_
  refine wp_iload_n rfl rfl rfl ?_
  refine s_putI rfl (by decide) (hm.1 _) rfl rfl (x_fit_int _) ?_
  generalize hI_2 : x_up I_1 r 1 a2 = I_2
  replace H := H _ hI_2.symm
  refine wp_aload_n rfl rfl rfl ?_
  refine wp_iload_n rfl rfl rfl ?_
  refine s_putI rfl (by decide) (hm.1 _) rfl rfl (x_fit_int _) ?_
  generalize hI_3 : x_up I_2 r 2 a3 = I_3
  replace H := H _ hI_3.symm
  refine wp_aload_n rfl rfl rfl ?_
  refine wp_iload rfl rfl ?_
  refine s_putI rfl (by decide) (hm.1 _) rfl rfl (x_fit_int _) ?_
  generalize hI_4 : x_up I_3 r 3 a4 = I_4
  replace H := H _ hI_4.symm
  refine wp_aload_n rfl rfl rfl ?_
  refine wp_iload rfl rfl ?_
  refine s_putI rfl (by decide) (hm.1 _) rfl rfl (x_fit_int _) ?_
  generalize hI_5 : x_up I_4 r 4 a5 = I_5
  replace H := H _ hI_5.symm
  refine wp_aload_n rfl rfl rfl ?_
  refine wp_iconst (v := (0 : Int32)) rfl (by decide) ?_
  refine s_putI rfl (by decide) (hm.1 _) rfl rfl (x_fit_int _) ?_
  generalize hI_6 : x_up I_5 r 5 (0 : Int32) = I_6
  replace H := H _ hI_6.symm
  refine wp_aload_n rfl rfl rfl ?_
  refine wp_iconst (v := (0 : Int32)) rfl (by decide) ?_
  refine s_putI rfl (by decide) (hm.1 _) rfl rfl x_fit_b0 ?_
  generalize hI_7 : x_up I_6 r 6 (0 : Int32) = I_7
  replace H := H _ hI_7.symm
  refine wp_aload_n rfl rfl rfl ?_
  refine wp_iconst (v := (0 : Int32)) rfl (by decide) ?_
  refine s_putI rfl (by decide) (hm.1 _) rfl rfl x_fit_b0 ?_
  generalize hI_8 : x_up I_7 r 7 (0 : Int32) = I_8
  replace H := H _ hI_8.symm
  refine wp_iconst (v := (0 : Int32)) rfl (by decide) ?_
  refine wp_istore (L' := [.ref r, .int a1, .int a2, .int a3, .int a4, .int a5, .int (0 : Int32)]) rfl (by decide) rfl rfl ?_
  exact x_P.weak (L := [.ref r, x_jk, x_jk, x_jk, x_jk, x_jk, .int (0 : Int32)]) (by exact ⟨Or.inr rfl, ⟨Or.inl rfl, ⟨Or.inl rfl, ⟨Or.inl rfl, ⟨Or.inl rfl, ⟨Or.inl rfl, ⟨Or.inr rfl, trivial⟩⟩⟩⟩⟩⟩⟩) H
set_option maxRecDepth 20000 in
theorem r_Man_begin_26 {E : XE} {d : Nat} {I : Nat → Nat → Int32} {Q : Option Value → (Nat → Nat → Int32) → Prop} (hd : 1 ≤ d) (rv0 : Nat) (hrv0 : x_man rv0) (v6 : Int32)
    (H : (((4 : Int32) ≤ v6 → Q none I) ∧ (¬ ((4 : Int32) ≤ v6) → (vp_in v6 4) ∧ (∀ I_3, I_3 = x_up I (rv0 + 1) v6.toNatClampNeg (0 : Int32) → x_P E d 23 26 [.ref rv0, x_jk, x_jk, x_jk, x_jk, x_jk, .int (v6 + 1)] [] I_3 Q)))) :
    x_P E d 23 26 [.ref rv0, x_jk, x_jk, x_jk, x_jk, x_jk, .int v6] [] I Q := by
  refine wp_iload rfl rfl ?_
  refine wp_aload_n rfl rfl rfl ?_
  refine wp_getR (v := .ref (rv0 + 1)) rfl (by decide) (hrv0.1 _) rfl hrv0.2.1 ?_
  refine wp_alen (v := (4 : Int32)) rfl (hrv0.2.2.1 _) (by decide) rfl ?_
  refine wp_icmp_ge rfl (fun c_1 => ?_) (fun c_1 => ?_)
  · replace H := H.1 c_1
    exact s_vret rfl rfl H
  · replace H := H.2 c_1
    refine wp_aload_n rfl rfl rfl ?_
    refine wp_getR (v := .ref (rv0 + 1)) rfl (by decide) (hrv0.1 _) rfl hrv0.2.1 ?_
    refine wp_iload rfl rfl ?_
    refine wp_iconst (v := (0 : Int32)) rfl (by decide) ?_
    obtain ⟨o_2, H⟩ := H
    refine s_iast rfl (hrv0.2.2.1 _) o_2 ?_
    generalize hI_3 : x_up I (rv0 + 1) v6.toNatClampNeg (0 : Int32) = I_3
    replace H := H _ hI_3.symm
    refine wp_iinc (v := v6 + 1) (L' := [.ref rv0, x_jk, x_jk, x_jk, x_jk, x_jk, .int (v6 + 1)]) rfl rfl rfl rfl rfl ?_
    refine wp_goto rfl ?_
    exact H
set_option maxRecDepth 20000 in
theorem r_Man_copyFrom_0 {E : XE} {d : Nat} {I : Nat → Nat → Int32} {Q : Option Value → (Nat → Nat → Int32) → Prop} (hd : 1 ≤ d) (r : Nat) (hm : x_man r) (r1 : Nat) (hm1 : x_man r1)
    (H : (∀ I_1, I_1 = x_up I r 0 (I r1 0) → (∀ I_2, I_2 = x_up I_1 r 1 (I_1 r1 1) → (∀ I_3, I_3 = x_up I_2 r 2 (I_2 r1 2) → (∀ I_4, I_4 = x_up I_3 r 3 (I_3 r1 3) → (∀ I_5, I_5 = x_up I_4 r 4 (I_4 r1 4) → (∀ I_6, I_6 = x_up I_5 r 5 (I_5 r1 5) → (x_fit .boolean (I_6 r1 6)) ∧ (∀ I_8, I_8 = x_up I_6 r 6 (I_6 r1 6) → (x_fit .boolean (I_8 r1 7)) ∧ (∀ I_10, I_10 = x_up I_8 r 7 (I_8 r1 7) → (∀ I_11, I_11 = x_cp I_10 (r1 + 1) (r + 1) (4 : Int32).toNatClampNeg → Q none I_11)))))))))) :
    x_P E d 24 0 [.ref r, .ref r1] [] I Q := by
  refine wp_aload_n rfl rfl rfl ?_
  refine wp_aload_n rfl rfl rfl ?_
  refine s_getI rfl (by decide) (hm1.1 _) rfl ?_
  refine s_putI rfl (by decide) (hm.1 _) rfl rfl (x_fit_int _) ?_
  generalize hI_1 : x_up I r 0 (I r1 0) = I_1
  replace H := H _ hI_1.symm
  refine wp_aload_n rfl rfl rfl ?_
  refine wp_aload_n rfl rfl rfl ?_
  refine s_getI rfl (by decide) (hm1.1 _) rfl ?_
  refine s_putI rfl (by decide) (hm.1 _) rfl rfl (x_fit_int _) ?_
  generalize hI_2 : x_up I_1 r 1 (I_1 r1 1) = I_2
  replace H := H _ hI_2.symm
  refine wp_aload_n rfl rfl rfl ?_
  refine wp_aload_n rfl rfl rfl ?_
  refine s_getI rfl (by decide) (hm1.1 _) rfl ?_
  refine s_putI rfl (by decide) (hm.1 _) rfl rfl (x_fit_int _) ?_
  generalize hI_3 : x_up I_2 r 2 (I_2 r1 2) = I_3
  replace H := H _ hI_3.symm
  refine wp_aload_n rfl rfl rfl ?_
  refine wp_aload_n rfl rfl rfl ?_
  refine s_getI rfl (by decide) (hm1.1 _) rfl ?_
  refine s_putI rfl (by decide) (hm.1 _) rfl rfl (x_fit_int _) ?_
  generalize hI_4 : x_up I_3 r 3 (I_3 r1 3) = I_4
  replace H := H _ hI_4.symm
  refine wp_aload_n rfl rfl rfl ?_
  refine wp_aload_n rfl rfl rfl ?_
  refine s_getI rfl (by decide) (hm1.1 _) rfl ?_
  refine s_putI rfl (by decide) (hm.1 _) rfl rfl (x_fit_int _) ?_
  generalize hI_5 : x_up I_4 r 4 (I_4 r1 4) = I_5
  replace H := H _ hI_5.symm
  refine wp_aload_n rfl rfl rfl ?_
  refine wp_aload_n rfl rfl rfl ?_
  refine s_getI rfl (by decide) (hm1.1 _) rfl ?_
  refine s_putI rfl (by decide) (hm.1 _) rfl rfl (x_fit_int _) ?_
  generalize hI_6 : x_up I_5 r 5 (I_5 r1 5) = I_6
  replace H := H _ hI_6.symm
  refine wp_aload_n rfl rfl rfl ?_
  refine wp_aload_n rfl rfl rfl ?_
  refine s_getI rfl (by decide) (hm1.1 _) rfl ?_
  obtain ⟨o_7, H⟩ := H
  refine s_putI rfl (by decide) (hm.1 _) rfl rfl o_7 ?_
  generalize hI_8 : x_up I_6 r 6 (I_6 r1 6) = I_8
  replace H := H _ hI_8.symm
  refine wp_aload_n rfl rfl rfl ?_
  refine wp_aload_n rfl rfl rfl ?_
  refine s_getI rfl (by decide) (hm1.1 _) rfl ?_
  obtain ⟨o_9, H⟩ := H
  refine s_putI rfl (by decide) (hm.1 _) rfl rfl o_9 ?_
  generalize hI_10 : x_up I_8 r 7 (I_8 r1 7) = I_10
  replace H := H _ hI_10.symm
  refine wp_aload_n rfl rfl rfl ?_
  refine wp_getR (v := .ref (r1 + 1)) rfl (by decide) (hm1.1 _) rfl hm1.2.1 ?_
  refine wp_iconst (v := (0 : Int32)) rfl (by decide) ?_
  refine wp_aload_n rfl rfl rfl ?_
  refine wp_getR (v := .ref (r + 1)) rfl (by decide) (hm.1 _) rfl hm.2.1 ?_
  refine wp_iconst (v := (0 : Int32)) rfl (by decide) ?_
  refine wp_aload_n rfl rfl rfl ?_
  refine wp_getR (v := .ref (r + 1)) rfl (by decide) (hm.1 _) rfl hm.2.1 ?_
  refine wp_alen (v := (4 : Int32)) rfl (hm.2.2.1 _) (by decide) rfl ?_
  refine s_copy rfl rfl (hm1.2.2.1 _) (hm.2.2.1 _) (by decide) (by decide) (by decide) (by decide) (fun h => absurd h (by decide)) (Nat.le_of_ble_eq_true rfl) (by omega) ?_
  generalize hI_11 : x_cp I_10 (r1 + 1) (r + 1) (4 : Int32).toNatClampNeg = I_11
  replace H := H _ hI_11.symm
  exact s_vret rfl rfl H
set_option maxRecDepth 20000 in
theorem r_Man_reach_0 {E : XE} {d : Nat} {I : Nat → Nat → Int32} {Q : Option Value → (Nat → Nat → Int32) → Prop} (hd : 1 ≤ d) (r : Nat) (hm : x_man r)
    (H : Q (some (.int ((9 : Int32) - ((I r 5) / (10 : Int32))))) I) :
    x_P E d 25 0 [.ref r] [] I Q := by
  refine wp_bipush (v := (9 : Int32)) rfl (by decide) ?_
  refine wp_aload_n rfl rfl rfl ?_
  refine s_getI rfl (by decide) (hm.1 _) rfl ?_
  refine wp_bipush (v := (10 : Int32)) rfl (by decide) ?_
  refine wp_idiv rfl (by decide) ?_
  refine wp_isub rfl ?_
  exact s_iret rfl rfl rfl H
set_option maxRecDepth 20000 in
theorem r_Man_distanceTo_0 {E : XE} {d : Nat} {I : Nat → Nat → Int32} {Q : Option Value → (Nat → Nat → Int32) → Prop} (hd : 1 ≤ d) (r : Nat) (hm : x_man r) (r1 : Nat) (hm1 : x_man r1)
    (H : x_K E (d - 1) 1 [.int ((I r 4) ^^^ (I r1 4))] I (fun v I2 => x_P E d 26 6 [x_jk, x_jk] (v.toList ++ []) I2 Q)) :
    x_P E d 26 0 [.ref r, .ref r1] [] I Q := by
  refine wp_aload_n rfl rfl rfl ?_
  refine s_getI rfl (by decide) (hm.1 _) rfl ?_
  refine wp_aload_n rfl rfl rfl ?_
  refine s_getI rfl (by decide) (hm1.1 _) rfl ?_
  refine wp_ixor rfl ?_
  refine s_invSt (As := [.int ((I r 4) ^^^ (I r1 4))]) (d1 := d - 1) rfl ⟨by decide, by decide⟩ rfl rfl rfl (Nat.le_of_ble_eq_true rfl) (by omega) H ?_
  intro v I2 h2
  exact x_P.weak (L := [x_jk, x_jk]) (by exact ⟨Or.inl rfl, ⟨Or.inl rfl, trivial⟩⟩) h2
set_option maxRecDepth 20000 in
theorem r_Man_distanceTo_6 {E : XE} {d : Nat} {I : Nat → Nat → Int32} {Q : Option Value → (Nat → Nat → Int32) → Prop} (hd : 1 ≤ d) (w : Int32)
    (H : Q (some (.int w)) I) :
    x_P E d 26 6 [x_jk, x_jk] [.int w] I Q := by
  exact s_iret rfl rfl rfl H
set_option maxRecDepth 20000 in
theorem r_Man_rise_0 {E : XE} {d : Nat} {I : Nat → Nat → Int32} {Q : Option Value → (Nat → Nat → Int32) → Prop} (hd : 1 ≤ d) (r : Nat) (hm : x_man r) (a1 : Int32) (a2 : Int32)
    (H : (((I r 1) = (1 : Int32) → Q (some (.int (a1 + (I r 2)))) I) ∧ ((I r 1) = (2 : Int32) → Q (some (.int (a1 / (2 : Int32)))) I) ∧ ((I r 1) = (3 : Int32) → x_K E (d - 1) 1 [.int (I r 4)] I (fun v I2 => x_P E d 27 16 [x_jk, x_jk, x_jk] (v.toList ++ [.int a1]) I2 Q)) ∧ ((I r 1) = (4 : Int32) → (∀ z_6, z_6 = (if (I r 5) < (60 : Int32) then (a1 + (I r 2)) else (0 : Int32)) → Q (some (.int z_6)) I)) ∧ ((I r 1) = (5 : Int32) → Q (some (.int ((a1 / (2 : Int32)) - (I r 2)))) I) ∧ ((I r 1) = (6 : Int32) → x_K E (d - 1) 1 [.int (I r 4)] I (fun v I2 => x_P E d 27 40 [.ref r, x_jk, .int a2] (v.toList ++ [.int a1]) I2 Q)) ∧ (¬ (I r 1) = (1 : Int32) → ¬ (I r 1) = (2 : Int32) → ¬ (I r 1) = (3 : Int32) → ¬ (I r 1) = (4 : Int32) → ¬ (I r 1) = (5 : Int32) → ¬ (I r 1) = (6 : Int32) → Q (some (.int a1)) I))) :
    x_P E d 27 0 [.ref r, .int a1, .int a2] [] I Q := by
  refine wp_aload_n rfl rfl rfl ?_
  refine s_getI rfl (by decide) (hm.1 _) rfl ?_
  by_cases c_1 : (I r 1) = (1 : Int32)
  · replace H := H.1 c_1
    refine wp_tswIn (j := 0) rfl rfl (Eq.trans (congrArg Int32.toInt c_1) rfl) ?_
    refine wp_iload_n rfl rfl rfl ?_
    refine wp_aload_n rfl rfl rfl ?_
    refine s_getI rfl (by decide) (hm.1 _) rfl ?_
    refine wp_iadd rfl ?_
    exact s_iret rfl rfl rfl H
  · by_cases c_2 : (I r 1) = (2 : Int32)
    · replace H := H.2.1 c_2
      refine wp_tswIn (j := 1) rfl rfl (Eq.trans (congrArg Int32.toInt c_2) rfl) ?_
      refine wp_iload_n rfl rfl rfl ?_
      refine wp_iconst (v := (2 : Int32)) rfl (by decide) ?_
      refine wp_idiv rfl (by decide) ?_
      exact s_iret rfl rfl rfl H
    · by_cases c_3 : (I r 1) = (3 : Int32)
      · replace H := H.2.2.1 c_3
        refine wp_tswIn (j := 2) rfl rfl (Eq.trans (congrArg Int32.toInt c_3) rfl) ?_
        refine wp_iload_n rfl rfl rfl ?_
        refine wp_aload_n rfl rfl rfl ?_
        refine s_getI rfl (by decide) (hm.1 _) rfl ?_
        refine s_invSt (As := [.int (I r 4)]) (d1 := d - 1) rfl ⟨by decide, by decide⟩ rfl rfl rfl (Nat.le_of_ble_eq_true rfl) (by omega) H ?_
        intro v I2 h2
        exact x_P.weak (L := [x_jk, x_jk, x_jk]) (by exact ⟨Or.inl rfl, ⟨Or.inl rfl, ⟨Or.inl rfl, trivial⟩⟩⟩) h2
      · by_cases c_4 : (I r 1) = (4 : Int32)
        · replace H := H.2.2.2.1 c_4
          refine wp_tswIn (j := 3) rfl rfl (Eq.trans (congrArg Int32.toInt c_4) rfl) ?_
          refine wp_aload_n rfl rfl rfl ?_
          refine s_getI rfl (by decide) (hm.1 _) rfl ?_
          refine wp_bipush (v := (60 : Int32)) rfl (by decide) ?_
          obtain ⟨z_6, hz_6⟩ : ∃ z : Int32, z = (if (I r 5) < (60 : Int32) then (a1 + (I r 2)) else (0 : Int32)) := ⟨_, rfl⟩
          replace H := H _ hz_6
          have J : x_P E d 27 28 [.ref r, .int a1, .int a2] [.int z_6] I Q := by
            exact s_iret rfl rfl rfl H
          refine wp_icmp_lt rfl (fun c_5 => ?_) (fun c_5 => ?_)
          · refine wp_iload_n rfl rfl rfl ?_
            refine wp_aload_n rfl rfl rfl ?_
            refine s_getI rfl (by decide) (hm.1 _) rfl ?_
            refine wp_iadd rfl ?_
            exact x_P.cong rfl (by rw [show z_6 = (a1 + (I r 2)) from by rw [hz_6]; simp only [if_pos c_5]]) J
          · refine wp_iconst (v := (0 : Int32)) rfl (by decide) ?_
            refine wp_goto rfl ?_
            exact x_P.cong rfl (by rw [show z_6 = (0 : Int32) from by rw [hz_6]; simp only [if_neg c_5]]) J
        · by_cases c_7 : (I r 1) = (5 : Int32)
          · replace H := H.2.2.2.2.1 c_7
            refine wp_tswIn (j := 4) rfl rfl (Eq.trans (congrArg Int32.toInt c_7) rfl) ?_
            refine wp_iload_n rfl rfl rfl ?_
            refine wp_iconst (v := (2 : Int32)) rfl (by decide) ?_
            refine wp_idiv rfl (by decide) ?_
            refine wp_aload_n rfl rfl rfl ?_
            refine s_getI rfl (by decide) (hm.1 _) rfl ?_
            refine wp_isub rfl ?_
            exact s_iret rfl rfl rfl H
          · by_cases c_8 : (I r 1) = (6 : Int32)
            · replace H := H.2.2.2.2.2.1 c_8
              refine wp_tswIn (j := 5) rfl rfl (Eq.trans (congrArg Int32.toInt c_8) rfl) ?_
              refine wp_iload_n rfl rfl rfl ?_
              refine wp_aload_n rfl rfl rfl ?_
              refine s_getI rfl (by decide) (hm.1 _) rfl ?_
              refine s_invSt (As := [.int (I r 4)]) (d1 := d - 1) rfl ⟨by decide, by decide⟩ rfl rfl rfl (Nat.le_of_ble_eq_true rfl) (by omega) H ?_
              intro v I2 h2
              exact x_P.weak (L := [.ref r, x_jk, .int a2]) (by exact ⟨Or.inr rfl, ⟨Or.inl rfl, ⟨Or.inr rfl, trivial⟩⟩⟩) h2
            · replace H := H.2.2.2.2.2.2 c_1 c_2 c_3 c_4 c_7 c_8
              have nc_1 := x_tne (z := 1) c_1 rfl
              have nc_2 := x_tne (z := 2) c_2 rfl
              have nc_3 := x_tne (z := 3) c_3 rfl
              have nc_4 := x_tne (z := 4) c_4 rfl
              have nc_7 := x_tne (z := 5) c_7 rfl
              have nc_8 := x_tne (z := 6) c_8 rfl
              have hout : ((I r 1)).toInt < 1 ∨ 6 < ((I r 1)).toInt := by omega
              refine wp_tswOut rfl hout ?_
              refine wp_iload_n rfl rfl rfl ?_
              exact s_iret rfl rfl rfl H
set_option maxRecDepth 20000 in
theorem r_Man_rise_16 {E : XE} {d : Nat} {I : Nat → Nat → Int32} {Q : Option Value → (Nat → Nat → Int32) → Prop} (hd : 1 ≤ d) (s0 : Int32) (w : Int32)
    (H : Q (some (.int (s0 + w))) I) :
    x_P E d 27 16 [x_jk, x_jk, x_jk] [.int w, .int s0] I Q := by
  refine wp_iadd rfl ?_
  exact s_iret rfl rfl rfl H
set_option maxRecDepth 20000 in
theorem r_Man_rise_40 {E : XE} {d : Nat} {I : Nat → Nat → Int32} {Q : Option Value → (Nat → Nat → Int32) → Prop} (hd : 1 ≤ d) (rv0 : Nat) (hrv0 : x_man rv0) (v2 : Int32) (s0 : Int32) (w : Int32)
    (H : (vp_in (v2 &&& (3 : Int32)) 4) ∧ Q (some (.int (((s0 + w) + (I (rv0 + 1) (v2 &&& (3 : Int32)).toNatClampNeg)) - (4 : Int32)))) I) :
    x_P E d 27 40 [.ref rv0, x_jk, .int v2] [.int w, .int s0] I Q := by
  refine wp_iadd rfl ?_
  refine wp_aload_n rfl rfl rfl ?_
  refine wp_getR (v := .ref (rv0 + 1)) rfl (by decide) (hrv0.1 _) rfl hrv0.2.1 ?_
  refine wp_iload_n rfl rfl rfl ?_
  refine wp_iconst (v := (3 : Int32)) rfl (by decide) ?_
  refine wp_iand rfl ?_
  obtain ⟨o_1, H⟩ := H
  refine s_iald rfl (hrv0.2.2.1 _) o_1 ?_
  refine wp_iadd rfl ?_
  refine wp_iconst (v := (4 : Int32)) rfl (by decide) ?_
  refine wp_isub rfl ?_
  exact s_iret rfl rfl rfl H
set_option maxRecDepth 20000 in
theorem r_Man_live_0 {E : XE} {d : Nat} {I : Nat → Nat → Int32} {Q : Option Value → (Nat → Nat → Int32) → Prop} (hd : 1 ≤ d) (r : Nat) (hm : x_man r) (a2 : Int32)
    (H : (((I r 7) = 0 → (((I r 6) = 0 → x_K E (d - 1) 53 [.ref 68, .ref r, .int a2] I (fun v I2 => x_P E d 28 14 [.ref r, .ref 68, .int a2, x_jk] (v.toList ++ [.ref r, .int (I r 5)]) I2 Q)) ∧ (¬ ((I r 6) = 0) → Q none I))) ∧ (¬ ((I r 7) = 0) → Q none I))) :
    x_P E d 28 0 [.ref r, .ref 68, .int a2, x_jk] [] I Q := by
  refine wp_aload_n rfl rfl rfl ?_
  refine s_getI rfl (by decide) (hm.1 _) rfl ?_
  refine wp_if_ne rfl (fun c_1 => ?_) (fun c_1 => ?_)
  · replace H := H.2 c_1
    exact s_vret rfl rfl H
  · replace H := H.1 c_1
    refine wp_aload_n rfl rfl rfl ?_
    refine s_getI rfl (by decide) (hm.1 _) rfl ?_
    refine wp_if_eq rfl (fun c_2 => ?_) (fun c_2 => ?_)
    · replace H := H.1 c_2
      refine wp_aload_n rfl rfl rfl ?_
      refine s_getI rfl (by decide) (hm.1 _) rfl ?_
      refine wp_aload_n rfl rfl rfl ?_
      refine wp_aload_n rfl rfl rfl ?_
      refine wp_aload_n rfl rfl rfl ?_
      refine wp_iload_n rfl rfl rfl ?_
      refine s_invV (As := [.ref r, .int a2]) (d1 := d - 1) rfl ⟨by decide, by decide⟩ rfl rfl rfl (Nat.le_of_ble_eq_true rfl) (by omega) (kd_68 _) (by decide) rfl rfl H ?_
      intro v I2 h2
      exact h2
    · replace H := H.2 c_2
      exact s_vret rfl rfl H
set_option maxRecDepth 20000 in
theorem r_Man_live_14 {E : XE} {d : Nat} {I : Nat → Nat → Int32} {Q : Option Value → (Nat → Nat → Int32) → Prop} (hd : 1 ≤ d) (rv0 : Nat) (hrv0 : x_man rv0) (v2 : Int32) (rs0 : Nat) (hrs0 : x_man rs0) (s1 : Int32) (w : Int32)
    (H : x_K E (d - 1) 27 [.ref rs0, .int w, .int v2] I (fun v I2 => x_P E d 28 16 [.ref rv0, .ref 68, x_jk, x_jk] (v.toList ++ [.int s1]) I2 Q)) :
    x_P E d 28 14 [.ref rv0, .ref 68, .int v2, x_jk] [.int w, .ref rs0, .int s1] I Q := by
  refine wp_iload_n rfl rfl rfl ?_
  refine s_invV (As := [.int w, .int v2]) (d1 := d - 1) rfl ⟨by decide, by decide⟩ rfl rfl rfl (Nat.le_of_ble_eq_true rfl) (by omega) (hrs0.1 _) (by decide) rfl rfl H ?_
  intro v I2 h2
  exact x_P.weak (L := [.ref rv0, .ref 68, x_jk, x_jk]) (by exact ⟨Or.inr rfl, ⟨Or.inr rfl, ⟨Or.inl rfl, ⟨Or.inr rfl, trivial⟩⟩⟩⟩) h2
set_option maxRecDepth 20000 in
theorem r_Man_live_16 {E : XE} {d : Nat} {I : Nat → Nat → Int32} {Q : Option Value → (Nat → Nat → Int32) → Prop} (hd : 1 ≤ d) (rv0 : Nat) (hrv0 : x_man rv0) (s0 : Int32) (w : Int32)
    (H : (∀ I_1, I_1 = x_up I rv0 5 (if (99 : Int32) < (if (s0 + w) < (0 : Int32) then (0 : Int32) else (s0 + w)) then (99 : Int32) else (if (s0 + w) < (0 : Int32) then (0 : Int32) else (s0 + w))) → (((I_1 rv0 5) < (I_1 68 0) → Q none I_1) ∧ (¬ ((I_1 rv0 5) < (I_1 68 0)) → (∀ I_3, I_3 = x_up I_1 rv0 6 (1 : Int32) → (∀ I_4, I_4 = x_up I_3 rv0 5 (0 : Int32) → (∀ I_5, I_5 = x_up I_4 rv0 4 ((I_4 rv0 4) &&& (((1 : Int32) <<< (((I_4 rv0 2) - (I_4 rv0 2) / (8 : Int32) * (8 : Int32)) &&& 31)) ^^^ (-1 : Int32))) → Q none I_5))))))) :
    x_P E d 28 16 [.ref rv0, .ref 68, x_jk, x_jk] [.int w, .int s0] I Q := by
  refine wp_iadd rfl ?_
  refine wp_istore_n (L' := [.ref rv0, .ref 68, x_jk, .int (s0 + w)]) rfl rfl (by decide) rfl rfl ?_
  refine wp_aload_n rfl rfl rfl ?_
  refine wp_iload_n rfl rfl rfl ?_
  refine wp_iconst (v := (0 : Int32)) rfl (by decide) ?_
  refine s_mmax rfl rfl (Nat.le_of_ble_eq_true rfl) (by omega) ?_
  refine wp_bipush (v := (99 : Int32)) rfl (by decide) ?_
  refine s_mmin rfl rfl (Nat.le_of_ble_eq_true rfl) (by omega) ?_
  refine s_putI rfl (by decide) (hrv0.1 _) rfl rfl (x_fit_int _) ?_
  generalize hI_1 : x_up I rv0 5 (if (99 : Int32) < (if (s0 + w) < (0 : Int32) then (0 : Int32) else (s0 + w)) then (99 : Int32) else (if (s0 + w) < (0 : Int32) then (0 : Int32) else (s0 + w))) = I_1
  replace H := H _ hI_1.symm
  refine wp_aload_n rfl rfl rfl ?_
  refine s_getI rfl (by decide) (hrv0.1 _) rfl ?_
  refine wp_aload_n rfl rfl rfl ?_
  refine s_getI rfl (by decide) (kd_68 _) rfl ?_
  refine wp_icmp_lt rfl (fun c_2 => ?_) (fun c_2 => ?_)
  · replace H := H.1 c_2
    exact s_vret rfl rfl H
  · replace H := H.2 c_2
    refine wp_aload_n rfl rfl rfl ?_
    refine wp_iconst (v := (1 : Int32)) rfl (by decide) ?_
    refine s_putI rfl (by decide) (hrv0.1 _) rfl rfl x_fit_b1 ?_
    generalize hI_3 : x_up I_1 rv0 6 (1 : Int32) = I_3
    replace H := H _ hI_3.symm
    refine wp_aload_n rfl rfl rfl ?_
    refine wp_iconst (v := (0 : Int32)) rfl (by decide) ?_
    refine s_putI rfl (by decide) (hrv0.1 _) rfl rfl (x_fit_int _) ?_
    generalize hI_4 : x_up I_3 rv0 5 (0 : Int32) = I_4
    replace H := H _ hI_4.symm
    refine wp_aload_n rfl rfl rfl ?_
    refine wp_dup rfl rfl ?_
    refine s_getI rfl (by decide) (hrv0.1 _) rfl ?_
    refine wp_iconst (v := (1 : Int32)) rfl (by decide) ?_
    refine wp_aload_n rfl rfl rfl ?_
    refine s_getI rfl (by decide) (hrv0.1 _) rfl ?_
    refine wp_bipush (v := (8 : Int32)) rfl (by decide) ?_
    refine wp_irem rfl (by decide) ?_
    refine wp_ishl rfl ?_
    refine wp_iconst (v := (-1 : Int32)) rfl (by decide) ?_
    refine wp_ixor rfl ?_
    refine wp_iand rfl ?_
    refine s_putI rfl (by decide) (hrv0.1 _) rfl rfl (x_fit_int _) ?_
    generalize hI_5 : x_up I_4 rv0 4 ((I_4 rv0 4) &&& (((1 : Int32) <<< (((I_4 rv0 2) - (I_4 rv0 2) / (8 : Int32) * (8 : Int32)) &&& 31)) ^^^ (-1 : Int32))) = I_5
    replace H := H _ hI_5.symm
    exact s_vret rfl rfl H
set_option maxRecDepth 20000 in
theorem r_Rows_put_0 {E : XE} {d : Nat} {I : Nat → Nat → Int32} {Q : Option Value → (Nat → Nat → Int32) → Prop} (hd : 1 ≤ d) (r : Nat) (hr : x_rows r) (a1 : Int32) (a2 : Int32) (a3 : Int32)
    (H : (((8 : Int32) ≤ (I r 3) → Q (some (.int (I r 3))) I) ∧ (¬ ((8 : Int32) ≤ (I r 3)) → (vp_in (I r 3) 8) ∧ (∀ I_3, I_3 = x_up I (r + 1) (I r 3).toNatClampNeg a1 → (vp_in (I_3 r 3) 8) ∧ (∀ I_5, I_5 = x_up I_3 (r + 2) (I_3 r 3).toNatClampNeg a2 → (vp_in (I_5 r 3) 8) ∧ (∀ I_7, I_7 = x_up I_5 (r + 3) (I_5 r 3).toNatClampNeg a3 → (∀ I_8, I_8 = x_up I_7 r 3 ((I_7 r 3) + (1 : Int32)) → Q (some (.int (I_8 r 3))) I_8))))))) :
    x_P E d 45 0 [.ref r, .int a1, .int a2, .int a3] [] I Q := by
  refine wp_aload_n rfl rfl rfl ?_
  refine s_getI rfl (by decide) (hr.1 _) rfl ?_
  refine wp_bipush (v := (8 : Int32)) rfl (by decide) ?_
  refine wp_icmp_ge rfl (fun c_1 => ?_) (fun c_1 => ?_)
  · replace H := H.1 c_1
    refine wp_aload_n rfl rfl rfl ?_
    refine s_getI rfl (by decide) (hr.1 _) rfl ?_
    exact s_iret rfl rfl rfl H
  · replace H := H.2 c_1
    refine wp_aload_n rfl rfl rfl ?_
    refine wp_getR (v := .ref (r + 1)) rfl (by decide) (hr.1 _) rfl (x_rowsR hr 0) ?_
    refine wp_aload_n rfl rfl rfl ?_
    refine s_getI rfl (by decide) (hr.1 _) rfl ?_
    refine wp_iload_n rfl rfl rfl ?_
    obtain ⟨o_2, H⟩ := H
    refine s_iast rfl (x_rowsA hr 0 _) o_2 ?_
    generalize hI_3 : x_up I (r + 1) (I r 3).toNatClampNeg a1 = I_3
    replace H := H _ hI_3.symm
    refine wp_aload_n rfl rfl rfl ?_
    refine wp_getR (v := .ref (r + 2)) rfl (by decide) (hr.1 _) rfl (x_rowsR hr 1) ?_
    refine wp_aload_n rfl rfl rfl ?_
    refine s_getI rfl (by decide) (hr.1 _) rfl ?_
    refine wp_iload_n rfl rfl rfl ?_
    obtain ⟨o_4, H⟩ := H
    refine s_iast rfl (x_rowsA hr 1 _) o_4 ?_
    generalize hI_5 : x_up I_3 (r + 2) (I_3 r 3).toNatClampNeg a2 = I_5
    replace H := H _ hI_5.symm
    refine wp_aload_n rfl rfl rfl ?_
    refine wp_getR (v := .ref (r + 3)) rfl (by decide) (hr.1 _) rfl (x_rowsR hr 2) ?_
    refine wp_aload_n rfl rfl rfl ?_
    refine s_getI rfl (by decide) (hr.1 _) rfl ?_
    refine wp_iload_n rfl rfl rfl ?_
    obtain ⟨o_6, H⟩ := H
    refine s_iast rfl (x_rowsA hr 2 _) o_6 ?_
    generalize hI_7 : x_up I_5 (r + 3) (I_5 r 3).toNatClampNeg a3 = I_7
    replace H := H _ hI_7.symm
    refine wp_aload_n rfl rfl rfl ?_
    refine wp_dup rfl rfl ?_
    refine s_getI rfl (by decide) (hr.1 _) rfl ?_
    refine wp_iconst (v := (1 : Int32)) rfl (by decide) ?_
    refine wp_iadd rfl ?_
    refine s_putI rfl (by decide) (hr.1 _) rfl rfl (x_fit_int _) ?_
    generalize hI_8 : x_up I_7 r 3 ((I_7 r 3) + (1 : Int32)) = I_8
    replace H := H _ hI_8.symm
    refine wp_aload_n rfl rfl rfl ?_
    refine s_getI rfl (by decide) (hr.1 _) rfl ?_
    exact s_iret rfl rfl rfl H
set_option maxRecDepth 20000 in
theorem r_Rows_empty_0 {E : XE} {d : Nat} {I : Nat → Nat → Int32} {Q : Option Value → (Nat → Nat → Int32) → Prop} (hd : 1 ≤ d) (r : Nat) (hr : x_rows r)
    (H : (∀ I_1, I_1 = x_up I r 3 (0 : Int32) → Q (some (.int (I_1 r 3))) I_1)) :
    x_P E d 46 0 [.ref r] [] I Q := by
  refine wp_aload_n rfl rfl rfl ?_
  refine wp_iconst (v := (0 : Int32)) rfl (by decide) ?_
  refine s_putI rfl (by decide) (hr.1 _) rfl rfl (x_fit_int _) ?_
  generalize hI_1 : x_up I r 3 (0 : Int32) = I_1
  replace H := H _ hI_1.symm
  refine wp_aload_n rfl rfl rfl ?_
  refine s_getI rfl (by decide) (hr.1 _) rfl ?_
  exact s_iret rfl rfl rfl H
set_option maxRecDepth 20000 in
theorem r_Rows_copyFrom_0 {E : XE} {d : Nat} {I : Nat → Nat → Int32} {Q : Option Value → (Nat → Nat → Int32) → Prop} (hd : 1 ≤ d) (r : Nat) (hr : x_rows r) (r1 : Nat) (hr1 : x_rows r1)
    (H : (∀ I_1, I_1 = x_cp I (r1 + 1) (r + 1) (8 : Int32).toNatClampNeg → (∀ I_2, I_2 = x_cp I_1 (r1 + 2) (r + 2) (8 : Int32).toNatClampNeg → (∀ I_3, I_3 = x_cp I_2 (r1 + 3) (r + 3) (8 : Int32).toNatClampNeg → (∀ I_4, I_4 = x_up I_3 r 3 (I_3 r1 3) → Q none I_4))))) :
    x_P E d 47 0 [.ref r, .ref r1] [] I Q := by
  refine wp_aload_n rfl rfl rfl ?_
  refine wp_getR (v := .ref (r1 + 1)) rfl (by decide) (hr1.1 _) rfl (x_rowsR hr1 0) ?_
  refine wp_iconst (v := (0 : Int32)) rfl (by decide) ?_
  refine wp_aload_n rfl rfl rfl ?_
  refine wp_getR (v := .ref (r + 1)) rfl (by decide) (hr.1 _) rfl (x_rowsR hr 0) ?_
  refine wp_iconst (v := (0 : Int32)) rfl (by decide) ?_
  refine wp_bipush (v := (8 : Int32)) rfl (by decide) ?_
  refine s_copy rfl rfl (x_rowsA hr1 0 _) (x_rowsA hr 0 _) (by decide) (by decide) (by decide) (by decide) (fun h => absurd h (by decide)) (Nat.le_of_ble_eq_true rfl) (by omega) ?_
  generalize hI_1 : x_cp I (r1 + 1) (r + 1) (8 : Int32).toNatClampNeg = I_1
  replace H := H _ hI_1.symm
  refine wp_aload_n rfl rfl rfl ?_
  refine wp_getR (v := .ref (r1 + 2)) rfl (by decide) (hr1.1 _) rfl (x_rowsR hr1 1) ?_
  refine wp_iconst (v := (0 : Int32)) rfl (by decide) ?_
  refine wp_aload_n rfl rfl rfl ?_
  refine wp_getR (v := .ref (r + 2)) rfl (by decide) (hr.1 _) rfl (x_rowsR hr 1) ?_
  refine wp_iconst (v := (0 : Int32)) rfl (by decide) ?_
  refine wp_bipush (v := (8 : Int32)) rfl (by decide) ?_
  refine s_copy rfl rfl (x_rowsA hr1 1 _) (x_rowsA hr 1 _) (by decide) (by decide) (by decide) (by decide) (fun h => absurd h (by decide)) (Nat.le_of_ble_eq_true rfl) (by omega) ?_
  generalize hI_2 : x_cp I_1 (r1 + 2) (r + 2) (8 : Int32).toNatClampNeg = I_2
  replace H := H _ hI_2.symm
  refine wp_aload_n rfl rfl rfl ?_
  refine wp_getR (v := .ref (r1 + 3)) rfl (by decide) (hr1.1 _) rfl (x_rowsR hr1 2) ?_
  refine wp_iconst (v := (0 : Int32)) rfl (by decide) ?_
  refine wp_aload_n rfl rfl rfl ?_
  refine wp_getR (v := .ref (r + 3)) rfl (by decide) (hr.1 _) rfl (x_rowsR hr 2) ?_
  refine wp_iconst (v := (0 : Int32)) rfl (by decide) ?_
  refine wp_bipush (v := (8 : Int32)) rfl (by decide) ?_
  refine s_copy rfl rfl (x_rowsA hr1 2 _) (x_rowsA hr 2 _) (by decide) (by decide) (by decide) (by decide) (fun h => absurd h (by decide)) (Nat.le_of_ble_eq_true rfl) (by omega) ?_
  generalize hI_3 : x_cp I_2 (r1 + 3) (r + 3) (8 : Int32).toNatClampNeg = I_3
  replace H := H _ hI_3.symm
  refine wp_aload_n rfl rfl rfl ?_
  refine wp_aload_n rfl rfl rfl ?_
  refine s_getI rfl (by decide) (hr1.1 _) rfl ?_
  refine s_putI rfl (by decide) (hr.1 _) rfl rfl (x_fit_int _) ?_
  generalize hI_4 : x_up I_3 r 3 (I_3 r1 3) = I_4
  replace H := H _ hI_4.symm
  exact s_vret rfl rfl H
set_option maxRecDepth 20000 in
theorem r_Town_clear_0 {E : XE} {d : Nat} {I : Nat → Nat → Int32} {Q : Option Value → (Nat → Nat → Int32) → Prop} (hd : 1 ≤ d) 
    (H : (∀ I_1, I_1 = x_up I 132 0 (90 : Int32) → (∀ I_2, I_2 = x_up I_1 132 1 (0 : Int32) → (∀ I_3, I_3 = x_up I_2 132 5 (0 : Int32) → Q none I_3)))) :
    x_P E d 49 0 [.ref 132] [] I Q := by
  refine wp_aload_n rfl rfl rfl ?_
  refine wp_bipush (v := (90 : Int32)) rfl (by decide) ?_
  refine s_putI rfl (by decide) (kd_132 _) rfl rfl (x_fit_int _) ?_
  generalize hI_1 : x_up I 132 0 (90 : Int32) = I_1
  replace H := H _ hI_1.symm
  refine wp_aload_n rfl rfl rfl ?_
  refine wp_iconst (v := (0 : Int32)) rfl (by decide) ?_
  refine s_putI rfl (by decide) (kd_132 _) rfl rfl (x_fit_int _) ?_
  generalize hI_2 : x_up I_1 132 1 (0 : Int32) = I_2
  replace H := H _ hI_2.symm
  refine wp_aload_n rfl rfl rfl ?_
  refine wp_iconst (v := (0 : Int32)) rfl (by decide) ?_
  refine s_putI rfl (by decide) (kd_132 _) rfl rfl (x_fit_int _) ?_
  generalize hI_3 : x_up I_2 132 5 (0 : Int32) = I_3
  replace H := H _ hI_3.symm
  exact s_vret rfl rfl H
set_option maxRecDepth 20000 in
theorem r_Town_copyFrom_0 {E : XE} {d : Nat} {I : Nat → Nat → Int32} {Q : Option Value → (Nat → Nat → Int32) → Prop} (hd : 1 ≤ d) 
    (H : (∀ I_1, I_1 = x_up I 68 0 (I 68 0) → (∀ I_2, I_2 = x_up I_1 68 1 (I_1 68 1) → (∀ I_3, I_3 = x_cp I_2 69 69 (10 : Int32).toNatClampNeg → (∀ I_4, I_4 = x_cp I_3 70 70 (10 : Int32).toNatClampNeg → (∀ I_5, I_5 = x_cp I_4 71 71 (100 : Int32).toNatClampNeg → (∀ I_6, I_6 = x_up I_5 68 5 (I_5 68 5) → Q none I_6))))))) :
    x_P E d 50 0 [.ref 68, .ref 68] [] I Q := by
  refine wp_aload_n rfl rfl rfl ?_
  refine wp_aload_n rfl rfl rfl ?_
  refine s_getI rfl (by decide) (kd_68 _) rfl ?_
  refine s_putI rfl (by decide) (kd_68 _) rfl rfl (x_fit_int _) ?_
  generalize hI_1 : x_up I 68 0 (I 68 0) = I_1
  replace H := H _ hI_1.symm
  refine wp_aload_n rfl rfl rfl ?_
  refine wp_aload_n rfl rfl rfl ?_
  refine s_getI rfl (by decide) (kd_68 _) rfl ?_
  refine s_putI rfl (by decide) (kd_68 _) rfl rfl (x_fit_int _) ?_
  generalize hI_2 : x_up I_1 68 1 (I_1 68 1) = I_2
  replace H := H _ hI_2.symm
  refine wp_aload_n rfl rfl rfl ?_
  refine wp_getR (v := .ref 69) rfl (by decide) (kd_68 _) rfl (kr_68_2 _) ?_
  refine wp_iconst (v := (0 : Int32)) rfl (by decide) ?_
  refine wp_aload_n rfl rfl rfl ?_
  refine wp_getR (v := .ref 69) rfl (by decide) (kd_68 _) rfl (kr_68_2 _) ?_
  refine wp_iconst (v := (0 : Int32)) rfl (by decide) ?_
  refine wp_bipush (v := (10 : Int32)) rfl (by decide) ?_
  refine s_copy rfl rfl (kd_69 _) (kd_69 _) (by decide) (by decide) (by decide) (by decide) (fun h => absurd h (by decide)) (Nat.le_of_ble_eq_true rfl) (by omega) ?_
  generalize hI_3 : x_cp I_2 69 69 (10 : Int32).toNatClampNeg = I_3
  replace H := H _ hI_3.symm
  refine wp_aload_n rfl rfl rfl ?_
  refine wp_getR (v := .ref 70) rfl (by decide) (kd_68 _) rfl (kr_68_3 _) ?_
  refine wp_iconst (v := (0 : Int32)) rfl (by decide) ?_
  refine wp_aload_n rfl rfl rfl ?_
  refine wp_getR (v := .ref 70) rfl (by decide) (kd_68 _) rfl (kr_68_3 _) ?_
  refine wp_iconst (v := (0 : Int32)) rfl (by decide) ?_
  refine wp_bipush (v := (10 : Int32)) rfl (by decide) ?_
  refine s_copy rfl rfl (kd_70 _) (kd_70 _) (by decide) (by decide) (by decide) (by decide) (fun h => absurd h (by decide)) (Nat.le_of_ble_eq_true rfl) (by omega) ?_
  generalize hI_4 : x_cp I_3 70 70 (10 : Int32).toNatClampNeg = I_4
  replace H := H _ hI_4.symm
  refine wp_aload_n rfl rfl rfl ?_
  refine wp_getR (v := .ref 71) rfl (by decide) (kd_68 _) rfl (kr_68_4 _) ?_
  refine wp_iconst (v := (0 : Int32)) rfl (by decide) ?_
  refine wp_aload_n rfl rfl rfl ?_
  refine wp_getR (v := .ref 71) rfl (by decide) (kd_68 _) rfl (kr_68_4 _) ?_
  refine wp_iconst (v := (0 : Int32)) rfl (by decide) ?_
  refine wp_bipush (v := (100 : Int32)) rfl (by decide) ?_
  refine s_copy rfl rfl (kd_71 _) (kd_71 _) (by decide) (by decide) (by decide) (by decide) (fun h => absurd h (by decide)) (Nat.le_of_ble_eq_true rfl) (by omega) ?_
  generalize hI_5 : x_cp I_4 71 71 (100 : Int32).toNatClampNeg = I_5
  replace H := H _ hI_5.symm
  refine wp_aload_n rfl rfl rfl ?_
  refine wp_aload_n rfl rfl rfl ?_
  refine s_getI rfl (by decide) (kd_68 _) rfl ?_
  refine s_putI rfl (by decide) (kd_68 _) rfl rfl (x_fit_int _) ?_
  generalize hI_6 : x_up I_5 68 5 (I_5 68 5) = I_6
  replace H := H _ hI_6.symm
  exact s_vret rfl rfl H
set_option maxRecDepth 20000 in
theorem r_Town_put_0 {E : XE} {d : Nat} {I : Nat → Nat → Int32} {Q : Option Value → (Nat → Nat → Int32) → Prop} (hd : 1 ≤ d) (a1 : Int32)
    (H : (((100 : Int32) ≤ (I 132 5) → Q none I) ∧ (¬ ((100 : Int32) ≤ (I 132 5)) → (vp_in (I 132 5) 100) ∧ (∀ I_3, I_3 = x_up I 135 (I 132 5).toNatClampNeg a1 → (∀ I_4, I_4 = x_up I_3 132 5 ((I_3 132 5) + (1 : Int32)) → Q none I_4))))) :
    x_P E d 51 0 [.ref 132, .int a1] [] I Q := by
  refine wp_aload_n rfl rfl rfl ?_
  refine s_getI rfl (by decide) (kd_132 _) rfl ?_
  refine wp_bipush (v := (100 : Int32)) rfl (by decide) ?_
  refine wp_icmp_ge rfl (fun c_1 => ?_) (fun c_1 => ?_)
  · replace H := H.1 c_1
    exact s_vret rfl rfl H
  · replace H := H.2 c_1
    refine wp_aload_n rfl rfl rfl ?_
    refine wp_getR (v := .ref 135) rfl (by decide) (kd_132 _) rfl (kr_132_4 _) ?_
    refine wp_aload_n rfl rfl rfl ?_
    refine s_getI rfl (by decide) (kd_132 _) rfl ?_
    refine wp_iload_n rfl rfl rfl ?_
    obtain ⟨o_2, H⟩ := H
    refine s_iast rfl (kd_135 _) o_2 ?_
    generalize hI_3 : x_up I 135 (I 132 5).toNatClampNeg a1 = I_3
    replace H := H _ hI_3.symm
    refine wp_aload_n rfl rfl rfl ?_
    refine wp_dup rfl rfl ?_
    refine s_getI rfl (by decide) (kd_132 _) rfl ?_
    refine wp_iconst (v := (1 : Int32)) rfl (by decide) ?_
    refine wp_iadd rfl ?_
    refine s_putI rfl (by decide) (kd_132 _) rfl rfl (x_fit_int _) ?_
    generalize hI_4 : x_up I_3 132 5 ((I_3 132 5) + (1 : Int32)) = I_4
    replace H := H _ hI_4.symm
    exact s_vret rfl rfl H
set_option maxRecDepth 20000 in
theorem r_Town_endClause_0 {E : XE} {d : Nat} {I : Nat → Nat → Int32} {Q : Option Value → (Nat → Nat → Int32) → Prop} (hd : 1 ≤ d) (a1 : Int32)
    (H : (((10 : Int32) ≤ (I 132 1) → Q none I) ∧ (¬ ((10 : Int32) ≤ (I 132 1)) → (vp_in (I 132 1) 10) ∧ (∀ I_3, I_3 = x_up I 133 (I 132 1).toNatClampNeg a1 → (vp_in (I_3 132 1) 10) ∧ (∀ I_5, I_5 = x_up I_3 134 (I_3 132 1).toNatClampNeg (I_3 132 5) → (∀ I_6, I_6 = x_up I_5 132 1 ((I_5 132 1) + (1 : Int32)) → Q none I_6)))))) :
    x_P E d 52 0 [.ref 132, .int a1] [] I Q := by
  refine wp_aload_n rfl rfl rfl ?_
  refine s_getI rfl (by decide) (kd_132 _) rfl ?_
  refine wp_bipush (v := (10 : Int32)) rfl (by decide) ?_
  refine wp_icmp_ge rfl (fun c_1 => ?_) (fun c_1 => ?_)
  · replace H := H.1 c_1
    exact s_vret rfl rfl H
  · replace H := H.2 c_1
    refine wp_aload_n rfl rfl rfl ?_
    refine wp_getR (v := .ref 133) rfl (by decide) (kd_132 _) rfl (kr_132_2 _) ?_
    refine wp_aload_n rfl rfl rfl ?_
    refine s_getI rfl (by decide) (kd_132 _) rfl ?_
    refine wp_iload_n rfl rfl rfl ?_
    obtain ⟨o_2, H⟩ := H
    refine s_iast rfl (kd_133 _) o_2 ?_
    generalize hI_3 : x_up I 133 (I 132 1).toNatClampNeg a1 = I_3
    replace H := H _ hI_3.symm
    refine wp_aload_n rfl rfl rfl ?_
    refine wp_getR (v := .ref 134) rfl (by decide) (kd_132 _) rfl (kr_132_3 _) ?_
    refine wp_aload_n rfl rfl rfl ?_
    refine s_getI rfl (by decide) (kd_132 _) rfl ?_
    refine wp_aload_n rfl rfl rfl ?_
    refine s_getI rfl (by decide) (kd_132 _) rfl ?_
    obtain ⟨o_4, H⟩ := H
    refine s_iast rfl (kd_134 _) o_4 ?_
    generalize hI_5 : x_up I_3 134 (I_3 132 1).toNatClampNeg (I_3 132 5) = I_5
    replace H := H _ hI_5.symm
    refine wp_aload_n rfl rfl rfl ?_
    refine wp_dup rfl rfl ?_
    refine s_getI rfl (by decide) (kd_132 _) rfl ?_
    refine wp_iconst (v := (1 : Int32)) rfl (by decide) ?_
    refine wp_iadd rfl ?_
    refine s_putI rfl (by decide) (kd_132 _) rfl rfl (x_fit_int _) ?_
    generalize hI_6 : x_up I_5 132 1 ((I_5 132 1) + (1 : Int32)) = I_6
    replace H := H _ hI_6.symm
    exact s_vret rfl rfl H
set_option maxRecDepth 20000 in
theorem r_Town_sum_0 {E : XE} {d : Nat} {I : Nat → Nat → Int32} {Q : Option Value → (Nat → Nat → Int32) → Prop} (hd : 1 ≤ d) (r1 : Nat) (hm1 : x_man r1) (a2 : Int32)
    (H : (∀ I_1, I_1 = x_up I 72 0 (I r1 0) → (∀ I_2, I_2 = x_up I_1 72 1 (I_1 r1 1) → (∀ I_3, I_3 = x_up I_2 72 2 (I_2 r1 2) → x_K E (d - 1) 1 [.int (I_3 r1 4)] I_3 (fun v I2 => x_P E d 53 24 [.ref 68, .ref r1, .int a2, x_jk, x_jk, x_jk] (v.toList ++ [.int (3 : Int32), .ref 72]) I2 Q))))) :
    x_P E d 53 0 [.ref 68, .ref r1, .int a2, x_jk, x_jk, x_jk] [] I Q := by
  refine wp_aload_n rfl rfl rfl ?_
  refine wp_getR (v := .ref 72) rfl (by decide) (kd_68 _) rfl (kr_68_6 _) ?_
  refine wp_iconst (v := (0 : Int32)) rfl (by decide) ?_
  refine wp_aload_n rfl rfl rfl ?_
  refine s_getI rfl (by decide) (hm1.1 _) rfl ?_
  refine s_iastc (k0 := 0) rfl (kd_72 _) rfl ?_
  generalize hI_1 : x_up I 72 0 (I r1 0) = I_1
  replace H := H _ hI_1.symm
  refine wp_aload_n rfl rfl rfl ?_
  refine wp_getR (v := .ref 72) rfl (by decide) (kd_68 _) rfl (kr_68_6 _) ?_
  refine wp_iconst (v := (1 : Int32)) rfl (by decide) ?_
  refine wp_aload_n rfl rfl rfl ?_
  refine s_getI rfl (by decide) (hm1.1 _) rfl ?_
  refine s_iastc (k0 := 1) rfl (kd_72 _) rfl ?_
  generalize hI_2 : x_up I_1 72 1 (I_1 r1 1) = I_2
  replace H := H _ hI_2.symm
  refine wp_aload_n rfl rfl rfl ?_
  refine wp_getR (v := .ref 72) rfl (by decide) (kd_68 _) rfl (kr_68_6 _) ?_
  refine wp_iconst (v := (2 : Int32)) rfl (by decide) ?_
  refine wp_aload_n rfl rfl rfl ?_
  refine s_getI rfl (by decide) (hm1.1 _) rfl ?_
  refine s_iastc (k0 := 2) rfl (kd_72 _) rfl ?_
  generalize hI_3 : x_up I_2 72 2 (I_2 r1 2) = I_3
  replace H := H _ hI_3.symm
  refine wp_aload_n rfl rfl rfl ?_
  refine wp_getR (v := .ref 72) rfl (by decide) (kd_68 _) rfl (kr_68_6 _) ?_
  refine wp_iconst (v := (3 : Int32)) rfl (by decide) ?_
  refine wp_aload_n rfl rfl rfl ?_
  refine s_getI rfl (by decide) (hm1.1 _) rfl ?_
  refine s_invSt (As := [.int (I_3 r1 4)]) (d1 := d - 1) rfl ⟨by decide, by decide⟩ rfl rfl rfl (Nat.le_of_ble_eq_true rfl) (by omega) H ?_
  intro v I2 h2
  exact h2
set_option maxRecDepth 20000 in
theorem r_Town_sum_24 {E : XE} {d : Nat} {I : Nat → Nat → Int32} {Q : Option Value → (Nat → Nat → Int32) → Prop} (hd : 1 ≤ d) (rv1 : Nat) (hrv1 : x_man rv1) (v2 : Int32) (s0 : Int32) (w : Int32)
    (H : (vp_in s0 6) ∧ (∀ I_2, I_2 = x_up I 72 s0.toNatClampNeg w → (∀ I_3, I_3 = x_up I_2 72 4 ((I_2 rv1 5) / (10 : Int32)) → (∀ I_4, I_4 = x_up I_3 72 5 (v2 - v2 / (10 : Int32) * (10 : Int32)) → x_P E d 53 46 [.ref 68, x_jk, x_jk, .int (3 : Int32), .int (0 : Int32), .int (0 : Int32)] [] I_4 Q)))) :
    x_P E d 53 24 [.ref 68, .ref rv1, .int v2, x_jk, x_jk, x_jk] [.int w, .int s0, .ref 72] I Q := by
  obtain ⟨o_1, H⟩ := H
  refine s_iast rfl (kd_72 _) o_1 ?_
  generalize hI_2 : x_up I 72 s0.toNatClampNeg w = I_2
  replace H := H _ hI_2.symm
  refine wp_aload_n rfl rfl rfl ?_
  refine wp_getR (v := .ref 72) rfl (by decide) (kd_68 _) rfl (kr_68_6 _) ?_
  refine wp_iconst (v := (4 : Int32)) rfl (by decide) ?_
  refine wp_aload_n rfl rfl rfl ?_
  refine s_getI rfl (by decide) (hrv1.1 _) rfl ?_
  refine wp_bipush (v := (10 : Int32)) rfl (by decide) ?_
  refine wp_idiv rfl (by decide) ?_
  refine s_iastc (k0 := 4) rfl (kd_72 _) rfl ?_
  generalize hI_3 : x_up I_2 72 4 ((I_2 rv1 5) / (10 : Int32)) = I_3
  replace H := H _ hI_3.symm
  refine wp_aload_n rfl rfl rfl ?_
  refine wp_getR (v := .ref 72) rfl (by decide) (kd_68 _) rfl (kr_68_6 _) ?_
  refine wp_iconst (v := (5 : Int32)) rfl (by decide) ?_
  refine wp_iload_n rfl rfl rfl ?_
  refine wp_bipush (v := (10 : Int32)) rfl (by decide) ?_
  refine wp_irem rfl (by decide) ?_
  refine s_iastc (k0 := 5) rfl (kd_72 _) rfl ?_
  generalize hI_4 : x_up I_3 72 5 (v2 - v2 / (10 : Int32) * (10 : Int32)) = I_4
  replace H := H _ hI_4.symm
  refine wp_iconst (v := (3 : Int32)) rfl (by decide) ?_
  refine wp_istore_n (L' := [.ref 68, .ref rv1, .int v2, .int (3 : Int32), x_jk, x_jk]) rfl rfl (by decide) rfl rfl ?_
  refine wp_iconst (v := (0 : Int32)) rfl (by decide) ?_
  refine wp_istore (L' := [.ref 68, .ref rv1, .int v2, .int (3 : Int32), .int (0 : Int32), x_jk]) rfl (by decide) rfl rfl ?_
  refine wp_iconst (v := (0 : Int32)) rfl (by decide) ?_
  refine wp_istore (L' := [.ref 68, .ref rv1, .int v2, .int (3 : Int32), .int (0 : Int32), .int (0 : Int32)]) rfl (by decide) rfl rfl ?_
  exact x_P.weak (L := [.ref 68, x_jk, x_jk, .int (3 : Int32), .int (0 : Int32), .int (0 : Int32)]) (by exact ⟨Or.inr rfl, ⟨Or.inl rfl, ⟨Or.inl rfl, ⟨Or.inr rfl, ⟨Or.inr rfl, ⟨Or.inr rfl, trivial⟩⟩⟩⟩⟩⟩) H
set_option maxRecDepth 20000 in
theorem r_Town_sum_46 {E : XE} {d : Nat} {I : Nat → Nat → Int32} {Q : Option Value → (Nat → Nat → Int32) → Prop} (hd : 1 ≤ d) (v3 : Int32) (v4 : Int32) (v5 : Int32)
    (H : (((I 68 1) ≤ v5 → Q (some (.int v3)) I) ∧ (¬ ((I 68 1) ≤ v5) → (vp_in v5 10) ∧ x_K E (d - 1) 54 [.ref 68, .int v4, .int (I 70 v5.toNatClampNeg)] I (fun v I2 => x_P E d 53 58 [.ref 68, x_jk, x_jk, x_jk, x_jk, .int v5] (v.toList ++ [.int v3]) I2 Q)))) :
    x_P E d 53 46 [.ref 68, x_jk, x_jk, .int v3, .int v4, .int v5] [] I Q := by
  refine wp_iload rfl rfl ?_
  refine wp_aload_n rfl rfl rfl ?_
  refine s_getI rfl (by decide) (kd_68 _) rfl ?_
  refine wp_icmp_ge rfl (fun c_1 => ?_) (fun c_1 => ?_)
  · replace H := H.1 c_1
    refine wp_iload_n rfl rfl rfl ?_
    exact s_iret rfl rfl rfl H
  · replace H := H.2 c_1
    refine wp_iload_n rfl rfl rfl ?_
    refine wp_aload_n rfl rfl rfl ?_
    refine wp_iload rfl rfl ?_
    refine wp_aload_n rfl rfl rfl ?_
    refine wp_getR (v := .ref 70) rfl (by decide) (kd_68 _) rfl (kr_68_3 _) ?_
    refine wp_iload rfl rfl ?_
    obtain ⟨o_2, H⟩ := H
    refine s_iald rfl (kd_70 _) o_2 ?_
    refine s_invV (As := [.int v4, .int (I 70 v5.toNatClampNeg)]) (d1 := d - 1) rfl ⟨by decide, by decide⟩ rfl rfl rfl (Nat.le_of_ble_eq_true rfl) (by omega) (kd_68 _) (by decide) rfl rfl H ?_
    intro v I2 h2
    exact x_P.weak (L := [.ref 68, x_jk, x_jk, x_jk, x_jk, .int v5]) (by exact ⟨Or.inr rfl, ⟨Or.inr rfl, ⟨Or.inr rfl, ⟨Or.inl rfl, ⟨Or.inl rfl, ⟨Or.inr rfl, trivial⟩⟩⟩⟩⟩⟩) h2
set_option maxRecDepth 20000 in
theorem r_Town_sum_58 {E : XE} {d : Nat} {I : Nat → Nat → Int32} {Q : Option Value → (Nat → Nat → Int32) → Prop} (hd : 1 ≤ d) (v5 : Int32) (s0 : Int32) (w : Int32)
    (H : ((¬ (w = 0) → vp_in v5 10)) ∧ (∀ z_3, z_3 = (if w = 0 then (0 : Int32) else (I 69 v5.toNatClampNeg)) → (vp_in v5 10) ∧ x_P E d 53 46 [.ref 68, x_jk, x_jk, .int (s0 + z_3), .int (I 70 v5.toNatClampNeg), .int (v5 + 1)] [] I Q)) :
    x_P E d 53 58 [.ref 68, x_jk, x_jk, x_jk, x_jk, .int v5] [.int w, .int s0] I Q := by
  obtain ⟨o_2, H⟩ := H
  obtain ⟨z_3, hz_3⟩ : ∃ z : Int32, z = (if w = 0 then (0 : Int32) else (I 69 v5.toNatClampNeg)) := ⟨_, rfl⟩
  replace H := H _ hz_3
  have J : x_P E d 53 65 [.ref 68, x_jk, x_jk, x_jk, x_jk, .int v5] [.int z_3, .int s0] I Q := by
    refine wp_iadd rfl ?_
    refine wp_istore_n (L' := [.ref 68, x_jk, x_jk, .int (s0 + z_3), x_jk, .int v5]) rfl rfl (by decide) rfl rfl ?_
    refine wp_aload_n rfl rfl rfl ?_
    refine wp_getR (v := .ref 70) rfl (by decide) (kd_68 _) rfl (kr_68_3 _) ?_
    refine wp_iload rfl rfl ?_
    obtain ⟨o_4, H⟩ := H
    refine s_iald rfl (kd_70 _) o_4 ?_
    refine wp_istore (L' := [.ref 68, x_jk, x_jk, .int (s0 + z_3), .int (I 70 v5.toNatClampNeg), .int v5]) rfl (by decide) rfl rfl ?_
    refine wp_iinc (v := v5 + 1) (L' := [.ref 68, x_jk, x_jk, .int (s0 + z_3), .int (I 70 v5.toNatClampNeg), .int (v5 + 1)]) rfl rfl rfl rfl rfl ?_
    refine wp_goto rfl ?_
    exact H
  refine wp_if_eq rfl (fun c_1 => ?_) (fun c_1 => ?_)
  · refine wp_iconst (v := (0 : Int32)) rfl (by decide) ?_
    exact x_P.cong rfl (by rw [show z_3 = (0 : Int32) from by rw [hz_3]; simp only [if_pos c_1]]) J
  · refine wp_aload_n rfl rfl rfl ?_
    refine wp_getR (v := .ref 69) rfl (by decide) (kd_68 _) rfl (kr_68_2 _) ?_
    refine wp_iload rfl rfl ?_
    refine s_iald rfl (kd_69 _) (o_2 c_1) ?_
    refine wp_goto rfl ?_
    exact x_P.cong rfl (by rw [show z_3 = (I 69 v5.toNatClampNeg) from by rw [hz_3]; simp only [if_neg c_1]]) J
set_option maxRecDepth 20000 in
theorem r_Town_holds_0 {E : XE} {d : Nat} {I : Nat → Nat → Int32} {Q : Option Value → (Nat → Nat → Int32) → Prop} (hd : 1 ≤ d) (a1 : Int32) (a2 : Int32)
    (H : x_P E d 54 4 [.ref 68, x_jk, .int a2, .long (0 : Int64), x_jk, .int a1, x_jk] [] I Q) :
    x_P E d 54 0 [.ref 68, .int a1, .int a2, x_jk, x_jk, x_jk, x_jk] [] I Q := by
  refine wp_lconst (v := (0 : Int64)) rfl (by decide) ?_
  refine wp_lstore_n (L' := [.ref 68, .int a1, .int a2, .long (0 : Int64), x_jk, x_jk, x_jk]) rfl rfl (by decide) rfl rfl ?_
  refine wp_iload_n rfl rfl rfl ?_
  refine wp_istore (L' := [.ref 68, .int a1, .int a2, .long (0 : Int64), x_jk, .int a1, x_jk]) rfl (by decide) rfl rfl ?_
  exact x_P.weak (L := [.ref 68, x_jk, .int a2, .long (0 : Int64), x_jk, .int a1, x_jk]) (by exact ⟨Or.inr rfl, ⟨Or.inl rfl, ⟨Or.inr rfl, ⟨Or.inr rfl, ⟨Or.inr rfl, ⟨Or.inr rfl, ⟨Or.inr rfl, trivial⟩⟩⟩⟩⟩⟩⟩) H
set_option maxRecDepth 20000 in
theorem r_Town_holds_4 {E : XE} {d : Nat} {I : Nat → Nat → Int32} {Q : Option Value → (Nat → Nat → Int32) → Prop} (hd : 1 ≤ d) (v2 : Int32) (v3 : Int64) (v5 : Int32)
    (H : ((v2 ≤ v5 → Q (some (.int (x_bi (¬ ((lg_cmp (v3 &&& (1 : Int64)) (0 : Int64)) = 0))))) I) ∧ (¬ (v2 ≤ v5) → (vp_in v5 100) ∧ (((I 71 v5.toNatClampNeg) = (-1 : Int32) → x_P E d 54 4 [.ref 68, x_jk, .int v2, .long (v3 ^^^ (1 : Int64)), x_jk, .int (v5 + 1), x_jk] [] I Q) ∧ (¬ ((I 71 v5.toNatClampNeg) = (-1 : Int32)) → (((I 71 v5.toNatClampNeg) = (-2 : Int32) → x_P E d 54 4 [.ref 68, x_jk, .int v2, .long ((v3 >>> ((1 : Int32).toInt64 &&& 63)) &&& (v3 ||| (-2 : Int64))), x_jk, .int (v5 + 1), x_jk] [] I Q) ∧ (¬ ((I 71 v5.toNatClampNeg) = (-2 : Int32)) → (((I 71 v5.toNatClampNeg) = (-3 : Int32) → x_P E d 54 4 [.ref 68, x_jk, .int v2, .long ((v3 >>> ((1 : Int32).toInt64 &&& 63)) ||| (v3 &&& (1 : Int64))), x_jk, .int (v5 + 1), x_jk] [] I Q) ∧ (¬ ((I 71 v5.toNatClampNeg) = (-3 : Int32)) → x_K E (d - 1) 56 [.ref 68, .int (I 71 v5.toNatClampNeg)] I (fun v I2 => x_P E d 54 50 [.ref 68, x_jk, .int v2, x_jk, x_jk, .int v5, x_jk] (v.toList ++ [.long (v3 <<< ((1 : Int32).toInt64 &&& 63))]) I2 Q)))))))))) :
    x_P E d 54 4 [.ref 68, x_jk, .int v2, .long v3, x_jk, .int v5, x_jk] [] I Q := by
  refine wp_iload rfl rfl ?_
  refine wp_iload_n rfl rfl rfl ?_
  refine wp_icmp_ge rfl (fun c_1 => ?_) (fun c_1 => ?_)
  · replace H := H.1 c_1
    refine wp_lload_n rfl rfl rfl ?_
    refine wp_lconst (v := (1 : Int64)) rfl (by decide) ?_
    refine wp_land rfl ?_
    refine wp_lconst (v := (0 : Int64)) rfl (by decide) ?_
    refine wp_lcmp rfl ?_
    have J : x_P E d 54 68 [.ref 68, x_jk, .int v2, .long v3, x_jk, .int v5, x_jk] [.int (x_bi (¬ ((lg_cmp (v3 &&& (1 : Int64)) (0 : Int64)) = 0)))] I Q := by
      exact s_iret rfl rfl x_bi_nar H
    refine wp_if_eq rfl (fun c_2 => ?_) (fun c_2 => ?_)
    · refine wp_iconst (v := (0 : Int32)) rfl (by decide) ?_
      exact x_P.cong rfl (by rw [show x_bi (¬ ((lg_cmp (v3 &&& (1 : Int64)) (0 : Int64)) = 0)) = (0 : Int32) from x_bi_f (fun h => h c_2)]) J
    · refine wp_iconst (v := (1 : Int32)) rfl (by decide) ?_
      refine wp_goto rfl ?_
      exact x_P.cong rfl (by rw [show x_bi (¬ ((lg_cmp (v3 &&& (1 : Int64)) (0 : Int64)) = 0)) = (1 : Int32) from x_bi_t c_2]) J
  · replace H := H.2 c_1
    refine wp_aload_n rfl rfl rfl ?_
    refine wp_getR (v := .ref 71) rfl (by decide) (kd_68 _) rfl (kr_68_4 _) ?_
    refine wp_iload rfl rfl ?_
    obtain ⟨o_3, H⟩ := H
    refine s_iald rfl (kd_71 _) o_3 ?_
    refine wp_istore (L' := [.ref 68, x_jk, .int v2, .long v3, x_jk, .int v5, .int (I 71 v5.toNatClampNeg)]) rfl (by decide) rfl rfl ?_
    refine wp_iload rfl rfl ?_
    refine wp_iconst (v := (-1 : Int32)) rfl (by decide) ?_
    refine wp_icmp_ne rfl (fun c_4 => ?_) (fun c_4 => ?_)
    · replace H := H.2 c_4
      refine wp_iload rfl rfl ?_
      refine wp_bipush (v := (-2 : Int32)) rfl (by decide) ?_
      refine wp_icmp_ne rfl (fun c_5 => ?_) (fun c_5 => ?_)
      · replace H := H.2 c_5
        refine wp_iload rfl rfl ?_
        refine wp_bipush (v := (-3 : Int32)) rfl (by decide) ?_
        refine wp_icmp_ne rfl (fun c_6 => ?_) (fun c_6 => ?_)
        · replace H := H.2 c_6
          refine wp_lload_n rfl rfl rfl ?_
          refine wp_iconst (v := (1 : Int32)) rfl (by decide) ?_
          refine wp_lshl rfl ?_
          refine wp_aload_n rfl rfl rfl ?_
          refine wp_iload rfl rfl ?_
          refine s_invV (As := [.int (I 71 v5.toNatClampNeg)]) (d1 := d - 1) rfl ⟨by decide, by decide⟩ rfl rfl rfl (Nat.le_of_ble_eq_true rfl) (by omega) (kd_68 _) (by decide) rfl rfl H ?_
          intro v I2 h2
          exact x_P.weak (L := [.ref 68, x_jk, .int v2, x_jk, x_jk, .int v5, x_jk]) (by exact ⟨Or.inr rfl, ⟨Or.inr rfl, ⟨Or.inr rfl, ⟨Or.inl rfl, ⟨Or.inr rfl, ⟨Or.inr rfl, ⟨Or.inl rfl, trivial⟩⟩⟩⟩⟩⟩⟩) h2
        · replace H := H.1 c_6
          refine wp_lload_n rfl rfl rfl ?_
          refine wp_iconst (v := (1 : Int32)) rfl (by decide) ?_
          refine wp_lshr rfl ?_
          refine wp_lload_n rfl rfl rfl ?_
          refine wp_lconst (v := (1 : Int64)) rfl (by decide) ?_
          refine wp_land rfl ?_
          refine wp_lor rfl ?_
          refine wp_lstore_n (L' := [.ref 68, x_jk, .int v2, .long ((v3 >>> ((1 : Int32).toInt64 &&& 63)) ||| (v3 &&& (1 : Int64))), x_jk, .int v5, .int (I 71 v5.toNatClampNeg)]) rfl rfl (by decide) rfl rfl ?_
          refine wp_goto rfl ?_
          refine wp_iinc (v := v5 + 1) (L' := [.ref 68, x_jk, .int v2, .long ((v3 >>> ((1 : Int32).toInt64 &&& 63)) ||| (v3 &&& (1 : Int64))), x_jk, .int (v5 + 1), .int (I 71 v5.toNatClampNeg)]) rfl rfl rfl rfl rfl ?_
          refine wp_goto rfl ?_
          exact x_P.weak (L := [.ref 68, x_jk, .int v2, .long ((v3 >>> ((1 : Int32).toInt64 &&& 63)) ||| (v3 &&& (1 : Int64))), x_jk, .int (v5 + 1), x_jk]) (by exact ⟨Or.inr rfl, ⟨Or.inr rfl, ⟨Or.inr rfl, ⟨Or.inr rfl, ⟨Or.inr rfl, ⟨Or.inr rfl, ⟨Or.inl rfl, trivial⟩⟩⟩⟩⟩⟩⟩) H
      · replace H := H.1 c_5
        refine wp_lload_n rfl rfl rfl ?_
        refine wp_iconst (v := (1 : Int32)) rfl (by decide) ?_
        refine wp_lshr rfl ?_
        refine wp_lload_n rfl rfl rfl ?_
        refine wp_ldc2 (v := (0, -2)) rfl rfl rfl ?_
        refine wp_lor rfl ?_
        refine wp_land rfl ?_
        refine wp_lstore_n (L' := [.ref 68, x_jk, .int v2, .long ((v3 >>> ((1 : Int32).toInt64 &&& 63)) &&& (v3 ||| (-2 : Int64))), x_jk, .int v5, .int (I 71 v5.toNatClampNeg)]) rfl rfl (by decide) rfl rfl ?_
        refine wp_goto rfl ?_
        refine wp_iinc (v := v5 + 1) (L' := [.ref 68, x_jk, .int v2, .long ((v3 >>> ((1 : Int32).toInt64 &&& 63)) &&& (v3 ||| (-2 : Int64))), x_jk, .int (v5 + 1), .int (I 71 v5.toNatClampNeg)]) rfl rfl rfl rfl rfl ?_
        refine wp_goto rfl ?_
        exact x_P.weak (L := [.ref 68, x_jk, .int v2, .long ((v3 >>> ((1 : Int32).toInt64 &&& 63)) &&& (v3 ||| (-2 : Int64))), x_jk, .int (v5 + 1), x_jk]) (by exact ⟨Or.inr rfl, ⟨Or.inr rfl, ⟨Or.inr rfl, ⟨Or.inr rfl, ⟨Or.inr rfl, ⟨Or.inr rfl, ⟨Or.inl rfl, trivial⟩⟩⟩⟩⟩⟩⟩) H
    · replace H := H.1 c_4
      refine wp_lload_n rfl rfl rfl ?_
      refine wp_lconst (v := (1 : Int64)) rfl (by decide) ?_
      refine wp_lxor rfl ?_
      refine wp_lstore_n (L' := [.ref 68, x_jk, .int v2, .long (v3 ^^^ (1 : Int64)), x_jk, .int v5, .int (I 71 v5.toNatClampNeg)]) rfl rfl (by decide) rfl rfl ?_
      refine wp_goto rfl ?_
      refine wp_iinc (v := v5 + 1) (L' := [.ref 68, x_jk, .int v2, .long (v3 ^^^ (1 : Int64)), x_jk, .int (v5 + 1), .int (I 71 v5.toNatClampNeg)]) rfl rfl rfl rfl rfl ?_
      refine wp_goto rfl ?_
      exact x_P.weak (L := [.ref 68, x_jk, .int v2, .long (v3 ^^^ (1 : Int64)), x_jk, .int (v5 + 1), x_jk]) (by exact ⟨Or.inr rfl, ⟨Or.inr rfl, ⟨Or.inr rfl, ⟨Or.inr rfl, ⟨Or.inr rfl, ⟨Or.inr rfl, ⟨Or.inl rfl, trivial⟩⟩⟩⟩⟩⟩⟩) H
set_option maxRecDepth 20000 in
theorem r_Town_holds_50 {E : XE} {d : Nat} {I : Nat → Nat → Int32} {Q : Option Value → (Nat → Nat → Int32) → Prop} (hd : 1 ≤ d) (v2 : Int32) (v5 : Int32) (s0 : Int64) (w : Int32)
    (H : x_P E d 54 4 [.ref 68, x_jk, .int v2, .long (s0 ||| ((x_bi (¬ (w = 0))).toInt64)), x_jk, .int (v5 + 1), x_jk] [] I Q) :
    x_P E d 54 50 [.ref 68, x_jk, .int v2, x_jk, x_jk, .int v5, x_jk] [.int w, .long s0] I Q := by
  have J : x_P E d 54 54 [.ref 68, x_jk, .int v2, x_jk, x_jk, .int v5, x_jk] [.int (x_bi (¬ (w = 0))), .long s0] I Q := by
    refine wp_i2l rfl ?_
    refine wp_lor rfl ?_
    refine wp_lstore_n (L' := [.ref 68, x_jk, .int v2, .long (s0 ||| ((x_bi (¬ (w = 0))).toInt64)), x_jk, .int v5, x_jk]) rfl rfl (by decide) rfl rfl ?_
    refine wp_iinc (v := v5 + 1) (L' := [.ref 68, x_jk, .int v2, .long (s0 ||| ((x_bi (¬ (w = 0))).toInt64)), x_jk, .int (v5 + 1), x_jk]) rfl rfl rfl rfl rfl ?_
    refine wp_goto rfl ?_
    exact H
  refine wp_if_eq rfl (fun c_1 => ?_) (fun c_1 => ?_)
  · refine wp_iconst (v := (0 : Int32)) rfl (by decide) ?_
    exact x_P.cong rfl (by rw [show x_bi (¬ (w = 0)) = (0 : Int32) from x_bi_f (fun h => h c_1)]) J
  · refine wp_iconst (v := (1 : Int32)) rfl (by decide) ?_
    refine wp_goto rfl ?_
    exact x_P.cong rfl (by rw [show x_bi (¬ (w = 0)) = (1 : Int32) from x_bi_t c_1]) J
set_option maxRecDepth 20000 in
theorem r_Town_testCode_0 {E : XE} {d : Nat} {I : Nat → Nat → Int32} {Q : Option Value → (Nat → Nat → Int32) → Prop} (hd : 1 ≤ d) (a0 : Int32) (a1 : Int32) (a2 : Int32)
    (H : Q (some (.int ((((a0 * (3 : Int32)) + a1) * (100 : Int32)) + a2))) I) :
    x_P E d 55 0 [.int a0, .int a1, .int a2] [] I Q := by
  refine wp_iload_n rfl rfl rfl ?_
  refine wp_iconst (v := (3 : Int32)) rfl (by decide) ?_
  refine wp_imul rfl ?_
  refine wp_iload_n rfl rfl rfl ?_
  refine wp_iadd rfl ?_
  refine wp_bipush (v := (100 : Int32)) rfl (by decide) ?_
  refine wp_imul rfl ?_
  refine wp_iload_n rfl rfl rfl ?_
  refine wp_iadd rfl ?_
  exact s_iret rfl rfl rfl H
set_option maxRecDepth 20000 in
theorem r_Town_isSo_0 {E : XE} {d : Nat} {I : Nat → Nat → Int32} {Q : Option Value → (Nat → Nat → Int32) → Prop} (hd : 1 ≤ d) (a1 : Int32)
    (H : (((a1 / (300 : Int32)) < 0 → Q (some (.int (0 : Int32))) I) ∧ (¬ ((a1 / (300 : Int32)) < 0) → (((a1 / (300 : Int32)) < (6 : Int32) → ((((a1 / (100 : Int32)) - (a1 / (100 : Int32)) / (3 : Int32) * (3 : Int32)) = (0 : Int32) → (vp_in (a1 / (300 : Int32)) 6) ∧ Q (some (.int (x_bi (¬ ((a1 - a1 / (100 : Int32) * (100 : Int32)) ≤ (I 72 (a1 / (300 : Int32)).toNatClampNeg)))))) I) ∧ (((a1 / (100 : Int32)) - (a1 / (100 : Int32)) / (3 : Int32) * (3 : Int32)) = (1 : Int32) → (vp_in (a1 / (300 : Int32)) 6) ∧ Q (some (.int (x_bi ((I 72 (a1 / (300 : Int32)).toNatClampNeg) = (a1 - a1 / (100 : Int32) * (100 : Int32)))))) I) ∧ (¬ ((a1 / (100 : Int32)) - (a1 / (100 : Int32)) / (3 : Int32) * (3 : Int32)) = (0 : Int32) → ¬ ((a1 / (100 : Int32)) - (a1 / (100 : Int32)) / (3 : Int32) * (3 : Int32)) = (1 : Int32) → (vp_in (a1 / (300 : Int32)) 6) ∧ Q (some (.int (x_bi (¬ ((I 72 (a1 / (300 : Int32)).toNatClampNeg) ≤ (a1 - a1 / (100 : Int32) * (100 : Int32))))))) I))) ∧ (¬ ((a1 / (300 : Int32)) < (6 : Int32)) → Q (some (.int (0 : Int32))) I))))) :
    x_P E d 56 0 [.ref 68, .int a1, x_jk, x_jk] [] I Q := by
  refine wp_iload_n rfl rfl rfl ?_
  refine wp_sipush (v := (300 : Int32)) rfl (by decide) ?_
  refine wp_idiv rfl (by decide) ?_
  refine wp_istore_n (L' := [.ref 68, .int a1, .int (a1 / (300 : Int32)), x_jk]) rfl rfl (by decide) rfl rfl ?_
  refine wp_iload_n rfl rfl rfl ?_
  refine wp_if_lt rfl (fun c_1 => ?_) (fun c_1 => ?_)
  · replace H := H.1 c_1
    refine wp_iconst (v := (0 : Int32)) rfl (by decide) ?_
    exact s_iret rfl rfl rfl H
  · replace H := H.2 c_1
    refine wp_iload_n rfl rfl rfl ?_
    refine wp_aload_n rfl rfl rfl ?_
    refine wp_getR (v := .ref 72) rfl (by decide) (kd_68 _) rfl (kr_68_6 _) ?_
    refine wp_alen (v := (6 : Int32)) rfl (kd_72 _) (by decide) rfl ?_
    refine wp_icmp_lt rfl (fun c_2 => ?_) (fun c_2 => ?_)
    · replace H := H.1 c_2
      refine wp_iload_n rfl rfl rfl ?_
      refine wp_bipush (v := (100 : Int32)) rfl (by decide) ?_
      refine wp_irem rfl (by decide) ?_
      refine wp_istore_n (L' := [.ref 68, .int a1, .int (a1 / (300 : Int32)), .int (a1 - a1 / (100 : Int32) * (100 : Int32))]) rfl rfl (by decide) rfl rfl ?_
      refine wp_iload_n rfl rfl rfl ?_
      refine wp_bipush (v := (100 : Int32)) rfl (by decide) ?_
      refine wp_idiv rfl (by decide) ?_
      refine wp_iconst (v := (3 : Int32)) rfl (by decide) ?_
      refine wp_irem rfl (by decide) ?_
      by_cases c_3 : ((a1 / (100 : Int32)) - (a1 / (100 : Int32)) / (3 : Int32) * (3 : Int32)) = (0 : Int32)
      · replace H := H.1 c_3
        refine wp_lsw (v := 0) (off := 28) (u := 23) rfl (Eq.trans (congrArg Int32.toInt c_3) rfl) rfl (by decide) ?_
        refine wp_aload_n rfl rfl rfl ?_
        refine wp_getR (v := .ref 72) rfl (by decide) (kd_68 _) rfl (kr_68_6 _) ?_
        refine wp_iload_n rfl rfl rfl ?_
        obtain ⟨o_4, H⟩ := H
        refine s_iald rfl (kd_72 _) o_4 ?_
        refine wp_iload_n rfl rfl rfl ?_
        have J : x_P E d 56 32 [.ref 68, .int a1, .int (a1 / (300 : Int32)), .int (a1 - a1 / (100 : Int32) * (100 : Int32))] [.int (x_bi (¬ ((a1 - a1 / (100 : Int32) * (100 : Int32)) ≤ (I 72 (a1 / (300 : Int32)).toNatClampNeg))))] I Q := by
          exact s_iret rfl rfl x_bi_nar H
        refine wp_icmp_ge rfl (fun c_5 => ?_) (fun c_5 => ?_)
        · refine wp_iconst (v := (0 : Int32)) rfl (by decide) ?_
          exact x_P.cong rfl (by rw [show x_bi (¬ ((a1 - a1 / (100 : Int32) * (100 : Int32)) ≤ (I 72 (a1 / (300 : Int32)).toNatClampNeg))) = (0 : Int32) from x_bi_f (fun h => h c_5)]) J
        · refine wp_iconst (v := (1 : Int32)) rfl (by decide) ?_
          refine wp_goto rfl ?_
          exact x_P.cong rfl (by rw [show x_bi (¬ ((a1 - a1 / (100 : Int32) * (100 : Int32)) ≤ (I 72 (a1 / (300 : Int32)).toNatClampNeg))) = (1 : Int32) from x_bi_t c_5]) J
      · by_cases c_6 : ((a1 / (100 : Int32)) - (a1 / (100 : Int32)) / (3 : Int32) * (3 : Int32)) = (1 : Int32)
        · replace H := H.2.1 c_6
          refine wp_lsw (v := 1) (off := 44) (u := 33) rfl (Eq.trans (congrArg Int32.toInt c_6) rfl) rfl (by decide) ?_
          refine wp_aload_n rfl rfl rfl ?_
          refine wp_getR (v := .ref 72) rfl (by decide) (kd_68 _) rfl (kr_68_6 _) ?_
          refine wp_iload_n rfl rfl rfl ?_
          obtain ⟨o_7, H⟩ := H
          refine s_iald rfl (kd_72 _) o_7 ?_
          refine wp_iload_n rfl rfl rfl ?_
          have J : x_P E d 56 42 [.ref 68, .int a1, .int (a1 / (300 : Int32)), .int (a1 - a1 / (100 : Int32) * (100 : Int32))] [.int (x_bi ((I 72 (a1 / (300 : Int32)).toNatClampNeg) = (a1 - a1 / (100 : Int32) * (100 : Int32))))] I Q := by
            exact s_iret rfl rfl x_bi_nar H
          refine wp_icmp_ne rfl (fun c_8 => ?_) (fun c_8 => ?_)
          · refine wp_iconst (v := (0 : Int32)) rfl (by decide) ?_
            exact x_P.cong rfl (by rw [show x_bi ((I 72 (a1 / (300 : Int32)).toNatClampNeg) = (a1 - a1 / (100 : Int32) * (100 : Int32))) = (0 : Int32) from x_bi_f c_8]) J
          · refine wp_iconst (v := (1 : Int32)) rfl (by decide) ?_
            refine wp_goto rfl ?_
            exact x_P.cong rfl (by rw [show x_bi ((I 72 (a1 / (300 : Int32)).toNatClampNeg) = (a1 - a1 / (100 : Int32) * (100 : Int32))) = (1 : Int32) from x_bi_t c_8]) J
        · replace H := H.2.2 c_3 c_6
          have nc_3 := x_tne (z := 0) c_3 rfl
          have nc_6 := x_tne (z := 1) c_6 rfl
          refine wp_lsw (v := (((a1 / (100 : Int32)) - (a1 / (100 : Int32)) / (3 : Int32) * (3 : Int32))).toInt) (off := 60) (u := 43) rfl rfl (by simp only [Op.lookupswitch.offset, if_neg (Ne.symm nc_3), if_neg (Ne.symm nc_6)]) (by decide) ?_
          refine wp_aload_n rfl rfl rfl ?_
          refine wp_getR (v := .ref 72) rfl (by decide) (kd_68 _) rfl (kr_68_6 _) ?_
          refine wp_iload_n rfl rfl rfl ?_
          obtain ⟨o_9, H⟩ := H
          refine s_iald rfl (kd_72 _) o_9 ?_
          refine wp_iload_n rfl rfl rfl ?_
          have J : x_P E d 56 52 [.ref 68, .int a1, .int (a1 / (300 : Int32)), .int (a1 - a1 / (100 : Int32) * (100 : Int32))] [.int (x_bi (¬ ((I 72 (a1 / (300 : Int32)).toNatClampNeg) ≤ (a1 - a1 / (100 : Int32) * (100 : Int32)))))] I Q := by
            exact s_iret rfl rfl x_bi_nar H
          refine wp_icmp_le rfl (fun c_10 => ?_) (fun c_10 => ?_)
          · refine wp_iconst (v := (0 : Int32)) rfl (by decide) ?_
            exact x_P.cong rfl (by rw [show x_bi (¬ ((I 72 (a1 / (300 : Int32)).toNatClampNeg) ≤ (a1 - a1 / (100 : Int32) * (100 : Int32)))) = (0 : Int32) from x_bi_f (fun h => h c_10)]) J
          · refine wp_iconst (v := (1 : Int32)) rfl (by decide) ?_
            refine wp_goto rfl ?_
            exact x_P.cong rfl (by rw [show x_bi (¬ ((I 72 (a1 / (300 : Int32)).toNatClampNeg) ≤ (a1 - a1 / (100 : Int32) * (100 : Int32)))) = (1 : Int32) from x_bi_t c_10]) J
    · replace H := H.2 c_2
      refine wp_iconst (v := (0 : Int32)) rfl (by decide) ?_
      exact s_iret rfl rfl rfl H
set_option maxRecDepth 20000 in
theorem r_World_copyFrom_0 {E : XE} {d : Nat} {I : Nat → Nat → Int32} {Q : Option Value → (Nat → Nat → Int32) → Prop} (hd : 1 ≤ d) 
    (H : x_P E d 58 2 [.ref 65, .ref 65, .int (0 : Int32)] [] I Q) :
    x_P E d 58 0 [.ref 65, .ref 65, x_jk] [] I Q := by
  refine wp_iconst (v := (0 : Int32)) rfl (by decide) ?_
  refine wp_istore_n (L' := [.ref 65, .ref 65, .int (0 : Int32)]) rfl rfl (by decide) rfl rfl ?_
  exact H
set_option maxRecDepth 20000 in
theorem r_World_copyFrom_2 {E : XE} {d : Nat} {I : Nat → Nat → Int32} {Q : Option Value → (Nat → Nat → Int32) → Prop} (hd : 1 ≤ d) (v2 : Int32)
    (H : (((6 : Int32) ≤ v2 → (∀ I_2, I_2 = x_up I 65 1 (I 65 1) → (∀ I_3, I_3 = x_up I_2 65 2 (I_2 65 2) → (∀ j, j < 100 → fits .byte (.int (I_3 67 j)) = true) ∧ (∀ I_5, I_5 = x_cp I_3 67 67 (100 : Int32).toNatClampNeg → (∀ I_6, I_6 = x_up I_5 65 4 (I_5 65 4) → x_K E (d - 1) 50 [.ref 68, .ref 68] I_6 (fun v I2 => x_P E d 58 41 [.ref 65, .ref 65, x_jk] (v.toList ++ []) I2 Q)))))) ∧ (¬ ((6 : Int32) ≤ v2) → (vp_in v2 6) ∧ (vp_in v2 6) ∧ x_K E (d - 1) 24 [.ref (85 + 2 * v2.toNatClampNeg), .ref (85 + 2 * v2.toNatClampNeg)] I (fun v I2 => x_P E d 58 14 [.ref 65, .ref 65, .int v2] (v.toList ++ []) I2 Q)))) :
    x_P E d 58 2 [.ref 65, .ref 65, .int v2] [] I Q := by
  refine wp_iload_n rfl rfl rfl ?_
  refine wp_bipush (v := (6 : Int32)) rfl (by decide) ?_
  refine wp_icmp_ge rfl (fun c_1 => ?_) (fun c_1 => ?_)
  · replace H := H.1 c_1
    refine wp_aload_n rfl rfl rfl ?_
    refine wp_aload_n rfl rfl rfl ?_
    refine s_getI rfl (by decide) (kd_65 _) rfl ?_
    refine s_putI rfl (by decide) (kd_65 _) rfl rfl (x_fit_int _) ?_
    generalize hI_2 : x_up I 65 1 (I 65 1) = I_2
    replace H := H _ hI_2.symm
    refine wp_aload_n rfl rfl rfl ?_
    refine wp_aload_n rfl rfl rfl ?_
    refine s_getI rfl (by decide) (kd_65 _) rfl ?_
    refine s_putI rfl (by decide) (kd_65 _) rfl rfl (x_fit_int _) ?_
    generalize hI_3 : x_up I_2 65 2 (I_2 65 2) = I_3
    replace H := H _ hI_3.symm
    refine wp_aload_n rfl rfl rfl ?_
    refine wp_getR (v := .ref 67) rfl (by decide) (kd_65 _) rfl (kr_65_3 _) ?_
    refine wp_iconst (v := (0 : Int32)) rfl (by decide) ?_
    refine wp_aload_n rfl rfl rfl ?_
    refine wp_getR (v := .ref 67) rfl (by decide) (kd_65 _) rfl (kr_65_3 _) ?_
    refine wp_iconst (v := (0 : Int32)) rfl (by decide) ?_
    refine wp_bipush (v := (100 : Int32)) rfl (by decide) ?_
    obtain ⟨o_4, H⟩ := H
    refine s_copy rfl rfl (kd_67 _) (kd_67 _) (by decide) (by decide) (by decide) (by decide) (fun _ => o_4) (Nat.le_of_ble_eq_true rfl) (by omega) ?_
    generalize hI_5 : x_cp I_3 67 67 (100 : Int32).toNatClampNeg = I_5
    replace H := H _ hI_5.symm
    refine wp_aload_n rfl rfl rfl ?_
    refine wp_aload_n rfl rfl rfl ?_
    refine s_getI rfl (by decide) (kd_65 _) rfl ?_
    refine s_putI rfl (by decide) (kd_65 _) rfl rfl (x_fit_int _) ?_
    generalize hI_6 : x_up I_5 65 4 (I_5 65 4) = I_6
    replace H := H _ hI_6.symm
    refine wp_aload_n rfl rfl rfl ?_
    refine wp_getR (v := .ref 68) rfl (by decide) (kd_65 _) rfl (kr_65_5 _) ?_
    refine wp_aload_n rfl rfl rfl ?_
    refine wp_getR (v := .ref 68) rfl (by decide) (kd_65 _) rfl (kr_65_5 _) ?_
    refine s_invV (As := [.ref 68]) (d1 := d - 1) rfl ⟨by decide, by decide⟩ rfl rfl rfl (Nat.le_of_ble_eq_true rfl) (by omega) (kd_68 _) (by decide) rfl rfl H ?_
    intro v I2 h2
    exact x_P.weak (L := [.ref 65, .ref 65, x_jk]) (by exact ⟨Or.inr rfl, ⟨Or.inr rfl, ⟨Or.inl rfl, trivial⟩⟩⟩) h2
  · replace H := H.2 c_1
    refine wp_aload_n rfl rfl rfl ?_
    refine wp_getR (v := .ref 66) rfl (by decide) (kd_65 _) rfl (kr_65_0 _) ?_
    refine wp_iload_n rfl rfl rfl ?_
    obtain ⟨o_7, H⟩ := H
    refine wp_aald (v := .ref (85 + 2 * v2.toNatClampNeg)) rfl (kd_66 _) o_7 (x_man_now (x_in_lt o_7)).2 ?_
    refine wp_aload_n rfl rfl rfl ?_
    refine wp_getR (v := .ref 66) rfl (by decide) (kd_65 _) rfl (kr_65_0 _) ?_
    refine wp_iload_n rfl rfl rfl ?_
    obtain ⟨o_8, H⟩ := H
    refine wp_aald (v := .ref (85 + 2 * v2.toNatClampNeg)) rfl (kd_66 _) o_8 (x_man_now (x_in_lt o_8)).2 ?_
    refine s_invV (As := [.ref (85 + 2 * v2.toNatClampNeg)]) (d1 := d - 1) rfl ⟨by decide, by decide⟩ rfl rfl rfl (Nat.le_of_ble_eq_true rfl) (by omega) ((x_man_now (x_in_lt o_7)).1.1 _) (by decide) rfl rfl H ?_
    intro v I2 h2
    exact h2
set_option maxRecDepth 20000 in
theorem r_World_copyFrom_14 {E : XE} {d : Nat} {I : Nat → Nat → Int32} {Q : Option Value → (Nat → Nat → Int32) → Prop} (hd : 1 ≤ d) (v2 : Int32)
    (H : x_P E d 58 2 [.ref 65, .ref 65, .int (v2 + 1)] [] I Q) :
    x_P E d 58 14 [.ref 65, .ref 65, .int v2] [] I Q := by
  refine wp_iinc (v := v2 + 1) (L' := [.ref 65, .ref 65, .int (v2 + 1)]) rfl rfl rfl rfl rfl ?_
  refine wp_goto rfl ?_
  exact H
set_option maxRecDepth 20000 in
theorem r_World_copyFrom_41 {E : XE} {d : Nat} {I : Nat → Nat → Int32} {Q : Option Value → (Nat → Nat → Int32) → Prop} (hd : 1 ≤ d) 
    (H : (∀ I_1, I_1 = x_up I 65 6 (I 65 6) → x_K E (d - 1) 47 [.ref 73, .ref 73] I_1 (fun v I2 => x_P E d 58 50 [.ref 65, .ref 65, x_jk] (v.toList ++ []) I2 Q))) :
    x_P E d 58 41 [.ref 65, .ref 65, x_jk] [] I Q := by
  refine wp_aload_n rfl rfl rfl ?_
  refine wp_aload_n rfl rfl rfl ?_
  refine s_getI rfl (by decide) (kd_65 _) rfl ?_
  refine s_putI rfl (by decide) (kd_65 _) rfl rfl (x_fit_int _) ?_
  generalize hI_1 : x_up I 65 6 (I 65 6) = I_1
  replace H := H _ hI_1.symm
  refine wp_aload_n rfl rfl rfl ?_
  refine wp_getR (v := .ref 73) rfl (by decide) (kd_65 _) rfl (kr_65_7 _) ?_
  refine wp_aload_n rfl rfl rfl ?_
  refine wp_getR (v := .ref 73) rfl (by decide) (kd_65 _) rfl (kr_65_7 _) ?_
  refine s_invV (As := [.ref 73]) (d1 := d - 1) rfl ⟨by decide, by decide⟩ rfl rfl rfl (Nat.le_of_ble_eq_true rfl) (by omega) (kd_73 _) (by decide) rfl rfl H ?_
  intro v I2 h2
  exact h2
set_option maxRecDepth 20000 in
theorem r_World_copyFrom_50 {E : XE} {d : Nat} {I : Nat → Nat → Int32} {Q : Option Value → (Nat → Nat → Int32) → Prop} (hd : 1 ≤ d) 
    (H : x_K E (d - 1) 47 [.ref 77, .ref 77] I (fun v I2 => x_P E d 58 55 [.ref 65, .ref 65, x_jk] (v.toList ++ []) I2 Q)) :
    x_P E d 58 50 [.ref 65, .ref 65, x_jk] [] I Q := by
  refine wp_aload_n rfl rfl rfl ?_
  refine wp_getR (v := .ref 77) rfl (by decide) (kd_65 _) rfl (kr_65_8 _) ?_
  refine wp_aload_n rfl rfl rfl ?_
  refine wp_getR (v := .ref 77) rfl (by decide) (kd_65 _) rfl (kr_65_8 _) ?_
  refine s_invV (As := [.ref 77]) (d1 := d - 1) rfl ⟨by decide, by decide⟩ rfl rfl rfl (Nat.le_of_ble_eq_true rfl) (by omega) (kd_77 _) (by decide) rfl rfl H ?_
  intro v I2 h2
  exact h2
set_option maxRecDepth 20000 in
theorem r_World_copyFrom_55 {E : XE} {d : Nat} {I : Nat → Nat → Int32} {Q : Option Value → (Nat → Nat → Int32) → Prop} (hd : 1 ≤ d) 
    (H : x_K E (d - 1) 47 [.ref 81, .ref 81] I (fun v I2 => x_P E d 58 60 [x_jk, x_jk, x_jk] (v.toList ++ []) I2 Q)) :
    x_P E d 58 55 [.ref 65, .ref 65, x_jk] [] I Q := by
  refine wp_aload_n rfl rfl rfl ?_
  refine wp_getR (v := .ref 81) rfl (by decide) (kd_65 _) rfl (kr_65_9 _) ?_
  refine wp_aload_n rfl rfl rfl ?_
  refine wp_getR (v := .ref 81) rfl (by decide) (kd_65 _) rfl (kr_65_9 _) ?_
  refine s_invV (As := [.ref 81]) (d1 := d - 1) rfl ⟨by decide, by decide⟩ rfl rfl rfl (Nat.le_of_ble_eq_true rfl) (by omega) (kd_81 _) (by decide) rfl rfl H ?_
  intro v I2 h2
  exact x_P.weak (L := [x_jk, x_jk, x_jk]) (by exact ⟨Or.inl rfl, ⟨Or.inl rfl, ⟨Or.inr rfl, trivial⟩⟩⟩) h2
set_option maxRecDepth 20000 in
theorem r_World_copyFrom_60 {E : XE} {d : Nat} {I : Nat → Nat → Int32} {Q : Option Value → (Nat → Nat → Int32) → Prop} (hd : 1 ≤ d) 
    (H : Q none I) :
    x_P E d 58 60 [x_jk, x_jk, x_jk] [] I Q := by
  exact s_vret rfl rfl H
set_option maxRecDepth 20000 in
theorem r_World_find_0 {E : XE} {d : Nat} {I : Nat → Nat → Int32} {Q : Option Value → (Nat → Nat → Int32) → Prop} (hd : 1 ≤ d) (a1 : Int32)
    (H : ((a1 < 0 → Q (some (.null)) I) ∧ (¬ (a1 < 0) → (((I 65 1) ≤ a1 → Q (some (.null)) I) ∧ (¬ ((I 65 1) ≤ a1) → (((6 : Int32) ≤ a1 → Q (some (.null)) I) ∧ (¬ ((6 : Int32) ≤ a1) → (vp_in a1 6) ∧ Q (some (.ref (85 + 2 * a1.toNatClampNeg))) I))))))) :
    x_P E d 59 0 [.ref 65, .int a1] [] I Q := by
  refine wp_iload_n rfl rfl rfl ?_
  refine wp_if_lt rfl (fun c_1 => ?_) (fun c_1 => ?_)
  · replace H := H.1 c_1
    refine wp_null rfl ?_
    exact s_aret rfl rfl (Or.inl rfl) H
  · replace H := H.2 c_1
    refine wp_iload_n rfl rfl rfl ?_
    refine wp_aload_n rfl rfl rfl ?_
    refine s_getI rfl (by decide) (kd_65 _) rfl ?_
    refine wp_icmp_ge rfl (fun c_2 => ?_) (fun c_2 => ?_)
    · replace H := H.1 c_2
      refine wp_null rfl ?_
      exact s_aret rfl rfl (Or.inl rfl) H
    · replace H := H.2 c_2
      refine wp_iload_n rfl rfl rfl ?_
      refine wp_bipush (v := (6 : Int32)) rfl (by decide) ?_
      refine wp_icmp_ge rfl (fun c_3 => ?_) (fun c_3 => ?_)
      · replace H := H.1 c_3
        refine wp_null rfl ?_
        exact s_aret rfl rfl (Or.inl rfl) H
      · replace H := H.2 c_3
        refine wp_aload_n rfl rfl rfl ?_
        refine wp_getR (v := .ref 66) rfl (by decide) (kd_65 _) rfl (kr_65_0 _) ?_
        refine wp_iload_n rfl rfl rfl ?_
        obtain ⟨o_4, H⟩ := H
        refine wp_aald (v := .ref (85 + 2 * a1.toNatClampNeg)) rfl (kd_66 _) o_4 (x_man_now (x_in_lt o_4)).2 ?_
        refine wp_goto rfl ?_
        exact s_aret rfl rfl (Or.inr ⟨_, rfl⟩) H
set_option maxRecDepth 20000 in
theorem r_World_allBits_0 {E : XE} {d : Nat} {I : Nat → Nat → Int32} {Q : Option Value → (Nat → Nat → Int32) → Prop} (hd : 1 ≤ d) 
    (H : Q (some (.int (((1 : Int32) <<< ((I 65 1) &&& 31)) - (1 : Int32)))) I) :
    x_P E d 60 0 [.ref 65] [] I Q := by
  refine wp_iconst (v := (1 : Int32)) rfl (by decide) ?_
  refine wp_aload_n rfl rfl rfl ?_
  refine s_getI rfl (by decide) (kd_65 _) rfl ?_
  refine wp_ishl rfl ?_
  refine wp_iconst (v := (1 : Int32)) rfl (by decide) ?_
  refine wp_isub rfl ?_
  exact s_iret rfl rfl rfl H
set_option maxRecDepth 20000 in
theorem r_World_presentBits_0 {E : XE} {d : Nat} {I : Nat → Nat → Int32} {Q : Option Value → (Nat → Nat → Int32) → Prop} (hd : 1 ≤ d) 
    (H : x_P E d 61 4 [.ref 65, .int (0 : Int32), .int (0 : Int32)] [] I Q) :
    x_P E d 61 0 [.ref 65, x_jk, x_jk] [] I Q := by
  refine wp_iconst (v := (0 : Int32)) rfl (by decide) ?_
  refine wp_istore_n (L' := [.ref 65, .int (0 : Int32), x_jk]) rfl rfl (by decide) rfl rfl ?_
  refine wp_iconst (v := (0 : Int32)) rfl (by decide) ?_
  refine wp_istore_n (L' := [.ref 65, .int (0 : Int32), .int (0 : Int32)]) rfl rfl (by decide) rfl rfl ?_
  exact H
set_option maxRecDepth 20000 in
theorem r_World_presentBits_4 {E : XE} {d : Nat} {I : Nat → Nat → Int32} {Q : Option Value → (Nat → Nat → Int32) → Prop} (hd : 1 ≤ d) (v1 : Int32) (v2 : Int32)
    (H : (((I 65 1) ≤ v2 → Q (some (.int v1)) I) ∧ (¬ ((I 65 1) ≤ v2) → (vp_in v2 6) ∧ (∀ z_4, z_4 = (if (I (85 + 2 * v2.toNatClampNeg) 7) = 0 then ((1 : Int32) <<< (v2 &&& 31)) else (0 : Int32)) → x_P E d 61 4 [.ref 65, .int (v1 ||| z_4), .int (v2 + 1)] [] I Q)))) :
    x_P E d 61 4 [.ref 65, .int v1, .int v2] [] I Q := by
  refine wp_iload_n rfl rfl rfl ?_
  refine wp_aload_n rfl rfl rfl ?_
  refine s_getI rfl (by decide) (kd_65 _) rfl ?_
  refine wp_icmp_ge rfl (fun c_1 => ?_) (fun c_1 => ?_)
  · replace H := H.1 c_1
    refine wp_iload_n rfl rfl rfl ?_
    exact s_iret rfl rfl rfl H
  · replace H := H.2 c_1
    refine wp_iload_n rfl rfl rfl ?_
    refine wp_aload_n rfl rfl rfl ?_
    refine wp_getR (v := .ref 66) rfl (by decide) (kd_65 _) rfl (kr_65_0 _) ?_
    refine wp_iload_n rfl rfl rfl ?_
    obtain ⟨o_2, H⟩ := H
    refine wp_aald (v := .ref (85 + 2 * v2.toNatClampNeg)) rfl (kd_66 _) o_2 (x_man_now (x_in_lt o_2)).2 ?_
    refine s_getI rfl (by decide) ((x_man_now (x_in_lt o_2)).1.1 _) rfl ?_
    obtain ⟨z_4, hz_4⟩ : ∃ z : Int32, z = (if (I (85 + 2 * v2.toNatClampNeg) 7) = 0 then ((1 : Int32) <<< (v2 &&& 31)) else (0 : Int32)) := ⟨_, rfl⟩
    replace H := H _ hz_4
    have J : x_P E d 61 20 [.ref 65, .int v1, .int v2] [.int z_4, .int v1] I Q := by
      refine wp_ior rfl ?_
      refine wp_istore_n (L' := [.ref 65, .int (v1 ||| z_4), .int v2]) rfl rfl (by decide) rfl rfl ?_
      refine wp_iinc (v := v2 + 1) (L' := [.ref 65, .int (v1 ||| z_4), .int (v2 + 1)]) rfl rfl rfl rfl rfl ?_
      refine wp_goto rfl ?_
      exact H
    refine wp_if_eq rfl (fun c_3 => ?_) (fun c_3 => ?_)
    · refine wp_iconst (v := (1 : Int32)) rfl (by decide) ?_
      refine wp_iload_n rfl rfl rfl ?_
      refine wp_ishl rfl ?_
      exact x_P.cong rfl (by rw [show z_4 = ((1 : Int32) <<< (v2 &&& 31)) from by rw [hz_4]; simp only [if_pos c_3]]) J
    · refine wp_iconst (v := (0 : Int32)) rfl (by decide) ?_
      refine wp_goto rfl ?_
      exact x_P.cong rfl (by rw [show z_4 = (0 : Int32) from by rw [hz_4]; simp only [if_neg c_3]]) J
