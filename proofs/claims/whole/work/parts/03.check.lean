/-- a word of the tables, by its place -/
def x_tb (c : Nat) : List Jvm.Cond := match c with
  | 0 => k2_sels lw_privs
  | 1 => tables_1_1
  | 2 => tables_1_2
  | 3 => tables_1_3
  | 4 => tables_1_4
  | _ => tables_1_5
def x_w (p : Nat) (w : Jvm.Cond) : Bool := decide ((x_tb (p / 1000))[p % 1000]? = some w)
def x_strs : List String := ["urst ", "arch ", "often ", "pkvchw", "<=>", "burst ", "starch ", "soften "]
def x_ext (e : Nat) : Option (String × String × String) := match e with
  | 0 => some ("StarchedCollars", "ABOVE", "[I")
  | 1 => some ("StarchedCollars$Actor", "NODS", "[I")
  | 2 => some ("StarchedCollars$Actor", "PREACHES", "[I")
  | 3 => some ("StarchedCollars$Actor", "TURNS", "[I")
  | 5 => some ("jdk/internal/util/Preconditions", "SIOOBE_FORMATTER", "Ljava/util/function/BiFunction;")
  | 902 => some ("java/lang/String", "COMPACT_STRINGS", "Z")
  | _ => none
def x_sf (k : Nat) : String × String := if k = 900 then ("value", "[B") else ("coder", "B")
def x_kty (a : Nat) : FieldType := if a = 101 then .byte else if a = 102 then .boolean else .int
def x_pco (ops : List XO) (i : Nat) : Nat := match ops[i]? with
  | some o => o.1
  | none => 0
def x_pc (mi i : Nat) : Nat := x_pco (x_m mi).2.2.2.2 i
def x_term (ins : Jvm.ClassFile.Instr) : Bool := match ins with
  | .goto _ => true
  | .tableswitch _ _ _ _ => true
  | .lookupswitch _ _ => true
  | .ireturn => true
  | .lreturn => true
  | .areturn => true
  | .return_ => true
  | .athrow => true
  | _ => false
def x_okc (c : String) : Bool := decide (c ≠ "java/lang/invoke/MethodHandle" ∧ c ≠ "java/lang/invoke/VarHandle")
def x_ckF (own : String) (idx a b : Nat) (ps : List Nat) : Bool :=
  match vwCl[a]?, ps with
  | some (C, T, N), [p] => decide (b < N) && x_w p (.fieldLink own idx C (T b).2.1 (T b).2.2.1) && decide ((T b).1 = C)
  | _, _ => false
def x_ckY (Y : XI) (b p3 : Nat) : Bool :=
  x_w p3 (.initialized Y.1.cls) && decide ((parseMethodDescriptor Y.1.desc).map (fun d => d.parameters.length) = some b) && x_okc Y.1.cls && decide (Y.2.2.1 ≤ 30)
def x_ckI (own : String) (ops : List XO) (pc : Nat) (ins : Jvm.ClassFile.Instr) (a b : Nat) (ps : List Nat) : Bool :=
  match ins with
  | .getfield idx => if a < 9 then x_ckF own idx a b ps else if a = 900 ∨ a = 901 then (match ps with
      | [p] => x_w p (.fieldLink own idx "java/lang/String" (x_sf a).1 (x_sf a).2)
      | _ => false) else true
  | .putfield idx => x_ckF own idx a b ps
  | .getstatic idx => (match x_ext a, ps with
      | some (C, n, d), [p] => x_w p (.fieldLink own idx C n d)
      | some _, _ => false
      | none, _ => decide (a = 999))
  | .new idx => if a = 999 then true else (match vwCl[a]?, ps with
      | some (C, _, N), [p, q, r] => x_w p (.classLink own idx C) && x_w q (.instantiable C N) && x_w r (.initialized C)
      | _, _ => false)
  | .newarray t => (match ps with
      | [p] => x_w p (.arrayClass (x_kty a)) && decide (Jvm.Op.newarray.typeOf t = x_kty a) && decide (100 ≤ a ∧ a ≤ 102)
      | _ => false)
  | .anewarray idx => (match ps with
      | [p, q] => x_w p (.classLink own idx "StarchedCollars$Man") && x_w q (.arrayOver (.object "StarchedCollars$Man"))
      | _ => false)
  | .ldc idx => (if a = 999 then true else match ps with
      | [p] => if b = 1 then (match x_strs[a - 8]? with
          | some t => x_w p (.stringRef own idx t) && decide (8 ≤ a)
          | none => false) else (match x_kv[a]? with
          | some v => x_w p (.constant own idx v.1)
          | none => false)
      | _ => false)
  | .ldc_w idx => (if a = 999 then true else match ps, x_kv[a]? with
      | [p], some v => x_w p (.constant own idx v.1)
      | _, _ => false)
  | .ldc2_w idx => (match ps, x_kv[a]? with
      | [p], some v => x_w p (.constantLong own idx v.2)
      | _, _ => false)
  | .invokevirtual idx => if a < 192 then (match ps with
      | [p0, p1, p2, p3, p4] => x_w p0 (.methodLink own idx (x_m a).1) && x_w p1 (.instanceMethod (x_m a).1) && x_w p2 (.selects (x_m a).1.cls (x_m a).1 (x_m a).1) && x_ckY (x_m a) b p3
      | _ => false) else true
  | .invokestatic idx => if a < 192 then (match ps with
      | [p0, p1, p3, p4] => x_w p0 (.methodLink own idx (x_m a).1) && x_w p1 (.static (x_m a).1) && x_ckY (x_m a) b p3
      | _ => false) else if a = 1001 then (match ps with
      | [p0, p1, p2, p3] => x_w p0 (.methodLink own idx arraycopyName) && x_w p1 (.native arraycopyName) && x_w p2 (.static arraycopyName) && x_w p3 (.initialized "java/lang/System")
      | _ => false) else true
  | .invokespecial idx => if a < 192 then (match ps with
      | [p0, p1, p3, p4] => x_w p0 (.methodLink own idx (x_m a).1) && x_w p1 (.instanceMethod (x_m a).1) && x_ckY (x_m a) b p3 && decide ((x_m a).1.name = "<init>") && decide ((x_m a).2.2.2.1 = none)
      | [p0, p1, p3, p4, _] => x_w p0 (.methodLinkNest own idx (x_m a).1 "StarchedCollars") && x_w p1 (.instanceMethod (x_m a).1) && x_ckY (x_m a) b p3 && decide ((x_m a).1.name = "<init>") && decide ((x_m a).2.2.2.1 = none)
      | _ => false) else if a = 1000 then (match ps with
      | [p0, p1, p2] => x_w p0 (.methodLink own idx Jvm.Lib.objectInit) && x_w p1 (.instanceMethod Jvm.Lib.objectInit) && x_w p2 (.code Jvm.Lib.objectInit ⟨#[0xb1]⟩ 1 none)
      | _ => false) else true
  | .if_icmp _ off => decide ((pc : Int) + off = (x_pco ops a : Int))
  | .ifCond _ off => decide ((pc : Int) + off = (x_pco ops a : Int))
  | .goto off => decide ((pc : Int) + off = (x_pco ops a : Int))
  | .ifnull off => decide ((pc : Int) + off = (x_pco ops a : Int))
  | .ifnonnull off => decide ((pc : Int) + off = (x_pco ops a : Int))
  | .tableswitch d lo hi offs => (match ps with
      | t :: ts => decide ((pc : Int) + d = (x_pco ops t : Int)) && decide (ts.length = offs.size) && decide ((ts.length : Int) = hi - lo + 1) && (ts.zip offs.toList).all (fun q => decide ((pc : Int) + q.2 = (x_pco ops q.1 : Int)))
      | _ => false)
  | .lookupswitch d prs => (match ps with
      | t :: ts => decide ((pc : Int) + d = (x_pco ops t : Int)) && decide (ts.length = prs.size) && (ts.zip prs.toList).all (fun q => decide ((pc : Int) + q.2.2 = (x_pco ops q.1 : Int))) && (prs.toList.zip (prs.toList.drop 1)).all (fun (a, next) => decide (a.1 < next.1))
      | _ => false)
  | _ => true
def x_ck1 (X : XI) (o : XO) : Bool :=
  decide (decode X.2.1 o.1 = .ok (o.2.2.1, o.2.1)) && (x_term o.2.2.1 || (match X.2.2.2.2[o.2.2.2.1]? with
    | some o' => o'.1 == o.1 + o.2.1
    | none => false)) && x_ckI X.1.cls X.2.2.2.2 o.1 o.2.2.1 o.2.2.2.2.1 o.2.2.2.2.2.1 o.2.2.2.2.2.2
def x_ckM (X : XI) : Bool := X.2.2.2.2.all (x_ck1 X)
def x_chk (X : XI) (j n : Nat) : Bool := ((X.2.2.2.2.drop j).take n).all (x_ck1 X)
theorem x_chk_app {X : XI} {j n k : Nat} (h1 : x_chk X j n = true) (h2 : (X.2.2.2.2.drop (j + n)).all (x_ck1 X) = true) : (X.2.2.2.2.drop j).all (x_ck1 X) = true := by
  have e : X.2.2.2.2.drop j = (X.2.2.2.2.drop j).take n ++ X.2.2.2.2.drop (j + n) := by
    rw [← List.drop_drop, List.take_append_drop]
  rw [e, List.all_append, h2, Bool.and_true]
  exact h1
-- law
set_option maxRecDepth 100000 in
theorem xk_0_0 : x_chk xi_0 0 40 = true := by decide +kernel
set_option maxRecDepth 100000 in
theorem xk_0_40 : x_chk xi_0 40 40 = true := by decide +kernel
set_option maxRecDepth 100000 in
theorem xk_0_80 : x_chk xi_0 80 40 = true := by decide +kernel
set_option maxRecDepth 100000 in
theorem xk_0_120 : x_chk xi_0 120 40 = true := by decide +kernel
set_option maxRecDepth 100000 in
theorem xk_0_160 : x_chk xi_0 160 40 = true := by decide +kernel
set_option maxRecDepth 100000 in
theorem xk_0_200 : x_chk xi_0 200 40 = true := by decide +kernel
set_option maxRecDepth 100000 in
theorem xk_0_240 : x_chk xi_0 240 40 = true := by decide +kernel
set_option maxRecDepth 100000 in
theorem xk_0_280 : x_chk xi_0 280 40 = true := by decide +kernel
set_option maxRecDepth 100000 in
theorem xk_0_320 : x_chk xi_0 320 40 = true := by decide +kernel
set_option maxRecDepth 100000 in
theorem xk_0_360 : x_chk xi_0 360 40 = true := by decide +kernel
set_option maxRecDepth 100000 in
theorem xk_0_400 : x_chk xi_0 400 40 = true := by decide +kernel
set_option maxRecDepth 100000 in
theorem xk_0_440 : x_chk xi_0 440 40 = true := by decide +kernel
set_option maxRecDepth 100000 in
theorem xk_0_480 : x_chk xi_0 480 40 = true := by decide +kernel
set_option maxRecDepth 100000 in
theorem xk_0_520 : x_chk xi_0 520 40 = true := by decide +kernel
set_option maxRecDepth 100000 in
theorem xk_0_560 : x_chk xi_0 560 40 = true := by decide +kernel
set_option maxRecDepth 100000 in
theorem xk_0_600 : x_chk xi_0 600 40 = true := by decide +kernel
set_option maxRecDepth 100000 in
theorem xk_0_640 : x_chk xi_0 640 40 = true := by decide +kernel
set_option maxRecDepth 100000 in
theorem xk_0_680 : x_chk xi_0 680 40 = true := by decide +kernel
set_option maxRecDepth 100000 in
theorem xk_0_720 : x_chk xi_0 720 40 = true := by decide +kernel
set_option maxRecDepth 100000 in
theorem xk_0_760 : x_chk xi_0 760 40 = true := by decide +kernel
set_option maxRecDepth 100000 in
theorem xk_0 : (xi_0.2.2.2.2.drop 0).all (x_ck1 xi_0) = true := x_chk_app (k := 0) xk_0_0 (x_chk_app (k := 0) xk_0_40 (x_chk_app (k := 0) xk_0_80 (x_chk_app (k := 0) xk_0_120 (x_chk_app (k := 0) xk_0_160 (x_chk_app (k := 0) xk_0_200 (x_chk_app (k := 0) xk_0_240 (x_chk_app (k := 0) xk_0_280 (x_chk_app (k := 0) xk_0_320 (x_chk_app (k := 0) xk_0_360 (x_chk_app (k := 0) xk_0_400 (x_chk_app (k := 0) xk_0_440 (x_chk_app (k := 0) xk_0_480 (x_chk_app (k := 0) xk_0_520 (x_chk_app (k := 0) xk_0_560 (x_chk_app (k := 0) xk_0_600 (x_chk_app (k := 0) xk_0_640 (x_chk_app (k := 0) xk_0_680 (x_chk_app (k := 0) xk_0_720 (x_chk_app (k := 0) xk_0_760 (rfl))))))))))))))))))))
set_option maxRecDepth 100000 in
theorem xc_1 : (x_tb (2226 / 1000))[2226 % 1000]? = some (.code xi_1.1 xi_1.2.1 xi_1.2.2.1 xi_1.2.2.2.1) := rfl
set_option maxRecDepth 100000 in
theorem xk_1 : (xi_1.2.2.2.2.drop 0).all (x_ck1 xi_1) = true := by decide +kernel
set_option maxRecDepth 100000 in
theorem xc_2 : (x_tb (3103 / 1000))[3103 % 1000]? = some (.code xi_2.1 xi_2.2.1 xi_2.2.2.1 xi_2.2.2.2.1) := rfl
set_option maxRecDepth 100000 in
theorem xk_2 : (xi_2.2.2.2.2.drop 0).all (x_ck1 xi_2) = true := by decide +kernel
set_option maxRecDepth 100000 in
theorem xc_3 : (x_tb (3010 / 1000))[3010 % 1000]? = some (.code xi_3.1 xi_3.2.1 xi_3.2.2.1 xi_3.2.2.2.1) := rfl
set_option maxRecDepth 100000 in
theorem xk_3 : (xi_3.2.2.2.2.drop 0).all (x_ck1 xi_3) = true := by decide +kernel
set_option maxRecDepth 100000 in
theorem xc_4 : (x_tb (2150 / 1000))[2150 % 1000]? = some (.code xi_4.1 xi_4.2.1 xi_4.2.2.1 xi_4.2.2.2.1) := rfl
set_option maxRecDepth 100000 in
theorem xk_4 : (xi_4.2.2.2.2.drop 0).all (x_ck1 xi_4) = true := by decide +kernel
set_option maxRecDepth 100000 in
theorem xc_5 : (x_tb (2040 / 1000))[2040 % 1000]? = some (.code xi_5.1 xi_5.2.1 xi_5.2.2.1 xi_5.2.2.2.1) := rfl
set_option maxRecDepth 100000 in
theorem xk_5 : (xi_5.2.2.2.2.drop 0).all (x_ck1 xi_5) = true := by decide +kernel
set_option maxRecDepth 100000 in
theorem xc_6 : (x_tb (2061 / 1000))[2061 % 1000]? = some (.code xi_6.1 xi_6.2.1 xi_6.2.2.1 xi_6.2.2.2.1) := rfl
set_option maxRecDepth 100000 in
theorem xk_6 : (xi_6.2.2.2.2.drop 0).all (x_ck1 xi_6) = true := by decide +kernel
set_option maxRecDepth 100000 in
theorem xc_7 : (x_tb (2071 / 1000))[2071 % 1000]? = some (.code xi_7.1 xi_7.2.1 xi_7.2.2.1 xi_7.2.2.2.1) := rfl
set_option maxRecDepth 100000 in
theorem xk_7 : (xi_7.2.2.2.2.drop 0).all (x_ck1 xi_7) = true := by decide +kernel
set_option maxRecDepth 100000 in
theorem xc_8 : (x_tb (2136 / 1000))[2136 % 1000]? = some (.code xi_8.1 xi_8.2.1 xi_8.2.2.1 xi_8.2.2.2.1) := rfl
set_option maxRecDepth 100000 in
theorem xk_8 : (xi_8.2.2.2.2.drop 0).all (x_ck1 xi_8) = true := by decide +kernel
set_option maxRecDepth 100000 in
theorem xc_9 : (x_tb (2140 / 1000))[2140 % 1000]? = some (.code xi_9.1 xi_9.2.1 xi_9.2.2.1 xi_9.2.2.2.1) := rfl
set_option maxRecDepth 100000 in
theorem xk_9 : (xi_9.2.2.2.2.drop 0).all (x_ck1 xi_9) = true := by decide +kernel
set_option maxRecDepth 100000 in
theorem xc_10 : (x_tb (2065 / 1000))[2065 % 1000]? = some (.code xi_10.1 xi_10.2.1 xi_10.2.2.1 xi_10.2.2.2.1) := rfl
set_option maxRecDepth 100000 in
theorem xk_10 : (xi_10.2.2.2.2.drop 0).all (x_ck1 xi_10) = true := by decide +kernel
set_option maxRecDepth 100000 in
theorem xc_11 : (x_tb (2075 / 1000))[2075 % 1000]? = some (.code xi_11.1 xi_11.2.1 xi_11.2.2.1 xi_11.2.2.2.1) := rfl
set_option maxRecDepth 100000 in
theorem xk_11 : (xi_11.2.2.2.2.drop 0).all (x_ck1 xi_11) = true := by decide +kernel
set_option maxRecDepth 100000 in
theorem xc_12 : (x_tb (2081 / 1000))[2081 % 1000]? = some (.code xi_12.1 xi_12.2.1 xi_12.2.2.1 xi_12.2.2.2.1) := rfl
set_option maxRecDepth 100000 in
theorem xk_12 : (xi_12.2.2.2.2.drop 0).all (x_ck1 xi_12) = true := by decide +kernel
set_option maxRecDepth 100000 in
theorem xc_13 : (x_tb (2078 / 1000))[2078 % 1000]? = some (.code xi_13.1 xi_13.2.1 xi_13.2.2.1 xi_13.2.2.2.1) := rfl
set_option maxRecDepth 100000 in
theorem xk_13 : (xi_13.2.2.2.2.drop 0).all (x_ck1 xi_13) = true := by decide +kernel
set_option maxRecDepth 100000 in
theorem xc_14 : (x_tb (2147 / 1000))[2147 % 1000]? = some (.code xi_14.1 xi_14.2.1 xi_14.2.2.1 xi_14.2.2.2.1) := rfl
set_option maxRecDepth 100000 in
theorem xk_14 : (xi_14.2.2.2.2.drop 0).all (x_ck1 xi_14) = true := by decide +kernel
set_option maxRecDepth 100000 in
theorem xc_15 : (x_tb (2144 / 1000))[2144 % 1000]? = some (.code xi_15.1 xi_15.2.1 xi_15.2.2.1 xi_15.2.2.2.1) := rfl
set_option maxRecDepth 100000 in
theorem xk_15 : (xi_15.2.2.2.2.drop 0).all (x_ck1 xi_15) = true := by decide +kernel
set_option maxRecDepth 100000 in
theorem xc_16 : (x_tb (2154 / 1000))[2154 % 1000]? = some (.code xi_16.1 xi_16.2.1 xi_16.2.2.1 xi_16.2.2.2.1) := rfl
set_option maxRecDepth 100000 in
theorem xk_16 : (xi_16.2.2.2.2.drop 0).all (x_ck1 xi_16) = true := by decide +kernel
set_option maxRecDepth 100000 in
theorem xc_17 : (x_tb (2086 / 1000))[2086 % 1000]? = some (.code xi_17.1 xi_17.2.1 xi_17.2.2.1 xi_17.2.2.2.1) := rfl
set_option maxRecDepth 100000 in
theorem xk_17 : (xi_17.2.2.2.2.drop 0).all (x_ck1 xi_17) = true := by decide +kernel
set_option maxRecDepth 100000 in
theorem xc_18 : (x_tb (1216 / 1000))[1216 % 1000]? = some (.code xi_18.1 xi_18.2.1 xi_18.2.2.1 xi_18.2.2.2.1) := rfl
set_option maxRecDepth 100000 in
theorem xk_18 : (xi_18.2.2.2.2.drop 0).all (x_ck1 xi_18) = true := by decide +kernel
set_option maxRecDepth 100000 in
theorem xc_19 : (x_tb (3212 / 1000))[3212 % 1000]? = some (.code xi_19.1 xi_19.2.1 xi_19.2.2.1 xi_19.2.2.2.1) := rfl
set_option maxRecDepth 100000 in
theorem xk_19 : (xi_19.2.2.2.2.drop 0).all (x_ck1 xi_19) = true := by decide +kernel
set_option maxRecDepth 100000 in
theorem xc_20 : (x_tb (3218 / 1000))[3218 % 1000]? = some (.code xi_20.1 xi_20.2.1 xi_20.2.2.1 xi_20.2.2.2.1) := rfl
set_option maxRecDepth 100000 in
theorem xk_20_0 : x_chk xi_20 0 40 = true := by decide +kernel
set_option maxRecDepth 100000 in
theorem xk_20_40 : x_chk xi_20 40 40 = true := by decide +kernel
set_option maxRecDepth 100000 in
theorem xk_20_80 : x_chk xi_20 80 40 = true := by decide +kernel
set_option maxRecDepth 100000 in
theorem xk_20_120 : x_chk xi_20 120 40 = true := by decide +kernel
set_option maxRecDepth 100000 in
theorem xk_20 : (xi_20.2.2.2.2.drop 0).all (x_ck1 xi_20) = true := x_chk_app (k := 0) xk_20_0 (x_chk_app (k := 0) xk_20_40 (x_chk_app (k := 0) xk_20_80 (x_chk_app (k := 0) xk_20_120 (rfl))))
set_option maxRecDepth 100000 in
theorem xc_21 : (x_tb (3222 / 1000))[3222 % 1000]? = some (.code xi_21.1 xi_21.2.1 xi_21.2.2.1 xi_21.2.2.2.1) := rfl
set_option maxRecDepth 100000 in
theorem xk_21 : (xi_21.2.2.2.2.drop 0).all (x_ck1 xi_21) = true := by decide +kernel
set_option maxRecDepth 100000 in
theorem xc_22 : (x_tb (1093 / 1000))[1093 % 1000]? = some (.code xi_22.1 xi_22.2.1 xi_22.2.2.1 xi_22.2.2.2.1) := rfl
set_option maxRecDepth 100000 in
theorem xk_22 : (xi_22.2.2.2.2.drop 0).all (x_ck1 xi_22) = true := by decide +kernel
set_option maxRecDepth 100000 in
theorem xc_23 : (x_tb (2210 / 1000))[2210 % 1000]? = some (.code xi_23.1 xi_23.2.1 xi_23.2.2.1 xi_23.2.2.2.1) := rfl
set_option maxRecDepth 100000 in
theorem xk_23 : (xi_23.2.2.2.2.drop 0).all (x_ck1 xi_23) = true := by decide +kernel
set_option maxRecDepth 100000 in
theorem xc_24 : (x_tb (3055 / 1000))[3055 % 1000]? = some (.code xi_24.1 xi_24.2.1 xi_24.2.2.1 xi_24.2.2.2.1) := rfl
set_option maxRecDepth 100000 in
theorem xk_24 : (xi_24.2.2.2.2.drop 0).all (x_ck1 xi_24) = true := by decide +kernel
set_option maxRecDepth 100000 in
theorem xc_25 : (x_tb (3014 / 1000))[3014 % 1000]? = some (.code xi_25.1 xi_25.2.1 xi_25.2.2.1 xi_25.2.2.2.1) := rfl
set_option maxRecDepth 100000 in
theorem xk_25 : (xi_25.2.2.2.2.drop 0).all (x_ck1 xi_25) = true := by decide +kernel
set_option maxRecDepth 100000 in
theorem xc_26 : (x_tb (3043 / 1000))[3043 % 1000]? = some (.code xi_26.1 xi_26.2.1 xi_26.2.2.1 xi_26.2.2.2.1) := rfl
set_option maxRecDepth 100000 in
theorem xk_26 : (xi_26.2.2.2.2.drop 0).all (x_ck1 xi_26) = true := by decide +kernel
set_option maxRecDepth 100000 in
theorem xc_27 : (x_tb (3002 / 1000))[3002 % 1000]? = some (.code xi_27.1 xi_27.2.1 xi_27.2.2.1 xi_27.2.2.2.1) := rfl
set_option maxRecDepth 100000 in
theorem xk_27 : (xi_27.2.2.2.2.drop 0).all (x_ck1 xi_27) = true := by decide +kernel
set_option maxRecDepth 100000 in
theorem xc_28 : (x_tb (3064 / 1000))[3064 % 1000]? = some (.code xi_28.1 xi_28.2.1 xi_28.2.2.1 xi_28.2.2.2.1) := rfl
set_option maxRecDepth 100000 in
theorem xk_28 : (xi_28.2.2.2.2.drop 0).all (x_ck1 xi_28) = true := by decide +kernel
set_option maxRecDepth 100000 in
theorem xc_29 : (x_tb (1231 / 1000))[1231 % 1000]? = some (.code xi_29.1 xi_29.2.1 xi_29.2.2.1 xi_29.2.2.2.1) := rfl
set_option maxRecDepth 100000 in
theorem xk_29 : (xi_29.2.2.2.2.drop 0).all (x_ck1 xi_29) = true := by decide +kernel
set_option maxRecDepth 100000 in
theorem xc_30 : (x_tb (3100 / 1000))[3100 % 1000]? = some (.code xi_30.1 xi_30.2.1 xi_30.2.2.1 xi_30.2.2.2.1) := rfl
set_option maxRecDepth 100000 in
theorem xk_30 : (xi_30.2.2.2.2.drop 0).all (x_ck1 xi_30) = true := by decide +kernel
set_option maxRecDepth 100000 in
theorem xc_31 : (x_tb (3109 / 1000))[3109 % 1000]? = some (.code xi_31.1 xi_31.2.1 xi_31.2.2.1 xi_31.2.2.2.1) := rfl
set_option maxRecDepth 100000 in
theorem xk_31 : (xi_31.2.2.2.2.drop 0).all (x_ck1 xi_31) = true := by decide +kernel
set_option maxRecDepth 100000 in
theorem xc_32 : (x_tb (3115 / 1000))[3115 % 1000]? = some (.code xi_32.1 xi_32.2.1 xi_32.2.2.1 xi_32.2.2.2.1) := rfl
set_option maxRecDepth 100000 in
theorem xk_32 : (xi_32.2.2.2.2.drop 0).all (x_ck1 xi_32) = true := by decide +kernel
set_option maxRecDepth 100000 in
theorem xc_33 : (x_tb (3119 / 1000))[3119 % 1000]? = some (.code xi_33.1 xi_33.2.1 xi_33.2.2.1 xi_33.2.2.2.1) := rfl
set_option maxRecDepth 100000 in
theorem xk_33 : (xi_33.2.2.2.2.drop 0).all (x_ck1 xi_33) = true := by decide +kernel
set_option maxRecDepth 100000 in
theorem xc_34 : (x_tb (1190 / 1000))[1190 % 1000]? = some (.code xi_34.1 xi_34.2.1 xi_34.2.2.1 xi_34.2.2.2.1) := rfl
set_option maxRecDepth 100000 in
theorem xk_34 : (xi_34.2.2.2.2.drop 0).all (x_ck1 xi_34) = true := by decide +kernel
set_option maxRecDepth 100000 in
theorem xc_35 : (x_tb (2034 / 1000))[2034 % 1000]? = some (.code xi_35.1 xi_35.2.1 xi_35.2.2.1 xi_35.2.2.2.1) := rfl
set_option maxRecDepth 100000 in
theorem xk_35 : (xi_35.2.2.2.2.drop 0).all (x_ck1 xi_35) = true := by decide +kernel
set_option maxRecDepth 100000 in
theorem xc_36 : (x_tb (2048 / 1000))[2048 % 1000]? = some (.code xi_36.1 xi_36.2.1 xi_36.2.2.1 xi_36.2.2.2.1) := rfl
set_option maxRecDepth 100000 in
theorem xk_36_0 : x_chk xi_36 0 40 = true := by decide +kernel
set_option maxRecDepth 100000 in
theorem xk_36_40 : x_chk xi_36 40 40 = true := by decide +kernel
set_option maxRecDepth 100000 in
theorem xk_36 : (xi_36.2.2.2.2.drop 0).all (x_ck1 xi_36) = true := x_chk_app (k := 0) xk_36_0 (x_chk_app (k := 0) xk_36_40 (rfl))
set_option maxRecDepth 100000 in
theorem xc_37 : (x_tb (2115 / 1000))[2115 % 1000]? = some (.code xi_37.1 xi_37.2.1 xi_37.2.2.1 xi_37.2.2.2.1) := rfl
set_option maxRecDepth 100000 in
theorem xk_37 : (xi_37.2.2.2.2.drop 0).all (x_ck1 xi_37) = true := by decide +kernel
set_option maxRecDepth 100000 in
theorem xc_38 : (x_tb (2119 / 1000))[2119 % 1000]? = some (.code xi_38.1 xi_38.2.1 xi_38.2.2.1 xi_38.2.2.2.1) := rfl
set_option maxRecDepth 100000 in
theorem xk_38 : (xi_38.2.2.2.2.drop 0).all (x_ck1 xi_38) = true := by decide +kernel
set_option maxRecDepth 100000 in
theorem xc_39 : (x_tb (2123 / 1000))[2123 % 1000]? = some (.code xi_39.1 xi_39.2.1 xi_39.2.2.1 xi_39.2.2.2.1) := rfl
set_option maxRecDepth 100000 in
theorem xk_39 : (xi_39.2.2.2.2.drop 0).all (x_ck1 xi_39) = true := by decide +kernel
set_option maxRecDepth 100000 in
theorem xc_40 : (x_tb (2131 / 1000))[2131 % 1000]? = some (.code xi_40.1 xi_40.2.1 xi_40.2.2.1 xi_40.2.2.2.1) := rfl
set_option maxRecDepth 100000 in
theorem xk_40_0 : x_chk xi_40 0 40 = true := by decide +kernel
set_option maxRecDepth 100000 in
theorem xk_40_40 : x_chk xi_40 40 40 = true := by decide +kernel
set_option maxRecDepth 100000 in
theorem xk_40 : (xi_40.2.2.2.2.drop 0).all (x_ck1 xi_40) = true := x_chk_app (k := 0) xk_40_0 (x_chk_app (k := 0) xk_40_40 (rfl))
set_option maxRecDepth 100000 in
theorem xc_41 : (x_tb (2109 / 1000))[2109 % 1000]? = some (.code xi_41.1 xi_41.2.1 xi_41.2.2.1 xi_41.2.2.2.1) := rfl
set_option maxRecDepth 100000 in
theorem xk_41_0 : x_chk xi_41 0 40 = true := by decide +kernel
set_option maxRecDepth 100000 in
theorem xk_41_40 : x_chk xi_41 40 40 = true := by decide +kernel
set_option maxRecDepth 100000 in
theorem xk_41 : (xi_41.2.2.2.2.drop 0).all (x_ck1 xi_41) = true := x_chk_app (k := 0) xk_41_0 (x_chk_app (k := 0) xk_41_40 (rfl))
set_option maxRecDepth 100000 in
theorem xc_42 : (x_tb (2052 / 1000))[2052 % 1000]? = some (.code xi_42.1 xi_42.2.1 xi_42.2.2.1 xi_42.2.2.2.1) := rfl
set_option maxRecDepth 100000 in
theorem xk_42 : (xi_42.2.2.2.2.drop 0).all (x_ck1 xi_42) = true := by decide +kernel
set_option maxRecDepth 100000 in
theorem xc_43 : (x_tb (2057 / 1000))[2057 % 1000]? = some (.code xi_43.1 xi_43.2.1 xi_43.2.2.1 xi_43.2.2.2.1) := rfl
set_option maxRecDepth 100000 in
theorem xk_43 : (xi_43.2.2.2.2.drop 0).all (x_ck1 xi_43) = true := by decide +kernel
set_option maxRecDepth 100000 in
theorem xc_44 : (x_tb (1071 / 1000))[1071 % 1000]? = some (.code xi_44.1 xi_44.2.1 xi_44.2.2.1 xi_44.2.2.2.1) := rfl
set_option maxRecDepth 100000 in
theorem xk_44 : (xi_44.2.2.2.2.drop 0).all (x_ck1 xi_44) = true := by decide +kernel
set_option maxRecDepth 100000 in
theorem xc_45 : (x_tb (3147 / 1000))[3147 % 1000]? = some (.code xi_45.1 xi_45.2.1 xi_45.2.2.1 xi_45.2.2.2.1) := rfl
set_option maxRecDepth 100000 in
theorem xk_45 : (xi_45.2.2.2.2.drop 0).all (x_ck1 xi_45) = true := by decide +kernel
set_option maxRecDepth 100000 in
theorem xc_46 : (x_tb (3143 / 1000))[3143 % 1000]? = some (.code xi_46.1 xi_46.2.1 xi_46.2.2.1 xi_46.2.2.2.1) := rfl
set_option maxRecDepth 100000 in
theorem xk_46 : (xi_46.2.2.2.2.drop 0).all (x_ck1 xi_46) = true := by decide +kernel
set_option maxRecDepth 100000 in
theorem xc_47 : (x_tb (4011 / 1000))[4011 % 1000]? = some (.code xi_47.1 xi_47.2.1 xi_47.2.2.1 xi_47.2.2.2.1) := rfl
set_option maxRecDepth 100000 in
theorem xk_47 : (xi_47.2.2.2.2.drop 0).all (x_ck1 xi_47) = true := by decide +kernel
set_option maxRecDepth 100000 in
theorem xc_48 : (x_tb (1038 / 1000))[1038 % 1000]? = some (.code xi_48.1 xi_48.2.1 xi_48.2.2.1 xi_48.2.2.2.1) := rfl
set_option maxRecDepth 100000 in
theorem xk_48 : (xi_48.2.2.2.2.drop 0).all (x_ck1 xi_48) = true := by decide +kernel
set_option maxRecDepth 100000 in
theorem xc_49 : (x_tb (2044 / 1000))[2044 % 1000]? = some (.code xi_49.1 xi_49.2.1 xi_49.2.2.1 xi_49.2.2.2.1) := rfl
set_option maxRecDepth 100000 in
theorem xk_49 : (xi_49.2.2.2.2.drop 0).all (x_ck1 xi_49) = true := by decide +kernel
set_option maxRecDepth 100000 in
theorem xc_50 : (x_tb (2201 / 1000))[2201 % 1000]? = some (.code xi_50.1 xi_50.2.1 xi_50.2.2.1 xi_50.2.2.2.1) := rfl
set_option maxRecDepth 100000 in
theorem xk_50 : (xi_50.2.2.2.2.drop 0).all (x_ck1 xi_50) = true := by decide +kernel
set_option maxRecDepth 100000 in
theorem xc_51 : (x_tb (2127 / 1000))[2127 % 1000]? = some (.code xi_51.1 xi_51.2.1 xi_51.2.2.1 xi_51.2.2.2.1) := rfl
set_option maxRecDepth 100000 in
theorem xk_51 : (xi_51.2.2.2.2.drop 0).all (x_ck1 xi_51) = true := by decide +kernel
set_option maxRecDepth 100000 in
theorem xc_52 : (x_tb (2197 / 1000))[2197 % 1000]? = some (.code xi_52.1 xi_52.2.1 xi_52.2.2.1 xi_52.2.2.2.1) := rfl
set_option maxRecDepth 100000 in
theorem xk_52 : (xi_52.2.2.2.2.drop 0).all (x_ck1 xi_52) = true := by decide +kernel
set_option maxRecDepth 100000 in
theorem xc_53 : (x_tb (2223 / 1000))[2223 % 1000]? = some (.code xi_53.1 xi_53.2.1 xi_53.2.2.1 xi_53.2.2.2.1) := rfl
set_option maxRecDepth 100000 in
theorem xk_53_0 : x_chk xi_53 0 40 = true := by decide +kernel
set_option maxRecDepth 100000 in
theorem xk_53_40 : x_chk xi_53 40 40 = true := by decide +kernel
set_option maxRecDepth 100000 in
theorem xk_53 : (xi_53.2.2.2.2.drop 0).all (x_ck1 xi_53) = true := x_chk_app (k := 0) xk_53_0 (x_chk_app (k := 0) xk_53_40 (rfl))
set_option maxRecDepth 100000 in
theorem xc_54 : (x_tb (2233 / 1000))[2233 % 1000]? = some (.code xi_54.1 xi_54.2.1 xi_54.2.2.1 xi_54.2.2.2.1) := rfl
set_option maxRecDepth 100000 in
theorem xk_54_0 : x_chk xi_54 0 40 = true := by decide +kernel
set_option maxRecDepth 100000 in
theorem xk_54_40 : x_chk xi_54 40 40 = true := by decide +kernel
set_option maxRecDepth 100000 in
theorem xk_54 : (xi_54.2.2.2.2.drop 0).all (x_ck1 xi_54) = true := x_chk_app (k := 0) xk_54_0 (x_chk_app (k := 0) xk_54_40 (rfl))
set_option maxRecDepth 100000 in
theorem xc_55 : (x_tb (2193 / 1000))[2193 % 1000]? = some (.code xi_55.1 xi_55.2.1 xi_55.2.2.1 xi_55.2.2.2.1) := rfl
set_option maxRecDepth 100000 in
theorem xk_55 : (xi_55.2.2.2.2.drop 0).all (x_ck1 xi_55) = true := by decide +kernel
set_option maxRecDepth 100000 in
theorem xc_56 : (x_tb (2238 / 1000))[2238 % 1000]? = some (.code xi_56.1 xi_56.2.1 xi_56.2.2.1 xi_56.2.2.2.1) := rfl
set_option maxRecDepth 100000 in
theorem xk_56 : (xi_56.2.2.2.2.drop 0).all (x_ck1 xi_56) = true := by decide +kernel
set_option maxRecDepth 100000 in
theorem xc_57 : (x_tb (1030 / 1000))[1030 % 1000]? = some (.code xi_57.1 xi_57.2.1 xi_57.2.2.1 xi_57.2.2.2.1) := rfl
set_option maxRecDepth 100000 in
theorem xk_57 : (xi_57.2.2.2.2.drop 0).all (x_ck1 xi_57) = true := by decide +kernel
set_option maxRecDepth 100000 in
theorem xc_58 : (x_tb (4004 / 1000))[4004 % 1000]? = some (.code xi_58.1 xi_58.2.1 xi_58.2.2.1 xi_58.2.2.2.1) := rfl
set_option maxRecDepth 100000 in
theorem xk_58_0 : x_chk xi_58 0 40 = true := by decide +kernel
set_option maxRecDepth 100000 in
theorem xk_58_40 : x_chk xi_58 40 40 = true := by decide +kernel
set_option maxRecDepth 100000 in
theorem xk_58 : (xi_58.2.2.2.2.drop 0).all (x_ck1 xi_58) = true := x_chk_app (k := 0) xk_58_0 (x_chk_app (k := 0) xk_58_40 (rfl))
set_option maxRecDepth 100000 in
theorem xc_59 : (x_tb (2218 / 1000))[2218 % 1000]? = some (.code xi_59.1 xi_59.2.1 xi_59.2.2.1 xi_59.2.2.2.1) := rfl
set_option maxRecDepth 100000 in
theorem xk_59 : (xi_59.2.2.2.2.drop 0).all (x_ck1 xi_59) = true := by decide +kernel
set_option maxRecDepth 100000 in
theorem xc_60 : (x_tb (3072 / 1000))[3072 % 1000]? = some (.code xi_60.1 xi_60.2.1 xi_60.2.2.1 xi_60.2.2.2.1) := rfl
set_option maxRecDepth 100000 in
theorem xk_60 : (xi_60.2.2.2.2.drop 0).all (x_ck1 xi_60) = true := by decide +kernel
set_option maxRecDepth 100000 in
theorem xc_61 : (x_tb (3076 / 1000))[3076 % 1000]? = some (.code xi_61.1 xi_61.2.1 xi_61.2.2.1 xi_61.2.2.2.1) := rfl
set_option maxRecDepth 100000 in
theorem xk_61 : (xi_61.2.2.2.2.drop 0).all (x_ck1 xi_61) = true := by decide +kernel
set_option maxRecDepth 100000 in
theorem xc_62 : (x_tb (1022 / 1000))[1022 % 1000]? = some (.code xi_62.1 xi_62.2.1 xi_62.2.2.1 xi_62.2.2.2.1) := rfl
set_option maxRecDepth 100000 in
theorem xk_62 : (xi_62.2.2.2.2.drop 0).all (x_ck1 xi_62) = true := by decide +kernel
set_option maxRecDepth 100000 in
theorem xc_63 : (x_tb (2023 / 1000))[2023 % 1000]? = some (.code xi_63.1 xi_63.2.1 xi_63.2.2.1 xi_63.2.2.2.1) := rfl
set_option maxRecDepth 100000 in
theorem xk_63 : (xi_63.2.2.2.2.drop 0).all (x_ck1 xi_63) = true := by decide +kernel
set_option maxRecDepth 100000 in
theorem xc_64 : (x_tb (2030 / 1000))[2030 % 1000]? = some (.code xi_64.1 xi_64.2.1 xi_64.2.2.1 xi_64.2.2.2.1) := rfl
set_option maxRecDepth 100000 in
theorem xk_64 : (xi_64.2.2.2.2.drop 0).all (x_ck1 xi_64) = true := by decide +kernel
set_option maxRecDepth 100000 in
theorem xc_65 : (x_tb (2206 / 1000))[2206 % 1000]? = some (.code xi_65.1 xi_65.2.1 xi_65.2.2.1 xi_65.2.2.2.1) := rfl
set_option maxRecDepth 100000 in
theorem xk_65 : (xi_65.2.2.2.2.drop 0).all (x_ck1 xi_65) = true := by decide +kernel
set_option maxRecDepth 100000 in
theorem xc_66 : (x_tb (2214 / 1000))[2214 % 1000]? = some (.code xi_66.1 xi_66.2.1 xi_66.2.2.1 xi_66.2.2.2.1) := rfl
set_option maxRecDepth 100000 in
theorem xk_66_0 : x_chk xi_66 0 40 = true := by decide +kernel
set_option maxRecDepth 100000 in
theorem xk_66_40 : x_chk xi_66 40 40 = true := by decide +kernel
set_option maxRecDepth 100000 in
theorem xk_66 : (xi_66.2.2.2.2.drop 0).all (x_ck1 xi_66) = true := x_chk_app (k := 0) xk_66_0 (x_chk_app (k := 0) xk_66_40 (rfl))
set_option maxRecDepth 100000 in
theorem xc_67 : (x_tb (3023 / 1000))[3023 % 1000]? = some (.code xi_67.1 xi_67.2.1 xi_67.2.2.1 xi_67.2.2.2.1) := rfl
set_option maxRecDepth 100000 in
theorem xk_67 : (xi_67.2.2.2.2.drop 0).all (x_ck1 xi_67) = true := by decide +kernel
set_option maxRecDepth 100000 in
theorem xc_68 : (x_tb (3027 / 1000))[3027 % 1000]? = some (.code xi_68.1 xi_68.2.1 xi_68.2.2.1 xi_68.2.2.2.1) := rfl
set_option maxRecDepth 100000 in
theorem xk_68 : (xi_68.2.2.2.2.drop 0).all (x_ck1 xi_68) = true := by decide +kernel
set_option maxRecDepth 100000 in
theorem xc_69 : (x_tb (3031 / 1000))[3031 % 1000]? = some (.code xi_69.1 xi_69.2.1 xi_69.2.2.1 xi_69.2.2.2.1) := rfl
set_option maxRecDepth 100000 in
theorem xk_69 : (xi_69.2.2.2.2.drop 0).all (x_ck1 xi_69) = true := by decide +kernel
set_option maxRecDepth 100000 in
theorem xc_70 : (x_tb (3035 / 1000))[3035 % 1000]? = some (.code xi_70.1 xi_70.2.1 xi_70.2.2.1 xi_70.2.2.2.1) := rfl
set_option maxRecDepth 100000 in
theorem xk_70 : (xi_70.2.2.2.2.drop 0).all (x_ck1 xi_70) = true := by decide +kernel
set_option maxRecDepth 100000 in
theorem xc_71 : (x_tb (3039 / 1000))[3039 % 1000]? = some (.code xi_71.1 xi_71.2.1 xi_71.2.2.1 xi_71.2.2.2.1) := rfl
set_option maxRecDepth 100000 in
theorem xk_71 : (xi_71.2.2.2.2.drop 0).all (x_ck1 xi_71) = true := by decide +kernel
set_option maxRecDepth 100000 in
theorem xc_72 : (x_tb (3047 / 1000))[3047 % 1000]? = some (.code xi_72.1 xi_72.2.1 xi_72.2.2.1 xi_72.2.2.2.1) := rfl
set_option maxRecDepth 100000 in
theorem xk_72 : (xi_72.2.2.2.2.drop 0).all (x_ck1 xi_72) = true := by decide +kernel
set_option maxRecDepth 100000 in
theorem xc_73 : (x_tb (3084 / 1000))[3084 % 1000]? = some (.code xi_73.1 xi_73.2.1 xi_73.2.2.1 xi_73.2.2.2.1) := rfl
set_option maxRecDepth 100000 in
theorem xk_73 : (xi_73.2.2.2.2.drop 0).all (x_ck1 xi_73) = true := by decide +kernel
set_option maxRecDepth 100000 in
theorem xc_74 : (x_tb (3088 / 1000))[3088 % 1000]? = some (.code xi_74.1 xi_74.2.1 xi_74.2.2.1 xi_74.2.2.2.1) := rfl
set_option maxRecDepth 100000 in
theorem xk_74 : (xi_74.2.2.2.2.drop 0).all (x_ck1 xi_74) = true := by decide +kernel
set_option maxRecDepth 100000 in
theorem xc_75 : (x_tb (3092 / 1000))[3092 % 1000]? = some (.code xi_75.1 xi_75.2.1 xi_75.2.2.1 xi_75.2.2.2.1) := rfl
set_option maxRecDepth 100000 in
theorem xk_75 : (xi_75.2.2.2.2.drop 0).all (x_ck1 xi_75) = true := by decide +kernel
set_option maxRecDepth 100000 in
theorem xc_76 : (x_tb (3096 / 1000))[3096 % 1000]? = some (.code xi_76.1 xi_76.2.1 xi_76.2.2.1 xi_76.2.2.2.1) := rfl
set_option maxRecDepth 100000 in
theorem xk_76 : (xi_76.2.2.2.2.drop 0).all (x_ck1 xi_76) = true := by decide +kernel
set_option maxRecDepth 100000 in
theorem xc_77 : (x_tb (3123 / 1000))[3123 % 1000]? = some (.code xi_77.1 xi_77.2.1 xi_77.2.2.1 xi_77.2.2.2.1) := rfl
set_option maxRecDepth 100000 in
theorem xk_77 : (xi_77.2.2.2.2.drop 0).all (x_ck1 xi_77) = true := by decide +kernel
set_option maxRecDepth 100000 in
theorem xc_78 : (x_tb (3131 / 1000))[3131 % 1000]? = some (.code xi_78.1 xi_78.2.1 xi_78.2.2.1 xi_78.2.2.2.1) := rfl
set_option maxRecDepth 100000 in
theorem xk_78_0 : x_chk xi_78 0 40 = true := by decide +kernel
set_option maxRecDepth 100000 in
theorem xk_78_40 : x_chk xi_78 40 40 = true := by decide +kernel
set_option maxRecDepth 100000 in
theorem xk_78_80 : x_chk xi_78 80 40 = true := by decide +kernel
set_option maxRecDepth 100000 in
theorem xk_78 : (xi_78.2.2.2.2.drop 0).all (x_ck1 xi_78) = true := x_chk_app (k := 0) xk_78_0 (x_chk_app (k := 0) xk_78_40 (x_chk_app (k := 0) xk_78_80 (rfl)))
set_option maxRecDepth 100000 in
theorem xc_79 : (x_tb (3139 / 1000))[3139 % 1000]? = some (.code xi_79.1 xi_79.2.1 xi_79.2.2.1 xi_79.2.2.2.1) := rfl
set_option maxRecDepth 100000 in
theorem xk_79 : (xi_79.2.2.2.2.drop 0).all (x_ck1 xi_79) = true := by decide +kernel
set_option maxRecDepth 100000 in
theorem xc_80 : (x_tb (3151 / 1000))[3151 % 1000]? = some (.code xi_80.1 xi_80.2.1 xi_80.2.2.1 xi_80.2.2.2.1) := rfl
set_option maxRecDepth 100000 in
theorem xk_80 : (xi_80.2.2.2.2.drop 0).all (x_ck1 xi_80) = true := by decide +kernel
set_option maxRecDepth 100000 in
theorem xc_81 : (x_tb (3172 / 1000))[3172 % 1000]? = some (.code xi_81.1 xi_81.2.1 xi_81.2.2.1 xi_81.2.2.2.1) := rfl
set_option maxRecDepth 100000 in
theorem xk_81 : (xi_81.2.2.2.2.drop 0).all (x_ck1 xi_81) = true := by decide +kernel
set_option maxRecDepth 100000 in
theorem xc_82 : (x_tb (3176 / 1000))[3176 % 1000]? = some (.code xi_82.1 xi_82.2.1 xi_82.2.2.1 xi_82.2.2.2.1) := rfl
set_option maxRecDepth 100000 in
theorem xk_82 : (xi_82.2.2.2.2.drop 0).all (x_ck1 xi_82) = true := by decide +kernel
set_option maxRecDepth 100000 in
theorem xc_83 : (x_tb (3184 / 1000))[3184 % 1000]? = some (.code xi_83.1 xi_83.2.1 xi_83.2.2.1 xi_83.2.2.2.1) := rfl
set_option maxRecDepth 100000 in
theorem xk_83 : (xi_83.2.2.2.2.drop 0).all (x_ck1 xi_83) = true := by decide +kernel
set_option maxRecDepth 100000 in
theorem xc_84 : (x_tb (3188 / 1000))[3188 % 1000]? = some (.code xi_84.1 xi_84.2.1 xi_84.2.2.1 xi_84.2.2.2.1) := rfl
set_option maxRecDepth 100000 in
theorem xk_84 : (xi_84.2.2.2.2.drop 0).all (x_ck1 xi_84) = true := by decide +kernel
set_option maxRecDepth 100000 in
theorem xc_85 : (x_tb (3192 / 1000))[3192 % 1000]? = some (.code xi_85.1 xi_85.2.1 xi_85.2.2.1 xi_85.2.2.2.1) := rfl
set_option maxRecDepth 100000 in
theorem xk_85 : (xi_85.2.2.2.2.drop 0).all (x_ck1 xi_85) = true := by decide +kernel
set_option maxRecDepth 100000 in
theorem xc_86 : (x_tb (3200 / 1000))[3200 % 1000]? = some (.code xi_86.1 xi_86.2.1 xi_86.2.2.1 xi_86.2.2.2.1) := rfl
set_option maxRecDepth 100000 in
theorem xk_86 : (xi_86.2.2.2.2.drop 0).all (x_ck1 xi_86) = true := by decide +kernel
set_option maxRecDepth 100000 in
theorem xc_87 : (x_tb (3204 / 1000))[3204 % 1000]? = some (.code xi_87.1 xi_87.2.1 xi_87.2.2.1 xi_87.2.2.2.1) := rfl
set_option maxRecDepth 100000 in
theorem xk_87 : (xi_87.2.2.2.2.drop 0).all (x_ck1 xi_87) = true := by decide +kernel
set_option maxRecDepth 100000 in
theorem xc_88 : (x_tb (3208 / 1000))[3208 % 1000]? = some (.code xi_88.1 xi_88.2.1 xi_88.2.2.1 xi_88.2.2.2.1) := rfl
set_option maxRecDepth 100000 in
theorem xk_88 : (xi_88.2.2.2.2.drop 0).all (x_ck1 xi_88) = true := by decide +kernel
set_option maxRecDepth 100000 in
theorem xc_89 : (x_tb (3230 / 1000))[3230 % 1000]? = some (.code xi_89.1 xi_89.2.1 xi_89.2.2.1 xi_89.2.2.2.1) := rfl
set_option maxRecDepth 100000 in
theorem xk_89 : (xi_89.2.2.2.2.drop 0).all (x_ck1 xi_89) = true := by decide +kernel
set_option maxRecDepth 100000 in
theorem xc_90 : (x_tb (3234 / 1000))[3234 % 1000]? = some (.code xi_90.1 xi_90.2.1 xi_90.2.2.1 xi_90.2.2.2.1) := rfl
set_option maxRecDepth 100000 in
theorem xk_90 : (xi_90.2.2.2.2.drop 0).all (x_ck1 xi_90) = true := by decide +kernel
set_option maxRecDepth 100000 in
theorem xc_91 : (x_tb (4000 / 1000))[4000 % 1000]? = some (.code xi_91.1 xi_91.2.1 xi_91.2.2.1 xi_91.2.2.2.1) := rfl
set_option maxRecDepth 100000 in
theorem xk_91 : (xi_91.2.2.2.2.drop 0).all (x_ck1 xi_91) = true := by decide +kernel
set_option maxRecDepth 100000 in
theorem xc_92 : (x_tb (4016 / 1000))[4016 % 1000]? = some (.code xi_92.1 xi_92.2.1 xi_92.2.2.1 xi_92.2.2.2.1) := rfl
set_option maxRecDepth 100000 in
theorem xk_92 : (xi_92.2.2.2.2.drop 0).all (x_ck1 xi_92) = true := by decide +kernel
set_option maxRecDepth 100000 in
theorem xc_93 : (x_tb (4020 / 1000))[4020 % 1000]? = some (.code xi_93.1 xi_93.2.1 xi_93.2.2.1 xi_93.2.2.2.1) := rfl
set_option maxRecDepth 100000 in
theorem xk_93 : (xi_93.2.2.2.2.drop 0).all (x_ck1 xi_93) = true := by decide +kernel
set_option maxRecDepth 100000 in
theorem xc_94 : (x_tb (2026 / 1000))[2026 % 1000]? = some (.code xi_94.1 xi_94.2.1 xi_94.2.2.1 xi_94.2.2.2.1) := rfl
set_option maxRecDepth 100000 in
theorem xk_94 : (xi_94.2.2.2.2.drop 0).all (x_ck1 xi_94) = true := by decide +kernel
set_option maxRecDepth 100000 in
theorem xc_95 : (x_tb (3180 / 1000))[3180 % 1000]? = some (.code xi_95.1 xi_95.2.1 xi_95.2.2.1 xi_95.2.2.2.1) := rfl
set_option maxRecDepth 100000 in
theorem xk_95 : (xi_95.2.2.2.2.drop 0).all (x_ck1 xi_95) = true := by decide +kernel
set_option maxRecDepth 100000 in
theorem xc_96 : (x_tb (3060 / 1000))[3060 % 1000]? = some (.code xi_96.1 xi_96.2.1 xi_96.2.2.1 xi_96.2.2.2.1) := rfl
set_option maxRecDepth 100000 in
theorem xk_96 : (xi_96.2.2.2.2.drop 0).all (x_ck1 xi_96) = true := by decide +kernel
set_option maxRecDepth 100000 in
theorem xc_97 : (x_tb (3051 / 1000))[3051 % 1000]? = some (.code xi_97.1 xi_97.2.1 xi_97.2.2.1 xi_97.2.2.2.1) := rfl
set_option maxRecDepth 100000 in
theorem xk_97 : (xi_97.2.2.2.2.drop 0).all (x_ck1 xi_97) = true := by decide +kernel
set_option maxRecDepth 100000 in
theorem xc_98 : (x_tb (3135 / 1000))[3135 % 1000]? = some (.code xi_98.1 xi_98.2.1 xi_98.2.2.1 xi_98.2.2.2.1) := rfl
set_option maxRecDepth 100000 in
theorem xk_98 : (xi_98.2.2.2.2.drop 0).all (x_ck1 xi_98) = true := by decide +kernel
set_option maxRecDepth 100000 in
theorem xc_99 : (x_tb (3080 / 1000))[3080 % 1000]? = some (.code xi_99.1 xi_99.2.1 xi_99.2.2.1 xi_99.2.2.2.1) := rfl
set_option maxRecDepth 100000 in
theorem xk_99 : (xi_99.2.2.2.2.drop 0).all (x_ck1 xi_99) = true := by decide +kernel
set_option maxRecDepth 100000 in
theorem xc_100 : (x_tb (3007 / 1000))[3007 % 1000]? = some (.code xi_100.1 xi_100.2.1 xi_100.2.2.1 xi_100.2.2.2.1) := rfl
set_option maxRecDepth 100000 in
theorem xk_100 : (xi_100.2.2.2.2.drop 0).all (x_ck1 xi_100) = true := by decide +kernel
set_option maxRecDepth 100000 in
theorem xc_101 : (x_tb (3018 / 1000))[3018 % 1000]? = some (.code xi_101.1 xi_101.2.1 xi_101.2.2.1 xi_101.2.2.2.1) := rfl
set_option maxRecDepth 100000 in
theorem xk_101 : (xi_101.2.2.2.2.drop 0).all (x_ck1 xi_101) = true := by decide +kernel
set_option maxRecDepth 100000 in
theorem xc_102 : (x_tb (3127 / 1000))[3127 % 1000]? = some (.code xi_102.1 xi_102.2.1 xi_102.2.2.1 xi_102.2.2.2.1) := rfl
set_option maxRecDepth 100000 in
theorem xk_102 : (xi_102.2.2.2.2.drop 0).all (x_ck1 xi_102) = true := by decide +kernel
set_option maxRecDepth 100000 in
theorem xc_103 : (x_tb (3155 / 1000))[3155 % 1000]? = some (.code xi_103.1 xi_103.2.1 xi_103.2.2.1 xi_103.2.2.2.1) := rfl
set_option maxRecDepth 100000 in
theorem xk_103 : (xi_103.2.2.2.2.drop 0).all (x_ck1 xi_103) = true := by decide +kernel
set_option maxRecDepth 100000 in
theorem xc_104 : (x_tb (3159 / 1000))[3159 % 1000]? = some (.code xi_104.1 xi_104.2.1 xi_104.2.2.1 xi_104.2.2.2.1) := rfl
set_option maxRecDepth 100000 in
theorem xk_104 : (xi_104.2.2.2.2.drop 0).all (x_ck1 xi_104) = true := by decide +kernel
set_option maxRecDepth 100000 in
theorem xc_105 : (x_tb (3164 / 1000))[3164 % 1000]? = some (.code xi_105.1 xi_105.2.1 xi_105.2.2.1 xi_105.2.2.2.1) := rfl
set_option maxRecDepth 100000 in
theorem xk_105 : (xi_105.2.2.2.2.drop 0).all (x_ck1 xi_105) = true := by decide +kernel
set_option maxRecDepth 100000 in
theorem xc_106 : (x_tb (3168 / 1000))[3168 % 1000]? = some (.code xi_106.1 xi_106.2.1 xi_106.2.2.1 xi_106.2.2.2.1) := rfl
set_option maxRecDepth 100000 in
theorem xk_106 : (xi_106.2.2.2.2.drop 0).all (x_ck1 xi_106) = true := by decide +kernel
set_option maxRecDepth 100000 in
theorem xc_107 : (x_tb (3196 / 1000))[3196 % 1000]? = some (.code xi_107.1 xi_107.2.1 xi_107.2.2.1 xi_107.2.2.2.1) := rfl
set_option maxRecDepth 100000 in
theorem xk_107_0 : x_chk xi_107 0 40 = true := by decide +kernel
set_option maxRecDepth 100000 in
theorem xk_107_40 : x_chk xi_107 40 40 = true := by decide +kernel
set_option maxRecDepth 100000 in
theorem xk_107 : (xi_107.2.2.2.2.drop 0).all (x_ck1 xi_107) = true := x_chk_app (k := 0) xk_107_0 (x_chk_app (k := 0) xk_107_40 (rfl))
set_option maxRecDepth 100000 in
theorem xc_108 : (x_tb (4025 / 1000))[4025 % 1000]? = some (.code xi_108.1 xi_108.2.1 xi_108.2.2.1 xi_108.2.2.2.1) := rfl
set_option maxRecDepth 100000 in
theorem xk_108 : (xi_108.2.2.2.2.drop 0).all (x_ck1 xi_108) = true := by decide +kernel
set_option maxRecDepth 100000 in
theorem xc_109 : (x_tb (4094 / 1000))[4094 % 1000]? = some (.code xi_109.1 xi_109.2.1 xi_109.2.2.1 xi_109.2.2.2.1) := rfl
set_option maxRecDepth 100000 in
theorem xk_109 : (xi_109.2.2.2.2.drop 0).all (x_ck1 xi_109) = true := by decide +kernel
set_option maxRecDepth 100000 in
theorem xc_110 : (x_tb (4169 / 1000))[4169 % 1000]? = some (.code xi_110.1 xi_110.2.1 xi_110.2.2.1 xi_110.2.2.2.1) := rfl
set_option maxRecDepth 100000 in
theorem xk_110 : (xi_110.2.2.2.2.drop 0).all (x_ck1 xi_110) = true := by decide +kernel
set_option maxRecDepth 100000 in
theorem xc_111 : (x_tb (5024 / 1000))[5024 % 1000]? = some (.code xi_111.1 xi_111.2.1 xi_111.2.2.1 xi_111.2.2.2.1) := rfl
set_option maxRecDepth 100000 in
theorem xk_111 : (xi_111.2.2.2.2.drop 0).all (x_ck1 xi_111) = true := by decide +kernel
set_option maxRecDepth 100000 in
theorem xc_112 : (x_tb (4201 / 1000))[4201 % 1000]? = some (.code xi_112.1 xi_112.2.1 xi_112.2.2.1 xi_112.2.2.2.1) := rfl
set_option maxRecDepth 100000 in
theorem xk_112 : (xi_112.2.2.2.2.drop 0).all (x_ck1 xi_112) = true := by decide +kernel
set_option maxRecDepth 100000 in
theorem xc_113 : (x_tb (4205 / 1000))[4205 % 1000]? = some (.code xi_113.1 xi_113.2.1 xi_113.2.2.1 xi_113.2.2.2.1) := rfl
set_option maxRecDepth 100000 in
theorem xk_113 : (xi_113.2.2.2.2.drop 0).all (x_ck1 xi_113) = true := by decide +kernel
set_option maxRecDepth 100000 in
theorem xc_114 : (x_tb (4091 / 1000))[4091 % 1000]? = some (.code xi_114.1 xi_114.2.1 xi_114.2.2.1 xi_114.2.2.2.1) := rfl
set_option maxRecDepth 100000 in
theorem xk_114 : (xi_114.2.2.2.2.drop 0).all (x_ck1 xi_114) = true := by decide +kernel
set_option maxRecDepth 100000 in
theorem xc_115 : (x_tb (4106 / 1000))[4106 % 1000]? = some (.code xi_115.1 xi_115.2.1 xi_115.2.2.1 xi_115.2.2.2.1) := rfl
set_option maxRecDepth 100000 in
theorem xk_115 : (xi_115.2.2.2.2.drop 0).all (x_ck1 xi_115) = true := by decide +kernel
set_option maxRecDepth 100000 in
theorem xc_116 : (x_tb (4121 / 1000))[4121 % 1000]? = some (.code xi_116.1 xi_116.2.1 xi_116.2.2.1 xi_116.2.2.2.1) := rfl
set_option maxRecDepth 100000 in
theorem xk_116 : (xi_116.2.2.2.2.drop 0).all (x_ck1 xi_116) = true := by decide +kernel
set_option maxRecDepth 100000 in
theorem xc_117 : (x_tb (4115 / 1000))[4115 % 1000]? = some (.code xi_117.1 xi_117.2.1 xi_117.2.2.1 xi_117.2.2.2.1) := rfl
set_option maxRecDepth 100000 in
theorem xk_117 : (xi_117.2.2.2.2.drop 0).all (x_ck1 xi_117) = true := by decide +kernel
set_option maxRecDepth 100000 in
theorem xc_118 : (x_tb (4125 / 1000))[4125 % 1000]? = some (.code xi_118.1 xi_118.2.1 xi_118.2.2.1 xi_118.2.2.2.1) := rfl
set_option maxRecDepth 100000 in
theorem xk_118 : (xi_118.2.2.2.2.drop 0).all (x_ck1 xi_118) = true := by decide +kernel
set_option maxRecDepth 100000 in
theorem xc_119 : (x_tb (4155 / 1000))[4155 % 1000]? = some (.code xi_119.1 xi_119.2.1 xi_119.2.2.1 xi_119.2.2.2.1) := rfl
set_option maxRecDepth 100000 in
theorem xk_119 : (xi_119.2.2.2.2.drop 0).all (x_ck1 xi_119) = true := by decide +kernel
set_option maxRecDepth 100000 in
theorem xc_120 : (x_tb (4150 / 1000))[4150 % 1000]? = some (.code xi_120.1 xi_120.2.1 xi_120.2.2.1 xi_120.2.2.2.1) := rfl
set_option maxRecDepth 100000 in
theorem xk_120 : (xi_120.2.2.2.2.drop 0).all (x_ck1 xi_120) = true := by decide +kernel
set_option maxRecDepth 100000 in
theorem xc_121 : (x_tb (4146 / 1000))[4146 % 1000]? = some (.code xi_121.1 xi_121.2.1 xi_121.2.2.1 xi_121.2.2.2.1) := rfl
set_option maxRecDepth 100000 in
theorem xk_121_0 : x_chk xi_121 0 40 = true := by decide +kernel
set_option maxRecDepth 100000 in
theorem xk_121_40 : x_chk xi_121 40 40 = true := by decide +kernel
set_option maxRecDepth 100000 in
theorem xk_121_80 : x_chk xi_121 80 40 = true := by decide +kernel
set_option maxRecDepth 100000 in
theorem xk_121 : (xi_121.2.2.2.2.drop 0).all (x_ck1 xi_121) = true := x_chk_app (k := 0) xk_121_0 (x_chk_app (k := 0) xk_121_40 (x_chk_app (k := 0) xk_121_80 (rfl)))
set_option maxRecDepth 100000 in
theorem xc_122 : (x_tb (4142 / 1000))[4142 % 1000]? = some (.code xi_122.1 xi_122.2.1 xi_122.2.2.1 xi_122.2.2.2.1) := rfl
set_option maxRecDepth 100000 in
theorem xk_122 : (xi_122.2.2.2.2.drop 0).all (x_ck1 xi_122) = true := by decide +kernel
set_option maxRecDepth 100000 in
theorem xc_123 : (x_tb (4138 / 1000))[4138 % 1000]? = some (.code xi_123.1 xi_123.2.1 xi_123.2.2.1 xi_123.2.2.2.1) := rfl
set_option maxRecDepth 100000 in
theorem xk_123 : (xi_123.2.2.2.2.drop 0).all (x_ck1 xi_123) = true := by decide +kernel
set_option maxRecDepth 100000 in
theorem xc_124 : (x_tb (4134 / 1000))[4134 % 1000]? = some (.code xi_124.1 xi_124.2.1 xi_124.2.2.1 xi_124.2.2.2.1) := rfl
set_option maxRecDepth 100000 in
theorem xk_124 : (xi_124.2.2.2.2.drop 0).all (x_ck1 xi_124) = true := by decide +kernel
set_option maxRecDepth 100000 in
theorem xc_125 : (x_tb (4111 / 1000))[4111 % 1000]? = some (.code xi_125.1 xi_125.2.1 xi_125.2.2.1 xi_125.2.2.2.1) := rfl
set_option maxRecDepth 100000 in
theorem xk_125 : (xi_125.2.2.2.2.drop 0).all (x_ck1 xi_125) = true := by decide +kernel
set_option maxRecDepth 100000 in
theorem xc_126 : (x_tb (4129 / 1000))[4129 % 1000]? = some (.code xi_126.1 xi_126.2.1 xi_126.2.2.1 xi_126.2.2.2.1) := rfl
set_option maxRecDepth 100000 in
theorem xk_126 : (xi_126.2.2.2.2.drop 0).all (x_ck1 xi_126) = true := by decide +kernel
set_option maxRecDepth 100000 in
theorem xc_127 : (x_tb (4102 / 1000))[4102 % 1000]? = some (.code xi_127.1 xi_127.2.1 xi_127.2.2.1 xi_127.2.2.2.1) := rfl
set_option maxRecDepth 100000 in
theorem xk_127 : (xi_127.2.2.2.2.drop 0).all (x_ck1 xi_127) = true := by decide +kernel
set_option maxRecDepth 100000 in
theorem xc_128 : (x_tb (4098 / 1000))[4098 % 1000]? = some (.code xi_128.1 xi_128.2.1 xi_128.2.2.1 xi_128.2.2.2.1) := rfl
set_option maxRecDepth 100000 in
theorem xk_128_0 : x_chk xi_128 0 40 = true := by decide +kernel
set_option maxRecDepth 100000 in
theorem xk_128_40 : x_chk xi_128 40 40 = true := by decide +kernel
set_option maxRecDepth 100000 in
theorem xk_128_80 : x_chk xi_128 80 40 = true := by decide +kernel
set_option maxRecDepth 100000 in
theorem xk_128 : (xi_128.2.2.2.2.drop 0).all (x_ck1 xi_128) = true := x_chk_app (k := 0) xk_128_0 (x_chk_app (k := 0) xk_128_40 (x_chk_app (k := 0) xk_128_80 (rfl)))
set_option maxRecDepth 100000 in
theorem xc_129 : (x_tb (4185 / 1000))[4185 % 1000]? = some (.code xi_129.1 xi_129.2.1 xi_129.2.2.1 xi_129.2.2.2.1) := rfl
set_option maxRecDepth 100000 in
theorem xk_129 : (xi_129.2.2.2.2.drop 0).all (x_ck1 xi_129) = true := by decide +kernel
set_option maxRecDepth 100000 in
theorem xc_130 : (x_tb (4181 / 1000))[4181 % 1000]? = some (.code xi_130.1 xi_130.2.1 xi_130.2.2.1 xi_130.2.2.2.1) := rfl
set_option maxRecDepth 100000 in
theorem xk_130 : (xi_130.2.2.2.2.drop 0).all (x_ck1 xi_130) = true := by decide +kernel
set_option maxRecDepth 100000 in
theorem xc_131 : (x_tb (4178 / 1000))[4178 % 1000]? = some (.code xi_131.1 xi_131.2.1 xi_131.2.2.1 xi_131.2.2.2.1) := rfl
set_option maxRecDepth 100000 in
theorem xk_131_0 : x_chk xi_131 0 40 = true := by decide +kernel
set_option maxRecDepth 100000 in
theorem xk_131_40 : x_chk xi_131 40 40 = true := by decide +kernel
set_option maxRecDepth 100000 in
theorem xk_131_80 : x_chk xi_131 80 40 = true := by decide +kernel
set_option maxRecDepth 100000 in
theorem xk_131_120 : x_chk xi_131 120 40 = true := by decide +kernel
set_option maxRecDepth 100000 in
theorem xk_131_160 : x_chk xi_131 160 40 = true := by decide +kernel
set_option maxRecDepth 100000 in
theorem xk_131_200 : x_chk xi_131 200 40 = true := by decide +kernel
set_option maxRecDepth 100000 in
theorem xk_131 : (xi_131.2.2.2.2.drop 0).all (x_ck1 xi_131) = true := x_chk_app (k := 0) xk_131_0 (x_chk_app (k := 0) xk_131_40 (x_chk_app (k := 0) xk_131_80 (x_chk_app (k := 0) xk_131_120 (x_chk_app (k := 0) xk_131_160 (x_chk_app (k := 0) xk_131_200 (rfl))))))
set_option maxRecDepth 100000 in
theorem xc_132 : (x_tb (4174 / 1000))[4174 % 1000]? = some (.code xi_132.1 xi_132.2.1 xi_132.2.2.1 xi_132.2.2.2.1) := rfl
set_option maxRecDepth 100000 in
theorem xk_132_0 : x_chk xi_132 0 40 = true := by decide +kernel
set_option maxRecDepth 100000 in
theorem xk_132_40 : x_chk xi_132 40 40 = true := by decide +kernel
set_option maxRecDepth 100000 in
theorem xk_132_80 : x_chk xi_132 80 40 = true := by decide +kernel
set_option maxRecDepth 100000 in
theorem xk_132 : (xi_132.2.2.2.2.drop 0).all (x_ck1 xi_132) = true := x_chk_app (k := 0) xk_132_0 (x_chk_app (k := 0) xk_132_40 (x_chk_app (k := 0) xk_132_80 (rfl)))
set_option maxRecDepth 100000 in
theorem xc_133 : (x_tb (4233 / 1000))[4233 % 1000]? = some (.code xi_133.1 xi_133.2.1 xi_133.2.2.1 xi_133.2.2.2.1) := rfl
set_option maxRecDepth 100000 in
theorem xk_133 : (xi_133.2.2.2.2.drop 0).all (x_ck1 xi_133) = true := by decide +kernel
set_option maxRecDepth 100000 in
theorem xc_134 : (x_tb (4193 / 1000))[4193 % 1000]? = some (.code xi_134.1 xi_134.2.1 xi_134.2.2.1 xi_134.2.2.2.1) := rfl
set_option maxRecDepth 100000 in
theorem xk_134 : (xi_134.2.2.2.2.drop 0).all (x_ck1 xi_134) = true := by decide +kernel
set_option maxRecDepth 100000 in
theorem xc_135 : (x_tb (4189 / 1000))[4189 % 1000]? = some (.code xi_135.1 xi_135.2.1 xi_135.2.2.1 xi_135.2.2.2.1) := rfl
set_option maxRecDepth 100000 in
theorem xk_135 : (xi_135.2.2.2.2.drop 0).all (x_ck1 xi_135) = true := by decide +kernel
set_option maxRecDepth 100000 in
theorem xc_136 : (x_tb (4197 / 1000))[4197 % 1000]? = some (.code xi_136.1 xi_136.2.1 xi_136.2.2.1 xi_136.2.2.2.1) := rfl
set_option maxRecDepth 100000 in
theorem xk_136 : (xi_136.2.2.2.2.drop 0).all (x_ck1 xi_136) = true := by decide +kernel
set_option maxRecDepth 100000 in
theorem xc_137 : (x_tb (4213 / 1000))[4213 % 1000]? = some (.code xi_137.1 xi_137.2.1 xi_137.2.2.1 xi_137.2.2.2.1) := rfl
set_option maxRecDepth 100000 in
theorem xk_137 : (xi_137.2.2.2.2.drop 0).all (x_ck1 xi_137) = true := by decide +kernel
set_option maxRecDepth 100000 in
theorem xc_138 : (x_tb (4161 / 1000))[4161 % 1000]? = some (.code xi_138.1 xi_138.2.1 xi_138.2.2.1 xi_138.2.2.2.1) := rfl
set_option maxRecDepth 100000 in
theorem xk_138_0 : x_chk xi_138 0 40 = true := by decide +kernel
set_option maxRecDepth 100000 in
theorem xk_138_40 : x_chk xi_138 40 40 = true := by decide +kernel
set_option maxRecDepth 100000 in
theorem xk_138_80 : x_chk xi_138 80 40 = true := by decide +kernel
set_option maxRecDepth 100000 in
theorem xk_138 : (xi_138.2.2.2.2.drop 0).all (x_ck1 xi_138) = true := x_chk_app (k := 0) xk_138_0 (x_chk_app (k := 0) xk_138_40 (x_chk_app (k := 0) xk_138_80 (rfl)))
set_option maxRecDepth 100000 in
theorem xc_139 : (x_tb (4165 / 1000))[4165 % 1000]? = some (.code xi_139.1 xi_139.2.1 xi_139.2.2.1 xi_139.2.2.2.1) := rfl
set_option maxRecDepth 100000 in
theorem xk_139_0 : x_chk xi_139 0 40 = true := by decide +kernel
set_option maxRecDepth 100000 in
theorem xk_139_40 : x_chk xi_139 40 40 = true := by decide +kernel
set_option maxRecDepth 100000 in
theorem xk_139 : (xi_139.2.2.2.2.drop 0).all (x_ck1 xi_139) = true := x_chk_app (k := 0) xk_139_0 (x_chk_app (k := 0) xk_139_40 (rfl))
set_option maxRecDepth 100000 in
theorem xc_140 : (x_tb (4209 / 1000))[4209 % 1000]? = some (.code xi_140.1 xi_140.2.1 xi_140.2.2.1 xi_140.2.2.2.1) := rfl
set_option maxRecDepth 100000 in
theorem xk_140 : (xi_140.2.2.2.2.drop 0).all (x_ck1 xi_140) = true := by decide +kernel
set_option maxRecDepth 100000 in
theorem xc_141 : (x_tb (4217 / 1000))[4217 % 1000]? = some (.code xi_141.1 xi_141.2.1 xi_141.2.2.1 xi_141.2.2.2.1) := rfl
set_option maxRecDepth 100000 in
theorem xk_141 : (xi_141.2.2.2.2.drop 0).all (x_ck1 xi_141) = true := by decide +kernel
set_option maxRecDepth 100000 in
theorem xc_142 : (x_tb (4221 / 1000))[4221 % 1000]? = some (.code xi_142.1 xi_142.2.1 xi_142.2.2.1 xi_142.2.2.2.1) := rfl
set_option maxRecDepth 100000 in
theorem xk_142 : (xi_142.2.2.2.2.drop 0).all (x_ck1 xi_142) = true := by decide +kernel
set_option maxRecDepth 100000 in
theorem xc_143 : (x_tb (4225 / 1000))[4225 % 1000]? = some (.code xi_143.1 xi_143.2.1 xi_143.2.2.1 xi_143.2.2.2.1) := rfl
set_option maxRecDepth 100000 in
theorem xk_143 : (xi_143.2.2.2.2.drop 0).all (x_ck1 xi_143) = true := by decide +kernel
set_option maxRecDepth 100000 in
theorem xc_144 : (x_tb (4229 / 1000))[4229 % 1000]? = some (.code xi_144.1 xi_144.2.1 xi_144.2.2.1 xi_144.2.2.2.1) := rfl
set_option maxRecDepth 100000 in
theorem xk_144 : (xi_144.2.2.2.2.drop 0).all (x_ck1 xi_144) = true := by decide +kernel
set_option maxRecDepth 100000 in
theorem xc_145 : (x_tb (5001 / 1000))[5001 % 1000]? = some (.code xi_145.1 xi_145.2.1 xi_145.2.2.1 xi_145.2.2.2.1) := rfl
set_option maxRecDepth 100000 in
theorem xk_145 : (xi_145.2.2.2.2.drop 0).all (x_ck1 xi_145) = true := by decide +kernel
set_option maxRecDepth 100000 in
theorem xc_146 : (x_tb (5005 / 1000))[5005 % 1000]? = some (.code xi_146.1 xi_146.2.1 xi_146.2.2.1 xi_146.2.2.2.1) := rfl
set_option maxRecDepth 100000 in
theorem xk_146 : (xi_146.2.2.2.2.drop 0).all (x_ck1 xi_146) = true := by decide +kernel
set_option maxRecDepth 100000 in
theorem xc_147 : (x_tb (4237 / 1000))[4237 % 1000]? = some (.code xi_147.1 xi_147.2.1 xi_147.2.2.1 xi_147.2.2.2.1) := rfl
set_option maxRecDepth 100000 in
theorem xk_147 : (xi_147.2.2.2.2.drop 0).all (x_ck1 xi_147) = true := by decide +kernel
set_option maxRecDepth 100000 in
theorem xc_148 : (x_tb (5021 / 1000))[5021 % 1000]? = some (.code xi_148.1 xi_148.2.1 xi_148.2.2.1 xi_148.2.2.2.1) := rfl
set_option maxRecDepth 100000 in
theorem xk_148_0 : x_chk xi_148 0 40 = true := by decide +kernel
set_option maxRecDepth 100000 in
theorem xk_148_40 : x_chk xi_148 40 40 = true := by decide +kernel
set_option maxRecDepth 100000 in
theorem xk_148_80 : x_chk xi_148 80 40 = true := by decide +kernel
set_option maxRecDepth 100000 in
theorem xk_148 : (xi_148.2.2.2.2.drop 0).all (x_ck1 xi_148) = true := x_chk_app (k := 0) xk_148_0 (x_chk_app (k := 0) xk_148_40 (x_chk_app (k := 0) xk_148_80 (rfl)))
set_option maxRecDepth 100000 in
theorem xc_149 : (x_tb (5017 / 1000))[5017 % 1000]? = some (.code xi_149.1 xi_149.2.1 xi_149.2.2.1 xi_149.2.2.2.1) := rfl
set_option maxRecDepth 100000 in
theorem xk_149 : (xi_149.2.2.2.2.drop 0).all (x_ck1 xi_149) = true := by decide +kernel
set_option maxRecDepth 100000 in
theorem xc_150 : (x_tb (5013 / 1000))[5013 % 1000]? = some (.code xi_150.1 xi_150.2.1 xi_150.2.2.1 xi_150.2.2.2.1) := rfl
set_option maxRecDepth 100000 in
theorem xk_150 : (xi_150.2.2.2.2.drop 0).all (x_ck1 xi_150) = true := by decide +kernel
set_option maxRecDepth 100000 in
theorem xc_151 : (x_tb (5036 / 1000))[5036 % 1000]? = some (.code xi_151.1 xi_151.2.1 xi_151.2.2.1 xi_151.2.2.2.1) := rfl
set_option maxRecDepth 100000 in
theorem xk_151 : (xi_151.2.2.2.2.drop 0).all (x_ck1 xi_151) = true := by decide +kernel
set_option maxRecDepth 100000 in
theorem xc_152 : (x_tb (5009 / 1000))[5009 % 1000]? = some (.code xi_152.1 xi_152.2.1 xi_152.2.2.1 xi_152.2.2.2.1) := rfl
set_option maxRecDepth 100000 in
theorem xk_152 : (xi_152.2.2.2.2.drop 0).all (x_ck1 xi_152) = true := by decide +kernel
set_option maxRecDepth 100000 in
theorem xc_153 : (x_tb (5028 / 1000))[5028 % 1000]? = some (.code xi_153.1 xi_153.2.1 xi_153.2.2.1 xi_153.2.2.2.1) := rfl
set_option maxRecDepth 100000 in
theorem xk_153 : (xi_153.2.2.2.2.drop 0).all (x_ck1 xi_153) = true := by decide +kernel
set_option maxRecDepth 100000 in
theorem xc_154 : (x_tb (5032 / 1000))[5032 % 1000]? = some (.code xi_154.1 xi_154.2.1 xi_154.2.2.1 xi_154.2.2.2.1) := rfl
set_option maxRecDepth 100000 in
theorem xk_154 : (xi_154.2.2.2.2.drop 0).all (x_ck1 xi_154) = true := by decide +kernel
set_option maxRecDepth 100000 in
theorem xc_155 : (x_tb (5053 / 1000))[5053 % 1000]? = some (.code xi_155.1 xi_155.2.1 xi_155.2.2.1 xi_155.2.2.2.1) := rfl
set_option maxRecDepth 100000 in
theorem xk_155 : (xi_155.2.2.2.2.drop 0).all (x_ck1 xi_155) = true := by decide +kernel
set_option maxRecDepth 100000 in
theorem xc_156 : (x_tb (5049 / 1000))[5049 % 1000]? = some (.code xi_156.1 xi_156.2.1 xi_156.2.2.1 xi_156.2.2.2.1) := rfl
set_option maxRecDepth 100000 in
theorem xk_156_0 : x_chk xi_156 0 40 = true := by decide +kernel
set_option maxRecDepth 100000 in
theorem xk_156_40 : x_chk xi_156 40 40 = true := by decide +kernel
set_option maxRecDepth 100000 in
theorem xk_156_80 : x_chk xi_156 80 40 = true := by decide +kernel
set_option maxRecDepth 100000 in
theorem xk_156 : (xi_156.2.2.2.2.drop 0).all (x_ck1 xi_156) = true := x_chk_app (k := 0) xk_156_0 (x_chk_app (k := 0) xk_156_40 (x_chk_app (k := 0) xk_156_80 (rfl)))
set_option maxRecDepth 100000 in
theorem xc_157 : (x_tb (5044 / 1000))[5044 % 1000]? = some (.code xi_157.1 xi_157.2.1 xi_157.2.2.1 xi_157.2.2.2.1) := rfl
set_option maxRecDepth 100000 in
theorem xk_157 : (xi_157.2.2.2.2.drop 0).all (x_ck1 xi_157) = true := by decide +kernel
set_option maxRecDepth 100000 in
theorem xc_158 : (x_tb (5040 / 1000))[5040 % 1000]? = some (.code xi_158.1 xi_158.2.1 xi_158.2.2.1 xi_158.2.2.2.1) := rfl
set_option maxRecDepth 100000 in
theorem xk_158 : (xi_158.2.2.2.2.drop 0).all (x_ck1 xi_158) = true := by decide +kernel
set_option maxRecDepth 100000 in
theorem xc_159 : (x_tb (5061 / 1000))[5061 % 1000]? = some (.code xi_159.1 xi_159.2.1 xi_159.2.2.1 xi_159.2.2.2.1) := rfl
set_option maxRecDepth 100000 in
theorem xk_159_0 : x_chk xi_159 0 40 = true := by decide +kernel
set_option maxRecDepth 100000 in
theorem xk_159_40 : x_chk xi_159 40 40 = true := by decide +kernel
set_option maxRecDepth 100000 in
theorem xk_159 : (xi_159.2.2.2.2.drop 0).all (x_ck1 xi_159) = true := x_chk_app (k := 0) xk_159_0 (x_chk_app (k := 0) xk_159_40 (rfl))
set_option maxRecDepth 100000 in
theorem xc_160 : (x_tb (5057 / 1000))[5057 % 1000]? = some (.code xi_160.1 xi_160.2.1 xi_160.2.2.1 xi_160.2.2.2.1) := rfl
set_option maxRecDepth 100000 in
theorem xk_160 : (xi_160.2.2.2.2.drop 0).all (x_ck1 xi_160) = true := by decide +kernel
set_option maxRecDepth 100000 in
theorem xc_161 : (x_tb (5069 / 1000))[5069 % 1000]? = some (.code xi_161.1 xi_161.2.1 xi_161.2.2.1 xi_161.2.2.2.1) := rfl
set_option maxRecDepth 100000 in
theorem xk_161 : (xi_161.2.2.2.2.drop 0).all (x_ck1 xi_161) = true := by decide +kernel
set_option maxRecDepth 100000 in
theorem xc_162 : (x_tb (5065 / 1000))[5065 % 1000]? = some (.code xi_162.1 xi_162.2.1 xi_162.2.2.1 xi_162.2.2.2.1) := rfl
set_option maxRecDepth 100000 in
theorem xk_162_0 : x_chk xi_162 0 40 = true := by decide +kernel
set_option maxRecDepth 100000 in
theorem xk_162_40 : x_chk xi_162 40 40 = true := by decide +kernel
set_option maxRecDepth 100000 in
theorem xk_162 : (xi_162.2.2.2.2.drop 0).all (x_ck1 xi_162) = true := x_chk_app (k := 0) xk_162_0 (x_chk_app (k := 0) xk_162_40 (rfl))
set_option maxRecDepth 100000 in
theorem xc_163 : (x_tb (5073 / 1000))[5073 % 1000]? = some (.code xi_163.1 xi_163.2.1 xi_163.2.2.1 xi_163.2.2.2.1) := rfl
set_option maxRecDepth 100000 in
theorem xk_163_0 : x_chk xi_163 0 40 = true := by decide +kernel
set_option maxRecDepth 100000 in
theorem xk_163_40 : x_chk xi_163 40 40 = true := by decide +kernel
set_option maxRecDepth 100000 in
theorem xk_163 : (xi_163.2.2.2.2.drop 0).all (x_ck1 xi_163) = true := x_chk_app (k := 0) xk_163_0 (x_chk_app (k := 0) xk_163_40 (rfl))
set_option maxRecDepth 100000 in
theorem xc_164 : (x_tb (5089 / 1000))[5089 % 1000]? = some (.code xi_164.1 xi_164.2.1 xi_164.2.2.1 xi_164.2.2.2.1) := rfl
set_option maxRecDepth 100000 in
theorem xk_164 : (xi_164.2.2.2.2.drop 0).all (x_ck1 xi_164) = true := by decide +kernel
set_option maxRecDepth 100000 in
theorem xc_165 : (x_tb (5085 / 1000))[5085 % 1000]? = some (.code xi_165.1 xi_165.2.1 xi_165.2.2.1 xi_165.2.2.2.1) := rfl
set_option maxRecDepth 100000 in
theorem xk_165 : (xi_165.2.2.2.2.drop 0).all (x_ck1 xi_165) = true := by decide +kernel
set_option maxRecDepth 100000 in
theorem xc_166 : (x_tb (5081 / 1000))[5081 % 1000]? = some (.code xi_166.1 xi_166.2.1 xi_166.2.2.1 xi_166.2.2.2.1) := rfl
set_option maxRecDepth 100000 in
theorem xk_166 : (xi_166.2.2.2.2.drop 0).all (x_ck1 xi_166) = true := by decide +kernel
set_option maxRecDepth 100000 in
theorem xc_167 : (x_tb (5077 / 1000))[5077 % 1000]? = some (.code xi_167.1 xi_167.2.1 xi_167.2.2.1 xi_167.2.2.2.1) := rfl
set_option maxRecDepth 100000 in
theorem xk_167 : (xi_167.2.2.2.2.drop 0).all (x_ck1 xi_167) = true := by decide +kernel
set_option maxRecDepth 100000 in
theorem xc_168 : (x_tb (5093 / 1000))[5093 % 1000]? = some (.code xi_168.1 xi_168.2.1 xi_168.2.2.1 xi_168.2.2.2.1) := rfl
set_option maxRecDepth 100000 in
theorem xk_168 : (xi_168.2.2.2.2.drop 0).all (x_ck1 xi_168) = true := by decide +kernel
set_option maxRecDepth 100000 in
theorem xc_169 : (x_tb (5102 / 1000))[5102 % 1000]? = some (.code xi_169.1 xi_169.2.1 xi_169.2.2.1 xi_169.2.2.2.1) := rfl
set_option maxRecDepth 100000 in
theorem xk_169 : (xi_169.2.2.2.2.drop 0).all (x_ck1 xi_169) = true := by decide +kernel
set_option maxRecDepth 100000 in
theorem xc_170 : (x_tb (5097 / 1000))[5097 % 1000]? = some (.code xi_170.1 xi_170.2.1 xi_170.2.2.1 xi_170.2.2.2.1) := rfl
set_option maxRecDepth 100000 in
theorem xk_170_0 : x_chk xi_170 0 40 = true := by decide +kernel
set_option maxRecDepth 100000 in
theorem xk_170_40 : x_chk xi_170 40 40 = true := by decide +kernel
set_option maxRecDepth 100000 in
theorem xk_170 : (xi_170.2.2.2.2.drop 0).all (x_ck1 xi_170) = true := x_chk_app (k := 0) xk_170_0 (x_chk_app (k := 0) xk_170_40 (rfl))
set_option maxRecDepth 100000 in
theorem xc_171 : (x_tb (5106 / 1000))[5106 % 1000]? = some (.code xi_171.1 xi_171.2.1 xi_171.2.2.1 xi_171.2.2.2.1) := rfl
set_option maxRecDepth 100000 in
theorem xk_171_0 : x_chk xi_171 0 40 = true := by decide +kernel
set_option maxRecDepth 100000 in
theorem xk_171_40 : x_chk xi_171 40 40 = true := by decide +kernel
set_option maxRecDepth 100000 in
theorem xk_171 : (xi_171.2.2.2.2.drop 0).all (x_ck1 xi_171) = true := x_chk_app (k := 0) xk_171_0 (x_chk_app (k := 0) xk_171_40 (rfl))
set_option maxRecDepth 100000 in
theorem xc_172 : (x_tb (5110 / 1000))[5110 % 1000]? = some (.code xi_172.1 xi_172.2.1 xi_172.2.2.1 xi_172.2.2.2.1) := rfl
set_option maxRecDepth 100000 in
theorem xk_172_0 : x_chk xi_172 0 40 = true := by decide +kernel
set_option maxRecDepth 100000 in
theorem xk_172_40 : x_chk xi_172 40 40 = true := by decide +kernel
set_option maxRecDepth 100000 in
theorem xk_172 : (xi_172.2.2.2.2.drop 0).all (x_ck1 xi_172) = true := x_chk_app (k := 0) xk_172_0 (x_chk_app (k := 0) xk_172_40 (rfl))
set_option maxRecDepth 100000 in
theorem xc_173 : (x_tb (5118 / 1000))[5118 % 1000]? = some (.code xi_173.1 xi_173.2.1 xi_173.2.2.1 xi_173.2.2.2.1) := rfl
set_option maxRecDepth 100000 in
theorem xk_173 : (xi_173.2.2.2.2.drop 0).all (x_ck1 xi_173) = true := by decide +kernel
set_option maxRecDepth 100000 in
theorem xc_174 : (x_tb (5122 / 1000))[5122 % 1000]? = some (.code xi_174.1 xi_174.2.1 xi_174.2.2.1 xi_174.2.2.2.1) := rfl
set_option maxRecDepth 100000 in
theorem xk_174 : (xi_174.2.2.2.2.drop 0).all (x_ck1 xi_174) = true := by decide +kernel
set_option maxRecDepth 100000 in
theorem xc_175 : (x_tb (5114 / 1000))[5114 % 1000]? = some (.code xi_175.1 xi_175.2.1 xi_175.2.2.1 xi_175.2.2.2.1) := rfl
set_option maxRecDepth 100000 in
theorem xk_175 : (xi_175.2.2.2.2.drop 0).all (x_ck1 xi_175) = true := by decide +kernel
set_option maxRecDepth 100000 in
theorem xc_176 : (x_tb (5126 / 1000))[5126 % 1000]? = some (.code xi_176.1 xi_176.2.1 xi_176.2.2.1 xi_176.2.2.2.1) := rfl
set_option maxRecDepth 100000 in
theorem xk_176_0 : x_chk xi_176 0 40 = true := by decide +kernel
set_option maxRecDepth 100000 in
theorem xk_176_40 : x_chk xi_176 40 40 = true := by decide +kernel
set_option maxRecDepth 100000 in
theorem xk_176 : (xi_176.2.2.2.2.drop 0).all (x_ck1 xi_176) = true := x_chk_app (k := 0) xk_176_0 (x_chk_app (k := 0) xk_176_40 (rfl))
set_option maxRecDepth 100000 in
theorem xc_177 : (x_tb (5130 / 1000))[5130 % 1000]? = some (.code xi_177.1 xi_177.2.1 xi_177.2.2.1 xi_177.2.2.2.1) := rfl
set_option maxRecDepth 100000 in
theorem xk_177 : (xi_177.2.2.2.2.drop 0).all (x_ck1 xi_177) = true := by decide +kernel
set_option maxRecDepth 100000 in
theorem xc_178 : (x_tb (5145 / 1000))[5145 % 1000]? = some (.code xi_178.1 xi_178.2.1 xi_178.2.2.1 xi_178.2.2.2.1) := rfl
set_option maxRecDepth 100000 in
theorem xk_178 : (xi_178.2.2.2.2.drop 0).all (x_ck1 xi_178) = true := by decide +kernel
set_option maxRecDepth 100000 in
theorem xc_179 : (x_tb (5141 / 1000))[5141 % 1000]? = some (.code xi_179.1 xi_179.2.1 xi_179.2.2.1 xi_179.2.2.2.1) := rfl
set_option maxRecDepth 100000 in
theorem xk_179 : (xi_179.2.2.2.2.drop 0).all (x_ck1 xi_179) = true := by decide +kernel
set_option maxRecDepth 100000 in
theorem xc_180 : (x_tb (5149 / 1000))[5149 % 1000]? = some (.code xi_180.1 xi_180.2.1 xi_180.2.2.1 xi_180.2.2.2.1) := rfl
set_option maxRecDepth 100000 in
theorem xk_180 : (xi_180.2.2.2.2.drop 0).all (x_ck1 xi_180) = true := by decide +kernel
set_option maxRecDepth 100000 in
theorem xc_181 : (x_tb (5138 / 1000))[5138 % 1000]? = some (.code xi_181.1 xi_181.2.1 xi_181.2.2.1 xi_181.2.2.2.1) := rfl
set_option maxRecDepth 100000 in
theorem xk_181 : (xi_181.2.2.2.2.drop 0).all (x_ck1 xi_181) = true := by decide +kernel
set_option maxRecDepth 100000 in
theorem xc_182 : (x_tb (5157 / 1000))[5157 % 1000]? = some (.code xi_182.1 xi_182.2.1 xi_182.2.2.1 xi_182.2.2.2.1) := rfl
set_option maxRecDepth 100000 in
theorem xk_182 : (xi_182.2.2.2.2.drop 0).all (x_ck1 xi_182) = true := by decide +kernel
set_option maxRecDepth 100000 in
theorem xc_183 : (x_tb (5153 / 1000))[5153 % 1000]? = some (.code xi_183.1 xi_183.2.1 xi_183.2.2.1 xi_183.2.2.2.1) := rfl
set_option maxRecDepth 100000 in
theorem xk_183 : (xi_183.2.2.2.2.drop 0).all (x_ck1 xi_183) = true := by decide +kernel
set_option maxRecDepth 100000 in
theorem xc_184 : (x_tb (5165 / 1000))[5165 % 1000]? = some (.code xi_184.1 xi_184.2.1 xi_184.2.2.1 xi_184.2.2.2.1) := rfl
set_option maxRecDepth 100000 in
theorem xk_184 : (xi_184.2.2.2.2.drop 0).all (x_ck1 xi_184) = true := by decide +kernel
set_option maxRecDepth 100000 in
theorem xc_185 : (x_tb (5161 / 1000))[5161 % 1000]? = some (.code xi_185.1 xi_185.2.1 xi_185.2.2.1 xi_185.2.2.2.1) := rfl
set_option maxRecDepth 100000 in
theorem xk_185 : (xi_185.2.2.2.2.drop 0).all (x_ck1 xi_185) = true := by decide +kernel
set_option maxRecDepth 100000 in
theorem xc_186 : (x_tb (5134 / 1000))[5134 % 1000]? = some (.code xi_186.1 xi_186.2.1 xi_186.2.2.1 xi_186.2.2.2.1) := rfl
set_option maxRecDepth 100000 in
theorem xk_186 : (xi_186.2.2.2.2.drop 0).all (x_ck1 xi_186) = true := by decide +kernel
set_option maxRecDepth 100000 in
theorem xc_187 : (x_tb (5169 / 1000))[5169 % 1000]? = some (.code xi_187.1 xi_187.2.1 xi_187.2.2.1 xi_187.2.2.2.1) := rfl
set_option maxRecDepth 100000 in
theorem xk_187 : (xi_187.2.2.2.2.drop 0).all (x_ck1 xi_187) = true := by decide +kernel
set_option maxRecDepth 100000 in
theorem xc_188 : (x_tb (5173 / 1000))[5173 % 1000]? = some (.code xi_188.1 xi_188.2.1 xi_188.2.2.1 xi_188.2.2.2.1) := rfl
set_option maxRecDepth 100000 in
theorem xk_188 : (xi_188.2.2.2.2.drop 0).all (x_ck1 xi_188) = true := by decide +kernel
set_option maxRecDepth 100000 in
theorem xc_189 : (x_tb (5177 / 1000))[5177 % 1000]? = some (.code xi_189.1 xi_189.2.1 xi_189.2.2.1 xi_189.2.2.2.1) := rfl
set_option maxRecDepth 100000 in
theorem xk_189 : (xi_189.2.2.2.2.drop 0).all (x_ck1 xi_189) = true := by decide +kernel
set_option maxRecDepth 100000 in
theorem xc_190 : (x_tb (5181 / 1000))[5181 % 1000]? = some (.code xi_190.1 xi_190.2.1 xi_190.2.2.1 xi_190.2.2.2.1) := rfl
set_option maxRecDepth 100000 in
theorem xk_190 : (xi_190.2.2.2.2.drop 0).all (x_ck1 xi_190) = true := by decide +kernel
set_option maxRecDepth 100000 in
theorem xc_191 : (x_tb (5185 / 1000))[5185 % 1000]? = some (.code xi_191.1 xi_191.2.1 xi_191.2.2.1 xi_191.2.2.2.1) := rfl
set_option maxRecDepth 100000 in
theorem xk_191 : (xi_191.2.2.2.2.drop 0).all (x_ck1 xi_191) = true := by decide +kernel
