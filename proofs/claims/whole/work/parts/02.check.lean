-- the tables hold what the Statement says: every entry of every method, by the kernel
def mm_lw (i : Nat) (w : Cond) : Bool := decide (lw_tbl[i]? = some w)
abbrev mm_ty (mid : Nat) : MethodName := (mm_th mid).1
abbrev mm_ml (mid : Nat) : Nat := (mm_th mid).2.1
abbrev mm_rt (mid : Nat) : Option FieldType := (mm_th mid).2.2.1
abbrev mm_tc (mid : Nat) : Nat := (mm_th mid).2.2.2.1
abbrev mm_i1 (mid : Nat) : Nat := (mm_th mid).2.2.2.2.1
abbrev mm_i2 (mid : Nat) : Nat := (mm_th mid).2.2.2.2.2.1
abbrev mm_i3 (mid : Nat) : Nat := (mm_th mid).2.2.2.2.2.2
/-- a method's bytes: what its word in the tables says -/
def mm_bc (o : Option Jvm.Cond) : ByteArray := match o with
  | some (.code _ b _ _) => b
  | _ => .mk #[]
def mm_by (mid : Nat) : ByteArray := mm_bc lw_tbl[mm_i1 mid]?
def mm_cw (mid : Nat) (o : Option Jvm.Cond) : Bool := match o with
  | some (.code y _ m r) => decide (y = mm_ty mid) && decide (m = mm_ml mid) && decide (r = mm_rt mid)
  | _ => false
def mm_x (f : Nat) : MethodName := bif Nat.beq f 0 then ⟨"BothCorners$Way", "secondsFor", "(III)I"⟩ else ⟨"BothCorners$Way", "foldsFor", "(III)I"⟩
def mm_np (y : MethodName) (z : Int) : Bool := decide ((parseMethodDescriptor y.desc).map (fun d => d.parameters.length) = some z.toNat)
def mm_fck (own : String) (ix a b c : Nat) (z : Int) (put : Bool) : Bool := match vwCl[a]? with
  | none => false
  | some (C, T, N) => decide (b < N) && decide ((T b).1 = C) && (!put || !(T b).2.2.2) && (!put || decide (z = 2 ∨ z = 3) == decide ((T b).2.2.1 = "Z")) && bif (decide (z = 1 ∨ z = 3)) then mm_lw c (.fieldLinkNest own ix C (T b).2.1 (T b).2.2.1 "BothCorners") else mm_lw c (.fieldLink own ix C (T b).2.1 (T b).2.2.1)
def mm_chi (own : String) (i : Instr) (pc mid a b c : Nat) (z : Int) : Bool := match i with
  | .getfield ix => mm_fck own ix a b c z false
  | .putfield ix => mm_fck own ix a b c z true
  | .getstatic ix => mm_lw c (.fieldLink own ix "BothCorners$Lies" "FROM" "[I")
  | .ldc ix => mm_lw c (.constant own ix (Int32.ofInt z))
  | .ldc_w ix => mm_lw c (.constant own ix (Int32.ofInt z))
  | .ldc2_w ix => mm_lw c (.constantLong own ix (Int64.ofInt z))
  | .ifCond _ off => decide ((pc : Int) + off = (a : Int))
  | .if_icmp _ off => decide ((pc : Int) + off = (a : Int))
  | .goto off => decide ((pc : Int) + off = (a : Int))
  | .istore k => decide (k < mm_ml mid)
  | .istore_n k => decide ((k : Nat) < mm_ml mid)
  | .lstore k => decide (k + 1 < mm_ml mid)
  | .lstore_n k => decide ((k : Nat) + 1 < mm_ml mid)
  | .astore k => decide (k < mm_ml mid)
  | .astore_n k => decide ((k : Nat) < mm_ml mid)
  | .iinc k _ => decide (k < mm_ml mid)
  | .lookupswitch _ ps => (ps.toList.zip (ps.toList.drop 1)).all (fun (a, next) => a.1 < next.1)
  | .ireturn => bif Nat.beq a 1 then decide (mm_rt mid = some .boolean) else decide (mm_rt mid = some .int)
  | .lreturn => decide (mm_rt mid = some .long)
  | .return_ => decide (mm_rt mid = none)
  | .invokevirtual ix => bif Nat.beq a 4 then mm_lw c (.methodLink own ix (mm_x b)) && mm_np (mm_x b) z else Nat.beq a 0 && decide (b < mm_NM) && mm_lw c (.methodLink own ix (mm_ty b)) && mm_lw (mm_i2 b) (.instanceMethod (mm_ty b)) && mm_lw (mm_i3 b) (.selects (mm_ty b).cls (mm_ty b) (mm_ty b)) && mm_np (mm_ty b) z
  | .invokestatic ix => bif Nat.beq a 8 then mm_lw c (.methodLink own ix arraycopyName) else bif Nat.beq a 5 then mm_lw c (.methodLink own ix Lib.Math.max.name) else bif Nat.beq a 6 then mm_lw c (.methodLink own ix Lib.Math.min.name) else bif Nat.beq a 7 then mm_lw c (.methodLink own ix Lib.Math.abs.name) else decide (b < mm_NM) && mm_lw (mm_i2 b) (.static (mm_ty b)) && mm_np (mm_ty b) z && (bif Nat.beq a 2 then mm_lw c (.methodLinkNest own ix (mm_ty b) "BothCorners") else Nat.beq a 1 && mm_lw c (.methodLink own ix (mm_ty b)))
  | .invokespecial ix => Nat.beq a 3 && decide (b < mm_NM) && mm_lw c (.methodLink own ix (mm_ty b)) && mm_lw (mm_i2 b) (.instanceMethod (mm_ty b)) && mm_np (mm_ty b) z && decide (Cond.sameMethod (mm_ty b).cls (mm_ty b).cls (mm_ty b).name (mm_ty b).desc ∈ lw_tbl) && decide (Cond.superclass own (mm_ty b).cls ∈ lw_tbl)
  | _ => true
def mm_wi : Instr → Nat
  | .bipush _ => 2
  | .iload _ => 2
  | .aload _ => 2
  | .lload _ => 2
  | .istore _ => 2
  | .lstore _ => 2
  | .ldc _ => 2
  | .sipush _ => 3
  | .ldc_w _ => 3
  | .ldc2_w _ => 3
  | .iinc _ _ => 3
  | .ifCond _ _ => 3
  | .if_icmp _ _ => 3
  | .goto _ => 3
  | .getfield _ => 3
  | .putfield _ => 3
  | .getstatic _ => 3
  | .invokevirtual _ => 3
  | .invokestatic _ => 3
  | .invokespecial _ => 3
  | _ => 1
def mm_wk (i : Instr) (n : Nat) : Bool := match i with
  | .tableswitch _ _ _ _ => true
  | .lookupswitch _ _ => true
  | i => Nat.beq n (mm_wi i)
def mm_che (mid pc : Nat) : Option MEnt → Bool
  | none => true
  | some (i, n, a, b, c, z) => decide (decode (mm_by mid) pc = .ok (i, n)) && mm_wk i n && mm_chi (mm_cn (mm_tc mid)) i pc mid a b c z
def mm_chm (mid : Nat) : Bool := mm_cw mid lw_tbl[mm_i1 mid]? && plainName (mm_ty mid).cls && decide ((mm_ty mid).cls = mm_cn (mm_tc mid)) && decide ((mm_ty mid).name ≠ "<init>") && decide ((mm_ty mid).cls ≠ "java/lang/invoke/MethodHandle") && decide ((mm_ty mid).cls ≠ "java/lang/invoke/VarHandle") && mm_lw (mm_ini (mm_tc mid)) (.initialized (mm_ty mid).cls) && (List.range (mm_Kt mid).1).all (fun pc => mm_che mid pc ((mm_Kt mid).2 pc))
set_option maxRecDepth 1000000 in
theorem mm_ck_0 : (List.range' 0 6).all mm_chm = true := by decide +kernel
set_option maxRecDepth 1000000 in
theorem mm_ck_6 : (List.range' 6 4).all mm_chm = true := by decide +kernel
set_option maxRecDepth 1000000 in
theorem mm_ck_10 : (List.range' 10 6).all mm_chm = true := by decide +kernel
set_option maxRecDepth 1000000 in
theorem mm_ck_16 : (List.range' 16 7).all mm_chm = true := by decide +kernel
set_option maxRecDepth 1000000 in
theorem mm_ck_23 : (List.range' 23 5).all mm_chm = true := by decide +kernel
set_option maxRecDepth 1000000 in
theorem mm_ck_28 : (List.range' 28 4).all mm_chm = true := by decide +kernel
set_option maxRecDepth 1000000 in
theorem mm_ck_32 : (List.range' 32 8).all mm_chm = true := by decide +kernel
set_option maxRecDepth 1000000 in
theorem mm_ck_40 : (List.range' 40 10).all mm_chm = true := by decide +kernel
set_option maxRecDepth 1000000 in
theorem mm_ck_50 : (List.range' 50 5).all mm_chm = true := by decide +kernel
set_option maxRecDepth 1000000 in
theorem mm_ck_55 : (List.range' 55 11).all mm_chm = true := by decide +kernel
set_option maxRecDepth 1000000 in
theorem mm_ck_66 : (List.range' 66 7).all mm_chm = true := by decide +kernel
set_option maxRecDepth 1000000 in
theorem mm_ck_73 : (List.range' 73 4).all mm_chm = true := by decide +kernel
set_option maxRecDepth 1000000 in
theorem mm_ck_77 : (List.range' 77 4).all mm_chm = true := by decide +kernel
set_option maxRecDepth 1000000 in
theorem mm_ck_81 : (List.range' 81 4).all mm_chm = true := by decide +kernel
set_option maxRecDepth 1000000 in
theorem mm_ck_85 : (List.range' 85 3).all mm_chm = true := by decide +kernel
set_option maxRecDepth 1000000 in
theorem mm_ck_88 : (List.range' 88 4).all mm_chm = true := by decide +kernel
set_option maxRecDepth 1000000 in
theorem mm_ck_92 : (List.range' 92 4).all mm_chm = true := by decide +kernel
set_option maxRecDepth 1000000 in
theorem mm_ck_96 : (List.range' 96 3).all mm_chm = true := by decide +kernel
set_option maxRecDepth 1000000 in
theorem mm_ck_99 : (List.range' 99 4).all mm_chm = true := by decide +kernel
set_option maxRecDepth 1000000 in
theorem mm_ck_103 : (List.range' 103 7).all mm_chm = true := by decide +kernel
set_option maxRecDepth 1000000 in
theorem mm_ck_110 : (List.range' 110 5).all mm_chm = true := by decide +kernel
set_option maxRecDepth 1000000 in
theorem mm_ck_115 : (List.range' 115 4).all mm_chm = true := by decide +kernel
set_option maxRecDepth 1000000 in
theorem mm_ck_119 : (List.range' 119 12).all mm_chm = true := by decide +kernel
set_option maxRecDepth 1000000 in
theorem mm_ck_131 : (List.range' 131 5).all mm_chm = true := by decide +kernel
set_option maxRecDepth 1000000 in
theorem mm_ck_136 : (List.range' 136 10).all mm_chm = true := by decide +kernel
set_option maxRecDepth 1000000 in
theorem mm_ck_146 : (List.range' 146 14).all mm_chm = true := by decide +kernel
set_option maxRecDepth 1000000 in
theorem mm_ck_160 : (List.range' 160 7).all mm_chm = true := by decide +kernel
