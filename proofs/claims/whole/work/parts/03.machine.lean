-- the mini machine: the same bytecode over a heap of known shape (places for addresses), as a function
abbrev MV : Type := Int32 ⊕ (Option Nat ⊕ Int64)
abbrev MH : Type := (Nat → Nat → Int32) × Option Nat
abbrev MLo : Type := Nat → Option MV
abbrev MSt : Type := Nat × MLo × List MV × MH
abbrev MRs : Type := Option MV × MH
abbrev MCl : Type := Nat → List MV → MH → Option MRs
def mm_cat : MV → Nat
  | .inr (.inr _) => 2
  | _ => 1
def mm_v (ad : Nat → Nat) : MV → Value
  | .inl x => .int x
  | .inr (.inl r) => va_rf (r.map ad)
  | .inr (.inr x) => .long x
def mm_dl (o : Option MV) : Option MV := match o with
  | some (.inr (.inr _)) => none
  | x => x
def mm_set (ls : MLo) (i : Nat) (v : MV) : MLo := fun j => bif Nat.beq j i then some v else bif Nat.beq (j + 1) i then mm_dl (ls j) else ls j
def mm_set2 (ls : MLo) (i : Nat) (v : MV) : MLo := fun j => bif Nat.beq j i then some v else bif Nat.beq j (i + 1) then none else bif Nat.beq (j + 1) i then mm_dl (ls j) else ls j
def mm_lf : List (Nat × MV) → MLo
  | [], _ => none
  | (i, v) :: l, j => bif Nat.beq j i then some v else mm_lf l j
def mm_args : Nat → List MV → List (Nat × MV)
  | _, [] => []
  | i, .inl x :: vs => (i, .inl x) :: mm_args (i + 1) vs
  | i, .inr (.inl x) :: vs => (i, .inr (.inl x)) :: mm_args (i + 1) vs
  | i, .inr (.inr x) :: vs => (i, .inr (.inr x)) :: mm_args (i + 2) vs
def mm_sum : List MV → Nat
  | [] => 0
  | v :: l => mm_cat v + mm_sum l
def mm_hset (f : Nat → Nat → Int32) (k i : Nat) (x : Int32) : Nat → Nat → Int32 := fun k' i' => if k' = k ∧ i' = i then x else f k' i'
def mm_hcpy (f : Nat → Nat → Int32) (ks kd sp dp n : Nat) : Nat → Nat → Int32 := fun k' => if k' = kd then va_cpy (f ks) (f kd) sp dp n else f k'
def mm_rf (h : MH) (k j : Nat) (r : Option Nat) : Option Nat := bif Nat.beq k mm_kp && Nat.beq j mm_kf then h.2 else r
def mm_cls (k : Nat) : Option Nat := match mm_sh k with
  | .inr (.inl (ci, _)) => some ci
  | _ => none
def mm_vf : List (Nat × Nat × Nat × Nat) → Nat → Nat → Option (Nat × Nat)
  | [], _, _ => none
  | (ci, f, m, s) :: l, c, g => bif Nat.beq ci c && Nat.beq f g then some (m, s) else mm_vf l c g
abbrev MAc : Type := Option MSt
def mm_1 (st : List MV) (f : Int32 → List MV → MAc) : MAc := match st with
  | .inl x :: r => f x r
  | _ => none
def mm_2 (st : List MV) (f : Int32 → Int32 → List MV → MAc) : MAc := match st with
  | .inl y :: .inl x :: r => f x y r
  | _ => none
def mm_l1 (st : List MV) (f : Int64 → List MV → MAc) : MAc := match st with
  | .inr (.inr x) :: r => f x r
  | _ => none
def mm_l2 (st : List MV) (f : Int64 → Int64 → List MV → MAc) : MAc := match st with
  | .inr (.inr y) :: .inr (.inr x) :: r => f x y r
  | _ => none
def mm_r1 (st : List MV) (f : Nat → List MV → MAc) : MAc := match st with
  | .inr (.inl (some k)) :: r => f k r
  | _ => none
def mm_c0 (c : ClassFile.Cond) (x : Int32) : Bool := match c with
  | .eq => decide (x = 0)
  | .ne => decide (¬ x = 0)
  | .lt => decide (x < 0)
  | .ge => decide (0 ≤ x)
  | .gt => decide (0 < x)
  | .le => decide (x ≤ 0)
def mm_c2 (c : ClassFile.Cond) (x y : Int32) : Bool := match c with
  | .eq => decide (x = y)
  | .ne => decide (¬ x = y)
  | .lt => decide (x < y)
  | .ge => decide (y ≤ x)
  | .gt => decide (y < x)
  | .le => decide (x ≤ y)
def mm_nx (pc : Nat) (ls : MLo) (st : List MV) (h : MH) : MAc := some (pc, ls, st, h)
def mm_ln (o : Option MV) (f : MV → MAc) : MAc := match o with
  | some v => f v
  | none => none
def mm_li (o : Option MV) (f : Int32 → MAc) : MAc := match o with
  | some (.inl v) => f v
  | _ => none
def mm_lr (o : Option MV) (f : Nat → MAc) : MAc := match o with
  | some (.inr (.inl (some k))) => f k
  | _ => none
def mm_ll (o : Option MV) (f : Int64 → MAc) : MAc := match o with
  | some (.inr (.inr v)) => f v
  | _ => none
def mm_in (i : Int32) (n : Nat) : Bool := decide (¬ (i < 0 ∨ n ≤ i.toNatClampNeg))
def mm_gf (k a b : Nat) (h : MH) (f : MV → MAc) : MAc := bif Nat.ble mm_NP k then none else match mm_sh k with
  | .inr (.inl (ci, fl)) => bif Nat.beq ci a then (match fl[b]? with
    | some none => f (.inl (h.1 k b))
    | some (some r) => f (.inr (.inl (mm_rf h k b r)))
    | none => none) else none
  | _ => none
def mm_pf (k a b : Nat) (z : Int) (v : MV) (h : MH) (f : MH → MAc) : MAc := bif Nat.ble mm_NP k then none else match mm_sh k with
  | .inr (.inl (ci, fl)) => bif Nat.beq ci a then (match fl[b]?, v with
    | some none, .inl x => bif decide (z < 2) || decide (x &&& 1 = x) then f (mm_hset h.1 k b x, h.2) else none
    | some (some _), .inr (.inl r) => bif Nat.beq k mm_kp && Nat.beq b mm_kf && decide (z < 2) then f (h.1, r) else none
    | _, _ => none) else none
  | _ => none
def mm_ia (k : Nat) (i : Int32) (h : MH) (f : Int32 → MAc) : MAc := match mm_sh k with
  | .inl n => bif mm_in i n && Nat.blt k mm_NP then f (h.1 k i.toNatClampNeg) else none
  | .inr (.inr (.inr t)) => bif mm_in i t.length && Nat.beq k mm_NP then f (Int32.ofInt (t.getD i.toNatClampNeg 0)) else none
  | _ => none
def mm_is (k : Nat) (i x : Int32) (h : MH) (f : MH → MAc) : MAc := bif Nat.ble mm_NP k then none else match mm_sh k with
  | .inl n => bif mm_in i n then f (mm_hset h.1 k i.toNatClampNeg x, h.2) else none
  | _ => none
def mm_aa (k : Nat) (i : Int32) (f : Option Nat → MAc) : MAc := bif Nat.ble mm_NP k then none else match mm_sh k with
  | .inr (.inr (.inl (rs, _))) => bif mm_in i rs.length then f (rs.getD i.toNatClampNeg none) else none
  | _ => none
def mm_al (k : Nat) (f : Int32 → MAc) : MAc := bif Nat.ble mm_NP k then none else match mm_sh k with
  | .inl n => f (Int32.ofNat n)
  | _ => none
def mm_iv (call : MCl) (pc : Nat) (ls : MLo) (st : List MV) (h : MH) (tg m : Nat) : MAc :=
  bif Nat.ble m st.length && Nat.ble (mm_sum (st.drop m)) 8 then (match call tg (st.take m).reverse h with
    | some (r, h') => mm_nx (pc + 3) ls (r.toList ++ st.drop m) h'
    | none => none) else none
def mm_rc (st : List MV) (n : Nat) (f : Nat → MAc) : MAc := match st[n]? with
  | some (.inr (.inl (some k))) => bif Nat.ble mm_NP k then none else f k
  | _ => none
def mm_cp (ls : MLo) (pc : Nat) (st : List MV) (h : MH) : MAc := match st with
  | .inl n :: .inl dp :: .inr (.inl (some kd)) :: .inl sp :: .inr (.inl (some ks)) :: r => (match mm_sh ks, mm_sh kd with
    | .inl ns, .inl nd => bif Nat.blt ks mm_NP && Nat.blt kd mm_NP && decide (¬ sp < 0 ∧ ¬ dp < 0 ∧ ¬ n < 0 ∧ sp.toNatClampNeg + n.toNatClampNeg ≤ ns ∧ dp.toNatClampNeg + n.toNatClampNeg ≤ nd) && Nat.ble (mm_sum r) 8 then mm_nx (pc + 3) ls r (mm_hcpy h.1 ks kd sp.toNatClampNeg dp.toNatClampNeg n.toNatClampNeg, h.2) else none
    | _, _ => none)
  | _ => none
def mm_tn (z : Int) (f : Nat → MAc) : MAc := match z with
  | .ofNat n => f n
  | _ => none
def mm_tsw (dflt lo hi : Int) (offs : Array Int) (x : Int32) : Option Int := bif decide (x.toInt < lo ∨ hi < x.toInt) then some dflt else offs[(x.toInt - lo).toNat]?
def mm_ac (call : MCl) (pc : Nat) (ls : MLo) (st : List MV) (h : MH) (i : Instr) (n a b : Nat) (z : Int) : MAc := match i with
  | .iconst v => mm_nx (pc + 1) ls (.inl (Int32.ofInt v) :: st) h
  | .bipush v => mm_nx (pc + 2) ls (.inl (Int8.ofInt v).toInt32 :: st) h
  | .sipush v => mm_nx (pc + 3) ls (.inl (Int16.ofInt v).toInt32 :: st) h
  | .ldc _ => mm_nx (pc + 2) ls (.inl (Int32.ofInt z) :: st) h
  | .ldc_w _ => mm_nx (pc + 3) ls (.inl (Int32.ofInt z) :: st) h
  | .ldc2_w _ => mm_nx (pc + 3) ls (.inr (.inr (Int64.ofInt z)) :: st) h
  | .lconst l => mm_nx (pc + 1) ls (.inr (.inr (Int64.ofNat (l : Nat))) :: st) h
  | .iload_n k => mm_li (ls (k : Nat)) (fun x => mm_nx (pc + 1) ls (.inl x :: st) h)
  | .iload k => mm_li (ls k) (fun x => mm_nx (pc + 2) ls (.inl x :: st) h)
  | .aload_n k => mm_lr (ls (k : Nat)) (fun x => mm_nx (pc + 1) ls (.inr (.inl (some x)) :: st) h)
  | .aload k => mm_lr (ls k) (fun x => mm_nx (pc + 2) ls (.inr (.inl (some x)) :: st) h)
  | .lload_n k => mm_ll (ls (k : Nat)) (fun x => mm_nx (pc + 1) ls (.inr (.inr x) :: st) h)
  | .lload k => mm_ll (ls k) (fun x => mm_nx (pc + 2) ls (.inr (.inr x) :: st) h)
  | .istore_n k => mm_1 st (fun x r => mm_nx (pc + 1) (mm_set ls (k : Nat) (.inl x)) r h)
  | .istore k => mm_1 st (fun x r => mm_nx (pc + 2) (mm_set ls k (.inl x)) r h)
  | .astore_n k => mm_r1 st (fun x r => mm_nx (pc + 1) (mm_set ls (k : Nat) (.inr (.inl (some x)))) r h)
  | .lstore_n k => mm_l1 st (fun x r => mm_nx (pc + 1) (mm_set2 ls (k : Nat) (.inr (.inr x))) r h)
  | .lstore k => mm_l1 st (fun x r => mm_nx (pc + 2) (mm_set2 ls k (.inr (.inr x))) r h)
  | .iinc k d => mm_li (ls k) (fun x => bif Nat.beq n 3 then mm_nx (pc + 3) (mm_set ls k (.inl (x + Int32.ofInt d))) st h else none)
  | .iadd => mm_2 st (fun x y r => mm_nx (pc + 1) ls (.inl (x + y) :: r) h)
  | .isub => mm_2 st (fun x y r => mm_nx (pc + 1) ls (.inl (x - y) :: r) h)
  | .imul => mm_2 st (fun x y r => mm_nx (pc + 1) ls (.inl (x * y) :: r) h)
  | .iand => mm_2 st (fun x y r => mm_nx (pc + 1) ls (.inl (x &&& y) :: r) h)
  | .ior => mm_2 st (fun x y r => mm_nx (pc + 1) ls (.inl (x ||| y) :: r) h)
  | .ixor => mm_2 st (fun x y r => mm_nx (pc + 1) ls (.inl (x ^^^ y) :: r) h)
  | .ishl => mm_2 st (fun x y r => mm_nx (pc + 1) ls (.inl (x <<< (y &&& 31)) :: r) h)
  | .ishr => mm_2 st (fun x y r => mm_nx (pc + 1) ls (.inl (x >>> (y &&& 31)) :: r) h)
  | .iushr => mm_2 st (fun x y r => mm_nx (pc + 1) ls (.inl (x.toUInt32 >>> (y.toUInt32 &&& Int32.toUInt32 31)).toInt32 :: r) h)
  | .idiv => mm_2 st (fun x y r => bif decide (y = 0) then none else mm_nx (pc + 1) ls (.inl (x / y) :: r) h)
  | .irem => mm_2 st (fun x y r => bif decide (y = 0) then none else mm_nx (pc + 1) ls (.inl (x - x / y * y) :: r) h)
  | .ineg => mm_1 st (fun x r => mm_nx (pc + 1) ls (.inl (-x) :: r) h)
  | .i2l => mm_1 st (fun x r => mm_nx (pc + 1) ls (.inr (.inr x.toInt64) :: r) h)
  | .lsub => mm_l2 st (fun x y r => mm_nx (pc + 1) ls (.inr (.inr (x - y)) :: r) h)
  | .lmul => mm_l2 st (fun x y r => mm_nx (pc + 1) ls (.inr (.inr (x * y)) :: r) h)
  | .ldiv => mm_l2 st (fun x y r => bif decide (y = 0) then none else mm_nx (pc + 1) ls (.inr (.inr (x / y)) :: r) h)
  | .lrem => mm_l2 st (fun x y r => bif decide (y = 0) then none else mm_nx (pc + 1) ls (.inr (.inr (x - x / y * y)) :: r) h)
  | .lcmp => mm_l2 st (fun x y r => mm_nx (pc + 1) ls (.inl (lg_cmp x y) :: r) h)
  | .ifCond c _ => mm_1 st (fun x r => mm_nx (bif mm_c0 c x then a else pc + 3) ls r h)
  | .if_icmp c _ => mm_2 st (fun x y r => mm_nx (bif mm_c2 c x y then a else pc + 3) ls r h)
  | .goto _ => mm_nx a ls st h
  | .dup => (match st with
    | v :: r => bif Nat.beq (mm_cat v) 1 then mm_nx (pc + 1) ls (v :: v :: r) h else none
    | _ => none)
  | .dup2 => (match st with
    | v :: w :: r => bif Nat.beq (mm_cat v) 1 && Nat.beq (mm_cat w) 1 then mm_nx (pc + 1) ls (v :: w :: v :: w :: r) h else none
    | _ => none)
  | .pop => (match st with
    | v :: r => bif Nat.beq (mm_cat v) 1 then mm_nx (pc + 1) ls r h else none
    | _ => none)
  | .getfield _ => mm_r1 st (fun k r => mm_gf k a b h (fun v => mm_nx (pc + 3) ls (v :: r) h))
  | .putfield _ => (match st with
    | v :: r0 => mm_r1 r0 (fun k r => mm_pf k a b z v h (fun h' => mm_nx (pc + 3) ls r h'))
    | _ => none)
  | .getstatic _ => mm_nx (pc + 3) ls (.inr (.inl (some mm_NP)) :: st) h
  | .iaload => mm_1 st (fun i r0 => mm_r1 r0 (fun k r => mm_ia k i h (fun x => mm_nx (pc + 1) ls (.inl x :: r) h)))
  | .iastore => mm_2 st (fun i x r0 => mm_r1 r0 (fun k r => mm_is k i x h (fun h' => mm_nx (pc + 1) ls r h')))
  | .aaload => mm_1 st (fun i r0 => mm_r1 r0 (fun k r => mm_aa k i (fun x => mm_nx (pc + 1) ls (.inr (.inl x) :: r) h)))
  | .arraylength => mm_r1 st (fun k r => mm_al k (fun x => mm_nx (pc + 1) ls (.inl x :: r) h))
  | .tableswitch dflt lo hi offs => mm_1 st (fun x r => match mm_tsw dflt lo hi offs x with
    | some off => mm_tn ((pc : Int) + off) (fun t => mm_nx t ls r h)
    | none => none)
  | .lookupswitch dflt ps => mm_1 st (fun x r => mm_tn ((pc : Int) + Op.lookupswitch.offset ps.toList dflt x.toInt) (fun t => mm_nx t ls r h))
  | .invokevirtual _ => mm_rc st z.toNat (fun k => bif Nat.beq a 4 then (match mm_cls k with
      | some ci => (match mm_vf mm_vt ci b with
        | some (tg, _) => mm_iv call pc ls st h tg (z.toNat + 1)
        | none => none)
      | none => none) else bif decide (mm_cls k = some (mm_tc b)) then mm_iv call pc ls st h b (z.toNat + 1) else none)
  | .invokestatic _ => bif Nat.beq a 8 then mm_cp ls pc st h else bif Nat.beq a 5 then mm_2 st (fun x y r => bif Nat.ble (mm_sum r) 8 then mm_nx (pc + 3) ls (.inl (if x < y then y else x) :: r) h else none) else bif Nat.beq a 6 then mm_2 st (fun x y r => bif Nat.ble (mm_sum r) 8 then mm_nx (pc + 3) ls (.inl (if y < x then y else x) :: r) h else none) else bif Nat.beq a 7 then mm_1 st (fun x r => bif Nat.ble (mm_sum r) 8 then mm_nx (pc + 3) ls (.inl (if 0 ≤ x then x else 0 - x) :: r) h else none) else mm_iv call pc ls st h b z.toNat
  | .invokespecial _ => mm_rc st z.toNat (fun k => match mm_cls k with
      | some _ => mm_iv call pc ls st h b (z.toNat + 1)
      | none => none)
  | _ => none
def mm_rtn (i : Instr) (a : Nat) (st : List MV) (h : MH) : Option MRs := match i with
  | .ireturn => (match st with
    | [.inl x] => bif Nat.beq a 1 then (bif decide (x &&& 1 = x) then some (some (.inl x), h) else none) else some (some (.inl x), h)
    | _ => none)
  | .lreturn => (match st with
    | [.inr (.inr x)] => some (some (.inr (.inr x)), h)
    | _ => none)
  | .return_ => (match st with
    | [] => some (none, h)
    | _ => none)
  | _ => none
def mm_ex (call : MCl) (mid : Nat) : Nat → Nat → MLo → List MV → MH → Option MRs
  | 0, _, _, _, _ => none
  | n + 1, pc, ls, st, h => match mm_code mid pc with
    | none => none
    | some (i, w, a, b, _, z) => match mm_rtn i a st h with
      | some r => some r
      | none => match mm_ac call pc ls st h i w a b z with
        | none => none
        | some (pc', ls', st', h') => mm_ex call mid n pc' ls' st' h'
def mm_run : Nat → Nat → MCl
  | 0, _ => fun _ _ _ => none
  | d + 1, n => fun mid as h => bif Nat.ble mm_NM mid then none else bif Nat.ble (mm_sum as) (mm_ml mid) then mm_ex (mm_run d n) mid n 0 (mm_lf (mm_args 0 as)) [] h else none
