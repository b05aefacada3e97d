-- the law's cases by one table: what the kernel checks of each
/-- pc, ints, then the pool's place, the method, the place of the word of both calls; answers a long -/
abbrev LCs : Type := Nat × Nat × Nat × Nat × Nat × Nat × Nat × Nat × Bool
def lw_is (pc : Nat) (i : Instr) (n : Nat) : Bool := decide (decode code pc = .ok (i, n))
def lw_nx (pc j : Nat) : Nat := bif Nat.ble j 5 then pc + 5 else pc + 6
def lw_pu (pc j : Nat) : Bool := lw_is pc (.aload_n 0) 1 && lw_is (pc + 1) (.iload_n 3) 1 && (bif Nat.ble j 5 then lw_is (pc + 2) (.iconst (j : Int)) 1 && lw_is (pc + 3) .iadd 1 && lw_is (pc + 4) .iaload 1 else lw_is (pc + 2) (.bipush (j : Int)) 2 && lw_is (pc + 4) .iadd 1 && lw_is (pc + 5) .iaload 1)
def lw_ps : Nat → Nat → Nat → Bool
  | 0, _, _ => true
  | n + 1, pc, j => lw_pu pc j && lw_ps n (lw_nx pc j) (j + 1)
def lw_pe : Nat → Nat → Nat → Nat
  | 0, pc, _ => pc
  | n + 1, pc, j => lw_pe n (lw_nx pc j) (j + 1)
def lw_ck (q : LCs) : Bool := match q with
  | (pc, na, i1, m1, p1, i2, m2, p2, lg) =>
    Nat.ble na 6 && lw_is pc (.aload_n 1) 1 && lw_ps na (pc + 1) 1 && lw_is (lw_pe na (pc + 1) 1) (.invokevirtual i1) 3 && lw_wk i1 m1 p1 na && decide (mm_cls 0 = some (mm_tc m1)) &&
    lw_is (lw_pe na (pc + 1) 1 + 3) (.aload_n 2) 1 && lw_ps na (lw_pe na (pc + 1) 1 + 4) 1 && lw_is (lw_pe na (lw_pe na (pc + 1) 1 + 4) 1) (.invokevirtual i2) 3 && lw_wk i2 m2 p2 na && decide (mm_cls 55 = some (mm_tc m2)) &&
    (bif lg then lw_is (lw_pe na (lw_pe na (pc + 1) 1 + 4) 1 + 3) .lcmp 1 && lw_is (lw_pe na (lw_pe na (pc + 1) 1 + 4) 1 + 4) (.ifCond .eq (2127 - ((lw_pe na (lw_pe na (pc + 1) 1 + 4) 1 + 4 : Nat) : Int))) 3
      else lw_is (lw_pe na (lw_pe na (pc + 1) 1 + 4) 1 + 3) (.if_icmp .eq (2127 - ((lw_pe na (lw_pe na (pc + 1) 1 + 4) 1 + 3 : Nat) : Int))) 3)
def lw_as (xs : Nat → Int32) : Nat → Nat → List Int32
  | 0, _ => []
  | n + 1, k => xs k :: lw_as xs n (k + 1)
theorem lw_as_len (xs : Nat → Int32) : ∀ n k, (lw_as xs n k).length = n
  | 0, _ => rfl
  | n + 1, k => by rw [lw_as, List.length_cons, lw_as_len xs n (k + 1)]
theorem lw_isI {pc : Nat} {i : Instr} {n : Nat} (h : lw_is pc i n = true) : decode code pc = .ok (i, n) := of_decide_eq_true h
section LWG
variable {p : Program} {l : Launch} {e : Env} {s : State} {m : MethodId} {args : Array Value} {below : List Frame} {meth : Method} {c : Code} {Q : State → Prop}
variable {D : va_G} {cy : Nat → ClassId} {ad : Nat → Nat} {cells slots b L i : Nat} {xs : Nat → Int32} {H : Heap} {locs : List Loc} {ls : Array Slot}
theorem lw_push (hx : p.tables.exec = Jvm.exec) (hb : c.code = code) (hX : va_X b L xs s s.heap) (hbl : b < s.heap.size) (hS : va_S (AA s) s.heap H locs) (hi : i + 7 ≤ L) (hL : L ≤ 3584) (h0 : ls[0]? = some (.val (.ref b))) (h3 : ls[3]? = some (.val (.int (I (i : Int))))) :
    ∀ (n pc j : Nat) (st : List Value), lw_ps n pc j = true → j + n ≤ 7 → W p l e room_1 s m args below meth c H locs cells slots Q (F0 m (lw_pe n pc j) ls (((lw_as xs n (i + j)).map Value.int).reverse ++ st)) → W p l e room_1 s m args below meth c H locs cells slots Q (F0 m pc ls st) := by
  have hbA : ¬ AA s b := Nat.not_le.mpr hbl
  intro n
  induction n with
  | zero => intro pc j st _ _ k; exact k
  | succ n ih =>
    intro pc j st hp hj k
    unfold lw_ps at hp
    rw [Bool.and_eq_true] at hp
    obtain ⟨hp1, hp2⟩ := hp
    have k2 : W p l e room_1 s m args below meth c H locs cells slots Q (F0 m (lw_nx pc j) ls (.int (xs (i + j)) :: st)) := by
      refine ih (lw_nx pc j) (j + 1) (.int (xs (i + j)) :: st) hp2 (by omega) ?_
      have e1 : ((lw_as xs (n + 1) (i + j)).map Value.int).reverse ++ st = ((lw_as xs n (i + (j + 1))).map Value.int).reverse ++ (.int (xs (i + j)) :: st) := by
        rw [lw_as, List.map_cons, List.reverse_cons, List.append_assoc]
        rfl
      rw [← e1]
      exact k
    have ea : I (i : Int) + I (j : Int) = I ((i + j : Nat) : Int) := by rw [I_add]; rfl
    have et : (I ((i + j : Nat) : Int)).toNatClampNeg = i + j := by rw [I_nat (by omega) (by omega), Int.toNat_natCast]
    have hin : vp_in (I ((i + j : Nat) : Int)) L := by
      rintro (q | q)
      · rw [zero_I, I_lt (by omega) (by omega) (by omega) (by omega)] at q
        omega
      · rw [et] at q
        omega
    unfold lw_pu at hp1
    rw [Bool.and_eq_true, Bool.and_eq_true] at hp1
    obtain ⟨⟨d1, d2⟩, d3⟩ := hp1
    refine lv_aload_n hx hb (lw_isI d1) rfl h0 ?_
    refine lv_iload_n hx hb (lw_isI d2) rfl h3 ?_
    by_cases h5 : j ≤ 5
    · rw [show Nat.ble j 5 = true from Nat.ble_eq_true_of_le h5] at d3
      dsimp only [cond_true] at d3
      rw [Bool.and_eq_true, Bool.and_eq_true] at d3
      obtain ⟨⟨d3, d4⟩, d5⟩ := d3
      refine lv_iconst (v := I (j : Int)) hx hb (lw_isI d3) rfl ?_
      refine lv_iadd hx hb (lw_isI d4) ?_
      rw [ea]
      refine va_sld hx hb hX hbl hbA hS hin (lw_isI d5) ?_
      rw [et]
      have e2 : lw_nx pc j = pc + 5 := by unfold lw_nx; rw [show Nat.ble j 5 = true from Nat.ble_eq_true_of_le h5]; rfl
      rw [e2] at k2
      exact k2
    · have j6 : j = 6 := by omega
      subst j6
      rw [show Nat.ble 6 5 = false from rfl] at d3
      dsimp only [cond_false] at d3
      rw [Bool.and_eq_true, Bool.and_eq_true] at d3
      obtain ⟨⟨d3, d4⟩, d5⟩ := d3
      refine lv_bipush (v := I ((6 : Nat) : Int)) hx hb (lw_isI d3) (by decide) ?_
      refine lv_iadd hx hb (lw_isI d4) ?_
      rw [ea]
      refine va_sld hx hb hX hbl hbA hS hin (lw_isI d5) ?_
      rw [et]
      exact k2
theorem lw_go {pc na i1 m1 p1 i2 m2 p2 : Nat} {lg : Bool} {S : SS} {h : MH} (hx : p.tables.exec = Jvm.exec) (hb : c.code = code) (hml : c.maxLocals = 4) (hown : s.vm.findClass R_law = some m.cls) (hts : mm_hts args s) (hK : va_K D vwCl (mm_tys cy) s) (hZT : mm_St ad (AA s) s s.heap) (hX : va_X b L xs s s.heap) (hbl : b < s.heap.size)
    (hcl : cells ≤ room_1.cells) (hsl : slots ≤ room_1.slots) (hck : lw_ck (pc, na, i1, m1, p1, i2, m2, p2, lg) = true) (hi : i + 7 ≤ L) (hL : L ≤ 3584) (sem : lw_Sm lg m1 m2 (lw_as xs na (i + 1))) (J : InvS S) (rc : RC S h) (rm : RM S h) (hd : mm_dyn D cy ad (AA s) s H locs h) (hl : lv_has ls 4 [(0, .ref b), (1, .ref (ad 0)), (2, .ref (ad 55)), (3, .int (I (i : Int)))])
    (kk : ∀ (S' : SS) (h' : MH) (H' : Heap) (locs' : List Loc), InvS S' → RC S' h' → RM S' h' → mm_dyn D cy ad (AA s) s H' locs' h' → W p l e room_1 s m args below meth c H' locs' cells slots Q (F0 m 2127 ls [])) :
    W p l e room_1 s m args below meth c H locs cells slots Q (F0 m pc ls []) := by
  unfold lw_ck at hck
  dsimp only at hck
  simp only [Bool.and_eq_true] at hck
  obtain ⟨⟨⟨⟨⟨⟨⟨⟨⟨⟨⟨c0, c1⟩, c2⟩, c3⟩, c4⟩, c5⟩, c6⟩, c7⟩, c8⟩, c9⟩, c10⟩, c11⟩ := hck
  have n6 := Nat.le_of_ble_eq_true c0
  obtain ⟨r, h1, h2, S', d1, d2, l1, l2, x1, x2, i', rc', rm', kd⟩ := sem S h J rc rm
  have hl0 := lv_at hl 0 rfl
  have hl3 := lv_at hl 3 rfl
  refine lv_aload_n hx hb (lw_isI c1) rfl (lv_at hl 1 rfl) ?_
  refine lw_push hx hb hX hbl hd.2.2 hi hL hl0 hl3 na (pc + 1) 1 _ c2 (by omega) ?_
  generalize lw_pe na (pc + 1) 1 = e1 at *
  refine lw_call (kr := 0) (d := d1) hx hb hml hown hts hK hZT hd hl.1 x1 l1 (by decide) (of_decide_eq_true c5) c4 (lw_as_len xs na (i + 1)) (by simp) (lw_isI c3) (fun H1 locs1 hd1 => ?_) hcl hsl
  refine lv_aload_n hx hb (lw_isI c6) rfl (lv_at hl 2 rfl) ?_
  refine lw_push hx hb hX hbl hd1.2.2 hi hL hl0 hl3 na (e1 + 4) 1 _ c7 (by omega) ?_
  generalize lw_pe na (e1 + 4) 1 = e2 at *
  refine lw_call (kr := 55) (d := d2) hx hb hml hown hts hK hZT hd1 hl.1 x2 l2 (by decide) (of_decide_eq_true c10) c9 (lw_as_len xs na (i + 1)) ?_ (lw_isI c8) (fun H2 locs2 hd2 => ?_) hcl hsl
  · unfold lw_kd at kd
    split at kd <;> obtain ⟨v, rfl⟩ := kd <;> exact Nat.le_of_ble_eq_true rfl
  have fin := kk S' h2 H2 locs2 i' rc' rm' hd2
  unfold lw_kd at kd
  cases lg with
  | true =>
    rw [if_pos rfl] at kd
    obtain ⟨v, rfl⟩ := kd
    dsimp only [cond_true] at c11
    rw [Bool.and_eq_true] at c11
    refine W.lcmp hx hb (lw_isI c11.1) ?_
    refine lv_if_eq (tgt := 2127) hx hb (lw_isI c11.2) (by omega) (fun _ => fin) (fun q => absurd (by unfold lg_cmp; rw [if_neg (Int64.lt_irrefl), if_pos rfl]) q)
  | false =>
    rw [if_neg (by decide)] at kd
    obtain ⟨v, rfl⟩ := kd
    dsimp only [cond_false] at c11
    exact lv_icmp_eq (x := v) (y := v) (tgt := 2127) hx hb (lw_isI c11) (by omega) (fun _ => fin) (fun q => absurd rfl q)
end LWG
