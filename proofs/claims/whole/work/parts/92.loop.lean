-- the law's loop
def lw_of : Array Int := #[247, 270, 283, 316, 349, 382, 415, 448, 481, 514, 547, 570, 583, 636, 669, 744, 787, 840, 893, 926, 959, 982, 1015, 1058, 1111, 1124, 1137, 1170, 1193, 1216, 1229, 1242, 1265, 1319, 1362, 1425, 1448, 1471, 1524, 1547, 1590, 1623, 1666, 1699, 1712, 1745, 1758, 1811, 1834, 1887, 1910, 1933, 1956, 1989, 2002, 2045, 2058, 2071]
theorem dw_18 : decode code 18 = .ok (.iload_n 3, 1) := by decide +kernel
theorem dw_19 : decode code 19 = .ok (.aload_n 0, 1) := by decide +kernel
theorem dw_20 : decode code 20 = .ok (.arraylength, 1) := by decide +kernel
theorem dw_21 : decode code 21 = .ok (.bipush 7, 2) := by decide +kernel
theorem dw_23 : decode code 23 = .ok (.isub, 1) := by decide +kernel
theorem dw_24 : decode code 24 = .ok (.if_icmp .gt 2109, 3) := by decide +kernel
theorem dw_27 : decode code 27 = .ok (.aload_n 0, 1) := by decide +kernel
theorem dw_28 : decode code 28 = .ok (.iload_n 3, 1) := by decide +kernel
theorem dw_29 : decode code 29 = .ok (.iaload, 1) := by decide +kernel
theorem dw_30 : decode code 30 = .ok (.bipush 63, 2) := by decide +kernel
theorem dw_32 : decode code 32 = .ok (.iand, 1) := by decide +kernel
theorem dw_2127 : decode code 2127 = .ok (.iinc 3 7, 3) := by decide +kernel
theorem dw_2130 : decode code 2130 = .ok (.goto (-2112), 3) := by decide +kernel
theorem dw_2133 : decode code 2133 = .ok (.iconst 1, 1) := by decide +kernel
theorem dw_2134 : decode code 2134 = .ok (.ireturn, 1) := by decide +kernel
set_option maxRecDepth 100000 in
theorem dw_33 : decode code 33 = .ok (.tableswitch 2094 0 57 lw_of, 247) := by decide +kernel
section LWL
variable {p : Program} {l : Launch} {e : Env} {s : State} {m : MethodId} {args : Array Value} {below : List Frame} {meth : Method} {c : Code} {Q : State → Prop}
variable {D : va_G} {cy : Nat → ClassId} {ad : Nat → Nat} {cells slots b L i : Nat} {xs : Nat → Int32} {H : Heap} {locs : List Loc} {ls : Array Slot}
theorem lw_cases {S : SS} {h : MH} (hx : p.tables.exec = Jvm.exec) (hb : c.code = code) (hml : c.maxLocals = 4) (hown : s.vm.findClass R_law = some m.cls) (hts : mm_hts args s) (hK : va_K D vwCl (mm_tys cy) s) (hZT : mm_St ad (AA s) s s.heap) (hX : va_X b L xs s s.heap) (hbl : b < s.heap.size)
    (hcl : cells ≤ room_1.cells) (hsl : slots ≤ room_1.slots) (hi : i + 7 ≤ L) (hL : L ≤ 3584) (J : InvS S) (rc : RC S h) (rm : RM S h) (hd : mm_dyn D cy ad (AA s) s H locs h) (hl : lv_has ls 4 [(0, .ref b), (1, .ref (ad 0)), (2, .ref (ad 55)), (3, .int (I (i : Int)))])
    (kk : ∀ (S' : SS) (h' : MH) (H' : Heap) (locs' : List Loc), InvS S' → RC S' h' → RM S' h' → mm_dyn D cy ad (AA s) s H' locs' h' → W p l e room_1 s m args below meth c H' locs' cells slots Q (F0 m 2127 ls [])) :
    ∀ t : Nat, t < 58 → ∃ (pc : Nat) (off : Int), lw_of[t]? = some off ∧ (33 : Int) + off = (pc : Int) ∧ W p l e room_1 s m args below meth c H locs cells slots Q (F0 m pc ls [])
  | 0, _ => ⟨280, 247, rfl, rfl, lw_go hx hb hml hown hts hK hZT hX hbl hcl hsl lw_tk_0 hi hL (sm_feed (xs (i + 1))) J rc rm hd hl kk⟩
  | 1, _ => ⟨303, 270, rfl, rfl, lw_go hx hb hml hown hts hK hZT hX hbl hcl hsl lw_tk_1 hi hL (sm_house) J rc rm hd hl kk⟩
  | 2, _ => ⟨316, 283, rfl, rfl, lw_go hx hb hml hown hts hK hZT hX hbl hcl hsl lw_tk_2 hi hL (sm_bedOf (xs (i + 1)) (xs (i + 1 + 1))) J rc rm hd hl kk⟩
  | 3, _ => ⟨349, 316, rfl, rfl, lw_go hx hb hml hown hts hK hZT hX hbl hcl hsl lw_tk_3 hi hL (sm_personOf (xs (i + 1)) (xs (i + 1 + 1))) J rc rm hd hl kk⟩
  | 4, _ => ⟨382, 349, rfl, rfl, lw_go hx hb hml hown hts hK hZT hX hbl hcl hsl lw_tk_4 hi hL (sm_wayOf (xs (i + 1)) (xs (i + 1 + 1))) J rc rm hd hl kk⟩
  | 5, _ => ⟨415, 382, rfl, rfl, lw_go hx hb hml hown hts hK hZT hX hbl hcl hsl lw_tk_5 hi hL (sm_bed (xs (i + 1)) (xs (i + 1 + 1))) J rc rm hd hl kk⟩
  | 6, _ => ⟨448, 415, rfl, rfl, lw_go hx hb hml hown hts hK hZT hX hbl hcl hsl lw_tk_6 hi hL (sm_person (xs (i + 1)) (xs (i + 1 + 1))) J rc rm hd hl kk⟩
  | 7, _ => ⟨481, 448, rfl, rfl, lw_go hx hb hml hown hts hK hZT hX hbl hcl hsl lw_tk_7 hi hL (sm_way (xs (i + 1)) (xs (i + 1 + 1))) J rc rm hd hl kk⟩
  | 8, _ => ⟨514, 481, rfl, rfl, lw_go hx hb hml hown hts hK hZT hX hbl hcl hsl lw_tk_8 hi hL (sm_skill (xs (i + 1)) (xs (i + 1 + 1))) J rc rm hd hl kk⟩
  | 9, _ => ⟨547, 514, rfl, rfl, lw_go hx hb hml hown hts hK hZT hX hbl hcl hsl lw_tk_9 hi hL (sm_cover (xs (i + 1)) (xs (i + 1 + 1))) J rc rm hd hl kk⟩
  | 10, _ => ⟨580, 547, rfl, rfl, lw_go hx hb hml hown hts hK hZT hX hbl hcl hsl lw_tk_10 hi hL (sm_turn (xs (i + 1))) J rc rm hd hl kk⟩
  | 11, _ => ⟨603, 570, rfl, rfl, lw_go hx hb hml hown hts hK hZT hX hbl hcl hsl lw_tk_11 hi hL (sm_back) J rc rm hd hl kk⟩
  | 12, _ => ⟨616, 583, rfl, rfl, lw_go hx hb hml hown hts hK hZT hX hbl hcl hsl lw_tk_12 hi hL (sm_takes (xs (i + 1)) (xs (i + 1 + 1)) (xs (i + 1 + 1 + 1)) (xs (i + 1 + 1 + 1 + 1))) J rc rm hd hl kk⟩
  | 13, _ => ⟨669, 636, rfl, rfl, lw_go hx hb hml hown hts hK hZT hX hbl hcl hsl lw_tk_13 hi hL (sm_bestWay (xs (i + 1)) (xs (i + 1 + 1))) J rc rm hd hl kk⟩
  | 14, _ => ⟨702, 669, rfl, rfl, lw_go hx hb hml hown hts hK hZT hX hbl hcl hsl lw_tk_14 hi hL (sm_anew (xs (i + 1)) (xs (i + 1 + 1)) (xs (i + 1 + 1 + 1)) (xs (i + 1 + 1 + 1 + 1)) (xs (i + 1 + 1 + 1 + 1 + 1)) (xs (i + 1 + 1 + 1 + 1 + 1 + 1))) J rc rm hd hl kk⟩
  | 15, _ => ⟨777, 744, rfl, rfl, lw_go hx hb hml hown hts hK hZT hX hbl hcl hsl lw_tk_15 hi hL (sm_onBed (xs (i + 1)) (xs (i + 1 + 1)) (xs (i + 1 + 1 + 1))) J rc rm hd hl kk⟩
  | 16, _ => ⟨820, 787, rfl, rfl, lw_go hx hb hml hown hts hK hZT hX hbl hcl hsl lw_tk_16 hi hL (sm_together (xs (i + 1)) (xs (i + 1 + 1)) (xs (i + 1 + 1 + 1)) (xs (i + 1 + 1 + 1 + 1))) J rc rm hd hl kk⟩
  | 17, _ => ⟨873, 840, rfl, rfl, lw_go hx hb hml hown hts hK hZT hX hbl hcl hsl lw_tk_17 hi hL (sm_waits (xs (i + 1)) (xs (i + 1 + 1)) (xs (i + 1 + 1 + 1)) (xs (i + 1 + 1 + 1 + 1))) J rc rm hd hl kk⟩
  | 18, _ => ⟨926, 893, rfl, rfl, lw_go hx hb hml hown hts hK hZT hX hbl hcl hsl lw_tk_18 hi hL (sm_crosswise (xs (i + 1)) (xs (i + 1 + 1))) J rc rm hd hl kk⟩
  | 19, _ => ⟨959, 926, rfl, rfl, lw_go hx hb hml hown hts hK hZT hX hbl hcl hsl lw_tk_19 hi hL (sm_covers (xs (i + 1)) (xs (i + 1 + 1))) J rc rm hd hl kk⟩
  | 20, _ => ⟨992, 959, rfl, rfl, lw_go hx hb hml hown hts hK hZT hX hbl hcl hsl lw_tk_20 hi hL (sm_who (xs (i + 1))) J rc rm hd hl kk⟩
  | 21, _ => ⟨1015, 982, rfl, rfl, lw_go hx hb hml hown hts hK hZT hX hbl hcl hsl lw_tk_21 hi hL (sm_learned (xs (i + 1)) (xs (i + 1 + 1))) J rc rm hd hl kk⟩
  | 22, _ => ⟨1048, 1015, rfl, rfl, lw_go hx hb hml hown hts hK hZT hX hbl hcl hsl lw_tk_22 hi hL (sm_order (xs (i + 1)) (xs (i + 1 + 1)) (xs (i + 1 + 1 + 1))) J rc rm hd hl kk⟩
  | 23, _ => ⟨1091, 1058, rfl, rfl, lw_go hx hb hml hown hts hK hZT hX hbl hcl hsl lw_tk_23 hi hL (sm_tapes (xs (i + 1)) (xs (i + 1 + 1)) (xs (i + 1 + 1 + 1)) (xs (i + 1 + 1 + 1 + 1))) J rc rm hd hl kk⟩
  | 24, _ => ⟨1144, 1111, rfl, rfl, lw_go hx hb hml hown hts hK hZT hX hbl hcl hsl lw_tk_24 hi hL (sm_lumpy) J rc rm hd hl kk⟩
  | 25, _ => ⟨1157, 1124, rfl, rfl, lw_go hx hb hml hown hts hK hZT hX hbl hcl hsl lw_tk_25 hi hL (sm_forged) J rc rm hd hl kk⟩
  | 26, _ => ⟨1170, 1137, rfl, rfl, lw_go hx hb hml hown hts hK hZT hX hbl hcl hsl lw_tk_26 hi hL (sm_corner (xs (i + 1)) (xs (i + 1 + 1))) J rc rm hd hl kk⟩
  | 27, _ => ⟨1203, 1170, rfl, rfl, lw_go hx hb hml hown hts hK hZT hX hbl hcl hsl lw_tk_27 hi hL (sm_right (xs (i + 1))) J rc rm hd hl kk⟩
  | 28, _ => ⟨1226, 1193, rfl, rfl, lw_go hx hb hml hown hts hK hZT hX hbl hcl hsl lw_tk_28 hi hL (sm_lands (xs (i + 1))) J rc rm hd hl kk⟩
  | 29, _ => ⟨1249, 1216, rfl, rfl, lw_go hx hb hml hown hts hK hZT hX hbl hcl hsl lw_tk_29 hi hL (sm_orderOf) J rc rm hd hl kk⟩
  | 30, _ => ⟨1262, 1229, rfl, rfl, lw_go hx hb hml hown hts hK hZT hX hbl hcl hsl lw_tk_30 hi hL (sm_mixed) J rc rm hd hl kk⟩
  | 31, _ => ⟨1275, 1242, rfl, rfl, lw_go hx hb hml hown hts hK hZT hX hbl hcl hsl lw_tk_31 hi hL (sm_waysToLie (xs (i + 1))) J rc rm hd hl kk⟩
  | 32, _ => ⟨1298, 1265, rfl, rfl, lw_go hx hb hml hown hts hK hZT hX hbl hcl hsl lw_tk_32 hi hL (sm_cat (xs (i + 1)) (xs (i + 1 + 1)) (xs (i + 1 + 1 + 1)) (xs (i + 1 + 1 + 1 + 1))) J rc rm hd hl kk⟩
  | 33, _ => ⟨1352, 1319, rfl, rfl, lw_go hx hb hml hown hts hK hZT hX hbl hcl hsl lw_tk_33 hi hL (sm_look (xs (i + 1)) (xs (i + 1 + 1)) (xs (i + 1 + 1 + 1))) J rc rm hd hl kk⟩
  | 34, _ => ⟨1395, 1362, rfl, rfl, lw_go hx hb hml hown hts hK hZT hX hbl hcl hsl lw_tk_34 hi hL (sm_needs (xs (i + 1)) (xs (i + 1 + 1)) (xs (i + 1 + 1 + 1)) (xs (i + 1 + 1 + 1 + 1)) (xs (i + 1 + 1 + 1 + 1 + 1))) J rc rm hd hl kk⟩
  | 35, _ => ⟨1458, 1425, rfl, rfl, lw_go hx hb hml hown hts hK hZT hX hbl hcl hsl lw_tk_35 hi hL (sm_worst (xs (i + 1))) J rc rm hd hl kk⟩
  | 36, _ => ⟨1481, 1448, rfl, rfl, lw_go hx hb hml hown hts hK hZT hX hbl hcl hsl lw_tk_36 hi hL (sm_swap (xs (i + 1))) J rc rm hd hl kk⟩
  | 37, _ => ⟨1504, 1471, rfl, rfl, lw_go hx hb hml hown hts hK hZT hX hbl hcl hsl lw_tk_37 hi hL (sm_rather (xs (i + 1)) (xs (i + 1 + 1)) (xs (i + 1 + 1 + 1)) (xs (i + 1 + 1 + 1 + 1))) J rc rm hd hl kk⟩
  | 38, _ => ⟨1557, 1524, rfl, rfl, lw_go hx hb hml hown hts hK hZT hX hbl hcl hsl lw_tk_38 hi hL (sm_teacher (xs (i + 1))) J rc rm hd hl kk⟩
  | 39, _ => ⟨1580, 1547, rfl, rfl, lw_go hx hb hml hown hts hK hZT hX hbl hcl hsl lw_tk_39 hi hL (sm_line (xs (i + 1)) (xs (i + 1 + 1)) (xs (i + 1 + 1 + 1))) J rc rm hd hl kk⟩
  | 40, _ => ⟨1623, 1590, rfl, rfl, lw_go hx hb hml hown hts hK hZT hX hbl hcl hsl lw_tk_40 hi hL (sm_half (xs (i + 1)) (xs (i + 1 + 1))) J rc rm hd hl kk⟩
  | 41, _ => ⟨1656, 1623, rfl, rfl, lw_go hx hb hml hown hts hK hZT hX hbl hcl hsl lw_tk_41 hi hL (sm_split (xs (i + 1)) (xs (i + 1 + 1)) (xs (i + 1 + 1 + 1))) J rc rm hd hl kk⟩
  | 42, _ => ⟨1699, 1666, rfl, rfl, lw_go hx hb hml hown hts hK hZT hX hbl hcl hsl lw_tk_42 hi hL (sm_inTime (xs (i + 1)) (xs (i + 1 + 1))) J rc rm hd hl kk⟩
  | 43, _ => ⟨1732, 1699, rfl, rfl, lw_go hx hb hml hown hts hK hZT hX hbl hcl hsl lw_tk_43 hi hL (sm_reach) J rc rm hd hl kk⟩
  | 44, _ => ⟨1745, 1712, rfl, rfl, lw_go hx hb hml hown hts hK hZT hX hbl hcl hsl lw_tk_44 hi hL (sm_commute (xs (i + 1)) (xs (i + 1 + 1))) J rc rm hd hl kk⟩
  | 45, _ => ⟨1778, 1745, rfl, rfl, lw_go hx hb hml hown hts hK hZT hX hbl hcl hsl lw_tk_45 hi hL (sm_teach) J rc rm hd hl kk⟩
  | 46, _ => ⟨1791, 1758, rfl, rfl, lw_go hx hb hml hown hts hK hZT hX hbl hcl hsl lw_tk_46 hi hL (sm_left (xs (i + 1)) (xs (i + 1 + 1)) (xs (i + 1 + 1 + 1)) (xs (i + 1 + 1 + 1 + 1))) J rc rm hd hl kk⟩
  | 47, _ => ⟨1844, 1811, rfl, rfl, lw_go hx hb hml hown hts hK hZT hX hbl hcl hsl lw_tk_47 hi hL (sm_enough (xs (i + 1))) J rc rm hd hl kk⟩
  | 48, _ => ⟨1867, 1834, rfl, rfl, lw_go hx hb hml hown hts hK hZT hX hbl hcl hsl lw_tk_48 hi hL (sm_flow (xs (i + 1)) (xs (i + 1 + 1)) (xs (i + 1 + 1 + 1)) (xs (i + 1 + 1 + 1 + 1))) J rc rm hd hl kk⟩
  | 49, _ => ⟨1920, 1887, rfl, rfl, lw_go hx hb hml hown hts hK hZT hX hbl hcl hsl lw_tk_49 hi hL (sm_twins (xs (i + 1))) J rc rm hd hl kk⟩
  | 50, _ => ⟨1943, 1910, rfl, rfl, lw_go hx hb hml hown hts hK hZT hX hbl hcl hsl lw_tk_50 hi hL (sm_range (xs (i + 1))) J rc rm hd hl kk⟩
  | 51, _ => ⟨1966, 1933, rfl, rfl, lw_go hx hb hml hown hts hK hZT hX hbl hcl hsl lw_tk_51 hi hL (sm_row (xs (i + 1))) J rc rm hd hl kk⟩
  | 52, _ => ⟨1989, 1956, rfl, rfl, lw_go hx hb hml hown hts hK hZT hX hbl hcl hsl lw_tk_52 hi hL (sm_judge (xs (i + 1)) (xs (i + 1 + 1))) J rc rm hd hl kk⟩
  | 53, _ => ⟨2022, 1989, rfl, rfl, lw_go hx hb hml hown hts hK hZT hX hbl hcl hsl lw_tk_53 hi hL (sm_clear) J rc rm hd hl kk⟩
  | 54, _ => ⟨2035, 2002, rfl, rfl, lw_go hx hb hml hown hts hK hZT hX hbl hcl hsl lw_tk_54 hi hL (sm_lots (xs (i + 1)) (xs (i + 1 + 1)) (xs (i + 1 + 1 + 1))) J rc rm hd hl kk⟩
  | 55, _ => ⟨2078, 2045, rfl, rfl, lw_go hx hb hml hown hts hK hZT hX hbl hcl hsl lw_tk_55 hi hL (sm_image) J rc rm hd hl kk⟩
  | 56, _ => ⟨2091, 2058, rfl, rfl, lw_go hx hb hml hown hts hK hZT hX hbl hcl hsl lw_tk_56 hi hL (sm_restore) J rc rm hd hl kk⟩
  | 57, _ => ⟨2104, 2071, rfl, rfl, lw_go hx hb hml hown hts hK hZT hX hbl hcl hsl lw_tk_57 hi hL (sm_count (xs (i + 1))) J rc rm hd hl kk⟩
  | t + 58, ht => absurd ht (by omega)
theorem lw_loop {meth : Method} (hL : L ≤ 3584) (C0 : lw_At p s m meth c b L xs) (hK : va_K D vwCl (mm_tys cy) s) (hZT : mm_St ad (AA s) s s.heap) (hcl : cells ≤ 600000) (hsl : slots ≤ 7302250) :
    ∀ (n i : Nat) (S : SS) (h : MH) (H : Heap) (locs : List Loc) (ls : Array Slot), i ≤ L → L < i + 7 * n → InvS S → RC S h → RM S h → mm_dyn D cy ad (AA s) s H locs h → lv_has ls 4 [(0, .ref b), (1, .ref (ad 0)), (2, .ref (ad 55)), (3, .int (I (i : Int)))] →
      W p l e room_1 s m #[Value.ref b] below meth c H locs cells slots (lw_Z below #[Value.ref b] s) (F0 m 18 ls []) := by
  obtain ⟨hx, hb, hr, hml, hown, hts, hX, hbl, hlocks, hgv⟩ := C0
  have hmt : mm_hts #[Value.ref b] s := fun w hw _ => hts w hw
  have hbA : ¬ AA s b := Nat.not_le.mpr hbl
  have eL : Int32.ofNat L = I (L : Int) := rfl
  intro n
  induction n with
  | zero => intro i S h H locs ls h1 h2; exact absurd h2 (by omega)
  | succ n ih =>
    intro i S h H locs ls h1 h2 J rc rm hd hl
    refine lv_iload_n hx hb dw_18 rfl (lv_at hl 3 rfl) ?_
    refine lv_aload_n hx hb dw_19 rfl (lv_at hl 0 rfl) ?_
    refine va_slen hx hb hX hbl hbA hd.2.2 dw_20 ?_
    refine lv_bipush (v := I 7) hx hb dw_21 (by decide) ?_
    refine lv_isub hx hb dw_23 ?_
    rw [eL, I_sub]
    refine lv_icmp_gt (tgt := 2133) hx hb dw_24 (by decide) (fun _ => ?_) (fun q => ?_)
    · refine lv_iconst (v := 1) hx hb dw_2133 (by decide) ?_
      refine va_forget (fun q hq => hd.2.2.2.2 q hq) ?_
      refine W.widen (k := 600000) (n := 7302250) hcl hsl ?_
      exact lw_ret hx hb hr hlocks dw_2134
    · rw [I_lt (by omega) (by omega) (by omega) (by omega)] at q
      have hi : i + 7 ≤ L := by omega
      have et : (I (i : Int)).toNatClampNeg = i := by rw [I_nat (by omega) (by omega), Int.toNat_natCast]
      have hin : vp_in (I (i : Int)) L := by
        rintro (q | q)
        · rw [zero_I, I_lt (by omega) (by omega) (by omega) (by omega)] at q
          omega
        · rw [et] at q
          omega
      refine lv_aload_n hx hb dw_27 rfl (lv_at hl 0 rfl) ?_
      refine lv_iload_n hx hb dw_28 rfl (lv_at hl 3 rfl) ?_
      refine va_sld hx hb hX hbl hbA hd.2.2 hin dw_29 ?_
      refine lv_bipush (v := I 63) hx hb dw_30 (by decide) ?_
      refine lv_iand hx hb dw_32 ?_
      generalize (xs (I (i : Int)).toNatClampNeg &&& I 63) = y
      have kk : ∀ (S' : SS) (h' : MH) (H' : Heap) (locs' : List Loc), InvS S' → RC S' h' → RM S' h' → mm_dyn D cy ad (AA s) s H' locs' h' → W p l e room_1 s m #[Value.ref b] below meth c H' locs' cells slots (lw_Z below #[Value.ref b] s) (F0 m 2127 ls []) := by
        intro S' h' H' locs' J' rc' rm' hd'
        refine lv_iinc (v := I ((i + 7 : Nat) : Int)) (lv' := [(3, .int (I ((i + 7 : Nat) : Int))), (0, .ref b), (1, .ref (ad 0)), (2, .ref (ad 55))]) hx hb dw_2127 hl (k := 3) rfl (by show I (i : Int) + I 7 = _; rw [I_add]; rfl) (by decide) rfl (fun ls2 hl2 => ?_)
        refine lv_goto (tgt := 18) hx hb dw_2130 (by decide) ?_
        exact ih (i + 7) S' h' H' locs' ls2 hi (by omega) J' rc' rm' hd' (lv_sub hl2 [1, 2, 3, 0] rfl)
      by_cases hy : y.toInt < 0 ∨ 57 < y.toInt
      · refine lv_tableOut (tgt := 2127) hx hb dw_33 hy (by decide) ?_
        exact kk S h H locs J rc rm hd
      · obtain ⟨pc, off, o1, o2, o3⟩ := lw_cases hx hb hml hown hmt hK hZT hX hbl hcl hsl hi hL J rc rm hd hl kk y.toInt.toNat (by omega)
        exact lv_tableIn (tgt := pc) (off := off) hx hb dw_33 (by omega) (by omega) (by rw [show y.toInt - 0 = y.toInt by omega]; exact o1) o2 o3
end LWL
