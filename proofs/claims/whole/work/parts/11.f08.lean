-- decompiled by wip/whole/dec.py: what a method does (F_), and that the mini machine does it (A_)
/-- java/lang/Integer.bitCount(I)I -/
def F_J_bitCount (x0 : Int32) (h : MH) : Option (Int32 × MH) := iw (x0 - (((Int32.toUInt32 x0 >>> (Int32.toUInt32 (I 1) &&& Int32.toUInt32 31)).toInt32) &&& (I 1431655765))) (fun v1 => iw ((v1 &&& (I 858993459)) + (((Int32.toUInt32 v1 >>> (Int32.toUInt32 (I 2) &&& Int32.toUInt32 31)).toInt32) &&& (I 858993459))) (fun v2 => iw ((v2 + ((Int32.toUInt32 v2 >>> (Int32.toUInt32 (I 4) &&& Int32.toUInt32 31)).toInt32)) &&& (I 252645135)) (fun v3 => iw (v3 + ((Int32.toUInt32 v3 >>> (Int32.toUInt32 (I 8) &&& Int32.toUInt32 31)).toInt32)) (fun v4 => iw (v4 + ((Int32.toUInt32 v4 >>> (Int32.toUInt32 (I 16) &&& Int32.toUInt32 31)).toInt32)) (fun v5 => some (v5 &&& (I 63), h))))))
theorem A_J_bitCount {x0 : Int32} {h h' : MH} {v : Int32} (hF : F_J_bitCount x0 h = some (v, h')) : Ex 1 271 [.inl x0] h (some (.inl v), h') := by
  unfold F_J_bitCount at hF
  refine ex_of (d := 0) rfl rfl ?_
  refine g_iload_n (q := 1) rfl rfl rfl ?_
  refine g_iload_n (q := 2) rfl rfl rfl ?_
  refine g_iconst (q := 3) rfl rfl ?_
  refine g_iushr (q := 4) rfl rfl ?_
  refine g_ldc_w (q := 7) rfl rfl ?_
  refine g_iand (q := 8) rfl rfl ?_
  refine g_isub (q := 9) rfl rfl ?_
  refine g_istore_n (q := 10) rfl rfl ?_
  obtain ⟨v1, e_v1, hF⟩ := iw_I hF
  rw [← e_v1]
  refine g_iload_n (q := 11) rfl rfl rfl ?_
  refine g_ldc_w (q := 14) rfl rfl ?_
  refine g_iand (q := 15) rfl rfl ?_
  refine g_iload_n (q := 16) rfl rfl rfl ?_
  refine g_iconst (q := 17) rfl rfl ?_
  refine g_iushr (q := 18) rfl rfl ?_
  refine g_ldc_w (q := 21) rfl rfl ?_
  refine g_iand (q := 22) rfl rfl ?_
  refine g_iadd (q := 23) rfl rfl ?_
  refine g_istore_n (q := 24) rfl rfl ?_
  obtain ⟨v2, e_v2, hF⟩ := iw_I hF
  rw [← e_v2]
  refine g_iload_n (q := 25) rfl rfl rfl ?_
  refine g_iload_n (q := 26) rfl rfl rfl ?_
  refine g_iconst (q := 27) rfl rfl ?_
  refine g_iushr (q := 28) rfl rfl ?_
  refine g_iadd (q := 29) rfl rfl ?_
  refine g_ldc_w (q := 32) rfl rfl ?_
  refine g_iand (q := 33) rfl rfl ?_
  refine g_istore_n (q := 34) rfl rfl ?_
  obtain ⟨v3, e_v3, hF⟩ := iw_I hF
  rw [← e_v3]
  refine g_iload_n (q := 35) rfl rfl rfl ?_
  refine g_iload_n (q := 36) rfl rfl rfl ?_
  refine g_bipush (q := 38) rfl (by decide +kernel) rfl ?_
  refine g_iushr (q := 39) rfl rfl ?_
  refine g_iadd (q := 40) rfl rfl ?_
  refine g_istore_n (q := 41) rfl rfl ?_
  obtain ⟨v4, e_v4, hF⟩ := iw_I hF
  rw [← e_v4]
  refine g_iload_n (q := 42) rfl rfl rfl ?_
  refine g_iload_n (q := 43) rfl rfl rfl ?_
  refine g_bipush (q := 45) rfl (by decide +kernel) rfl ?_
  refine g_iushr (q := 46) rfl rfl ?_
  refine g_iadd (q := 47) rfl rfl ?_
  refine g_istore_n (q := 48) rfl rfl ?_
  obtain ⟨v5, e_v5, hF⟩ := iw_I hF
  rw [← e_v5]
  refine g_iload_n (q := 49) rfl rfl rfl ?_
  refine g_bipush (q := 51) rfl (by decide +kernel) rfl ?_
  refine g_iand (q := 52) rfl rfl ?_
  injection hF with hF
  injection hF with hv hh
  subst hv
  subst hh
  exact g_iret rfl
def L_C_inTime_70 (x1 : Int32) (x2 : Int32) (x4 : Int32) : Nat → Int32 → Int32 → MH → Option (Int32 × MH)
  | 0, _, _, _ => none
  | n + 1, x3, x5, h => if x4 < x5 then some (x3, h) else bd (F_H_bestTimeOf x5 x1 h) (fun (r6, h5) => if x2 < r6 then L_C_inTime_70 x1 x2 x4 n x3 (x5 + I 1) h5 else bd (F_J_bitCount x5 h5) (fun (r8, h7) => iw (if x3 < r8 then r8 else x3) (fun v9 => L_C_inTime_70 x1 x2 x4 n v9 (x5 + I 1) h7)))
/-- BothCorners.inTime(II)I -/
def F_C_inTime (x1 : Int32) (x2 : Int32) (h : MH) : Option (Int32 × MH) := bd (F_C_noOne x1 h) (fun (r2, h1) => if r2 = 0 then if 0 ≤ x2 then if x2 ≤ (I 999) then if ¬ (h1.1 8 9) = 0 then bd (F_H_allBeds h1) (fun (r4, h3) => bd (L_C_inTime_70 x1 x2 r4 5000 (I 0) (I 0) h3) (fun (y12, h13) => some (y12, h13))) else bd (F_C_refuse (I (-3)) h1) (fun (r15, h14) => some (r15, h14)) else bd (F_C_refuse (I (-6)) h1) (fun (r18, h17) => some (r18, h17)) else bd (F_C_refuse (I (-4)) h1) (fun (r21, h20) => some (r21, h20)) else bd (F_C_refuse (I (-1)) h1) (fun (r24, h23) => some (r24, h23)))
theorem A_L_C_inTime_70 {x1 : Int32} {x2 : Int32} {x4 : Int32} {r : MRs} : ∀ (n : Nat) (x3 : Int32) (x5 : Int32) (h : MH) (x : Int32 × MH), L_C_inTime_70 x1 x2 x4 n x3 x5 h = some x → (True) → (∀ (e3 : Int32) (h' : MH), x = (e3, h') → Go 6 99 107 (mm_lf [(3, .inl e3)]) [] h' r) → Go 6 99 70 (mm_lf [(0, .inr (.inl (some 0))), (1, .inl x1), (2, .inl x2), (3, .inl x3), (4, .inl x4), (5, .inl x5)]) [] h r
  | 0, _, _, _, _, hF, _, _ => by cases hF
  | n + 1, x3, x5, h, x, hF, KR, KX => by
    have ih := fun a3 a5 => A_L_C_inTime_70 (x1 := x1) (x2 := x2) (x4 := x4) (r := r) n a3 a5 
    unfold L_C_inTime_70 at hF
    refine g_iload (q := 72) rfl rfl rfl ?_
    refine g_iload (q := 74) rfl rfl rfl ?_
    by_cases c11 : x4 < x5
    · rw [if_pos c11] at hF
      refine g_icmpT rfl (decide_eq_true c11) ?_
      injection hF with hF
      subst hF
      exact go_sub (mm_subc rfl mm_sub0) (KX _ _ rfl)
    · rw [if_neg c11] at hF
      refine g_icmpF (q := 77) rfl (decide_eq_false c11) rfl ?_
      refine g_aload_n (q := 78) rfl rfl rfl ?_
      refine g_getR (q := 81) rfl (fun _ => rfl) rfl ?_
      refine g_iload (q := 83) rfl rfl rfl ?_
      refine g_iload_n (q := 84) rfl rfl rfl ?_
      obtain ⟨⟨r6, h5⟩, hC, hF⟩ := bd_I hF
      dsimp only at hF
      refine g_ci3 (q := 87) rfl rfl (fun _ => rfl) rfl (A_H_bestTimeOf hC) (by decide +kernel) rfl ?_
      refine g_iload_n (q := 88) rfl rfl rfl ?_
      by_cases c10 : x2 < r6
      · rw [if_pos c10] at hF
        refine g_icmpT rfl (decide_eq_true c10) ?_
        refine g_iinc (q := 104) rfl rfl rfl ?_
        refine g_goto rfl ?_
        refine go_sub (lo' := mm_lf [(0, .inr (.inl (some 0))), (1, .inl x1), (2, .inl x2), (3, .inl x3), (4, .inl x4), (5, .inl (x5 + I 1))]) (mm_subc rfl (mm_subc rfl (mm_subc rfl (mm_subc rfl (mm_subc rfl (mm_subc rfl mm_sub0)))))) ?_
        exact ih _ _ _ _ hF KR KX
      · rw [if_neg c10] at hF
        refine g_icmpF (q := 91) rfl (decide_eq_false c10) rfl ?_
        refine g_iload_n (q := 92) rfl rfl rfl ?_
        refine g_iload (q := 94) rfl rfl rfl ?_
        obtain ⟨⟨r8, h7⟩, hC, hF⟩ := bd_I hF
        dsimp only at hF
        refine g_ci1 (q := 97) rfl rfl (fun _ => rfl) rfl (A_J_bitCount hC) (by decide +kernel) rfl ?_
        refine g_max (q := 100) rfl rfl rfl ?_
        obtain ⟨v9, e_v9, hF⟩ := iw_I hF
        rw [← e_v9]
        refine g_istore_n (q := 101) rfl rfl ?_
        refine g_iinc (q := 104) rfl rfl rfl ?_
        refine g_goto rfl ?_
        refine go_sub (lo' := mm_lf [(0, .inr (.inl (some 0))), (1, .inl x1), (2, .inl x2), (3, .inl v9), (4, .inl x4), (5, .inl (x5 + I 1))]) (mm_subc rfl (mm_subc rfl (mm_subc rfl (mm_subc rfl (mm_subc rfl (mm_subc rfl mm_sub0)))))) ?_
        exact ih _ _ _ _ hF KR KX
theorem A_C_inTime {x1 : Int32} {x2 : Int32} {h h' : MH} {v : Int32} (hF : F_C_inTime x1 x2 h = some (v, h')) : Ex 7 99 [.inr (.inl (some 0)), .inl x1, .inl x2] h (some (.inl v), h') := by
  unfold F_C_inTime at hF
  refine ex_of (d := 6) rfl rfl ?_
  refine g_aload_n (q := 1) rfl rfl rfl ?_
  refine g_iload_n (q := 2) rfl rfl rfl ?_
  obtain ⟨⟨r2, h1⟩, hC, hF⟩ := bd_I hF
  dsimp only at hF
  refine g_ci2 (q := 5) rfl rfl (fun _ => rfl) rfl (A_C_noOne hC) (by decide +kernel) rfl ?_
  by_cases c25 : r2 = 0
  · rw [if_pos c25] at hF
    refine g_ifT rfl (decide_eq_true c25) ?_
    refine g_iload_n (q := 15) rfl rfl rfl ?_
    by_cases c22 : 0 ≤ x2
    · rw [if_pos c22] at hF
      refine g_ifT rfl (decide_eq_true c22) ?_
      refine g_iload_n (q := 26) rfl rfl rfl ?_
      refine g_sipush (q := 29) rfl (by decide +kernel) rfl ?_
      by_cases c19 : x2 ≤ (I 999)
      · rw [if_pos c19] at hF
        refine g_icmpT rfl (decide_eq_true c19) ?_
        refine g_aload_n (q := 40) rfl rfl rfl ?_
        refine g_getR (q := 43) rfl (fun _ => rfl) rfl ?_
        refine g_getI (q := 46) rfl (fun _ => rfl) rfl ?_
        by_cases c16 : ¬ (h1.1 8 9) = 0
        · rw [if_pos c16] at hF
          refine g_ifT rfl (decide_eq_true c16) ?_
          refine g_iconst (q := 57) rfl rfl ?_
          refine g_istore_n (q := 58) rfl rfl ?_
          refine g_aload_n (q := 59) rfl rfl rfl ?_
          refine g_getR (q := 62) rfl (fun _ => rfl) rfl ?_
          obtain ⟨⟨r4, h3⟩, hC, hF⟩ := bd_I hF
          dsimp only at hF
          refine g_ci1 (q := 65) rfl rfl (fun _ => rfl) rfl (A_H_allBeds hC) (by decide +kernel) rfl ?_
          refine g_istore (q := 67) rfl rfl ?_
          refine g_iconst (q := 68) rfl rfl ?_
          refine g_istore (q := 70) rfl rfl ?_
          refine go_sub (lo' := mm_lf [(0, .inr (.inl (some 0))), (1, .inl x1), (2, .inl x2), (3, .inl (I 0)), (4, .inl r4), (5, .inl (I 0))]) (mm_subc rfl (mm_subc rfl (mm_subc rfl (mm_subc rfl (mm_subc rfl (mm_subc rfl mm_sub0)))))) ?_
          obtain ⟨⟨y12, h13⟩, hC, hF⟩ := bd_I hF
          dsimp only at hF
          refine A_L_C_inTime_70 5000 _ _ _ _ hC trivial ?_
          intro _ _ e2
          cases e2
          refine g_iload_n (q := 108) rfl rfl rfl ?_
          injection hF with hF
          injection hF with hv hh
          subst hv
          subst hh
          exact g_iret rfl
        · rw [if_neg c16] at hF
          refine g_ifF (q := 49) rfl (decide_eq_false c16) rfl ?_
          refine g_aload_n (q := 50) rfl rfl rfl ?_
          refine g_bipush (q := 52) rfl (by decide +kernel) rfl ?_
          obtain ⟨⟨r15, h14⟩, hC, hF⟩ := bd_I hF
          dsimp only at hF
          refine g_ci2 (q := 55) rfl rfl (fun _ => rfl) rfl (A_C_refuse hC) (by decide +kernel) rfl ?_
          injection hF with hF
          injection hF with hv hh
          subst hv
          subst hh
          exact g_iret rfl
      · rw [if_neg c19] at hF
        refine g_icmpF (q := 32) rfl (decide_eq_false c19) rfl ?_
        refine g_aload_n (q := 33) rfl rfl rfl ?_
        refine g_bipush (q := 35) rfl (by decide +kernel) rfl ?_
        obtain ⟨⟨r18, h17⟩, hC, hF⟩ := bd_I hF
        dsimp only at hF
        refine g_ci2 (q := 38) rfl rfl (fun _ => rfl) rfl (A_C_refuse hC) (by decide +kernel) rfl ?_
        injection hF with hF
        injection hF with hv hh
        subst hv
        subst hh
        exact g_iret rfl
    · rw [if_neg c22] at hF
      refine g_ifF (q := 18) rfl (decide_eq_false c22) rfl ?_
      refine g_aload_n (q := 19) rfl rfl rfl ?_
      refine g_bipush (q := 21) rfl (by decide +kernel) rfl ?_
      obtain ⟨⟨r21, h20⟩, hC, hF⟩ := bd_I hF
      dsimp only at hF
      refine g_ci2 (q := 24) rfl rfl (fun _ => rfl) rfl (A_C_refuse hC) (by decide +kernel) rfl ?_
      injection hF with hF
      injection hF with hv hh
      subst hv
      subst hh
      exact g_iret rfl
  · rw [if_neg c25] at hF
    refine g_ifF (q := 8) rfl (decide_eq_false c25) rfl ?_
    refine g_aload_n (q := 9) rfl rfl rfl ?_
    refine g_iconst (q := 10) rfl rfl ?_
    obtain ⟨⟨r24, h23⟩, hC, hF⟩ := bd_I hF
    dsimp only at hF
    refine g_ci2 (q := 13) rfl rfl (fun _ => rfl) rfl (A_C_refuse hC) (by decide +kernel) rfl ?_
    injection hF with hF
    injection hF with hv hh
    subst hv
    subst hh
    exact g_iret rfl
def L_C_rowIsCorners_14 : Nat → Int32 → Int32 → MH → Option ((Int32 × MH) ⊕ (Int32 × MH))
  | 0, _, _, _ => none
  | n + 1, x1, x2, h => if (I 4) ≤ x2 then some (.inr (x1, h)) else ck (mm_in x2 12) (bd (F_C_noCorner (h.1 53 (Int32.toNatClampNeg x2)) h) (fun (r2, h1) => if r2 = 0 then ck (mm_in x2 12) (iw (x1 ||| ((I 1) <<< ((h1.1 53 (Int32.toNatClampNeg x2)) &&& 31))) (fun v3 => L_C_rowIsCorners_14 n v3 (x2 + I 1) h1)) else some (.inl (I 0, h1))))
/-- BothCorners.rowIsCorners()Z -/
def F_C_rowIsCorners (h : MH) : Option (Int32 × MH) := if (h.1 0 9) = (I 4) then be (L_C_rowIsCorners_14 5000 (I 0) (I 0) h) (fun u8 => some u8) (fun (y6, h7) => iw (if ¬ y6 = (I 15) then I 0 else I 1) (fun v9 => cd (v9 &&& 1 = v9) (some (v9, h7)))) else some (I 0, h)
theorem A_L_C_rowIsCorners_14 {r : MRs} : ∀ (n : Nat) (x1 : Int32) (x2 : Int32) (h : MH) (x : (Int32 × MH) ⊕ (Int32 × MH)), L_C_rowIsCorners_14 n x1 x2 h = some x → (∀ (u : Int32) (h' : MH), x = .inl (u, h') → r = (some (.inl u), h')) → (∀ (e1 : Int32) (h' : MH), x = .inr (e1, h') → Go 1 138 50 (mm_lf [(1, .inl e1)]) [] h' r) → Go 1 138 14 (mm_lf [(0, .inr (.inl (some 0))), (1, .inl x1), (2, .inl x2)]) [] h r
  | 0, _, _, _, _, hF, _, _ => by cases hF
  | n + 1, x1, x2, h, x, hF, KR, KX => by
    have ih := fun a1 a2 => A_L_C_rowIsCorners_14 (r := r) n a1 a2 
    unfold L_C_rowIsCorners_14 at hF
    refine g_iload_n (q := 15) rfl rfl rfl ?_
    refine g_iconst (q := 16) rfl rfl ?_
    by_cases c5 : (I 4) ≤ x2
    · rw [if_pos c5] at hF
      refine g_icmpT rfl (decide_eq_true c5) ?_
      injection hF with hF
      subst hF
      exact go_sub (mm_subc rfl mm_sub0) (KX _ _ rfl)
    · rw [if_neg c5] at hF
      refine g_icmpF (q := 19) rfl (decide_eq_false c5) rfl ?_
      refine g_aload_n (q := 20) rfl rfl rfl ?_
      refine g_getR (q := 23) rfl (fun _ => rfl) rfl ?_
      refine g_iload_n (q := 24) rfl rfl rfl ?_
      obtain ⟨hi, hF⟩ := ck_I hF
      refine g_iaload (q := 25) rfl rfl rfl hi rfl ?_
      obtain ⟨⟨r2, h1⟩, hC, hF⟩ := bd_I hF
      dsimp only at hF
      refine g_ci1 (q := 28) rfl rfl (fun _ => rfl) rfl (A_C_noCorner hC) (by decide +kernel) rfl ?_
      by_cases c4 : r2 = 0
      · rw [if_pos c4] at hF
        refine g_ifT rfl (decide_eq_true c4) ?_
        refine g_iload_n (q := 34) rfl rfl rfl ?_
        refine g_iconst (q := 35) rfl rfl ?_
        refine g_aload_n (q := 36) rfl rfl rfl ?_
        refine g_getR (q := 39) rfl (fun _ => rfl) rfl ?_
        refine g_iload_n (q := 40) rfl rfl rfl ?_
        obtain ⟨hi, hF⟩ := ck_I hF
        refine g_iaload (q := 41) rfl rfl rfl hi rfl ?_
        refine g_ishl (q := 42) rfl rfl ?_
        refine g_ior (q := 43) rfl rfl ?_
        refine g_istore_n (q := 44) rfl rfl ?_
        obtain ⟨v3, e_v3, hF⟩ := iw_I hF
        rw [← e_v3]
        refine g_iinc (q := 47) rfl rfl rfl ?_
        refine g_goto rfl ?_
        refine go_sub (lo' := mm_lf [(0, .inr (.inl (some 0))), (1, .inl v3), (2, .inl (x2 + I 1))]) (mm_subc rfl (mm_subc rfl (mm_subc rfl mm_sub0))) ?_
        exact ih _ _ _ _ hF KR KX
      · rw [if_neg c4] at hF
        refine g_ifF (q := 31) rfl (decide_eq_false c4) rfl ?_
        refine g_iconst (q := 32) rfl rfl ?_
        injection hF with hF
        subst hF
        rw [KR _ _ rfl]
        exact g_zret rfl (by decide +kernel)
theorem A_C_rowIsCorners {h h' : MH} {v : Int32} (hF : F_C_rowIsCorners h = some (v, h')) : Ex 2 138 [.inr (.inl (some 0))] h (some (.inl v), h') := by
  unfold F_C_rowIsCorners at hF
  refine ex_of (d := 1) rfl rfl ?_
  refine g_aload_n (q := 1) rfl rfl rfl ?_
  refine g_getI (q := 4) rfl (fun _ => rfl) rfl ?_
  refine g_iconst (q := 5) rfl rfl ?_
  by_cases c12 : (h.1 0 9) = (I 4)
  · rw [if_pos c12] at hF
    refine g_icmpT rfl (decide_eq_true c12) ?_
    refine g_iconst (q := 11) rfl rfl ?_
    refine g_istore_n (q := 12) rfl rfl ?_
    refine g_iconst (q := 13) rfl rfl ?_
    refine g_istore_n (q := 14) rfl rfl ?_
    refine go_sub (lo' := mm_lf [(0, .inr (.inl (some 0))), (1, .inl (I 0)), (2, .inl (I 0))]) (mm_subc rfl (mm_subc rfl (mm_subc rfl mm_sub0))) ?_
    rcases be_I hF with ⟨u, hC, hF⟩ | ⟨⟨y6, h7⟩, hC, hF⟩
    · refine A_L_C_rowIsCorners_14 5000 _ _ _ _ hC ?_ ?_
      · intro u2 h2 e2
        cases e2
        injection hF with hF
        injection hF with hv hh
        subst hv
        subst hh
        rfl
      · intro _ _ e2
        cases e2
    dsimp only at hF
    refine A_L_C_rowIsCorners_14 5000 _ _ _ _ hC ?_ ?_
    · intro u2 h2 e2
      cases e2
    intro _ _ e2
    cases e2
    refine g_iload_n (q := 51) rfl rfl rfl ?_
    refine g_bipush (q := 53) rfl (by decide +kernel) rfl ?_
    obtain ⟨v9, e_v9, hF⟩ := iw_I hF
    suffices K10 : Go 1 138 61 (mm_lf []) [.inl v9] h7 (some (.inl v), h') by
      clear hF
      by_cases c11 : ¬ y6 = (I 15)
      · simp only [if_pos c11] at e_v9
        subst e_v9
        refine g_icmpT rfl (decide_eq_true c11) ?_
        refine g_iconst (q := 61) rfl rfl ?_
        exact go_sub mm_sub0 K10
      · simp only [if_neg c11] at e_v9
        subst e_v9
        refine g_icmpF (q := 56) rfl (decide_eq_false c11) rfl ?_
        refine g_iconst (q := 57) rfl rfl ?_
        refine g_goto rfl ?_
        exact go_sub mm_sub0 K10
    clear e_v9
    obtain ⟨hz, hF⟩ := cd_I hF
    injection hF with hF
    injection hF with hv hh
    subst hv
    subst hh
    exact g_zret rfl hz
  · rw [if_neg c12] at hF
    refine g_icmpF (q := 8) rfl (decide_eq_false c12) rfl ?_
    refine g_iconst (q := 9) rfl rfl ?_
    injection hF with hF
    injection hF with hv hh
    subst hv
    subst hh
    exact g_zret rfl (by decide +kernel)
def L_L_lieOf_4 : Nat → Int32 → Int32 → MH → Option (Int32 × MH)
  | 0, _, _, _ => none
  | n + 1, x1, x2, h => if (I 4) ≤ x2 then some (x1, h) else if (Int32.ofNat 12) ≤ x2 then some (x1, h) else ck (mm_in x2 12) (iw (x1 ||| (((h.1 53 (Int32.toNatClampNeg x2)) &&& (I 3)) <<< (((I 2) * x2) &&& 31))) (fun v1 => L_L_lieOf_4 n v1 (x2 + I 1) h))
/-- BothCorners$Lies.lieOf([I)I -/
def F_L_lieOf (h : MH) : Option (Int32 × MH) := bd (L_L_lieOf_4 5000 (I 0) (I 0) h) (fun (y4, h5) => some (y4, h5))
theorem A_L_L_lieOf_4 {r : MRs} : ∀ (n : Nat) (x1 : Int32) (x2 : Int32) (h : MH) (x : Int32 × MH), L_L_lieOf_4 n x1 x2 h = some x → (True) → (∀ (e1 : Int32) (h' : MH), x = (e1, h') → Go 0 37 33 (mm_lf [(1, .inl e1)]) [] h' r) → Go 0 37 4 (mm_lf [(0, .inr (.inl (some 53))), (1, .inl x1), (2, .inl x2)]) [] h r
  | 0, _, _, _, _, hF, _, _ => by cases hF
  | n + 1, x1, x2, h, x, hF, KR, KX => by
    have ih := fun a1 a2 => A_L_L_lieOf_4 (r := r) n a1 a2 
    unfold L_L_lieOf_4 at hF
    refine g_iload_n (q := 5) rfl rfl rfl ?_
    refine g_iconst (q := 6) rfl rfl ?_
    by_cases c3 : (I 4) ≤ x2
    · rw [if_pos c3] at hF
      refine g_icmpT rfl (decide_eq_true c3) ?_
      injection hF with hF
      subst hF
      exact go_sub (mm_subc rfl mm_sub0) (KX _ _ rfl)
    · rw [if_neg c3] at hF
      refine g_icmpF (q := 9) rfl (decide_eq_false c3) rfl ?_
      refine g_iload_n (q := 10) rfl rfl rfl ?_
      refine g_aload_n (q := 11) rfl rfl rfl ?_
      refine g_alen (q := 12) rfl rfl rfl rfl ?_
      by_cases c2 : (Int32.ofNat 12) ≤ x2
      · rw [if_pos c2] at hF
        refine g_icmpT rfl (decide_eq_true c2) ?_
        injection hF with hF
        subst hF
        exact go_sub (mm_subc rfl mm_sub0) (KX _ _ rfl)
      · rw [if_neg c2] at hF
        refine g_icmpF (q := 15) rfl (decide_eq_false c2) rfl ?_
        refine g_iload_n (q := 16) rfl rfl rfl ?_
        refine g_aload_n (q := 17) rfl rfl rfl ?_
        refine g_iload_n (q := 18) rfl rfl rfl ?_
        obtain ⟨hi, hF⟩ := ck_I hF
        refine g_iaload (q := 19) rfl rfl rfl hi rfl ?_
        refine g_iconst (q := 20) rfl rfl ?_
        refine g_iand (q := 21) rfl rfl ?_
        refine g_iconst (q := 22) rfl rfl ?_
        refine g_iload_n (q := 23) rfl rfl rfl ?_
        refine g_imul (q := 24) rfl rfl ?_
        refine g_ishl (q := 25) rfl rfl ?_
        refine g_ior (q := 26) rfl rfl ?_
        refine g_istore_n (q := 27) rfl rfl ?_
        obtain ⟨v1, e_v1, hF⟩ := iw_I hF
        rw [← e_v1]
        refine g_iinc (q := 30) rfl rfl rfl ?_
        refine g_goto rfl ?_
        refine go_sub (lo' := mm_lf [(0, .inr (.inl (some 53))), (1, .inl v1), (2, .inl (x2 + I 1))]) (mm_subc rfl (mm_subc rfl (mm_subc rfl mm_sub0))) ?_
        exact ih _ _ _ _ hF KR KX
theorem A_L_lieOf {h h' : MH} {v : Int32} (hF : F_L_lieOf h = some (v, h')) : Ex 1 37 [.inr (.inl (some 53))] h (some (.inl v), h') := by
  unfold F_L_lieOf at hF
  refine ex_of (d := 0) rfl rfl ?_
  refine g_iconst (q := 1) rfl rfl ?_
  refine g_istore_n (q := 2) rfl rfl ?_
  refine g_iconst (q := 3) rfl rfl ?_
  refine g_istore_n (q := 4) rfl rfl ?_
  refine go_sub (lo' := mm_lf [(0, .inr (.inl (some 53))), (1, .inl (I 0)), (2, .inl (I 0))]) (mm_subc rfl (mm_subc rfl (mm_subc rfl mm_sub0))) ?_
  obtain ⟨⟨y4, h5⟩, hC, hF⟩ := bd_I hF
  dsimp only at hF
  refine A_L_L_lieOf_4 5000 _ _ _ _ hC trivial ?_
  intro _ _ e2
  cases e2
  refine g_iload_n (q := 34) rfl rfl rfl ?_
  injection hF with hF
  injection hF with hv hh
  subst hv
  subst hh
  exact g_iret rfl
/-- BothCorners.reach()I -/
def F_C_reach (h : MH) : Option (Int32 × MH) := bd (F_C_rowIsCorners h) (fun (r2, h1) => if ¬ r2 = 0 then bd (F_L_spread (h1.1 8 10) h1) (fun h3 => bd (F_L_lieOf h3) (fun (r5, h4) => bd (F_L_turnsTo r5 h4) (fun (r7, h6) => iw (if r7 ≤ (I 8) then r7 else I (-9)) (fun v8 => some (v8, h6))))) else bd (F_C_refuse (I (-3)) h1) (fun (r12, h11) => some (r12, h11)))
theorem A_C_reach {h h' : MH} {v : Int32} (hF : F_C_reach h = some (v, h')) : Ex 4 108 [.inr (.inl (some 0))] h (some (.inl v), h') := by
  unfold F_C_reach at hF
  refine ex_of (d := 3) rfl rfl ?_
  refine g_aload_n (q := 1) rfl rfl rfl ?_
  obtain ⟨⟨r2, h1⟩, hC, hF⟩ := bd_I hF
  dsimp only at hF
  refine g_ci1 (q := 4) rfl rfl (fun _ => rfl) rfl (A_C_rowIsCorners hC) (by decide +kernel) rfl ?_
  by_cases c13 : ¬ r2 = 0
  · rw [if_pos c13] at hF
    refine g_ifT rfl (decide_eq_true c13) ?_
    refine g_aload_n (q := 15) rfl rfl rfl ?_
    refine g_getR (q := 18) rfl (fun _ => rfl) rfl ?_
    refine g_aload_n (q := 19) rfl rfl rfl ?_
    refine g_getR (q := 22) rfl (fun _ => rfl) rfl ?_
    refine g_getI (q := 25) rfl (fun _ => rfl) rfl ?_
    obtain ⟨h3, hC, hF⟩ := bd_I hF
    refine g_cv2 (q := 28) rfl rfl (fun _ => rfl) rfl (A_L_spread hC) (by decide +kernel) rfl ?_
    refine g_aload_n (q := 29) rfl rfl rfl ?_
    refine g_getR (q := 32) rfl (fun _ => rfl) rfl ?_
    refine g_aload_n (q := 33) rfl rfl rfl ?_
    refine g_getR (q := 36) rfl (fun _ => rfl) rfl ?_
    obtain ⟨⟨r5, h4⟩, hC, hF⟩ := bd_I hF
    dsimp only at hF
    refine g_ci1 (q := 39) rfl rfl (fun _ => rfl) rfl (A_L_lieOf hC) (by decide +kernel) rfl ?_
    obtain ⟨⟨r7, h6⟩, hC, hF⟩ := bd_I hF
    dsimp only at hF
    refine g_ci2 (q := 42) rfl rfl (fun _ => rfl) rfl (A_L_turnsTo hC) (by decide +kernel) rfl ?_
    refine g_istore_n (q := 43) rfl rfl ?_
    refine g_iload_n (q := 44) rfl rfl rfl ?_
    refine g_bipush (q := 46) rfl (by decide +kernel) rfl ?_
    obtain ⟨v8, e_v8, hF⟩ := iw_I hF
    suffices K9 : Go 3 108 55 (mm_lf []) [.inl v8] h6 (some (.inl v), h') by
      clear hF
      by_cases c10 : r7 ≤ (I 8)
      · simp only [if_pos c10] at e_v8
        subst e_v8
        refine g_icmpT rfl (decide_eq_true c10) ?_
        refine g_iload_n (q := 55) rfl rfl rfl ?_
        exact go_sub mm_sub0 K9
      · simp only [if_neg c10] at e_v8
        subst e_v8
        refine g_icmpF (q := 49) rfl (decide_eq_false c10) rfl ?_
        refine g_bipush (q := 51) rfl (by decide +kernel) rfl ?_
        refine g_goto rfl ?_
        exact go_sub mm_sub0 K9
    clear e_v8
    injection hF with hF
    injection hF with hv hh
    subst hv
    subst hh
    exact g_iret rfl
  · rw [if_neg c13] at hF
    refine g_ifF (q := 7) rfl (decide_eq_false c13) rfl ?_
    refine g_aload_n (q := 8) rfl rfl rfl ?_
    refine g_bipush (q := 10) rfl (by decide +kernel) rfl ?_
    obtain ⟨⟨r12, h11⟩, hC, hF⟩ := bd_I hF
    dsimp only at hF
    refine g_ci2 (q := 13) rfl rfl (fun _ => rfl) rfl (A_C_refuse hC) (by decide +kernel) rfl ?_
    injection hF with hF
    injection hF with hv hh
    subst hv
    subst hh
    exact g_iret rfl
/-- BothCorners.commute(II)I -/
def F_C_commute (x1 : Int32) (x2 : Int32) (h : MH) : Option (Int32 × MH) := bd (F_C_noTurn x1 h) (fun (r2, h1) => if ¬ r2 = 0 then bd (F_C_refuse (I (-2)) h1) (fun (r4, h3) => some (r4, h3)) else bd (F_C_noTurn x2 h1) (fun (r6, h5) => if r6 = 0 then bd (F_L_turned (I 228) x1 h5) (fun (r8, h7) => bd (F_L_turned r8 x2 h7) (fun (r10, h9) => bd (F_L_turned (I 228) x2 h9) (fun (r12, h11) => bd (F_L_turned r12 x1 h11) (fun (r14, h13) => iw (if ¬ r10 = r14 then I 0 else I 1) (fun v15 => some (v15, h13)))))) else bd (F_C_refuse (I (-2)) h5) (fun (r19, h18) => some (r19, h18))))
theorem A_C_commute {x1 : Int32} {x2 : Int32} {h h' : MH} {v : Int32} (hF : F_C_commute x1 x2 h = some (v, h')) : Ex 3 109 [.inr (.inl (some 0)), .inl x1, .inl x2] h (some (.inl v), h') := by
  unfold F_C_commute at hF
  refine ex_of (d := 2) rfl rfl ?_
  refine g_iload_n (q := 1) rfl rfl rfl ?_
  obtain ⟨⟨r2, h1⟩, hC, hF⟩ := bd_I hF
  dsimp only at hF
  refine g_ci1 (q := 4) rfl rfl (fun _ => rfl) rfl (A_C_noTurn hC) (by decide +kernel) rfl ?_
  by_cases c21 : ¬ r2 = 0
  · rw [if_pos c21] at hF
    refine g_ifT rfl (decide_eq_true c21) ?_
    refine g_aload_n (q := 15) rfl rfl rfl ?_
    refine g_bipush (q := 17) rfl (by decide +kernel) rfl ?_
    obtain ⟨⟨r4, h3⟩, hC, hF⟩ := bd_I hF
    dsimp only at hF
    refine g_ci2 (q := 20) rfl rfl (fun _ => rfl) rfl (A_C_refuse hC) (by decide +kernel) rfl ?_
    injection hF with hF
    injection hF with hv hh
    subst hv
    subst hh
    exact g_iret rfl
  · rw [if_neg c21] at hF
    refine g_ifF (q := 7) rfl (decide_eq_false c21) rfl ?_
    refine g_iload_n (q := 8) rfl rfl rfl ?_
    obtain ⟨⟨r6, h5⟩, hC, hF⟩ := bd_I hF
    dsimp only at hF
    refine g_ci1 (q := 11) rfl rfl (fun _ => rfl) rfl (A_C_noTurn hC) (by decide +kernel) rfl ?_
    by_cases c20 : r6 = 0
    · rw [if_pos c20] at hF
      refine g_ifT rfl (decide_eq_true c20) ?_
      refine g_sipush (q := 24) rfl (by decide +kernel) rfl ?_
      refine g_iload_n (q := 25) rfl rfl rfl ?_
      obtain ⟨⟨r8, h7⟩, hC, hF⟩ := bd_I hF
      dsimp only at hF
      refine g_ci2 (q := 28) rfl rfl (fun _ => rfl) rfl (A_L_turned hC) (by decide +kernel) rfl ?_
      refine g_iload_n (q := 29) rfl rfl rfl ?_
      obtain ⟨⟨r10, h9⟩, hC, hF⟩ := bd_I hF
      dsimp only at hF
      refine g_ci2 (q := 32) rfl rfl (fun _ => rfl) rfl (A_L_turned hC) (by decide +kernel) rfl ?_
      refine g_istore_n (q := 33) rfl rfl ?_
      refine g_sipush (q := 36) rfl (by decide +kernel) rfl ?_
      refine g_iload_n (q := 37) rfl rfl rfl ?_
      obtain ⟨⟨r12, h11⟩, hC, hF⟩ := bd_I hF
      dsimp only at hF
      refine g_ci2 (q := 40) rfl rfl (fun _ => rfl) rfl (A_L_turned hC) (by decide +kernel) rfl ?_
      refine g_iload_n (q := 41) rfl rfl rfl ?_
      obtain ⟨⟨r14, h13⟩, hC, hF⟩ := bd_I hF
      dsimp only at hF
      refine g_ci2 (q := 44) rfl rfl (fun _ => rfl) rfl (A_L_turned hC) (by decide +kernel) rfl ?_
      refine g_istore (q := 46) rfl rfl ?_
      refine g_iload_n (q := 47) rfl rfl rfl ?_
      refine g_iload (q := 49) rfl rfl rfl ?_
      obtain ⟨v15, e_v15, hF⟩ := iw_I hF
      suffices K16 : Go 2 109 57 (mm_lf []) [.inl v15] h13 (some (.inl v), h') by
        clear hF
        by_cases c17 : ¬ r10 = r14
        · simp only [if_pos c17] at e_v15
          subst e_v15
          refine g_icmpT rfl (decide_eq_true c17) ?_
          refine g_iconst (q := 57) rfl rfl ?_
          exact go_sub mm_sub0 K16
        · simp only [if_neg c17] at e_v15
          subst e_v15
          refine g_icmpF (q := 52) rfl (decide_eq_false c17) rfl ?_
          refine g_iconst (q := 53) rfl rfl ?_
          refine g_goto rfl ?_
          exact go_sub mm_sub0 K16
      clear e_v15
      injection hF with hF
      injection hF with hv hh
      subst hv
      subst hh
      exact g_iret rfl
    · rw [if_neg c20] at hF
      refine g_ifF (q := 14) rfl (decide_eq_false c20) rfl ?_
      refine g_aload_n (q := 15) rfl rfl rfl ?_
      refine g_bipush (q := 17) rfl (by decide +kernel) rfl ?_
      obtain ⟨⟨r19, h18⟩, hC, hF⟩ := bd_I hF
      dsimp only at hF
      refine g_ci2 (q := 20) rfl rfl (fun _ => rfl) rfl (A_C_refuse hC) (by decide +kernel) rfl ?_
      injection hF with hF
      injection hF with hv hh
      subst hv
      subst hh
      exact g_iret rfl
def L_C_teach_37 : Nat → Int32 → Int32 → Int32 → MH → Option (Int32 × MH)
  | 0, _, _, _, _ => none
  | n + 1, x1, x2, x3, h => if (h.1 8 8) ≤ x3 then some (x1, h) else ck (mm_in x3 4) (iw (if ((h.1 12 (Int32.toNatClampNeg x3)) + (I 1)) < (I 9) then (h.1 12 (Int32.toNatClampNeg x3)) + (I 1) else I 9) (fun v5 => ck (mm_in x3 4) (hw (mm_hset h.1 12 (Int32.toNatClampNeg x3) v5, h.2) (fun h6 => bd (F_C_shareBeds h6) (fun (r8, h7) => ck (mm_in x3 4) (hw (mm_hset h7.1 12 (Int32.toNatClampNeg x3) (h.1 12 (Int32.toNatClampNeg x3)), h7.2) (fun h9 => iw (if x2 ≤ r8 then x1 else x3) (fun v10 => iw (if x2 ≤ r8 then x2 else r8) (fun v11 => L_C_teach_37 n v10 v11 (x3 + I 1) h9)))))))))
/-- BothCorners.teach()I -/
def F_C_teach (h : MH) : Option (Int32 × MH) := if (h.1 8 8) = 0 then bd (F_C_refuse (I (-3)) h) (fun (r2, h1) => some (r2, h1)) else if ¬ (h.1 8 9) = 0 then bd (F_C_shareBeds h) (fun (r4, h3) => bd (L_C_teach_37 5000 (I (-9)) r4 (I 0) h3) (fun (y15, h16) => some (y15, h16))) else bd (F_C_refuse (I (-3)) h) (fun (r18, h17) => some (r18, h17))
theorem A_L_C_teach_37 {r : MRs} : ∀ (n : Nat) (x1 : Int32) (x2 : Int32) (x3 : Int32) (h : MH) (x : Int32 × MH), L_C_teach_37 n x1 x2 x3 h = some x → (True) → (∀ (e1 : Int32) (h' : MH), x = (e1, h') → Go 18 95 111 (mm_lf [(1, .inl e1)]) [] h' r) → Go 18 95 37 (mm_lf [(0, .inr (.inl (some 0))), (1, .inl x1), (2, .inl x2), (3, .inl x3)]) [] h r
  | 0, _, _, _, _, _, hF, _, _ => by cases hF
  | n + 1, x1, x2, x3, h, x, hF, KR, KX => by
    have ih := fun a1 a2 a3 => A_L_C_teach_37 (r := r) n a1 a2 a3 
    unfold L_C_teach_37 at hF
    refine g_iload_n (q := 38) rfl rfl rfl ?_
    refine g_aload_n (q := 39) rfl rfl rfl ?_
    refine g_getR (q := 42) rfl (fun _ => rfl) rfl ?_
    refine g_getI (q := 45) rfl (fun _ => rfl) rfl ?_
    by_cases c14 : (h.1 8 8) ≤ x3
    · rw [if_pos c14] at hF
      refine g_icmpT rfl (decide_eq_true c14) ?_
      injection hF with hF
      subst hF
      exact go_sub (mm_subc rfl mm_sub0) (KX _ _ rfl)
    · rw [if_neg c14] at hF
      refine g_icmpF (q := 48) rfl (decide_eq_false c14) rfl ?_
      refine g_aload_n (q := 49) rfl rfl rfl ?_
      refine g_getR (q := 52) rfl (fun _ => rfl) rfl ?_
      refine g_getR (q := 55) rfl (fun _ => rfl) rfl ?_
      refine g_iload_n (q := 56) rfl rfl rfl ?_
      obtain ⟨hi, hF⟩ := ck_I hF
      refine g_iaload (q := 57) rfl rfl rfl hi rfl ?_
      refine g_istore (q := 59) rfl rfl ?_
      refine g_aload_n (q := 60) rfl rfl rfl ?_
      refine g_getR (q := 63) rfl (fun _ => rfl) rfl ?_
      refine g_getR (q := 66) rfl (fun _ => rfl) rfl ?_
      refine g_iload_n (q := 67) rfl rfl rfl ?_
      refine g_bipush (q := 69) rfl (by decide +kernel) rfl ?_
      refine g_iload (q := 71) rfl rfl rfl ?_
      refine g_iconst (q := 72) rfl rfl ?_
      refine g_iadd (q := 73) rfl rfl ?_
      refine g_min (q := 76) rfl rfl rfl ?_
      obtain ⟨v5, e_v5, hF⟩ := iw_I hF
      rw [← e_v5]
      obtain ⟨hi, hF⟩ := ck_I hF
      refine g_iastore (q := 77) rfl rfl rfl hi rfl ?_
      obtain ⟨h6, e_h6, hF⟩ := hw_I hF
      rw [← e_h6]
      refine g_aload_n (q := 78) rfl rfl rfl ?_
      obtain ⟨⟨r8, h7⟩, hC, hF⟩ := bd_I hF
      dsimp only at hF
      refine g_ci1 (q := 81) rfl rfl (fun _ => rfl) rfl (A_C_shareBeds hC) (by decide +kernel) rfl ?_
      refine g_istore (q := 83) rfl rfl ?_
      refine g_aload_n (q := 84) rfl rfl rfl ?_
      refine g_getR (q := 87) rfl (fun _ => rfl) rfl ?_
      refine g_getR (q := 90) rfl (fun _ => rfl) rfl ?_
      refine g_iload_n (q := 91) rfl rfl rfl ?_
      refine g_iload (q := 93) rfl rfl rfl ?_
      obtain ⟨hi, hF⟩ := ck_I hF
      refine g_iastore (q := 94) rfl rfl rfl hi rfl ?_
      obtain ⟨h9, e_h9, hF⟩ := hw_I hF
      rw [← e_h9]
      refine g_iload (q := 96) rfl rfl rfl ?_
      refine g_iload_n (q := 97) rfl rfl rfl ?_
      obtain ⟨v10, e_v10, hF⟩ := iw_I hF
      obtain ⟨v11, e_v11, hF⟩ := iw_I hF
      suffices K12 : Go 18 95 105 (mm_lf [(0, .inr (.inl (some 0))), (1, .inl v10), (2, .inl v11), (3, .inl x3)]) [] h9 r by
        clear hF
        by_cases c13 : x2 ≤ r8
        · simp only [if_pos c13] at e_v10 e_v11
          subst e_v10 e_v11
          refine g_icmpT rfl (decide_eq_true c13) ?_
          exact go_sub (mm_subc rfl (mm_subc rfl (mm_subc rfl (mm_subc rfl mm_sub0)))) K12
        · simp only [if_neg c13] at e_v10 e_v11
          subst e_v10 e_v11
          refine g_icmpF (q := 100) rfl (decide_eq_false c13) rfl ?_
          refine g_iload (q := 102) rfl rfl rfl ?_
          refine g_istore_n (q := 103) rfl rfl ?_
          refine g_iload_n (q := 104) rfl rfl rfl ?_
          refine g_istore_n (q := 105) rfl rfl ?_
          exact go_sub (mm_subc rfl (mm_subc rfl (mm_subc rfl (mm_subc rfl mm_sub0)))) K12
      clear e_v10 e_v11
      refine g_iinc (q := 108) rfl rfl rfl ?_
      refine g_goto rfl ?_
      refine go_sub (lo' := mm_lf [(0, .inr (.inl (some 0))), (1, .inl v10), (2, .inl v11), (3, .inl (x3 + I 1))]) (mm_subc rfl (mm_subc rfl (mm_subc rfl (mm_subc rfl mm_sub0)))) ?_
      exact ih _ _ _ _ _ hF KR KX
theorem A_C_teach {h h' : MH} {v : Int32} (hF : F_C_teach h = some (v, h')) : Ex 19 95 [.inr (.inl (some 0))] h (some (.inl v), h') := by
  unfold F_C_teach at hF
  refine ex_of (d := 18) rfl rfl ?_
  refine g_aload_n (q := 1) rfl rfl rfl ?_
  refine g_getR (q := 4) rfl (fun _ => rfl) rfl ?_
  refine g_getI (q := 7) rfl (fun _ => rfl) rfl ?_
  by_cases c20 : (h.1 8 8) = 0
  · rw [if_pos c20] at hF
    refine g_ifT rfl (decide_eq_true c20) ?_
    refine g_aload_n (q := 21) rfl rfl rfl ?_
    refine g_bipush (q := 23) rfl (by decide +kernel) rfl ?_
    obtain ⟨⟨r2, h1⟩, hC, hF⟩ := bd_I hF
    dsimp only at hF
    refine g_ci2 (q := 26) rfl rfl (fun _ => rfl) rfl (A_C_refuse hC) (by decide +kernel) rfl ?_
    injection hF with hF
    injection hF with hv hh
    subst hv
    subst hh
    exact g_iret rfl
  · rw [if_neg c20] at hF
    refine g_ifF (q := 10) rfl (decide_eq_false c20) rfl ?_
    refine g_aload_n (q := 11) rfl rfl rfl ?_
    refine g_getR (q := 14) rfl (fun _ => rfl) rfl ?_
    refine g_getI (q := 17) rfl (fun _ => rfl) rfl ?_
    by_cases c19 : ¬ (h.1 8 9) = 0
    · rw [if_pos c19] at hF
      refine g_ifT rfl (decide_eq_true c19) ?_
      refine g_bipush (q := 29) rfl (by decide +kernel) rfl ?_
      refine g_istore_n (q := 30) rfl rfl ?_
      refine g_aload_n (q := 31) rfl rfl rfl ?_
      obtain ⟨⟨r4, h3⟩, hC, hF⟩ := bd_I hF
      dsimp only at hF
      refine g_ci1 (q := 34) rfl rfl (fun _ => rfl) rfl (A_C_shareBeds hC) (by decide +kernel) rfl ?_
      refine g_istore_n (q := 35) rfl rfl ?_
      refine g_iconst (q := 36) rfl rfl ?_
      refine g_istore_n (q := 37) rfl rfl ?_
      refine go_sub (lo' := mm_lf [(0, .inr (.inl (some 0))), (1, .inl (I (-9))), (2, .inl r4), (3, .inl (I 0))]) (mm_subc rfl (mm_subc rfl (mm_subc rfl (mm_subc rfl mm_sub0)))) ?_
      obtain ⟨⟨y15, h16⟩, hC, hF⟩ := bd_I hF
      dsimp only at hF
      refine A_L_C_teach_37 5000 _ _ _ _ _ hC trivial ?_
      intro _ _ e2
      cases e2
      refine g_iload_n (q := 112) rfl rfl rfl ?_
      injection hF with hF
      injection hF with hv hh
      subst hv
      subst hh
      exact g_iret rfl
    · rw [if_neg c19] at hF
      refine g_ifF (q := 20) rfl (decide_eq_false c19) rfl ?_
      refine g_aload_n (q := 21) rfl rfl rfl ?_
      refine g_bipush (q := 23) rfl (by decide +kernel) rfl ?_
      obtain ⟨⟨r18, h17⟩, hC, hF⟩ := bd_I hF
      dsimp only at hF
      refine g_ci2 (q := 26) rfl rfl (fun _ => rfl) rfl (A_C_refuse hC) (by decide +kernel) rfl ?_
      injection hF with hF
      injection hF with hv hh
      subst hv
      subst hh
      exact g_iret rfl
/-- BothCorners.left(IIII)I -/
def F_C_left (x1 : Int32) (x2 : Int32) (x3 : Int32) (x4 : Int32) (h : MH) : Option (Int32 × MH) := bd (F_C_lacks x1 x2 x3 h) (fun (r2, h1) => if r2 = 0 then if 0 ≤ x4 then if x4 ≤ (I 40) then bd (F_H_foldsBy x1 x2 h1) (fun (r4, h3) => ck (mm_in x3 4) (bd (F_C_foldsAShake (h3.1 11 (Int32.toNatClampNeg x3)) h3) (fun (r6, h5) => iw (if (I 0) < (r4 - (x4 * r6)) then r4 - (x4 * r6) else I 0) (fun v7 => some (v7, h5))))) else bd (F_C_refuse (I (-6)) h1) (fun (r9, h8) => some (r9, h8)) else bd (F_C_refuse (I (-4)) h1) (fun (r12, h11) => some (r12, h11)) else bd (F_C_refuse (I (-1)) h1) (fun (r15, h14) => some (r15, h14)))
theorem A_C_left {x1 : Int32} {x2 : Int32} {x3 : Int32} {x4 : Int32} {h h' : MH} {v : Int32} (hF : F_C_left x1 x2 x3 x4 h = some (v, h')) : Ex 6 83 [.inr (.inl (some 0)), .inl x1, .inl x2, .inl x3, .inl x4] h (some (.inl v), h') := by
  unfold F_C_left at hF
  refine ex_of (d := 5) rfl rfl ?_
  refine g_aload_n (q := 1) rfl rfl rfl ?_
  refine g_iload_n (q := 2) rfl rfl rfl ?_
  refine g_iload_n (q := 3) rfl rfl rfl ?_
  refine g_iload_n (q := 4) rfl rfl rfl ?_
  obtain ⟨⟨r2, h1⟩, hC, hF⟩ := bd_I hF
  dsimp only at hF
  refine g_ci4 (q := 7) rfl rfl (fun _ => rfl) rfl (A_C_lacks hC) (by decide +kernel) rfl ?_
  by_cases c16 : r2 = 0
  · rw [if_pos c16] at hF
    refine g_ifT rfl (decide_eq_true c16) ?_
    refine g_iload (q := 18) rfl rfl rfl ?_
    by_cases c13 : 0 ≤ x4
    · rw [if_pos c13] at hF
      refine g_ifT rfl (decide_eq_true c13) ?_
      refine g_iload (q := 30) rfl rfl rfl ?_
      refine g_bipush (q := 32) rfl (by decide +kernel) rfl ?_
      by_cases c10 : x4 ≤ (I 40)
      · rw [if_pos c10] at hF
        refine g_icmpT rfl (decide_eq_true c10) ?_
        refine g_iconst (q := 43) rfl rfl ?_
        refine g_aload_n (q := 44) rfl rfl rfl ?_
        refine g_getR (q := 47) rfl (fun _ => rfl) rfl ?_
        refine g_iload_n (q := 48) rfl rfl rfl ?_
        refine g_iload_n (q := 49) rfl rfl rfl ?_
        obtain ⟨⟨r4, h3⟩, hC, hF⟩ := bd_I hF
        dsimp only at hF
        refine g_ci3 (q := 52) rfl rfl (fun _ => rfl) rfl (A_H_foldsBy hC) (by decide +kernel) rfl ?_
        refine g_iload (q := 54) rfl rfl rfl ?_
        refine g_aload_n (q := 55) rfl rfl rfl ?_
        refine g_getR (q := 58) rfl (fun _ => rfl) rfl ?_
        refine g_getR (q := 61) rfl (fun _ => rfl) rfl ?_
        refine g_iload_n (q := 62) rfl rfl rfl ?_
        obtain ⟨hi, hF⟩ := ck_I hF
        refine g_iaload (q := 63) rfl rfl rfl hi rfl ?_
        obtain ⟨⟨r6, h5⟩, hC, hF⟩ := bd_I hF
        dsimp only at hF
        refine g_ci1 (q := 66) rfl rfl (fun _ => rfl) rfl (A_C_foldsAShake hC) (by decide +kernel) rfl ?_
        refine g_imul (q := 67) rfl rfl ?_
        refine g_isub (q := 68) rfl rfl ?_
        refine g_max (q := 71) rfl rfl rfl ?_
        obtain ⟨v7, e_v7, hF⟩ := iw_I hF
        rw [← e_v7]
        injection hF with hF
        injection hF with hv hh
        subst hv
        subst hh
        exact g_iret rfl
      · rw [if_neg c10] at hF
        refine g_icmpF (q := 35) rfl (decide_eq_false c10) rfl ?_
        refine g_aload_n (q := 36) rfl rfl rfl ?_
        refine g_bipush (q := 38) rfl (by decide +kernel) rfl ?_
        obtain ⟨⟨r9, h8⟩, hC, hF⟩ := bd_I hF
        dsimp only at hF
        refine g_ci2 (q := 41) rfl rfl (fun _ => rfl) rfl (A_C_refuse hC) (by decide +kernel) rfl ?_
        injection hF with hF
        injection hF with hv hh
        subst hv
        subst hh
        exact g_iret rfl
    · rw [if_neg c13] at hF
      refine g_ifF (q := 21) rfl (decide_eq_false c13) rfl ?_
      refine g_aload_n (q := 22) rfl rfl rfl ?_
      refine g_bipush (q := 24) rfl (by decide +kernel) rfl ?_
      obtain ⟨⟨r12, h11⟩, hC, hF⟩ := bd_I hF
      dsimp only at hF
      refine g_ci2 (q := 27) rfl rfl (fun _ => rfl) rfl (A_C_refuse hC) (by decide +kernel) rfl ?_
      injection hF with hF
      injection hF with hv hh
      subst hv
      subst hh
      exact g_iret rfl
  · rw [if_neg c16] at hF
    refine g_ifF (q := 10) rfl (decide_eq_false c16) rfl ?_
    refine g_aload_n (q := 11) rfl rfl rfl ?_
    refine g_iconst (q := 12) rfl rfl ?_
    obtain ⟨⟨r15, h14⟩, hC, hF⟩ := bd_I hF
    dsimp only at hF
    refine g_ci2 (q := 15) rfl rfl (fun _ => rfl) rfl (A_C_refuse hC) (by decide +kernel) rfl ?_
    injection hF with hF
    injection hF with hv hh
    subst hv
    subst hh
    exact g_iret rfl
def L_C_suffice_30 (x1 : Int32) (x2 : Int32) (x3 : Int32) (x4 : Int32) : Nat → Int32 → Int32 → MH → Option (Int32 × MH)
  | 0, _, _, _ => none
  | n + 1, x5, x6, h => if (h.1 8 9) ≤ x6 then some (x5, h) else if ¬ x5 = 0 then L_C_suffice_30 x1 x2 x3 x4 n (I 1) (x6 + I 1) h else if ¬ ((x1 >>> (x6 &&& 31)) &&& (I 1)) = (I 1) then L_C_suffice_30 x1 x2 x3 x4 n (I 0) (x6 + I 1) h else bd (F_H_timeBy x3 x6 x2 h) (fun (r4, h3) => iw (if ¬ r4 = x4 then I 0 else I 1) (fun v5 => L_C_suffice_30 x1 x2 x3 x4 n v5 (x6 + I 1) h3))
def L_C_suffice_2 (x1 : Int32) (x2 : Int32) : Nat → Int32 → MH → Option ((Int32 × MH) ⊕ (MH))
  | 0, _, _ => none
  | n + 1, x3, h => if (h.1 8 7) ≤ x3 then some (.inr (h)) else bd (F_H_bestTime x3 x2 h) (fun (r2, h1) => bd (L_C_suffice_30 x1 x2 x3 r2 5000 (I 0) (I 0) h1) (fun (y11, h12) => if ¬ y11 = 0 then L_C_suffice_2 x1 x2 n (x3 + I 1) h12 else some (.inl (I 0, h12))))
/-- BothCorners.suffice(II)Z -/
def F_C_suffice (x1 : Int32) (x2 : Int32) (h : MH) : Option (Int32 × MH) := be (L_C_suffice_2 x1 x2 5000 (I 0) h) (fun u16 => some u16) (fun h15 => some (I 1, h15))
theorem A_L_C_suffice_30 {x1 : Int32} {x2 : Int32} {x3 : Int32} {x4 : Int32} {r : MRs} : ∀ (n : Nat) (x5 : Int32) (x6 : Int32) (h : MH) (x : Int32 × MH), L_C_suffice_30 x1 x2 x3 x4 n x5 x6 h = some x → (True) → (∀ (e5 : Int32) (h' : MH), x = (e5, h') → Go 5 134 86 (mm_lf [(0, .inr (.inl (some 0))), (1, .inl x1), (2, .inl x2), (3, .inl x3), (5, .inl e5)]) [] h' r) → Go 5 134 30 (mm_lf [(0, .inr (.inl (some 0))), (1, .inl x1), (2, .inl x2), (3, .inl x3), (4, .inl x4), (5, .inl x5), (6, .inl x6)]) [] h r
  | 0, _, _, _, _, hF, _, _ => by cases hF
  | n + 1, x5, x6, h, x, hF, KR, KX => by
    have ih := fun a5 a6 => A_L_C_suffice_30 (x1 := x1) (x2 := x2) (x3 := x3) (x4 := x4) (r := r) n a5 a6 
    unfold L_C_suffice_30 at hF
    refine g_iload (q := 32) rfl rfl rfl ?_
    refine g_aload_n (q := 33) rfl rfl rfl ?_
    refine g_getR (q := 36) rfl (fun _ => rfl) rfl ?_
    refine g_getI (q := 39) rfl (fun _ => rfl) rfl ?_
    by_cases c10 : (h.1 8 9) ≤ x6
    · rw [if_pos c10] at hF
      refine g_icmpT rfl (decide_eq_true c10) ?_
      injection hF with hF
      subst hF
      exact go_sub (mm_subc rfl (mm_subc rfl (mm_subc rfl (mm_subc rfl (mm_subc rfl mm_sub0))))) (KX _ _ rfl)
    · rw [if_neg c10] at hF
      refine g_icmpF (q := 42) rfl (decide_eq_false c10) rfl ?_
      refine g_iload (q := 44) rfl rfl rfl ?_
      by_cases c9 : ¬ x5 = 0
      · rw [if_pos c9] at hF
        refine g_ifT rfl (decide_eq_true c9) ?_
        refine g_iconst (q := 74) rfl rfl ?_
        refine g_goto rfl ?_
        refine g_istore (q := 80) rfl rfl ?_
        refine g_iinc (q := 83) rfl rfl rfl ?_
        refine g_goto rfl ?_
        refine go_sub (lo' := mm_lf [(0, .inr (.inl (some 0))), (1, .inl x1), (2, .inl x2), (3, .inl x3), (4, .inl x4), (5, .inl (I 1)), (6, .inl (x6 + I 1))]) (mm_subc rfl (mm_subc rfl (mm_subc rfl (mm_subc rfl (mm_subc rfl (mm_subc rfl (mm_subc rfl mm_sub0))))))) ?_
        exact ih _ _ _ _ hF KR KX
      · rw [if_neg c9] at hF
        refine g_ifF (q := 47) rfl (decide_eq_false c9) rfl ?_
        refine g_iload_n (q := 48) rfl rfl rfl ?_
        refine g_iload (q := 50) rfl rfl rfl ?_
        refine g_ishr (q := 51) rfl rfl ?_
        refine g_iconst (q := 52) rfl rfl ?_
        refine g_iand (q := 53) rfl rfl ?_
        refine g_iconst (q := 54) rfl rfl ?_
        by_cases c8 : ¬ ((x1 >>> (x6 &&& 31)) &&& (I 1)) = (I 1)
        · rw [if_pos c8] at hF
          refine g_icmpT rfl (decide_eq_true c8) ?_
          refine g_iconst (q := 78) rfl rfl ?_
          refine g_istore (q := 80) rfl rfl ?_
          refine g_iinc (q := 83) rfl rfl rfl ?_
          refine g_goto rfl ?_
          refine go_sub (lo' := mm_lf [(0, .inr (.inl (some 0))), (1, .inl x1), (2, .inl x2), (3, .inl x3), (4, .inl x4), (5, .inl (I 0)), (6, .inl (x6 + I 1))]) (mm_subc rfl (mm_subc rfl (mm_subc rfl (mm_subc rfl (mm_subc rfl (mm_subc rfl (mm_subc rfl mm_sub0))))))) ?_
          exact ih _ _ _ _ hF KR KX
        · rw [if_neg c8] at hF
          refine g_icmpF (q := 57) rfl (decide_eq_false c8) rfl ?_
          refine g_aload_n (q := 58) rfl rfl rfl ?_
          refine g_getR (q := 61) rfl (fun _ => rfl) rfl ?_
          refine g_iload_n (q := 62) rfl rfl rfl ?_
          refine g_iload (q := 64) rfl rfl rfl ?_
          refine g_iload_n (q := 65) rfl rfl rfl ?_
          obtain ⟨⟨r4, h3⟩, hC, hF⟩ := bd_I hF
          dsimp only at hF
          refine g_ci4 (q := 68) rfl rfl (fun _ => rfl) rfl (A_H_timeBy hC) (by decide +kernel) rfl ?_
          refine g_iload (q := 70) rfl rfl rfl ?_
          obtain ⟨v5, e_v5, hF⟩ := iw_I hF
          suffices K6 : Go 5 134 78 (mm_lf [(0, .inr (.inl (some 0))), (1, .inl x1), (2, .inl x2), (3, .inl x3), (4, .inl x4), (6, .inl x6)]) [.inl v5] h3 r by
            clear hF
            by_cases c7 : ¬ r4 = x4
            · simp only [if_pos c7] at e_v5
              subst e_v5
              refine g_icmpT rfl (decide_eq_true c7) ?_
              refine g_iconst (q := 78) rfl rfl ?_
              exact go_sub (mm_subc rfl (mm_subc rfl (mm_subc rfl (mm_subc rfl (mm_subc rfl (mm_subc rfl mm_sub0)))))) K6
            · simp only [if_neg c7] at e_v5
              subst e_v5
              refine g_icmpF (q := 73) rfl (decide_eq_false c7) rfl ?_
              refine g_iconst (q := 74) rfl rfl ?_
              refine g_goto rfl ?_
              exact go_sub (mm_subc rfl (mm_subc rfl (mm_subc rfl (mm_subc rfl (mm_subc rfl (mm_subc rfl mm_sub0)))))) K6
          clear e_v5
          refine g_istore (q := 80) rfl rfl ?_
          refine g_iinc (q := 83) rfl rfl rfl ?_
          refine g_goto rfl ?_
          refine go_sub (lo' := mm_lf [(0, .inr (.inl (some 0))), (1, .inl x1), (2, .inl x2), (3, .inl x3), (4, .inl x4), (5, .inl v5), (6, .inl (x6 + I 1))]) (mm_subc rfl (mm_subc rfl (mm_subc rfl (mm_subc rfl (mm_subc rfl (mm_subc rfl (mm_subc rfl mm_sub0))))))) ?_
          exact ih _ _ _ _ hF KR KX
theorem A_L_C_suffice_2 {x1 : Int32} {x2 : Int32} {r : MRs} : ∀ (n : Nat) (x3 : Int32) (h : MH) (x : (Int32 × MH) ⊕ (MH)), L_C_suffice_2 x1 x2 n x3 h = some x → (∀ (u : Int32) (h' : MH), x = .inl (u, h') → r = (some (.inl u), h')) → (∀ (h' : MH), x = .inr (h') → Go 5 134 99 (mm_lf []) [] h' r) → Go 5 134 2 (mm_lf [(0, .inr (.inl (some 0))), (1, .inl x1), (2, .inl x2), (3, .inl x3)]) [] h r
  | 0, _, _, _, hF, _, _ => by cases hF
  | n + 1, x3, h, x, hF, KR, KX => by
    have ih := fun a3 => A_L_C_suffice_2 (x1 := x1) (x2 := x2) (r := r) n a3 
    unfold L_C_suffice_2 at hF
    refine g_iload_n (q := 3) rfl rfl rfl ?_
    refine g_aload_n (q := 4) rfl rfl rfl ?_
    refine g_getR (q := 7) rfl (fun _ => rfl) rfl ?_
    refine g_getI (q := 10) rfl (fun _ => rfl) rfl ?_
    by_cases c14 : (h.1 8 7) ≤ x3
    · rw [if_pos c14] at hF
      refine g_icmpT rfl (decide_eq_true c14) ?_
      injection hF with hF
      subst hF
      exact go_sub mm_sub0 (KX  _ rfl)
    · rw [if_neg c14] at hF
      refine g_icmpF (q := 13) rfl (decide_eq_false c14) rfl ?_
      refine g_aload_n (q := 14) rfl rfl rfl ?_
      refine g_getR (q := 17) rfl (fun _ => rfl) rfl ?_
      refine g_iload_n (q := 18) rfl rfl rfl ?_
      refine g_iload_n (q := 19) rfl rfl rfl ?_
      obtain ⟨⟨r2, h1⟩, hC, hF⟩ := bd_I hF
      dsimp only at hF
      refine g_ci3 (q := 22) rfl rfl (fun _ => rfl) rfl (A_H_bestTime hC) (by decide +kernel) rfl ?_
      refine g_istore (q := 24) rfl rfl ?_
      refine g_iconst (q := 25) rfl rfl ?_
      refine g_istore (q := 27) rfl rfl ?_
      refine g_iconst (q := 28) rfl rfl ?_
      refine g_istore (q := 30) rfl rfl ?_
      refine go_sub (lo' := mm_lf [(0, .inr (.inl (some 0))), (1, .inl x1), (2, .inl x2), (3, .inl x3), (4, .inl r2), (5, .inl (I 0)), (6, .inl (I 0))]) (mm_subc rfl (mm_subc rfl (mm_subc rfl (mm_subc rfl (mm_subc rfl (mm_subc rfl (mm_subc rfl mm_sub0))))))) ?_
      obtain ⟨⟨y11, h12⟩, hC, hF⟩ := bd_I hF
      dsimp only at hF
      refine A_L_C_suffice_30 5000 _ _ _ _ hC trivial ?_
      intro _ _ e2
      cases e2
      refine g_iload (q := 88) rfl rfl rfl ?_
      by_cases c13 : ¬ y11 = 0
      · rw [if_pos c13] at hF
        refine g_ifT rfl (decide_eq_true c13) ?_
        refine g_iinc (q := 96) rfl rfl rfl ?_
        refine g_goto rfl ?_
        refine go_sub (lo' := mm_lf [(0, .inr (.inl (some 0))), (1, .inl x1), (2, .inl x2), (3, .inl (x3 + I 1))]) (mm_subc rfl (mm_subc rfl (mm_subc rfl (mm_subc rfl mm_sub0)))) ?_
        exact ih _ _ _ hF KR KX
      · rw [if_neg c13] at hF
        refine g_ifF (q := 91) rfl (decide_eq_false c13) rfl ?_
        refine g_iconst (q := 92) rfl rfl ?_
        injection hF with hF
        subst hF
        rw [KR _ _ rfl]
        exact g_zret rfl (by decide +kernel)
theorem A_C_suffice {x1 : Int32} {x2 : Int32} {h h' : MH} {v : Int32} (hF : F_C_suffice x1 x2 h = some (v, h')) : Ex 6 134 [.inr (.inl (some 0)), .inl x1, .inl x2] h (some (.inl v), h') := by
  unfold F_C_suffice at hF
  refine ex_of (d := 5) rfl rfl ?_
  refine g_iconst (q := 1) rfl rfl ?_
  refine g_istore_n (q := 2) rfl rfl ?_
  refine go_sub (lo' := mm_lf [(0, .inr (.inl (some 0))), (1, .inl x1), (2, .inl x2), (3, .inl (I 0))]) (mm_subc rfl (mm_subc rfl (mm_subc rfl (mm_subc rfl mm_sub0)))) ?_
  rcases be_I hF with ⟨u, hC, hF⟩ | ⟨h15, hC, hF⟩
  · refine A_L_C_suffice_2 5000 _ _ _ hC ?_ ?_
    · intro u2 h2 e2
      cases e2
      injection hF with hF
      injection hF with hv hh
      subst hv
      subst hh
      rfl
    · intro _ e2
      cases e2
  refine A_L_C_suffice_2 5000 _ _ _ hC ?_ ?_
  · intro u2 h2 e2
    cases e2
  intro _ e2
  cases e2
  refine g_iconst (q := 100) rfl rfl ?_
  injection hF with hF
  injection hF with hv hh
  subst hv
  subst hh
  exact g_zret rfl (by decide +kernel)
def L_C_enough_31 (x1 : Int32) (x2 : Int32) : Nat → Int32 → Int32 → MH → Option (Int32 × MH)
  | 0, _, _, _ => none
  | n + 1, x3, x4, h => if x2 ≤ x4 then some (x3, h) else bd (F_J_bitCount x4 h) (fun (r4, h3) => bd (F_J_bitCount x3 h3) (fun (r6, h5) => if r6 ≤ r4 then L_C_enough_31 x1 x2 n x3 (x4 + I 1) h5 else bd (F_C_suffice x4 x1 h5) (fun (r8, h7) => iw (if r8 = 0 then x3 else x4) (fun v9 => L_C_enough_31 x1 x2 n v9 (x4 + I 1) h7))))
/-- BothCorners.enough(I)I -/
def F_C_enough (x1 : Int32) (h : MH) : Option (Int32 × MH) := bd (F_C_noOne x1 h) (fun (r2, h1) => if r2 = 0 then bd (L_C_enough_31 x1 (((I 1) <<< ((h1.1 8 9) &&& 31)) - (I 1)) 5000 (((I 1) <<< ((h1.1 8 9) &&& 31)) - (I 1)) (I 0) h1) (fun (y14, h15) => some (y14, h15)) else bd (F_C_refuse (I (-1)) h1) (fun (r17, h16) => some (r17, h16)))
theorem A_L_C_enough_31 {x1 : Int32} {x2 : Int32} {r : MRs} : ∀ (n : Nat) (x3 : Int32) (x4 : Int32) (h : MH) (x : Int32 × MH), L_C_enough_31 x1 x2 n x3 x4 h = some x → (True) → (∀ (e3 : Int32) (h' : MH), x = (e3, h') → Go 6 100 68 (mm_lf [(3, .inl e3)]) [] h' r) → Go 6 100 31 (mm_lf [(0, .inr (.inl (some 0))), (1, .inl x1), (2, .inl x2), (3, .inl x3), (4, .inl x4)]) [] h r
  | 0, _, _, _, _, hF, _, _ => by cases hF
  | n + 1, x3, x4, h, x, hF, KR, KX => by
    have ih := fun a3 a4 => A_L_C_enough_31 (x1 := x1) (x2 := x2) (r := r) n a3 a4 
    unfold L_C_enough_31 at hF
    refine g_iload (q := 33) rfl rfl rfl ?_
    refine g_iload_n (q := 34) rfl rfl rfl ?_
    by_cases c13 : x2 ≤ x4
    · rw [if_pos c13] at hF
      refine g_icmpT rfl (decide_eq_true c13) ?_
      injection hF with hF
      subst hF
      exact go_sub (mm_subc rfl mm_sub0) (KX _ _ rfl)
    · rw [if_neg c13] at hF
      refine g_icmpF (q := 37) rfl (decide_eq_false c13) rfl ?_
      refine g_iload (q := 39) rfl rfl rfl ?_
      obtain ⟨⟨r4, h3⟩, hC, hF⟩ := bd_I hF
      dsimp only at hF
      refine g_ci1 (q := 42) rfl rfl (fun _ => rfl) rfl (A_J_bitCount hC) (by decide +kernel) rfl ?_
      refine g_iload_n (q := 43) rfl rfl rfl ?_
      obtain ⟨⟨r6, h5⟩, hC, hF⟩ := bd_I hF
      dsimp only at hF
      refine g_ci1 (q := 46) rfl rfl (fun _ => rfl) rfl (A_J_bitCount hC) (by decide +kernel) rfl ?_
      by_cases c12 : r6 ≤ r4
      · rw [if_pos c12] at hF
        refine g_icmpT rfl (decide_eq_true c12) ?_
        refine g_iinc (q := 65) rfl rfl rfl ?_
        refine g_goto rfl ?_
        refine go_sub (lo' := mm_lf [(0, .inr (.inl (some 0))), (1, .inl x1), (2, .inl x2), (3, .inl x3), (4, .inl (x4 + I 1))]) (mm_subc rfl (mm_subc rfl (mm_subc rfl (mm_subc rfl (mm_subc rfl mm_sub0))))) ?_
        exact ih _ _ _ _ hF KR KX
      · rw [if_neg c12] at hF
        refine g_icmpF (q := 49) rfl (decide_eq_false c12) rfl ?_
        refine g_aload_n (q := 50) rfl rfl rfl ?_
        refine g_iload (q := 52) rfl rfl rfl ?_
        refine g_iload_n (q := 53) rfl rfl rfl ?_
        obtain ⟨⟨r8, h7⟩, hC, hF⟩ := bd_I hF
        dsimp only at hF
        refine g_ci3 (q := 56) rfl rfl (fun _ => rfl) rfl (A_C_suffice hC) (by decide +kernel) rfl ?_
        obtain ⟨v9, e_v9, hF⟩ := iw_I hF
        suffices K10 : Go 6 100 62 (mm_lf [(0, .inr (.inl (some 0))), (1, .inl x1), (2, .inl x2), (3, .inl v9), (4, .inl x4)]) [] h7 r by
          clear hF
          by_cases c11 : r8 = 0
          · simp only [if_pos c11] at e_v9
            subst e_v9
            refine g_ifT rfl (decide_eq_true c11) ?_
            exact go_sub (mm_subc rfl (mm_subc rfl (mm_subc rfl (mm_subc rfl (mm_subc rfl mm_sub0))))) K10
          · simp only [if_neg c11] at e_v9
            subst e_v9
            refine g_ifF (q := 59) rfl (decide_eq_false c11) rfl ?_
            refine g_iload (q := 61) rfl rfl rfl ?_
            refine g_istore_n (q := 62) rfl rfl ?_
            exact go_sub (mm_subc rfl (mm_subc rfl (mm_subc rfl (mm_subc rfl (mm_subc rfl mm_sub0))))) K10
        clear e_v9
        refine g_iinc (q := 65) rfl rfl rfl ?_
        refine g_goto rfl ?_
        refine go_sub (lo' := mm_lf [(0, .inr (.inl (some 0))), (1, .inl x1), (2, .inl x2), (3, .inl v9), (4, .inl (x4 + I 1))]) (mm_subc rfl (mm_subc rfl (mm_subc rfl (mm_subc rfl (mm_subc rfl mm_sub0))))) ?_
        exact ih _ _ _ _ hF KR KX
theorem A_C_enough {x1 : Int32} {h h' : MH} {v : Int32} (hF : F_C_enough x1 h = some (v, h')) : Ex 7 100 [.inr (.inl (some 0)), .inl x1] h (some (.inl v), h') := by
  unfold F_C_enough at hF
  refine ex_of (d := 6) rfl rfl ?_
  refine g_aload_n (q := 1) rfl rfl rfl ?_
  refine g_iload_n (q := 2) rfl rfl rfl ?_
  obtain ⟨⟨r2, h1⟩, hC, hF⟩ := bd_I hF
  dsimp only at hF
  refine g_ci2 (q := 5) rfl rfl (fun _ => rfl) rfl (A_C_noOne hC) (by decide +kernel) rfl ?_
  by_cases c18 : r2 = 0
  · rw [if_pos c18] at hF
    refine g_ifT rfl (decide_eq_true c18) ?_
    refine g_iconst (q := 15) rfl rfl ?_
    refine g_aload_n (q := 16) rfl rfl rfl ?_
    refine g_getR (q := 19) rfl (fun _ => rfl) rfl ?_
    refine g_getI (q := 22) rfl (fun _ => rfl) rfl ?_
    refine g_ishl (q := 23) rfl rfl ?_
    refine g_iconst (q := 24) rfl rfl ?_
    refine g_isub (q := 25) rfl rfl ?_
    refine g_istore_n (q := 26) rfl rfl ?_
    refine g_iload_n (q := 27) rfl rfl rfl ?_
    refine g_istore_n (q := 28) rfl rfl ?_
    refine g_iconst (q := 29) rfl rfl ?_
    refine g_istore (q := 31) rfl rfl ?_
    refine go_sub (lo' := mm_lf [(0, .inr (.inl (some 0))), (1, .inl x1), (2, .inl (((I 1) <<< ((h1.1 8 9) &&& 31)) - (I 1))), (3, .inl (((I 1) <<< ((h1.1 8 9) &&& 31)) - (I 1))), (4, .inl (I 0))]) (mm_subc rfl (mm_subc rfl (mm_subc rfl (mm_subc rfl (mm_subc rfl mm_sub0))))) ?_
    obtain ⟨⟨y14, h15⟩, hC, hF⟩ := bd_I hF
    dsimp only at hF
    refine A_L_C_enough_31 5000 _ _ _ _ hC trivial ?_
    intro _ _ e2
    cases e2
    refine g_iload_n (q := 69) rfl rfl rfl ?_
    injection hF with hF
    injection hF with hv hh
    subst hv
    subst hh
    exact g_iret rfl
  · rw [if_neg c18] at hF
    refine g_ifF (q := 8) rfl (decide_eq_false c18) rfl ?_
    refine g_aload_n (q := 9) rfl rfl rfl ?_
    refine g_iconst (q := 10) rfl rfl ?_
    obtain ⟨⟨r17, h16⟩, hC, hF⟩ := bd_I hF
    dsimp only at hF
    refine g_ci2 (q := 13) rfl rfl (fun _ => rfl) rfl (A_C_refuse hC) (by decide +kernel) rfl ?_
    injection hF with hF
    injection hF with hv hh
    subst hv
    subst hh
    exact g_iret rfl
def L_S_tryFlows_28 (rec : Int32 → Int32 → Int32 → Int32 → MH → Option (MH)) (x1 : Int32) (x2 : Int32) (x3 : Int32) (x4 : Int32) : Nat → Int32 → MH → Option (MH)
  | 0, _, _ => none
  | n + 1, x5, h => if (h.1 40 6) ≤ x5 then some (h) else if ¬ ((x2 >>> (x5 &&& 31)) &&& (I 1)) = 0 then L_S_tryFlows_28 rec x1 x2 x3 x4 n (x5 + I 1) h else ck (mm_in x1 6) (hw (mm_hset h.1 51 (Int32.toNatClampNeg x1) x5, h.2) (fun h1 => ck (mm_in x5 6) (iw (if (x3 + (h1.1 48 (Int32.toNatClampNeg x5))) < x4 then x4 else x3 + (h1.1 48 (Int32.toNatClampNeg x5))) (fun v2 => ck (mm_in x5 6) (bd (rec (x1 + (I 1)) (x2 ||| ((I 1) <<< (x5 &&& 31))) (x3 + (h1.1 48 (Int32.toNatClampNeg x5))) (v2 + (h1.1 49 (Int32.toNatClampNeg x5))) h1) (fun h3 => L_S_tryFlows_28 rec x1 x2 x3 x4 n (x5 + I 1) h3))))))
def F_S_tryFlows : Nat → Int32 → Int32 → Int32 → Int32 → MH → Option (MH)
  | 0, _, _, _, _, _ => none
  | n + 1, x1, x2, x3, x4, h => if x4 < (h.1 40 8) then if x1 < (h.1 40 6) then bd (L_S_tryFlows_28 (F_S_tryFlows n) x1 x2 x3 x4 5000 (I 0) h) (fun h6 => some h6) else bd (F_S_keepTried x4 h) (fun h7 => some h7) else some h
theorem A_L_S_tryFlows_28 {d dr : Nat} (rec : Int32 → Int32 → Int32 → Int32 → MH → Option (MH)) (hrec : ∀ {x1 : Int32} {x2 : Int32} {x3 : Int32} {x4 : Int32} {h : MH} {h' : MH}, rec x1 x2 x3 x4 h = some h' → Ex dr 53 [.inr (.inl (some 40)), .inl x1, .inl x2, .inl x3, .inl x4] h (none, h')) (hdr : Nat.ble dr d = true) (hd0 : 4 ≤ d) {x1 : Int32} {x2 : Int32} {x3 : Int32} {x4 : Int32} {r : MRs} : ∀ (n : Nat) (x5 : Int32) (h : MH) (x : MH), L_S_tryFlows_28 rec x1 x2 x3 x4 n x5 h = some x → (True) → (∀ (h' : MH), x = (h') → Go d 53 101 (mm_lf []) [] h' r) → Go d 53 28 (mm_lf [(0, .inr (.inl (some 40))), (1, .inl x1), (2, .inl x2), (3, .inl x3), (4, .inl x4), (5, .inl x5)]) [] h r
  | 0, _, _, _, hF, _, _ => by cases hF
  | n + 1, x5, h, x, hF, KR, KX => by
    have ih := fun a5 => A_L_S_tryFlows_28 rec hrec hdr hd0 (x1 := x1) (x2 := x2) (x3 := x3) (x4 := x4) (r := r) n a5 
    unfold L_S_tryFlows_28 at hF
    refine g_iload (q := 30) rfl rfl rfl ?_
    refine g_aload_n (q := 31) rfl rfl rfl ?_
    refine g_getI (q := 34) rfl (fun _ => rfl) rfl ?_
    by_cases c5 : (h.1 40 6) ≤ x5
    · rw [if_pos c5] at hF
      refine g_icmpT rfl (decide_eq_true c5) ?_
      injection hF with hF
      subst hF
      exact go_sub mm_sub0 (KX  _ rfl)
    · rw [if_neg c5] at hF
      refine g_icmpF (q := 37) rfl (decide_eq_false c5) rfl ?_
      refine g_iload_n (q := 38) rfl rfl rfl ?_
      refine g_iload (q := 40) rfl rfl rfl ?_
      refine g_ishr (q := 41) rfl rfl ?_
      refine g_iconst (q := 42) rfl rfl ?_
      refine g_iand (q := 43) rfl rfl ?_
      by_cases c4 : ¬ ((x2 >>> (x5 &&& 31)) &&& (I 1)) = 0
      · rw [if_pos c4] at hF
        refine g_ifT rfl (decide_eq_true c4) ?_
        refine g_iinc (q := 98) rfl rfl rfl ?_
        refine g_goto rfl ?_
        refine go_sub (lo' := mm_lf [(0, .inr (.inl (some 40))), (1, .inl x1), (2, .inl x2), (3, .inl x3), (4, .inl x4), (5, .inl (x5 + I 1))]) (mm_subc rfl (mm_subc rfl (mm_subc rfl (mm_subc rfl (mm_subc rfl (mm_subc rfl mm_sub0)))))) ?_
        exact ih _ _ _ hF KR KX
      · rw [if_neg c4] at hF
        refine g_ifF (q := 46) rfl (decide_eq_false c4) rfl ?_
        refine g_aload_n (q := 47) rfl rfl rfl ?_
        refine g_getR (q := 50) rfl (fun _ => rfl) rfl ?_
        refine g_iload_n (q := 51) rfl rfl rfl ?_
        refine g_iload (q := 53) rfl rfl rfl ?_
        obtain ⟨hi, hF⟩ := ck_I hF
        refine g_iastore (q := 54) rfl rfl rfl hi rfl ?_
        obtain ⟨h1, e_h1, hF⟩ := hw_I hF
        rw [← e_h1]
        refine g_iload_n (q := 55) rfl rfl rfl ?_
        refine g_aload_n (q := 56) rfl rfl rfl ?_
        refine g_getR (q := 59) rfl (fun _ => rfl) rfl ?_
        refine g_iload (q := 61) rfl rfl rfl ?_
        obtain ⟨hi, hF⟩ := ck_I hF
        refine g_iaload (q := 62) rfl rfl rfl hi rfl ?_
        refine g_iadd (q := 63) rfl rfl ?_
        refine g_istore (q := 65) rfl rfl ?_
        refine g_aload_n (q := 66) rfl rfl rfl ?_
        refine g_iload_n (q := 67) rfl rfl rfl ?_
        refine g_iconst (q := 68) rfl rfl ?_
        refine g_iadd (q := 69) rfl rfl ?_
        refine g_iload_n (q := 70) rfl rfl rfl ?_
        refine g_iconst (q := 71) rfl rfl ?_
        refine g_iload (q := 73) rfl rfl rfl ?_
        refine g_ishl (q := 74) rfl rfl ?_
        refine g_ior (q := 75) rfl rfl ?_
        refine g_iload (q := 77) rfl rfl rfl ?_
        refine g_iload (q := 79) rfl rfl rfl ?_
        refine g_iload (q := 81) rfl rfl rfl ?_
        refine g_max (q := 84) rfl rfl rfl ?_
        obtain ⟨v2, e_v2, hF⟩ := iw_I hF
        rw [← e_v2]
        refine g_aload_n (q := 85) rfl rfl rfl ?_
        refine g_getR (q := 88) rfl (fun _ => rfl) rfl ?_
        refine g_iload (q := 90) rfl rfl rfl ?_
        obtain ⟨hi, hF⟩ := ck_I hF
        refine g_iaload (q := 91) rfl rfl rfl hi rfl ?_
        refine g_iadd (q := 92) rfl rfl ?_
        obtain ⟨h3, hC, hF⟩ := bd_I hF
        refine g_cv5 (q := 95) rfl rfl (fun _ => rfl) rfl (hrec hC) hdr rfl ?_
        refine g_iinc (q := 98) rfl rfl rfl ?_
        refine g_goto rfl ?_
        refine go_sub (lo' := mm_lf [(0, .inr (.inl (some 40))), (1, .inl x1), (2, .inl x2), (3, .inl x3), (4, .inl x4), (5, .inl (x5 + I 1))]) (mm_subc rfl (mm_subc rfl (mm_subc rfl (mm_subc rfl (mm_subc rfl (mm_subc rfl mm_sub0)))))) ?_
        exact ih _ _ _ hF KR KX
theorem A_S_tryFlows : ∀ {n : Nat} {x1 : Int32} {x2 : Int32} {x3 : Int32} {x4 : Int32} {h : MH} {h' : MH}, F_S_tryFlows n x1 x2 x3 x4 h = some h' → Ex (n + 4) 53 [.inr (.inl (some 40)), .inl x1, .inl x2, .inl x3, .inl x4] h (none, h')
  | 0, _, _, _, _, _, _, hF => by cases hF
  | n + 1, x1, x2, x3, x4, h, h', hF => by
    have hrec : ∀ {x1 : Int32} {x2 : Int32} {x3 : Int32} {x4 : Int32} {h : MH} {h' : MH}, F_S_tryFlows n x1 x2 x3 x4 h = some h' → Ex (n + 4) 53 [.inr (.inl (some 40)), .inl x1, .inl x2, .inl x3, .inl x4] h (none, h') := fun q => A_S_tryFlows q
    have hdr : Nat.ble (n + 4) (n + 4) = true := Nat.ble_eq_true_of_le (Nat.le_refl _)
    have hd0 : 4 ≤ n + 4 := by omega
    unfold F_S_tryFlows at hF
    rw [show n + 1 + 4 = (n + 4) + 1 by omega]
    refine ex_of rfl rfl ?_
    refine g_iload (q := 2) rfl rfl rfl ?_
    refine g_aload_n (q := 3) rfl rfl rfl ?_
    refine g_getI (q := 6) rfl (fun _ => rfl) rfl ?_
    by_cases c9 : x4 < (h.1 40 8)
    · rw [if_pos c9] at hF
      refine g_icmpT rfl (decide_eq_true c9) ?_
      refine g_iload_n (q := 11) rfl rfl rfl ?_
      refine g_aload_n (q := 12) rfl rfl rfl ?_
      refine g_getI (q := 15) rfl (fun _ => rfl) rfl ?_
      by_cases c8 : x1 < (h.1 40 6)
      · rw [if_pos c8] at hF
        refine g_icmpT rfl (decide_eq_true c8) ?_
        refine g_iconst (q := 26) rfl rfl ?_
        refine g_istore (q := 28) rfl rfl ?_
        refine go_sub (lo' := mm_lf [(0, .inr (.inl (some 40))), (1, .inl x1), (2, .inl x2), (3, .inl x3), (4, .inl x4), (5, .inl (I 0))]) (mm_subc rfl (mm_subc rfl (mm_subc rfl (mm_subc rfl (mm_subc rfl (mm_subc rfl mm_sub0)))))) ?_
        obtain ⟨h6, hC, hF⟩ := bd_I hF
        refine A_L_S_tryFlows_28 (F_S_tryFlows n) hrec hdr hd0 5000 _ _ _ hC trivial ?_
        intro _ e2
        cases e2
        injection hF with hF
        subst hF
        exact g_vret rfl
      · rw [if_neg c8] at hF
        refine g_icmpF (q := 18) rfl (decide_eq_false c8) rfl ?_
        refine g_aload_n (q := 19) rfl rfl rfl ?_
        refine g_iload (q := 21) rfl rfl rfl ?_
        obtain ⟨h7, hC, hF⟩ := bd_I hF
        refine g_cv2 (q := 24) rfl rfl (fun _ => rfl) rfl (A_S_keepTried hC) (Nat.ble_eq_true_of_le (Nat.le_trans (Nat.le_of_ble_eq_true (rfl : Nat.ble 1 4 = true)) hd0)) rfl ?_
        injection hF with hF
        subst hF
        exact g_vret rfl
    · rw [if_neg c9] at hF
      refine g_icmpF (q := 9) rfl (decide_eq_false c9) rfl ?_
      injection hF with hF
      subst hF
      exact g_vret rfl
