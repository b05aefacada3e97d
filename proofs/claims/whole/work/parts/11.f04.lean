-- decompiled by wip/whole/dec.py: what a method does (F_), and that the mini machine does it (A_)
/-- BothCorners.waits(IIII)I -/
def F_C_waits (x1 : Int32) (x2 : Int32) (x3 : Int32) (x4 : Int32) (h : MH) : Option (Int32 × MH) := bd (F_C_noBed x1 h) (fun (r2, h1) => if ¬ r2 = 0 then bd (F_C_refuse (I (-1)) h1) (fun (r4, h3) => some (r4, h3)) else bd (F_C_noWay x2 h1) (fun (r6, h5) => if ¬ r6 = 0 then bd (F_C_refuse (I (-1)) h5) (fun (r8, h7) => some (r8, h7)) else bd (F_C_noTwoPeople x3 x4 h5) (fun (r10, h9) => if r10 = 0 then bd (F_H_timeBy x1 x2 x3 h9) (fun (r12, h11) => bd (F_H_timeTogether x1 x2 x3 x4 h11) (fun (r14, h13) => iw (if 0 ≤ (r12 - r14) then r12 - r14 else I (-9)) (fun v15 => some (v15, h13)))) else bd (F_C_refuse (I (-1)) h9) (fun (r19, h18) => some (r19, h18)))))
theorem A_C_waits {x1 : Int32} {x2 : Int32} {x3 : Int32} {x4 : Int32} {h h' : MH} {v : Int32} (hF : F_C_waits x1 x2 x3 x4 h = some (v, h')) : Ex 7 78 [.inr (.inl (some 0)), .inl x1, .inl x2, .inl x3, .inl x4] h (some (.inl v), h') := by
  unfold F_C_waits at hF
  refine ex_of (d := 6) rfl rfl ?_
  refine g_aload_n (q := 1) rfl rfl rfl ?_
  refine g_iload_n (q := 2) rfl rfl rfl ?_
  obtain ⟨⟨r2, h1⟩, hC, hF⟩ := bd_I hF
  dsimp only at hF
  refine g_ci2 (q := 5) rfl rfl (fun _ => rfl) rfl (A_C_noBed hC) (by decide +kernel) rfl ?_
  by_cases c22 : ¬ r2 = 0
  · rw [if_pos c22] at hF
    refine g_ifT rfl (decide_eq_true c22) ?_
    refine g_aload_n (q := 27) rfl rfl rfl ?_
    refine g_iconst (q := 28) rfl rfl ?_
    obtain ⟨⟨r4, h3⟩, hC, hF⟩ := bd_I hF
    dsimp only at hF
    refine g_ci2 (q := 31) rfl rfl (fun _ => rfl) rfl (A_C_refuse hC) (by decide +kernel) rfl ?_
    injection hF with hF
    injection hF with hv hh
    subst hv
    subst hh
    exact g_iret rfl
  · rw [if_neg c22] at hF
    refine g_ifF (q := 8) rfl (decide_eq_false c22) rfl ?_
    refine g_aload_n (q := 9) rfl rfl rfl ?_
    refine g_iload_n (q := 10) rfl rfl rfl ?_
    obtain ⟨⟨r6, h5⟩, hC, hF⟩ := bd_I hF
    dsimp only at hF
    refine g_ci2 (q := 13) rfl rfl (fun _ => rfl) rfl (A_C_noWay hC) (by decide +kernel) rfl ?_
    by_cases c21 : ¬ r6 = 0
    · rw [if_pos c21] at hF
      refine g_ifT rfl (decide_eq_true c21) ?_
      refine g_aload_n (q := 27) rfl rfl rfl ?_
      refine g_iconst (q := 28) rfl rfl ?_
      obtain ⟨⟨r8, h7⟩, hC, hF⟩ := bd_I hF
      dsimp only at hF
      refine g_ci2 (q := 31) rfl rfl (fun _ => rfl) rfl (A_C_refuse hC) (by decide +kernel) rfl ?_
      injection hF with hF
      injection hF with hv hh
      subst hv
      subst hh
      exact g_iret rfl
    · rw [if_neg c21] at hF
      refine g_ifF (q := 16) rfl (decide_eq_false c21) rfl ?_
      refine g_aload_n (q := 17) rfl rfl rfl ?_
      refine g_iload_n (q := 18) rfl rfl rfl ?_
      refine g_iload (q := 20) rfl rfl rfl ?_
      obtain ⟨⟨r10, h9⟩, hC, hF⟩ := bd_I hF
      dsimp only at hF
      refine g_ci3 (q := 23) rfl rfl (fun _ => rfl) rfl (A_C_noTwoPeople hC) (by decide +kernel) rfl ?_
      by_cases c20 : r10 = 0
      · rw [if_pos c20] at hF
        refine g_ifT rfl (decide_eq_true c20) ?_
        refine g_aload_n (q := 33) rfl rfl rfl ?_
        refine g_getR (q := 36) rfl (fun _ => rfl) rfl ?_
        refine g_iload_n (q := 37) rfl rfl rfl ?_
        refine g_iload_n (q := 38) rfl rfl rfl ?_
        refine g_iload_n (q := 39) rfl rfl rfl ?_
        obtain ⟨⟨r12, h11⟩, hC, hF⟩ := bd_I hF
        dsimp only at hF
        refine g_ci4 (q := 42) rfl rfl (fun _ => rfl) rfl (A_H_timeBy hC) (by decide +kernel) rfl ?_
        refine g_aload_n (q := 43) rfl rfl rfl ?_
        refine g_getR (q := 46) rfl (fun _ => rfl) rfl ?_
        refine g_iload_n (q := 47) rfl rfl rfl ?_
        refine g_iload_n (q := 48) rfl rfl rfl ?_
        refine g_iload_n (q := 49) rfl rfl rfl ?_
        refine g_iload (q := 51) rfl rfl rfl ?_
        obtain ⟨⟨r14, h13⟩, hC, hF⟩ := bd_I hF
        dsimp only at hF
        refine g_ci5 (q := 54) rfl rfl (fun _ => rfl) rfl (A_H_timeTogether hC) (by decide +kernel) rfl ?_
        refine g_isub (q := 55) rfl rfl ?_
        refine g_istore (q := 57) rfl rfl ?_
        refine g_iload (q := 59) rfl rfl rfl ?_
        obtain ⟨v15, e_v15, hF⟩ := iw_I hF
        suffices K16 : Go 6 78 69 (mm_lf []) [.inl v15] h13 (some (.inl v), h') by
          clear hF
          by_cases c17 : 0 ≤ (r12 - r14)
          · simp only [if_pos c17] at e_v15
            subst e_v15
            refine g_ifT rfl (decide_eq_true c17) ?_
            refine g_iload (q := 69) rfl rfl rfl ?_
            exact go_sub mm_sub0 K16
          · simp only [if_neg c17] at e_v15
            subst e_v15
            refine g_ifF (q := 62) rfl (decide_eq_false c17) rfl ?_
            refine g_bipush (q := 64) rfl (by decide +kernel) rfl ?_
            refine g_goto rfl ?_
            exact go_sub mm_sub0 K16
        clear e_v15
        injection hF with hF
        injection hF with hv hh
        subst hv
        subst hh
        exact g_iret rfl
      · rw [if_neg c20] at hF
        refine g_ifF (q := 26) rfl (decide_eq_false c20) rfl ?_
        refine g_aload_n (q := 27) rfl rfl rfl ?_
        refine g_iconst (q := 28) rfl rfl ?_
        obtain ⟨⟨r19, h18⟩, hC, hF⟩ := bd_I hF
        dsimp only at hF
        refine g_ci2 (q := 31) rfl rfl (fun _ => rfl) rfl (A_C_refuse hC) (by decide +kernel) rfl ?_
        injection hF with hF
        injection hF with hv hh
        subst hv
        subst hh
        exact g_iret rfl
/-- BothCorners.tellsApart(II)I -/
def F_C_tellsApart (x0 : Int32) (x1 : Int32) (h : MH) : Option (Int32 × MH) := bd (F_C_lengthOf x1 h) (fun (r2, h1) => iw (if 0 ≤ (x0 - r2) then x0 - r2 else 0 - (x0 - r2)) (fun v3 => bd (F_C_breadthOf x1 h1) (fun (r5, h4) => iw (if 0 ≤ (x0 - r5) then x0 - r5 else 0 - (x0 - r5)) (fun v6 => iw (if 0 ≤ (v3 - v6) then v3 - v6 else 0 - (v3 - v6)) (fun v7 => some (v7, h4))))))
theorem A_C_tellsApart {x0 : Int32} {x1 : Int32} {h h' : MH} {v : Int32} (hF : F_C_tellsApart x0 x1 h = some (v, h')) : Ex 2 150 [.inl x0, .inl x1] h (some (.inl v), h') := by
  unfold F_C_tellsApart at hF
  refine ex_of (d := 1) rfl rfl ?_
  refine g_iload_n (q := 1) rfl rfl rfl ?_
  refine g_iload_n (q := 2) rfl rfl rfl ?_
  obtain ⟨⟨r2, h1⟩, hC, hF⟩ := bd_I hF
  dsimp only at hF
  refine g_ci1 (q := 5) rfl rfl (fun _ => rfl) rfl (A_C_lengthOf hC) (by decide +kernel) rfl ?_
  refine g_isub (q := 6) rfl rfl ?_
  refine g_abs (q := 9) rfl rfl rfl ?_
  obtain ⟨v3, e_v3, hF⟩ := iw_I hF
  rw [← e_v3]
  refine g_iload_n (q := 10) rfl rfl rfl ?_
  refine g_iload_n (q := 11) rfl rfl rfl ?_
  obtain ⟨⟨r5, h4⟩, hC, hF⟩ := bd_I hF
  dsimp only at hF
  refine g_ci1 (q := 14) rfl rfl (fun _ => rfl) rfl (A_C_breadthOf hC) (by decide +kernel) rfl ?_
  refine g_isub (q := 15) rfl rfl ?_
  refine g_abs (q := 18) rfl rfl rfl ?_
  obtain ⟨v6, e_v6, hF⟩ := iw_I hF
  rw [← e_v6]
  refine g_isub (q := 19) rfl rfl ?_
  refine g_abs (q := 22) rfl rfl rfl ?_
  obtain ⟨v7, e_v7, hF⟩ := iw_I hF
  rw [← e_v7]
  injection hF with hF
  injection hF with hv hh
  subst hv
  subst hh
  exact g_iret rfl
/-- BothCorners.crosswise(II)I -/
def F_C_crosswise (x1 : Int32) (x2 : Int32) (h : MH) : Option (Int32 × MH) := bd (F_C_noBed x1 h) (fun (r2, h1) => if r2 = 0 then bd (F_C_otherThan x2 (I 1) h1) (fun (r4, h3) => if r4 = 0 then ck (mm_in x1 6) (ck (mm_in x1 6) (if ¬ x2 = 0 then bd (F_C_breadthOf (h3.1 9 (Int32.toNatClampNeg x1)) h3) (fun (r6, h5) => bd (F_C_tellsApart r6 (h3.1 10 (Int32.toNatClampNeg x1)) h5) (fun (r8, h7) => bd (F_C_lengthOf (h3.1 9 (Int32.toNatClampNeg x1)) h7) (fun (r10, h9) => bd (F_C_tellsApart r10 (h3.1 10 (Int32.toNatClampNeg x1)) h9) (fun (r12, h11) => iw (if r8 ≤ r12 then I 0 else I 1) (fun v13 => some (v13, h11)))))) else bd (F_C_apartAlong (h3.1 9 (Int32.toNatClampNeg x1)) (h3.1 10 (Int32.toNatClampNeg x1)) h3) (fun (r17, h16) => bd (F_C_apartAcross (h3.1 9 (Int32.toNatClampNeg x1)) (h3.1 10 (Int32.toNatClampNeg x1)) h16) (fun (r19, h18) => some (r17 - r19, h18))))) else bd (F_C_refuse (I (-2)) h3) (fun (r22, h21) => some ((I 1000000000) - r22, h21))) else bd (F_C_refuse (I (-1)) h1) (fun (r25, h24) => some ((I 1000000000) - r25, h24)))
theorem A_C_crosswise {x1 : Int32} {x2 : Int32} {h h' : MH} {v : Int32} (hF : F_C_crosswise x1 x2 h = some (v, h')) : Ex 3 79 [.inr (.inl (some 0)), .inl x1, .inl x2] h (some (.inl v), h') := by
  unfold F_C_crosswise at hF
  refine ex_of (d := 2) rfl rfl ?_
  refine g_aload_n (q := 1) rfl rfl rfl ?_
  refine g_iload_n (q := 2) rfl rfl rfl ?_
  obtain ⟨⟨r2, h1⟩, hC, hF⟩ := bd_I hF
  dsimp only at hF
  refine g_ci2 (q := 5) rfl rfl (fun _ => rfl) rfl (A_C_noBed hC) (by decide +kernel) rfl ?_
  by_cases c26 : r2 = 0
  · rw [if_pos c26] at hF
    refine g_ifT rfl (decide_eq_true c26) ?_
    refine g_iload_n (q := 18) rfl rfl rfl ?_
    refine g_iconst (q := 19) rfl rfl ?_
    obtain ⟨⟨r4, h3⟩, hC, hF⟩ := bd_I hF
    dsimp only at hF
    refine g_ci2 (q := 22) rfl rfl (fun _ => rfl) rfl (A_C_otherThan hC) (by decide +kernel) rfl ?_
    by_cases c23 : r4 = 0
    · rw [if_pos c23] at hF
      refine g_ifT rfl (decide_eq_true c23) ?_
      refine g_aload_n (q := 36) rfl rfl rfl ?_
      refine g_getR (q := 39) rfl (fun _ => rfl) rfl ?_
      refine g_getR (q := 42) rfl (fun _ => rfl) rfl ?_
      refine g_iload_n (q := 43) rfl rfl rfl ?_
      obtain ⟨hi, hF⟩ := ck_I hF
      refine g_iaload (q := 44) rfl rfl rfl hi rfl ?_
      refine g_istore_n (q := 45) rfl rfl ?_
      refine g_aload_n (q := 46) rfl rfl rfl ?_
      refine g_getR (q := 49) rfl (fun _ => rfl) rfl ?_
      refine g_getR (q := 52) rfl (fun _ => rfl) rfl ?_
      refine g_iload_n (q := 53) rfl rfl rfl ?_
      obtain ⟨hi, hF⟩ := ck_I hF
      refine g_iaload (q := 54) rfl rfl rfl hi rfl ?_
      refine g_istore (q := 56) rfl rfl ?_
      refine g_iload_n (q := 57) rfl rfl rfl ?_
      by_cases c20 : ¬ x2 = 0
      · rw [if_pos c20] at hF
        refine g_ifT rfl (decide_eq_true c20) ?_
        refine g_iload_n (q := 75) rfl rfl rfl ?_
        obtain ⟨⟨r6, h5⟩, hC, hF⟩ := bd_I hF
        dsimp only at hF
        refine g_ci1 (q := 78) rfl rfl (fun _ => rfl) rfl (A_C_breadthOf hC) (by decide +kernel) rfl ?_
        refine g_iload (q := 80) rfl rfl rfl ?_
        obtain ⟨⟨r8, h7⟩, hC, hF⟩ := bd_I hF
        dsimp only at hF
        refine g_ci2 (q := 83) rfl rfl (fun _ => rfl) rfl (A_C_tellsApart hC) (by decide +kernel) rfl ?_
        refine g_iload_n (q := 84) rfl rfl rfl ?_
        obtain ⟨⟨r10, h9⟩, hC, hF⟩ := bd_I hF
        dsimp only at hF
        refine g_ci1 (q := 87) rfl rfl (fun _ => rfl) rfl (A_C_lengthOf hC) (by decide +kernel) rfl ?_
        refine g_iload (q := 89) rfl rfl rfl ?_
        obtain ⟨⟨r12, h11⟩, hC, hF⟩ := bd_I hF
        dsimp only at hF
        refine g_ci2 (q := 92) rfl rfl (fun _ => rfl) rfl (A_C_tellsApart hC) (by decide +kernel) rfl ?_
        obtain ⟨v13, e_v13, hF⟩ := iw_I hF
        suffices K14 : Go 2 79 100 (mm_lf []) [.inl v13] h11 (some (.inl v), h') by
          clear hF
          by_cases c15 : r8 ≤ r12
          · simp only [if_pos c15] at e_v13
            subst e_v13
            refine g_icmpT rfl (decide_eq_true c15) ?_
            refine g_iconst (q := 100) rfl rfl ?_
            exact go_sub mm_sub0 K14
          · simp only [if_neg c15] at e_v13
            subst e_v13
            refine g_icmpF (q := 95) rfl (decide_eq_false c15) rfl ?_
            refine g_iconst (q := 96) rfl rfl ?_
            refine g_goto rfl ?_
            exact go_sub mm_sub0 K14
        clear e_v13
        injection hF with hF
        injection hF with hv hh
        subst hv
        subst hh
        exact g_iret rfl
      · rw [if_neg c20] at hF
        refine g_ifF (q := 60) rfl (decide_eq_false c20) rfl ?_
        refine g_iload_n (q := 61) rfl rfl rfl ?_
        refine g_iload (q := 63) rfl rfl rfl ?_
        obtain ⟨⟨r17, h16⟩, hC, hF⟩ := bd_I hF
        dsimp only at hF
        refine g_ci2 (q := 66) rfl rfl (fun _ => rfl) rfl (A_C_apartAlong hC) (by decide +kernel) rfl ?_
        refine g_iload_n (q := 67) rfl rfl rfl ?_
        refine g_iload (q := 69) rfl rfl rfl ?_
        obtain ⟨⟨r19, h18⟩, hC, hF⟩ := bd_I hF
        dsimp only at hF
        refine g_ci2 (q := 72) rfl rfl (fun _ => rfl) rfl (A_C_apartAcross hC) (by decide +kernel) rfl ?_
        refine g_isub (q := 73) rfl rfl ?_
        injection hF with hF
        injection hF with hv hh
        subst hv
        subst hh
        exact g_iret rfl
    · rw [if_neg c23] at hF
      refine g_ifF (q := 25) rfl (decide_eq_false c23) rfl ?_
      refine g_ldc (q := 27) rfl rfl ?_
      refine g_aload_n (q := 28) rfl rfl rfl ?_
      refine g_bipush (q := 30) rfl (by decide +kernel) rfl ?_
      obtain ⟨⟨r22, h21⟩, hC, hF⟩ := bd_I hF
      dsimp only at hF
      refine g_ci2 (q := 33) rfl rfl (fun _ => rfl) rfl (A_C_refuse hC) (by decide +kernel) rfl ?_
      refine g_isub (q := 34) rfl rfl ?_
      injection hF with hF
      injection hF with hv hh
      subst hv
      subst hh
      exact g_iret rfl
  · rw [if_neg c26] at hF
    refine g_ifF (q := 8) rfl (decide_eq_false c26) rfl ?_
    refine g_ldc (q := 10) rfl rfl ?_
    refine g_aload_n (q := 11) rfl rfl rfl ?_
    refine g_iconst (q := 12) rfl rfl ?_
    obtain ⟨⟨r25, h24⟩, hC, hF⟩ := bd_I hF
    dsimp only at hF
    refine g_ci2 (q := 15) rfl rfl (fun _ => rfl) rfl (A_C_refuse hC) (by decide +kernel) rfl ?_
    refine g_isub (q := 16) rfl rfl ?_
    injection hF with hF
    injection hF with hv hh
    subst hv
    subst hh
    exact g_iret rfl
/-- BothCorners$Search.begin(I)V -/
def F_S_begin (x1 : Int32) (h : MH) : Option (MH) := iw (if x1 < (I 6) then x1 else I 6) (fun v1 => hw (mm_hset h.1 40 6 v1, h.2) (fun h2 => hw (mm_hset h2.1 40 8 (I 1000000000), h2.2) (fun h3 => some h3)))
theorem A_S_begin {x1 : Int32} {h h' : MH} (hF : F_S_begin x1 h = some h') : Ex 1 50 [.inr (.inl (some 40)), .inl x1] h (none, h') := by
  unfold F_S_begin at hF
  refine ex_of (d := 0) rfl rfl ?_
  refine g_aload_n (q := 1) rfl rfl rfl ?_
  refine g_bipush (q := 3) rfl (by decide +kernel) rfl ?_
  refine g_iload_n (q := 4) rfl rfl rfl ?_
  refine g_min (q := 7) rfl rfl rfl ?_
  obtain ⟨v1, e_v1, hF⟩ := iw_I hF
  rw [← e_v1]
  refine g_putI (q := 10) rfl (fun _ => rfl) rfl ?_
  obtain ⟨h2, e_h2, hF⟩ := hw_I hF
  rw [← e_h2]
  refine g_aload_n (q := 11) rfl rfl rfl ?_
  refine g_ldc (q := 13) rfl rfl ?_
  refine g_putI (q := 16) rfl (fun _ => rfl) rfl ?_
  obtain ⟨h3, e_h3, hF⟩ := hw_I hF
  rw [← e_h3]
  injection hF with hF
  subst hF
  exact g_vret rfl
/-- BothCorners$Search.keepTried(I)V -/
def F_S_keepTried (x1 : Int32) (h : MH) : Option (MH) := hw (mm_hset h.1 40 8 x1, h.2) (fun h1 => hw (mm_hcpy h1.1 51 52 (Int32.toNatClampNeg (I 0)) (Int32.toNatClampNeg (I 0)) (Int32.toNatClampNeg (I 6)), h1.2) (fun h2 => some h2))
theorem A_S_keepTried {x1 : Int32} {h h' : MH} (hF : F_S_keepTried x1 h = some h') : Ex 1 51 [.inr (.inl (some 40)), .inl x1] h (none, h') := by
  unfold F_S_keepTried at hF
  refine ex_of (d := 0) rfl rfl ?_
  refine g_aload_n (q := 1) rfl rfl rfl ?_
  refine g_iload_n (q := 2) rfl rfl rfl ?_
  refine g_putI (q := 5) rfl (fun _ => rfl) rfl ?_
  obtain ⟨h1, e_h1, hF⟩ := hw_I hF
  rw [← e_h1]
  refine g_aload_n (q := 6) rfl rfl rfl ?_
  refine g_getR (q := 9) rfl (fun _ => rfl) rfl ?_
  refine g_iconst (q := 10) rfl rfl ?_
  refine g_aload_n (q := 11) rfl rfl rfl ?_
  refine g_getR (q := 14) rfl (fun _ => rfl) rfl ?_
  refine g_iconst (q := 15) rfl rfl ?_
  refine g_bipush (q := 17) rfl (by decide +kernel) rfl ?_
  refine g_copy (q := 20) rfl rfl rfl (by decide +kernel) rfl ?_
  obtain ⟨h2, e_h2, hF⟩ := hw_I hF
  rw [← e_h2]
  injection hF with hF
  subst hF
  exact g_vret rfl
def L_S_tryOrders_26 (rec : Int32 → Int32 → Int32 → MH → Option (MH)) (x1 : Int32) (x2 : Int32) (x3 : Int32) : Nat → Int32 → MH → Option (MH)
  | 0, _, _ => none
  | n + 1, x4, h => if (h.1 40 6) ≤ x4 then some (h) else if ¬ ((x2 >>> (x4 &&& 31)) &&& (I 1)) = 0 then L_S_tryOrders_26 rec x1 x2 x3 n (x4 + I 1) h else ck (mm_in x1 6) (hw (mm_hset h.1 51 (Int32.toNatClampNeg x1) x4, h.2) (fun h1 => ck (mm_in x1 6) (ck (mm_in x4 6) (bd (rec (x1 + (I 1)) (x2 ||| ((I 1) <<< (x4 &&& 31))) (x3 + (h1.1 (42 + Int32.toNatClampNeg x1) (Int32.toNatClampNeg x4))) h1) (fun h3 => L_S_tryOrders_26 rec x1 x2 x3 n (x4 + I 1) h3)))))
def F_S_tryOrders : Nat → Int32 → Int32 → Int32 → MH → Option (MH)
  | 0, _, _, _, _ => none
  | n + 1, x1, x2, x3, h => if x3 < (h.1 40 8) then if x1 < (h.1 40 6) then bd (L_S_tryOrders_26 (F_S_tryOrders n) x1 x2 x3 5000 (I 0) h) (fun h6 => some h6) else bd (F_S_keepTried x3 h) (fun h7 => some h7) else some h
theorem A_L_S_tryOrders_26 {d dr : Nat} (rec : Int32 → Int32 → Int32 → MH → Option (MH)) (hrec : ∀ {x1 : Int32} {x2 : Int32} {x3 : Int32} {h : MH} {h' : MH}, rec x1 x2 x3 h = some h' → Ex dr 52 [.inr (.inl (some 40)), .inl x1, .inl x2, .inl x3] h (none, h')) (hdr : Nat.ble dr d = true) (hd0 : 4 ≤ d) {x1 : Int32} {x2 : Int32} {x3 : Int32} {r : MRs} : ∀ (n : Nat) (x4 : Int32) (h : MH) (x : MH), L_S_tryOrders_26 rec x1 x2 x3 n x4 h = some x → (True) → (∀ (h' : MH), x = (h') → Go d 52 82 (mm_lf []) [] h' r) → Go d 52 26 (mm_lf [(0, .inr (.inl (some 40))), (1, .inl x1), (2, .inl x2), (3, .inl x3), (4, .inl x4)]) [] h r
  | 0, _, _, _, hF, _, _ => by cases hF
  | n + 1, x4, h, x, hF, KR, KX => by
    have ih := fun a4 => A_L_S_tryOrders_26 rec hrec hdr hd0 (x1 := x1) (x2 := x2) (x3 := x3) (r := r) n a4 
    unfold L_S_tryOrders_26 at hF
    refine g_iload (q := 28) rfl rfl rfl ?_
    refine g_aload_n (q := 29) rfl rfl rfl ?_
    refine g_getI (q := 32) rfl (fun _ => rfl) rfl ?_
    by_cases c5 : (h.1 40 6) ≤ x4
    · rw [if_pos c5] at hF
      refine g_icmpT rfl (decide_eq_true c5) ?_
      injection hF with hF
      subst hF
      exact go_sub mm_sub0 (KX  _ rfl)
    · rw [if_neg c5] at hF
      refine g_icmpF (q := 35) rfl (decide_eq_false c5) rfl ?_
      refine g_iload_n (q := 36) rfl rfl rfl ?_
      refine g_iload (q := 38) rfl rfl rfl ?_
      refine g_ishr (q := 39) rfl rfl ?_
      refine g_iconst (q := 40) rfl rfl ?_
      refine g_iand (q := 41) rfl rfl ?_
      by_cases c4 : ¬ ((x2 >>> (x4 &&& 31)) &&& (I 1)) = 0
      · rw [if_pos c4] at hF
        refine g_ifT rfl (decide_eq_true c4) ?_
        refine g_iinc (q := 79) rfl rfl rfl ?_
        refine g_goto rfl ?_
        refine go_sub (lo' := mm_lf [(0, .inr (.inl (some 40))), (1, .inl x1), (2, .inl x2), (3, .inl x3), (4, .inl (x4 + I 1))]) (mm_subc rfl (mm_subc rfl (mm_subc rfl (mm_subc rfl (mm_subc rfl mm_sub0))))) ?_
        exact ih _ _ _ hF KR KX
      · rw [if_neg c4] at hF
        refine g_ifF (q := 44) rfl (decide_eq_false c4) rfl ?_
        refine g_aload_n (q := 45) rfl rfl rfl ?_
        refine g_getR (q := 48) rfl (fun _ => rfl) rfl ?_
        refine g_iload_n (q := 49) rfl rfl rfl ?_
        refine g_iload (q := 51) rfl rfl rfl ?_
        obtain ⟨hi, hF⟩ := ck_I hF
        refine g_iastore (q := 52) rfl rfl rfl hi rfl ?_
        obtain ⟨h1, e_h1, hF⟩ := hw_I hF
        rw [← e_h1]
        refine g_aload_n (q := 53) rfl rfl rfl ?_
        refine g_iload_n (q := 54) rfl rfl rfl ?_
        refine g_iconst (q := 55) rfl rfl ?_
        refine g_iadd (q := 56) rfl rfl ?_
        refine g_iload_n (q := 57) rfl rfl rfl ?_
        refine g_iconst (q := 58) rfl rfl ?_
        refine g_iload (q := 60) rfl rfl rfl ?_
        refine g_ishl (q := 61) rfl rfl ?_
        refine g_ior (q := 62) rfl rfl ?_
        refine g_iload_n (q := 63) rfl rfl rfl ?_
        refine g_aload_n (q := 64) rfl rfl rfl ?_
        refine g_getR (q := 67) rfl (fun _ => rfl) rfl ?_
        refine g_iload_n (q := 68) rfl rfl rfl ?_
        obtain ⟨hi2, hF⟩ := ck_I hF
        refine g_aaload (q := 69) rfl rfl rfl hi2 (mm_c6r hi2) rfl ?_
        refine g_iload (q := 71) rfl rfl rfl ?_
        obtain ⟨hi, hF⟩ := ck_I hF
        refine g_iaload (q := 72) rfl (mm_c6 hi2).1 (mm_c6 hi2).2.1 hi rfl ?_
        refine g_iadd (q := 73) rfl rfl ?_
        obtain ⟨h3, hC, hF⟩ := bd_I hF
        refine g_cv4 (q := 76) rfl rfl (fun _ => rfl) rfl (hrec hC) hdr rfl ?_
        refine g_iinc (q := 79) rfl rfl rfl ?_
        refine g_goto rfl ?_
        refine go_sub (lo' := mm_lf [(0, .inr (.inl (some 40))), (1, .inl x1), (2, .inl x2), (3, .inl x3), (4, .inl (x4 + I 1))]) (mm_subc rfl (mm_subc rfl (mm_subc rfl (mm_subc rfl (mm_subc rfl mm_sub0))))) ?_
        exact ih _ _ _ hF KR KX
theorem A_S_tryOrders : ∀ {n : Nat} {x1 : Int32} {x2 : Int32} {x3 : Int32} {h : MH} {h' : MH}, F_S_tryOrders n x1 x2 x3 h = some h' → Ex (n + 4) 52 [.inr (.inl (some 40)), .inl x1, .inl x2, .inl x3] h (none, h')
  | 0, _, _, _, _, _, hF => by cases hF
  | n + 1, x1, x2, x3, h, h', hF => by
    have hrec : ∀ {x1 : Int32} {x2 : Int32} {x3 : Int32} {h : MH} {h' : MH}, F_S_tryOrders n x1 x2 x3 h = some h' → Ex (n + 4) 52 [.inr (.inl (some 40)), .inl x1, .inl x2, .inl x3] h (none, h') := fun q => A_S_tryOrders q
    have hdr : Nat.ble (n + 4) (n + 4) = true := Nat.ble_eq_true_of_le (Nat.le_refl _)
    have hd0 : 4 ≤ n + 4 := by omega
    unfold F_S_tryOrders at hF
    rw [show n + 1 + 4 = (n + 4) + 1 by omega]
    refine ex_of rfl rfl ?_
    refine g_iload_n (q := 1) rfl rfl rfl ?_
    refine g_aload_n (q := 2) rfl rfl rfl ?_
    refine g_getI (q := 5) rfl (fun _ => rfl) rfl ?_
    by_cases c9 : x3 < (h.1 40 8)
    · rw [if_pos c9] at hF
      refine g_icmpT rfl (decide_eq_true c9) ?_
      refine g_iload_n (q := 10) rfl rfl rfl ?_
      refine g_aload_n (q := 11) rfl rfl rfl ?_
      refine g_getI (q := 14) rfl (fun _ => rfl) rfl ?_
      by_cases c8 : x1 < (h.1 40 6)
      · rw [if_pos c8] at hF
        refine g_icmpT rfl (decide_eq_true c8) ?_
        refine g_iconst (q := 24) rfl rfl ?_
        refine g_istore (q := 26) rfl rfl ?_
        refine go_sub (lo' := mm_lf [(0, .inr (.inl (some 40))), (1, .inl x1), (2, .inl x2), (3, .inl x3), (4, .inl (I 0))]) (mm_subc rfl (mm_subc rfl (mm_subc rfl (mm_subc rfl (mm_subc rfl mm_sub0))))) ?_
        obtain ⟨h6, hC, hF⟩ := bd_I hF
        refine A_L_S_tryOrders_26 (F_S_tryOrders n) hrec hdr hd0 5000 _ _ _ hC trivial ?_
        intro _ e2
        cases e2
        injection hF with hF
        subst hF
        exact g_vret rfl
      · rw [if_neg c8] at hF
        refine g_icmpF (q := 17) rfl (decide_eq_false c8) rfl ?_
        refine g_aload_n (q := 18) rfl rfl rfl ?_
        refine g_iload_n (q := 19) rfl rfl rfl ?_
        obtain ⟨h7, hC, hF⟩ := bd_I hF
        refine g_cv2 (q := 22) rfl rfl (fun _ => rfl) rfl (A_S_keepTried hC) (Nat.ble_eq_true_of_le (Nat.le_trans (Nat.le_of_ble_eq_true (rfl : Nat.ble 1 4 = true)) hd0)) rfl ?_
        injection hF with hF
        subst hF
        exact g_vret rfl
    · rw [if_neg c9] at hF
      refine g_icmpF (q := 8) rfl (decide_eq_false c9) rfl ?_
      injection hF with hF
      subst hF
      exact g_vret rfl
/-- BothCorners$Search.cheapestOrder(I)V -/
def F_S_cheapestOrder (x1 : Int32) (h : MH) : Option (MH) := bd (F_S_begin x1 h) (fun h1 => bd (F_S_tryOrders 12 (I 0) (I 0) (I 0) h1) (fun h2 => some h2))
theorem A_S_cheapestOrder {x1 : Int32} {h h' : MH} (hF : F_S_cheapestOrder x1 h = some h') : Ex 17 47 [.inr (.inl (some 40)), .inl x1] h (none, h') := by
  unfold F_S_cheapestOrder at hF
  refine ex_of (d := 16) rfl rfl ?_
  refine g_aload_n (q := 1) rfl rfl rfl ?_
  refine g_iload_n (q := 2) rfl rfl rfl ?_
  obtain ⟨h1, hC, hF⟩ := bd_I hF
  refine g_cv2 (q := 5) rfl rfl (fun _ => rfl) rfl (A_S_begin hC) (by decide +kernel) rfl ?_
  refine g_aload_n (q := 6) rfl rfl rfl ?_
  refine g_iconst (q := 7) rfl rfl ?_
  refine g_iconst (q := 8) rfl rfl ?_
  refine g_iconst (q := 9) rfl rfl ?_
  obtain ⟨h2, hC, hF⟩ := bd_I hF
  refine g_cv4 (q := 12) rfl rfl (fun _ => rfl) rfl (A_S_tryOrders (n := 12) hC) (by decide +kernel) rfl ?_
  injection hF with hF
  subst hF
  exact g_vret rfl
/-- BothCorners$Search.answer(I)I -/
def F_S_answer (x1 : Int32) (h : MH) : Option (Int32 × MH) := if 0 ≤ x1 then if (h.1 40 6) ≤ x1 then some (I (-9), h) else ck (mm_in x1 6) (some (h.1 52 (Int32.toNatClampNeg x1), h)) else some (h.1 40 8, h)
theorem A_S_answer {x1 : Int32} {h h' : MH} {v : Int32} (hF : F_S_answer x1 h = some (v, h')) : Ex 1 46 [.inr (.inl (some 40)), .inl x1] h (some (.inl v), h') := by
  unfold F_S_answer at hF
  refine ex_of (d := 0) rfl rfl ?_
  refine g_iload_n (q := 1) rfl rfl rfl ?_
  by_cases c2 : 0 ≤ x1
  · rw [if_pos c2] at hF
    refine g_ifT rfl (decide_eq_true c2) ?_
    refine g_iload_n (q := 10) rfl rfl rfl ?_
    refine g_aload_n (q := 11) rfl rfl rfl ?_
    refine g_getI (q := 14) rfl (fun _ => rfl) rfl ?_
    by_cases c1 : (h.1 40 6) ≤ x1
    · rw [if_pos c1] at hF
      refine g_icmpT rfl (decide_eq_true c1) ?_
      refine g_bipush (q := 28) rfl (by decide +kernel) rfl ?_
      injection hF with hF
      injection hF with hv hh
      subst hv
      subst hh
      exact g_iret rfl
    · rw [if_neg c1] at hF
      refine g_icmpF (q := 17) rfl (decide_eq_false c1) rfl ?_
      refine g_aload_n (q := 18) rfl rfl rfl ?_
      refine g_getR (q := 21) rfl (fun _ => rfl) rfl ?_
      refine g_iload_n (q := 22) rfl rfl rfl ?_
      obtain ⟨hi, hF⟩ := ck_I hF
      refine g_iaload (q := 23) rfl rfl rfl hi rfl ?_
      refine g_goto rfl ?_
      injection hF with hF
      injection hF with hv hh
      subst hv
      subst hh
      exact g_iret rfl
  · rw [if_neg c2] at hF
    refine g_ifF (q := 4) rfl (decide_eq_false c2) rfl ?_
    refine g_aload_n (q := 5) rfl rfl rfl ?_
    refine g_getI (q := 8) rfl (fun _ => rfl) rfl ?_
    injection hF with hF
    injection hF with hv hh
    subst hv
    subst hh
    exact g_iret rfl
def L_C_covers_42 (x1 : Int32) (x2 : Int32) (x3 : Int32) : Nat → Int32 → MH → Option (MH)
  | 0, _, _ => none
  | n + 1, x4, h => if (h.1 8 7) ≤ x4 then some (h) else ck (mm_in x3 6) (bd (F_H_foldsInto x3 x4 x1 h) (fun (r5, h4) => ck (mm_in x4 6) (hw (mm_hset h4.1 (42 + Int32.toNatClampNeg x3) (Int32.toNatClampNeg x4) r5, h4.2) (fun h6 => L_C_covers_42 x1 x2 x3 n (x4 + I 1) h6))))
def L_C_covers_28 (x1 : Int32) (x2 : Int32) : Nat → Int32 → MH → Option (MH)
  | 0, _, _ => none
  | n + 1, x3, h => if (h.1 8 7) ≤ x3 then some (h) else bd (L_C_covers_42 x1 x2 x3 5000 (I 0) h) (fun h8 => L_C_covers_28 x1 x2 n (x3 + I 1) h8)
/-- BothCorners.covers(II)I -/
def F_C_covers (x1 : Int32) (x2 : Int32) (h : MH) : Option (Int32 × MH) := bd (F_C_noWay x1 h) (fun (r2, h1) => if r2 = 0 then if (I (-1)) ≤ x2 then bd (L_C_covers_28 x1 x2 5000 (I 0) h1) (fun h10 => bd (F_S_cheapestOrder (h10.1 8 7) h10) (fun h11 => bd (F_S_answer x2 h11) (fun (r13, h12) => some (r13, h12)))) else bd (F_C_refuse (I (-4)) h1) (fun (r15, h14) => some (r15, h14)) else bd (F_C_refuse (I (-1)) h1) (fun (r18, h17) => some (r18, h17)))
theorem A_L_C_covers_42 {x1 : Int32} {x2 : Int32} {x3 : Int32} {r : MRs} : ∀ (n : Nat) (x4 : Int32) (h : MH) (x : MH), L_C_covers_42 x1 x2 x3 n x4 h = some x → (True) → (∀ (h' : MH), x = (h') → Go 17 84 83 (mm_lf [(0, .inr (.inl (some 0))), (1, .inl x1), (2, .inl x2), (3, .inl x3)]) [] h' r) → Go 17 84 42 (mm_lf [(0, .inr (.inl (some 0))), (1, .inl x1), (2, .inl x2), (3, .inl x3), (4, .inl x4)]) [] h r
  | 0, _, _, _, hF, _, _ => by cases hF
  | n + 1, x4, h, x, hF, KR, KX => by
    have ih := fun a4 => A_L_C_covers_42 (x1 := x1) (x2 := x2) (x3 := x3) (r := r) n a4 
    unfold L_C_covers_42 at hF
    refine g_iload (q := 44) rfl rfl rfl ?_
    refine g_aload_n (q := 45) rfl rfl rfl ?_
    refine g_getR (q := 48) rfl (fun _ => rfl) rfl ?_
    refine g_getI (q := 51) rfl (fun _ => rfl) rfl ?_
    by_cases c7 : (h.1 8 7) ≤ x4
    · rw [if_pos c7] at hF
      refine g_icmpT rfl (decide_eq_true c7) ?_
      injection hF with hF
      subst hF
      exact go_sub (mm_subc rfl (mm_subc rfl (mm_subc rfl (mm_subc rfl mm_sub0)))) (KX  _ rfl)
    · rw [if_neg c7] at hF
      refine g_icmpF (q := 54) rfl (decide_eq_false c7) rfl ?_
      refine g_aload_n (q := 55) rfl rfl rfl ?_
      refine g_getR (q := 58) rfl (fun _ => rfl) rfl ?_
      refine g_getR (q := 61) rfl (fun _ => rfl) rfl ?_
      refine g_iload_n (q := 62) rfl rfl rfl ?_
      obtain ⟨hi3, hF⟩ := ck_I hF
      refine g_aaload (q := 63) rfl rfl rfl hi3 (mm_c6r hi3) rfl ?_
      refine g_iload (q := 65) rfl rfl rfl ?_
      refine g_aload_n (q := 66) rfl rfl rfl ?_
      refine g_getR (q := 69) rfl (fun _ => rfl) rfl ?_
      refine g_iload_n (q := 70) rfl rfl rfl ?_
      refine g_iload (q := 72) rfl rfl rfl ?_
      refine g_iload_n (q := 73) rfl rfl rfl ?_
      obtain ⟨⟨r5, h4⟩, hC, hF⟩ := bd_I hF
      dsimp only at hF
      refine g_ci4 (q := 76) rfl rfl (fun _ => rfl) rfl (A_H_foldsInto hC) (by decide +kernel) rfl ?_
      obtain ⟨hi, hF⟩ := ck_I hF
      refine g_iastore (q := 77) rfl (mm_c6 hi3).1 (mm_c6 hi3).2.2 hi rfl ?_
      obtain ⟨h6, e_h6, hF⟩ := hw_I hF
      rw [← e_h6]
      refine g_iinc (q := 80) rfl rfl rfl ?_
      refine g_goto rfl ?_
      refine go_sub (lo' := mm_lf [(0, .inr (.inl (some 0))), (1, .inl x1), (2, .inl x2), (3, .inl x3), (4, .inl (x4 + I 1))]) (mm_subc rfl (mm_subc rfl (mm_subc rfl (mm_subc rfl (mm_subc rfl mm_sub0))))) ?_
      exact ih _ _ _ hF KR KX
theorem A_L_C_covers_28 {x1 : Int32} {x2 : Int32} {r : MRs} : ∀ (n : Nat) (x3 : Int32) (h : MH) (x : MH), L_C_covers_28 x1 x2 n x3 h = some x → (True) → (∀ (h' : MH), x = (h') → Go 17 84 89 (mm_lf [(0, .inr (.inl (some 0))), (2, .inl x2)]) [] h' r) → Go 17 84 28 (mm_lf [(0, .inr (.inl (some 0))), (1, .inl x1), (2, .inl x2), (3, .inl x3)]) [] h r
  | 0, _, _, _, hF, _, _ => by cases hF
  | n + 1, x3, h, x, hF, KR, KX => by
    have ih := fun a3 => A_L_C_covers_28 (x1 := x1) (x2 := x2) (r := r) n a3 
    unfold L_C_covers_28 at hF
    refine g_iload_n (q := 29) rfl rfl rfl ?_
    refine g_aload_n (q := 30) rfl rfl rfl ?_
    refine g_getR (q := 33) rfl (fun _ => rfl) rfl ?_
    refine g_getI (q := 36) rfl (fun _ => rfl) rfl ?_
    by_cases c9 : (h.1 8 7) ≤ x3
    · rw [if_pos c9] at hF
      refine g_icmpT rfl (decide_eq_true c9) ?_
      injection hF with hF
      subst hF
      exact go_sub (mm_subc rfl (mm_subc rfl mm_sub0)) (KX  _ rfl)
    · rw [if_neg c9] at hF
      refine g_icmpF (q := 39) rfl (decide_eq_false c9) rfl ?_
      refine g_iconst (q := 40) rfl rfl ?_
      refine g_istore (q := 42) rfl rfl ?_
      refine go_sub (lo' := mm_lf [(0, .inr (.inl (some 0))), (1, .inl x1), (2, .inl x2), (3, .inl x3), (4, .inl (I 0))]) (mm_subc rfl (mm_subc rfl (mm_subc rfl (mm_subc rfl (mm_subc rfl mm_sub0))))) ?_
      obtain ⟨h8, hC, hF⟩ := bd_I hF
      refine A_L_C_covers_42 5000 _ _ _ hC trivial ?_
      intro _ e2
      cases e2
      refine g_iinc (q := 86) rfl rfl rfl ?_
      refine g_goto rfl ?_
      refine go_sub (lo' := mm_lf [(0, .inr (.inl (some 0))), (1, .inl x1), (2, .inl x2), (3, .inl (x3 + I 1))]) (mm_subc rfl (mm_subc rfl (mm_subc rfl (mm_subc rfl mm_sub0)))) ?_
      exact ih _ _ _ hF KR KX
theorem A_C_covers {x1 : Int32} {x2 : Int32} {h h' : MH} {v : Int32} (hF : F_C_covers x1 x2 h = some (v, h')) : Ex 18 84 [.inr (.inl (some 0)), .inl x1, .inl x2] h (some (.inl v), h') := by
  unfold F_C_covers at hF
  refine ex_of (d := 17) rfl rfl ?_
  refine g_aload_n (q := 1) rfl rfl rfl ?_
  refine g_iload_n (q := 2) rfl rfl rfl ?_
  obtain ⟨⟨r2, h1⟩, hC, hF⟩ := bd_I hF
  dsimp only at hF
  refine g_ci2 (q := 5) rfl rfl (fun _ => rfl) rfl (A_C_noWay hC) (by decide +kernel) rfl ?_
  by_cases c19 : r2 = 0
  · rw [if_pos c19] at hF
    refine g_ifT rfl (decide_eq_true c19) ?_
    refine g_iload_n (q := 15) rfl rfl rfl ?_
    refine g_iconst (q := 16) rfl rfl ?_
    by_cases c16 : (I (-1)) ≤ x2
    · rw [if_pos c16] at hF
      refine g_icmpT rfl (decide_eq_true c16) ?_
      refine g_iconst (q := 27) rfl rfl ?_
      refine g_istore_n (q := 28) rfl rfl ?_
      refine go_sub (lo' := mm_lf [(0, .inr (.inl (some 0))), (1, .inl x1), (2, .inl x2), (3, .inl (I 0))]) (mm_subc rfl (mm_subc rfl (mm_subc rfl (mm_subc rfl mm_sub0)))) ?_
      obtain ⟨h10, hC, hF⟩ := bd_I hF
      refine A_L_C_covers_28 5000 _ _ _ hC trivial ?_
      intro _ e2
      cases e2
      refine g_aload_n (q := 90) rfl rfl rfl ?_
      refine g_getR (q := 93) rfl (fun _ => rfl) rfl ?_
      refine g_aload_n (q := 94) rfl rfl rfl ?_
      refine g_getR (q := 97) rfl (fun _ => rfl) rfl ?_
      refine g_getI (q := 100) rfl (fun _ => rfl) rfl ?_
      obtain ⟨h11, hC, hF⟩ := bd_I hF
      refine g_cv2 (q := 103) rfl rfl (fun _ => rfl) rfl (A_S_cheapestOrder hC) (by decide +kernel) rfl ?_
      refine g_aload_n (q := 104) rfl rfl rfl ?_
      refine g_getR (q := 107) rfl (fun _ => rfl) rfl ?_
      refine g_iload_n (q := 108) rfl rfl rfl ?_
      obtain ⟨⟨r13, h12⟩, hC, hF⟩ := bd_I hF
      dsimp only at hF
      refine g_ci2 (q := 111) rfl rfl (fun _ => rfl) rfl (A_S_answer hC) (by decide +kernel) rfl ?_
      injection hF with hF
      injection hF with hv hh
      subst hv
      subst hh
      exact g_iret rfl
    · rw [if_neg c16] at hF
      refine g_icmpF (q := 19) rfl (decide_eq_false c16) rfl ?_
      refine g_aload_n (q := 20) rfl rfl rfl ?_
      refine g_bipush (q := 22) rfl (by decide +kernel) rfl ?_
      obtain ⟨⟨r15, h14⟩, hC, hF⟩ := bd_I hF
      dsimp only at hF
      refine g_ci2 (q := 25) rfl rfl (fun _ => rfl) rfl (A_C_refuse hC) (by decide +kernel) rfl ?_
      injection hF with hF
      injection hF with hv hh
      subst hv
      subst hh
      exact g_iret rfl
  · rw [if_neg c19] at hF
    refine g_ifF (q := 8) rfl (decide_eq_false c19) rfl ?_
    refine g_aload_n (q := 9) rfl rfl rfl ?_
    refine g_iconst (q := 10) rfl rfl ?_
    obtain ⟨⟨r18, h17⟩, hC, hF⟩ := bd_I hF
    dsimp only at hF
    refine g_ci2 (q := 13) rfl rfl (fun _ => rfl) rfl (A_C_refuse hC) (by decide +kernel) rfl ?_
    injection hF with hF
    injection hF with hv hh
    subst hv
    subst hh
    exact g_iret rfl
def L_H_bestTime_6 (x1 : Int32) (x2 : Int32) : Nat → Int32 → Int32 → MH → Option (Int32 × MH)
  | 0, _, _, _ => none
  | n + 1, x3, x4, h => if (h.1 8 9) ≤ x4 then some (x3, h) else ck (mm_in x4 6) (ck (mm_in x4 6) (ck (mm_in x2 4) (ck (mm_in x2 4) (bd (F_H_timeOf x1 (h.1 13 (Int32.toNatClampNeg x4)) (h.1 14 (Int32.toNatClampNeg x4)) (h.1 11 (Int32.toNatClampNeg x2)) (h.1 12 (Int32.toNatClampNeg x2)) h) (fun (r2, h1) => iw (if r2 < x3 then r2 else x3) (fun v3 => L_H_bestTime_6 x1 x2 n v3 (x4 + I 1) h1))))))
/-- BothCorners$House.bestTime(II)I -/
def F_H_bestTime (x1 : Int32) (x2 : Int32) (h : MH) : Option (Int32 × MH) := bd (L_H_bestTime_6 x1 x2 5000 (I 1000000000) (I 0) h) (fun (y5, h6) => some (y5, h6))
theorem A_L_H_bestTime_6 {x1 : Int32} {x2 : Int32} {r : MRs} : ∀ (n : Nat) (x3 : Int32) (x4 : Int32) (h : MH) (x : Int32 × MH), L_H_bestTime_6 x1 x2 n x3 x4 h = some x → (True) → (∀ (e3 : Int32) (h' : MH), x = (e3, h') → Go 4 23 57 (mm_lf [(3, .inl e3)]) [] h' r) → Go 4 23 6 (mm_lf [(0, .inr (.inl (some 8))), (1, .inl x1), (2, .inl x2), (3, .inl x3), (4, .inl x4)]) [] h r
  | 0, _, _, _, _, hF, _, _ => by cases hF
  | n + 1, x3, x4, h, x, hF, KR, KX => by
    have ih := fun a3 a4 => A_L_H_bestTime_6 (x1 := x1) (x2 := x2) (r := r) n a3 a4 
    unfold L_H_bestTime_6 at hF
    refine g_iload (q := 8) rfl rfl rfl ?_
    refine g_aload_n (q := 9) rfl rfl rfl ?_
    refine g_getI (q := 12) rfl (fun _ => rfl) rfl ?_
    by_cases c4 : (h.1 8 9) ≤ x4
    · rw [if_pos c4] at hF
      refine g_icmpT rfl (decide_eq_true c4) ?_
      injection hF with hF
      subst hF
      exact go_sub (mm_subc rfl mm_sub0) (KX _ _ rfl)
    · rw [if_neg c4] at hF
      refine g_icmpF (q := 15) rfl (decide_eq_false c4) rfl ?_
      refine g_iload_n (q := 16) rfl rfl rfl ?_
      refine g_aload_n (q := 17) rfl rfl rfl ?_
      refine g_iload_n (q := 18) rfl rfl rfl ?_
      refine g_aload_n (q := 19) rfl rfl rfl ?_
      refine g_getR (q := 22) rfl (fun _ => rfl) rfl ?_
      refine g_iload (q := 24) rfl rfl rfl ?_
      obtain ⟨hi, hF⟩ := ck_I hF
      refine g_iaload (q := 25) rfl rfl rfl hi rfl ?_
      refine g_aload_n (q := 26) rfl rfl rfl ?_
      refine g_getR (q := 29) rfl (fun _ => rfl) rfl ?_
      refine g_iload (q := 31) rfl rfl rfl ?_
      obtain ⟨hi, hF⟩ := ck_I hF
      refine g_iaload (q := 32) rfl rfl rfl hi rfl ?_
      refine g_aload_n (q := 33) rfl rfl rfl ?_
      refine g_getR (q := 36) rfl (fun _ => rfl) rfl ?_
      refine g_iload_n (q := 37) rfl rfl rfl ?_
      obtain ⟨hi, hF⟩ := ck_I hF
      refine g_iaload (q := 38) rfl rfl rfl hi rfl ?_
      refine g_aload_n (q := 39) rfl rfl rfl ?_
      refine g_getR (q := 42) rfl (fun _ => rfl) rfl ?_
      refine g_iload_n (q := 43) rfl rfl rfl ?_
      obtain ⟨hi, hF⟩ := ck_I hF
      refine g_iaload (q := 44) rfl rfl rfl hi rfl ?_
      obtain ⟨⟨r2, h1⟩, hC, hF⟩ := bd_I hF
      dsimp only at hF
      refine g_ci6 (q := 47) rfl rfl (fun _ => rfl) rfl (A_H_timeOf hC) (by decide +kernel) rfl ?_
      refine g_min (q := 50) rfl rfl rfl ?_
      obtain ⟨v3, e_v3, hF⟩ := iw_I hF
      rw [← e_v3]
      refine g_istore_n (q := 51) rfl rfl ?_
      refine g_iinc (q := 54) rfl rfl rfl ?_
      refine g_goto rfl ?_
      refine go_sub (lo' := mm_lf [(0, .inr (.inl (some 8))), (1, .inl x1), (2, .inl x2), (3, .inl v3), (4, .inl (x4 + I 1))]) (mm_subc rfl (mm_subc rfl (mm_subc rfl (mm_subc rfl (mm_subc rfl mm_sub0))))) ?_
      exact ih _ _ _ _ hF KR KX
theorem A_H_bestTime {x1 : Int32} {x2 : Int32} {h h' : MH} {v : Int32} (hF : F_H_bestTime x1 x2 h = some (v, h')) : Ex 5 23 [.inr (.inl (some 8)), .inl x1, .inl x2] h (some (.inl v), h') := by
  unfold F_H_bestTime at hF
  refine ex_of (d := 4) rfl rfl ?_
  refine g_ldc (q := 2) rfl rfl ?_
  refine g_istore_n (q := 3) rfl rfl ?_
  refine g_iconst (q := 4) rfl rfl ?_
  refine g_istore (q := 6) rfl rfl ?_
  refine go_sub (lo' := mm_lf [(0, .inr (.inl (some 8))), (1, .inl x1), (2, .inl x2), (3, .inl (I 1000000000)), (4, .inl (I 0))]) (mm_subc rfl (mm_subc rfl (mm_subc rfl (mm_subc rfl (mm_subc rfl mm_sub0))))) ?_
  obtain ⟨⟨y5, h6⟩, hC, hF⟩ := bd_I hF
  dsimp only at hF
  refine A_L_H_bestTime_6 5000 _ _ _ _ hC trivial ?_
  intro _ _ e2
  cases e2
  refine g_iload_n (q := 58) rfl rfl rfl ?_
  injection hF with hF
  injection hF with hv hh
  subst hv
  subst hh
  exact g_iret rfl
def L_S_tryShares_25 (rec : Int32 → Int32 → MH → Option (MH)) (x1 : Int32) (x2 : Int32) : Nat → Int32 → MH → Option (MH)
  | 0, _, _ => none
  | n + 1, x3, h => if (h.1 40 7) ≤ x3 then some (h) else ck (mm_in x1 6) (hw (mm_hset h.1 51 (Int32.toNatClampNeg x1) x3, h.2) (fun h1 => ck (mm_in x3 4) (ck (mm_in x1 6) (ck (mm_in x3 6) (ck (mm_in x3 4) (hw (mm_hset h1.1 50 (Int32.toNatClampNeg x3) ((h1.1 50 (Int32.toNatClampNeg x3)) + (h1.1 (42 + Int32.toNatClampNeg x1) (Int32.toNatClampNeg x3))), h1.2) (fun h3 => ck (mm_in x3 4) (iw (if x2 < (h3.1 50 (Int32.toNatClampNeg x3)) then h3.1 50 (Int32.toNatClampNeg x3) else x2) (fun v4 => bd (rec (x1 + (I 1)) v4 h3) (fun h5 => ck (mm_in x3 4) (ck (mm_in x1 6) (ck (mm_in x3 6) (ck (mm_in x3 4) (hw (mm_hset h5.1 50 (Int32.toNatClampNeg x3) ((h5.1 50 (Int32.toNatClampNeg x3)) - (h5.1 (42 + Int32.toNatClampNeg x1) (Int32.toNatClampNeg x3))), h5.2) (fun h7 => L_S_tryShares_25 rec x1 x2 n (x3 + I 1) h7)))))))))))))))
def F_S_tryShares : Nat → Int32 → Int32 → MH → Option (MH)
  | 0, _, _, _ => none
  | n + 1, x1, x2, h => if x2 < (h.1 40 8) then if x1 < (h.1 40 6) then bd (L_S_tryShares_25 (F_S_tryShares n) x1 x2 5000 (I 0) h) (fun h9 => some h9) else bd (F_S_keepTried x2 h) (fun h10 => some h10) else some h
theorem A_L_S_tryShares_25 {d dr : Nat} (rec : Int32 → Int32 → MH → Option (MH)) (hrec : ∀ {x1 : Int32} {x2 : Int32} {h : MH} {h' : MH}, rec x1 x2 h = some h' → Ex dr 54 [.inr (.inl (some 40)), .inl x1, .inl x2] h (none, h')) (hdr : Nat.ble dr d = true) (hd0 : 4 ≤ d) {x1 : Int32} {x2 : Int32} {r : MRs} : ∀ (n : Nat) (x3 : Int32) (h : MH) (x : MH), L_S_tryShares_25 rec x1 x2 n x3 h = some x → (True) → (∀ (h' : MH), x = (h') → Go d 54 97 (mm_lf []) [] h' r) → Go d 54 25 (mm_lf [(0, .inr (.inl (some 40))), (1, .inl x1), (2, .inl x2), (3, .inl x3)]) [] h r
  | 0, _, _, _, hF, _, _ => by cases hF
  | n + 1, x3, h, x, hF, KR, KX => by
    have ih := fun a3 => A_L_S_tryShares_25 rec hrec hdr hd0 (x1 := x1) (x2 := x2) (r := r) n a3 
    unfold L_S_tryShares_25 at hF
    refine g_iload_n (q := 26) rfl rfl rfl ?_
    refine g_aload_n (q := 27) rfl rfl rfl ?_
    refine g_getI (q := 30) rfl (fun _ => rfl) rfl ?_
    by_cases c8 : (h.1 40 7) ≤ x3
    · rw [if_pos c8] at hF
      refine g_icmpT rfl (decide_eq_true c8) ?_
      injection hF with hF
      subst hF
      exact go_sub mm_sub0 (KX  _ rfl)
    · rw [if_neg c8] at hF
      refine g_icmpF (q := 33) rfl (decide_eq_false c8) rfl ?_
      refine g_aload_n (q := 34) rfl rfl rfl ?_
      refine g_getR (q := 37) rfl (fun _ => rfl) rfl ?_
      refine g_iload_n (q := 38) rfl rfl rfl ?_
      refine g_iload_n (q := 39) rfl rfl rfl ?_
      obtain ⟨hi, hF⟩ := ck_I hF
      refine g_iastore (q := 40) rfl rfl rfl hi rfl ?_
      obtain ⟨h1, e_h1, hF⟩ := hw_I hF
      rw [← e_h1]
      refine g_aload_n (q := 41) rfl rfl rfl ?_
      refine g_getR (q := 44) rfl (fun _ => rfl) rfl ?_
      refine g_iload_n (q := 45) rfl rfl rfl ?_
      refine g_dup2 (q := 46) rfl rfl rfl ?_
      obtain ⟨hi, hF⟩ := ck_I hF
      refine g_iaload (q := 47) rfl rfl rfl hi rfl ?_
      refine g_aload_n (q := 48) rfl rfl rfl ?_
      refine g_getR (q := 51) rfl (fun _ => rfl) rfl ?_
      refine g_iload_n (q := 52) rfl rfl rfl ?_
      obtain ⟨hi2, hF⟩ := ck_I hF
      refine g_aaload (q := 53) rfl rfl rfl hi2 (mm_c6r hi2) rfl ?_
      refine g_iload_n (q := 54) rfl rfl rfl ?_
      obtain ⟨hi, hF⟩ := ck_I hF
      refine g_iaload (q := 55) rfl (mm_c6 hi2).1 (mm_c6 hi2).2.1 hi rfl ?_
      refine g_iadd (q := 56) rfl rfl ?_
      obtain ⟨hi, hF⟩ := ck_I hF
      refine g_iastore (q := 57) rfl rfl rfl hi rfl ?_
      obtain ⟨h3, e_h3, hF⟩ := hw_I hF
      rw [← e_h3]
      refine g_aload_n (q := 58) rfl rfl rfl ?_
      refine g_iload_n (q := 59) rfl rfl rfl ?_
      refine g_iconst (q := 60) rfl rfl ?_
      refine g_iadd (q := 61) rfl rfl ?_
      refine g_iload_n (q := 62) rfl rfl rfl ?_
      refine g_aload_n (q := 63) rfl rfl rfl ?_
      refine g_getR (q := 66) rfl (fun _ => rfl) rfl ?_
      refine g_iload_n (q := 67) rfl rfl rfl ?_
      obtain ⟨hi, hF⟩ := ck_I hF
      refine g_iaload (q := 68) rfl rfl rfl hi rfl ?_
      refine g_max (q := 71) rfl rfl rfl ?_
      obtain ⟨v4, e_v4, hF⟩ := iw_I hF
      rw [← e_v4]
      obtain ⟨h5, hC, hF⟩ := bd_I hF
      refine g_cv3 (q := 74) rfl rfl (fun _ => rfl) rfl (hrec hC) hdr rfl ?_
      refine g_aload_n (q := 75) rfl rfl rfl ?_
      refine g_getR (q := 78) rfl (fun _ => rfl) rfl ?_
      refine g_iload_n (q := 79) rfl rfl rfl ?_
      refine g_dup2 (q := 80) rfl rfl rfl ?_
      obtain ⟨hi, hF⟩ := ck_I hF
      refine g_iaload (q := 81) rfl rfl rfl hi rfl ?_
      refine g_aload_n (q := 82) rfl rfl rfl ?_
      refine g_getR (q := 85) rfl (fun _ => rfl) rfl ?_
      refine g_iload_n (q := 86) rfl rfl rfl ?_
      obtain ⟨hi6, hF⟩ := ck_I hF
      refine g_aaload (q := 87) rfl rfl rfl hi6 (mm_c6r hi6) rfl ?_
      refine g_iload_n (q := 88) rfl rfl rfl ?_
      obtain ⟨hi, hF⟩ := ck_I hF
      refine g_iaload (q := 89) rfl (mm_c6 hi6).1 (mm_c6 hi6).2.1 hi rfl ?_
      refine g_isub (q := 90) rfl rfl ?_
      obtain ⟨hi, hF⟩ := ck_I hF
      refine g_iastore (q := 91) rfl rfl rfl hi rfl ?_
      obtain ⟨h7, e_h7, hF⟩ := hw_I hF
      rw [← e_h7]
      refine g_iinc (q := 94) rfl rfl rfl ?_
      refine g_goto rfl ?_
      refine go_sub (lo' := mm_lf [(0, .inr (.inl (some 40))), (1, .inl x1), (2, .inl x2), (3, .inl (x3 + I 1))]) (mm_subc rfl (mm_subc rfl (mm_subc rfl (mm_subc rfl mm_sub0)))) ?_
      exact ih _ _ _ hF KR KX
theorem A_S_tryShares : ∀ {n : Nat} {x1 : Int32} {x2 : Int32} {h : MH} {h' : MH}, F_S_tryShares n x1 x2 h = some h' → Ex (n + 4) 54 [.inr (.inl (some 40)), .inl x1, .inl x2] h (none, h')
  | 0, _, _, _, _, hF => by cases hF
  | n + 1, x1, x2, h, h', hF => by
    have hrec : ∀ {x1 : Int32} {x2 : Int32} {h : MH} {h' : MH}, F_S_tryShares n x1 x2 h = some h' → Ex (n + 4) 54 [.inr (.inl (some 40)), .inl x1, .inl x2] h (none, h') := fun q => A_S_tryShares q
    have hdr : Nat.ble (n + 4) (n + 4) = true := Nat.ble_eq_true_of_le (Nat.le_refl _)
    have hd0 : 4 ≤ n + 4 := by omega
    unfold F_S_tryShares at hF
    rw [show n + 1 + 4 = (n + 4) + 1 by omega]
    refine ex_of rfl rfl ?_
    refine g_iload_n (q := 1) rfl rfl rfl ?_
    refine g_aload_n (q := 2) rfl rfl rfl ?_
    refine g_getI (q := 5) rfl (fun _ => rfl) rfl ?_
    by_cases c12 : x2 < (h.1 40 8)
    · rw [if_pos c12] at hF
      refine g_icmpT rfl (decide_eq_true c12) ?_
      refine g_iload_n (q := 10) rfl rfl rfl ?_
      refine g_aload_n (q := 11) rfl rfl rfl ?_
      refine g_getI (q := 14) rfl (fun _ => rfl) rfl ?_
      by_cases c11 : x1 < (h.1 40 6)
      · rw [if_pos c11] at hF
        refine g_icmpT rfl (decide_eq_true c11) ?_
        refine g_iconst (q := 24) rfl rfl ?_
        refine g_istore_n (q := 25) rfl rfl ?_
        refine go_sub (lo' := mm_lf [(0, .inr (.inl (some 40))), (1, .inl x1), (2, .inl x2), (3, .inl (I 0))]) (mm_subc rfl (mm_subc rfl (mm_subc rfl (mm_subc rfl mm_sub0)))) ?_
        obtain ⟨h9, hC, hF⟩ := bd_I hF
        refine A_L_S_tryShares_25 (F_S_tryShares n) hrec hdr hd0 5000 _ _ _ hC trivial ?_
        intro _ e2
        cases e2
        injection hF with hF
        subst hF
        exact g_vret rfl
      · rw [if_neg c11] at hF
        refine g_icmpF (q := 17) rfl (decide_eq_false c11) rfl ?_
        refine g_aload_n (q := 18) rfl rfl rfl ?_
        refine g_iload_n (q := 19) rfl rfl rfl ?_
        obtain ⟨h10, hC, hF⟩ := bd_I hF
        refine g_cv2 (q := 22) rfl rfl (fun _ => rfl) rfl (A_S_keepTried hC) (Nat.ble_eq_true_of_le (Nat.le_trans (Nat.le_of_ble_eq_true (rfl : Nat.ble 1 4 = true)) hd0)) rfl ?_
        injection hF with hF
        subst hF
        exact g_vret rfl
    · rw [if_neg c12] at hF
      refine g_icmpF (q := 8) rfl (decide_eq_false c12) rfl ?_
      injection hF with hF
      subst hF
      exact g_vret rfl
def L_S_soonestShare_16 : Nat → Int32 → MH → Option (MH)
  | 0, _, _ => none
  | n + 1, x3, h => if (h.1 40 7) ≤ x3 then some (h) else ck (mm_in x3 4) (hw (mm_hset h.1 50 (Int32.toNatClampNeg x3) (I 0), h.2) (fun h4 => L_S_soonestShare_16 n (x3 + I 1) h4))
/-- BothCorners$Search.soonestShare(II)I -/
def F_S_soonestShare (x1 : Int32) (x2 : Int32) (h : MH) : Option (Int32 × MH) := bd (F_S_begin x1 h) (fun h1 => iw (if x2 < (I 4) then x2 else I 4) (fun v2 => hw (mm_hset h1.1 40 7 v2, h1.2) (fun h3 => bd (L_S_soonestShare_16 5000 (I 0) h3) (fun h6 => bd (F_S_tryShares 12 (I 0) (I 0) h6) (fun h7 => some (h7.1 40 8, h7))))))
theorem A_L_S_soonestShare_16 {r : MRs} : ∀ (n : Nat) (x3 : Int32) (h : MH) (x : MH), L_S_soonestShare_16 n x3 h = some x → (True) → (∀ (h' : MH), x = (h') → Go 16 49 37 (mm_lf [(0, .inr (.inl (some 40)))]) [] h' r) → Go 16 49 16 (mm_lf [(0, .inr (.inl (some 40))), (3, .inl x3)]) [] h r
  | 0, _, _, _, hF, _, _ => by cases hF
  | n + 1, x3, h, x, hF, KR, KX => by
    have ih := fun a3 => A_L_S_soonestShare_16 (r := r) n a3 
    unfold L_S_soonestShare_16 at hF
    refine g_iload_n (q := 17) rfl rfl rfl ?_
    refine g_aload_n (q := 18) rfl rfl rfl ?_
    refine g_getI (q := 21) rfl (fun _ => rfl) rfl ?_
    by_cases c5 : (h.1 40 7) ≤ x3
    · rw [if_pos c5] at hF
      refine g_icmpT rfl (decide_eq_true c5) ?_
      injection hF with hF
      subst hF
      exact go_sub (mm_subc rfl mm_sub0) (KX  _ rfl)
    · rw [if_neg c5] at hF
      refine g_icmpF (q := 24) rfl (decide_eq_false c5) rfl ?_
      refine g_aload_n (q := 25) rfl rfl rfl ?_
      refine g_getR (q := 28) rfl (fun _ => rfl) rfl ?_
      refine g_iload_n (q := 29) rfl rfl rfl ?_
      refine g_iconst (q := 30) rfl rfl ?_
      obtain ⟨hi, hF⟩ := ck_I hF
      refine g_iastore (q := 31) rfl rfl rfl hi rfl ?_
      obtain ⟨h4, e_h4, hF⟩ := hw_I hF
      rw [← e_h4]
      refine g_iinc (q := 34) rfl rfl rfl ?_
      refine g_goto rfl ?_
      refine go_sub (lo' := mm_lf [(0, .inr (.inl (some 40))), (3, .inl (x3 + I 1))]) (mm_subc rfl (mm_subc rfl mm_sub0)) ?_
      exact ih _ _ _ hF KR KX
theorem A_S_soonestShare {x1 : Int32} {x2 : Int32} {h h' : MH} {v : Int32} (hF : F_S_soonestShare x1 x2 h = some (v, h')) : Ex 17 49 [.inr (.inl (some 40)), .inl x1, .inl x2] h (some (.inl v), h') := by
  unfold F_S_soonestShare at hF
  refine ex_of (d := 16) rfl rfl ?_
  refine g_aload_n (q := 1) rfl rfl rfl ?_
  refine g_iload_n (q := 2) rfl rfl rfl ?_
  obtain ⟨h1, hC, hF⟩ := bd_I hF
  refine g_cv2 (q := 5) rfl rfl (fun _ => rfl) rfl (A_S_begin hC) (by decide +kernel) rfl ?_
  refine g_aload_n (q := 6) rfl rfl rfl ?_
  refine g_iconst (q := 7) rfl rfl ?_
  refine g_iload_n (q := 8) rfl rfl rfl ?_
  refine g_min (q := 11) rfl rfl rfl ?_
  obtain ⟨v2, e_v2, hF⟩ := iw_I hF
  rw [← e_v2]
  refine g_putI (q := 14) rfl (fun _ => rfl) rfl ?_
  obtain ⟨h3, e_h3, hF⟩ := hw_I hF
  rw [← e_h3]
  refine g_iconst (q := 15) rfl rfl ?_
  refine g_istore_n (q := 16) rfl rfl ?_
  refine go_sub (lo' := mm_lf [(0, .inr (.inl (some 40))), (3, .inl (I 0))]) (mm_subc rfl (mm_subc rfl mm_sub0)) ?_
  obtain ⟨h6, hC, hF⟩ := bd_I hF
  refine A_L_S_soonestShare_16 5000 _ _ _ hC trivial ?_
  intro _ e2
  cases e2
  refine g_aload_n (q := 38) rfl rfl rfl ?_
  refine g_iconst (q := 39) rfl rfl ?_
  refine g_iconst (q := 40) rfl rfl ?_
  obtain ⟨h7, hC, hF⟩ := bd_I hF
  refine g_cv3 (q := 43) rfl rfl (fun _ => rfl) rfl (A_S_tryShares (n := 12) hC) (by decide +kernel) rfl ?_
  refine g_aload_n (q := 44) rfl rfl rfl ?_
  refine g_getI (q := 47) rfl (fun _ => rfl) rfl ?_
  injection hF with hF
  injection hF with hv hh
  subst hv
  subst hh
  exact g_iret rfl
def L_C_shareBeds_15 (x1 : Int32) : Nat → Int32 → MH → Option (MH)
  | 0, _, _ => none
  | n + 1, x2, h => if (h.1 8 8) ≤ x2 then some (h) else ck (mm_in x1 6) (bd (F_H_bestTime x1 x2 h) (fun (r3, h2) => ck (mm_in x2 6) (hw (mm_hset h2.1 (42 + Int32.toNatClampNeg x1) (Int32.toNatClampNeg x2) r3, h2.2) (fun h4 => L_C_shareBeds_15 x1 n (x2 + I 1) h4))))
def L_C_shareBeds_2 : Nat → Int32 → MH → Option (MH)
  | 0, _, _ => none
  | n + 1, x1, h => if (h.1 8 7) ≤ x1 then some (h) else bd (L_C_shareBeds_15 x1 5000 (I 0) h) (fun h6 => L_C_shareBeds_2 n (x1 + I 1) h6)
/-- BothCorners.shareBeds()I -/
def F_C_shareBeds (h : MH) : Option (Int32 × MH) := bd (L_C_shareBeds_2 5000 (I 0) h) (fun h8 => bd (F_S_soonestShare (h8.1 8 7) (h8.1 8 8) h8) (fun (r10, h9) => some (r10, h9)))
theorem A_L_C_shareBeds_15 {x1 : Int32} {r : MRs} : ∀ (n : Nat) (x2 : Int32) (h : MH) (x : MH), L_C_shareBeds_15 x1 n x2 h = some x → (True) → (∀ (h' : MH), x = (h') → Go 17 133 52 (mm_lf [(0, .inr (.inl (some 0))), (1, .inl x1)]) [] h' r) → Go 17 133 15 (mm_lf [(0, .inr (.inl (some 0))), (1, .inl x1), (2, .inl x2)]) [] h r
  | 0, _, _, _, hF, _, _ => by cases hF
  | n + 1, x2, h, x, hF, KR, KX => by
    have ih := fun a2 => A_L_C_shareBeds_15 (x1 := x1) (r := r) n a2 
    unfold L_C_shareBeds_15 at hF
    refine g_iload_n (q := 16) rfl rfl rfl ?_
    refine g_aload_n (q := 17) rfl rfl rfl ?_
    refine g_getR (q := 20) rfl (fun _ => rfl) rfl ?_
    refine g_getI (q := 23) rfl (fun _ => rfl) rfl ?_
    by_cases c5 : (h.1 8 8) ≤ x2
    · rw [if_pos c5] at hF
      refine g_icmpT rfl (decide_eq_true c5) ?_
      injection hF with hF
      subst hF
      exact go_sub (mm_subc rfl (mm_subc rfl mm_sub0)) (KX  _ rfl)
    · rw [if_neg c5] at hF
      refine g_icmpF (q := 26) rfl (decide_eq_false c5) rfl ?_
      refine g_aload_n (q := 27) rfl rfl rfl ?_
      refine g_getR (q := 30) rfl (fun _ => rfl) rfl ?_
      refine g_getR (q := 33) rfl (fun _ => rfl) rfl ?_
      refine g_iload_n (q := 34) rfl rfl rfl ?_
      obtain ⟨hi1, hF⟩ := ck_I hF
      refine g_aaload (q := 35) rfl rfl rfl hi1 (mm_c6r hi1) rfl ?_
      refine g_iload_n (q := 36) rfl rfl rfl ?_
      refine g_aload_n (q := 37) rfl rfl rfl ?_
      refine g_getR (q := 40) rfl (fun _ => rfl) rfl ?_
      refine g_iload_n (q := 41) rfl rfl rfl ?_
      refine g_iload_n (q := 42) rfl rfl rfl ?_
      obtain ⟨⟨r3, h2⟩, hC, hF⟩ := bd_I hF
      dsimp only at hF
      refine g_ci3 (q := 45) rfl rfl (fun _ => rfl) rfl (A_H_bestTime hC) (by decide +kernel) rfl ?_
      obtain ⟨hi, hF⟩ := ck_I hF
      refine g_iastore (q := 46) rfl (mm_c6 hi1).1 (mm_c6 hi1).2.2 hi rfl ?_
      obtain ⟨h4, e_h4, hF⟩ := hw_I hF
      rw [← e_h4]
      refine g_iinc (q := 49) rfl rfl rfl ?_
      refine g_goto rfl ?_
      refine go_sub (lo' := mm_lf [(0, .inr (.inl (some 0))), (1, .inl x1), (2, .inl (x2 + I 1))]) (mm_subc rfl (mm_subc rfl (mm_subc rfl mm_sub0))) ?_
      exact ih _ _ _ hF KR KX
theorem A_L_C_shareBeds_2 {r : MRs} : ∀ (n : Nat) (x1 : Int32) (h : MH) (x : MH), L_C_shareBeds_2 n x1 h = some x → (True) → (∀ (h' : MH), x = (h') → Go 17 133 58 (mm_lf [(0, .inr (.inl (some 0)))]) [] h' r) → Go 17 133 2 (mm_lf [(0, .inr (.inl (some 0))), (1, .inl x1)]) [] h r
  | 0, _, _, _, hF, _, _ => by cases hF
  | n + 1, x1, h, x, hF, KR, KX => by
    have ih := fun a1 => A_L_C_shareBeds_2 (r := r) n a1 
    unfold L_C_shareBeds_2 at hF
    refine g_iload_n (q := 3) rfl rfl rfl ?_
    refine g_aload_n (q := 4) rfl rfl rfl ?_
    refine g_getR (q := 7) rfl (fun _ => rfl) rfl ?_
    refine g_getI (q := 10) rfl (fun _ => rfl) rfl ?_
    by_cases c7 : (h.1 8 7) ≤ x1
    · rw [if_pos c7] at hF
      refine g_icmpT rfl (decide_eq_true c7) ?_
      injection hF with hF
      subst hF
      exact go_sub (mm_subc rfl mm_sub0) (KX  _ rfl)
    · rw [if_neg c7] at hF
      refine g_icmpF (q := 13) rfl (decide_eq_false c7) rfl ?_
      refine g_iconst (q := 14) rfl rfl ?_
      refine g_istore_n (q := 15) rfl rfl ?_
      refine go_sub (lo' := mm_lf [(0, .inr (.inl (some 0))), (1, .inl x1), (2, .inl (I 0))]) (mm_subc rfl (mm_subc rfl (mm_subc rfl mm_sub0))) ?_
      obtain ⟨h6, hC, hF⟩ := bd_I hF
      refine A_L_C_shareBeds_15 5000 _ _ _ hC trivial ?_
      intro _ e2
      cases e2
      refine g_iinc (q := 55) rfl rfl rfl ?_
      refine g_goto rfl ?_
      refine go_sub (lo' := mm_lf [(0, .inr (.inl (some 0))), (1, .inl (x1 + I 1))]) (mm_subc rfl (mm_subc rfl mm_sub0)) ?_
      exact ih _ _ _ hF KR KX
theorem A_C_shareBeds {h h' : MH} {v : Int32} (hF : F_C_shareBeds h = some (v, h')) : Ex 18 133 [.inr (.inl (some 0))] h (some (.inl v), h') := by
  unfold F_C_shareBeds at hF
  refine ex_of (d := 17) rfl rfl ?_
  refine g_iconst (q := 1) rfl rfl ?_
  refine g_istore_n (q := 2) rfl rfl ?_
  refine go_sub (lo' := mm_lf [(0, .inr (.inl (some 0))), (1, .inl (I 0))]) (mm_subc rfl (mm_subc rfl mm_sub0)) ?_
  obtain ⟨h8, hC, hF⟩ := bd_I hF
  refine A_L_C_shareBeds_2 5000 _ _ _ hC trivial ?_
  intro _ e2
  cases e2
  refine g_aload_n (q := 59) rfl rfl rfl ?_
  refine g_getR (q := 62) rfl (fun _ => rfl) rfl ?_
  refine g_aload_n (q := 63) rfl rfl rfl ?_
  refine g_getR (q := 66) rfl (fun _ => rfl) rfl ?_
  refine g_getI (q := 69) rfl (fun _ => rfl) rfl ?_
  refine g_aload_n (q := 70) rfl rfl rfl ?_
  refine g_getR (q := 73) rfl (fun _ => rfl) rfl ?_
  refine g_getI (q := 76) rfl (fun _ => rfl) rfl ?_
  obtain ⟨⟨r10, h9⟩, hC, hF⟩ := bd_I hF
  dsimp only at hF
  refine g_ci3 (q := 79) rfl rfl (fun _ => rfl) rfl (A_S_soonestShare hC) (by decide +kernel) rfl ?_
  injection hF with hF
  injection hF with hv hh
  subst hv
  subst hh
  exact g_iret rfl
/-- BothCorners.who(I)I -/
def F_C_who (x1 : Int32) (h : MH) : Option (Int32 × MH) := if (I (-1)) ≤ x1 then if (h.1 8 8) = 0 then bd (F_C_refuse (I (-3)) h) (fun (r2, h1) => some (r2, h1)) else if ¬ (h.1 8 9) = 0 then bd (F_C_shareBeds h) (fun (r4, h3) => bd (F_S_answer x1 h3) (fun (r6, h5) => some (r6, h5))) else bd (F_C_refuse (I (-3)) h) (fun (r8, h7) => some (r8, h7)) else bd (F_C_refuse (I (-4)) h) (fun (r12, h11) => some (r12, h11))
theorem A_C_who {x1 : Int32} {h h' : MH} {v : Int32} (hF : F_C_who x1 h = some (v, h')) : Ex 19 94 [.inr (.inl (some 0)), .inl x1] h (some (.inl v), h') := by
  unfold F_C_who at hF
  refine ex_of (d := 18) rfl rfl ?_
  refine g_iload_n (q := 1) rfl rfl rfl ?_
  refine g_iconst (q := 2) rfl rfl ?_
  by_cases c13 : (I (-1)) ≤ x1
  · rw [if_pos c13] at hF
    refine g_icmpT rfl (decide_eq_true c13) ?_
    refine g_aload_n (q := 13) rfl rfl rfl ?_
    refine g_getR (q := 16) rfl (fun _ => rfl) rfl ?_
    refine g_getI (q := 19) rfl (fun _ => rfl) rfl ?_
    by_cases c10 : (h.1 8 8) = 0
    · rw [if_pos c10] at hF
      refine g_ifT rfl (decide_eq_true c10) ?_
      refine g_aload_n (q := 33) rfl rfl rfl ?_
      refine g_bipush (q := 35) rfl (by decide +kernel) rfl ?_
      obtain ⟨⟨r2, h1⟩, hC, hF⟩ := bd_I hF
      dsimp only at hF
      refine g_ci2 (q := 38) rfl rfl (fun _ => rfl) rfl (A_C_refuse hC) (by decide +kernel) rfl ?_
      injection hF with hF
      injection hF with hv hh
      subst hv
      subst hh
      exact g_iret rfl
    · rw [if_neg c10] at hF
      refine g_ifF (q := 22) rfl (decide_eq_false c10) rfl ?_
      refine g_aload_n (q := 23) rfl rfl rfl ?_
      refine g_getR (q := 26) rfl (fun _ => rfl) rfl ?_
      refine g_getI (q := 29) rfl (fun _ => rfl) rfl ?_
      by_cases c9 : ¬ (h.1 8 9) = 0
      · rw [if_pos c9] at hF
        refine g_ifT rfl (decide_eq_true c9) ?_
        refine g_aload_n (q := 40) rfl rfl rfl ?_
        obtain ⟨⟨r4, h3⟩, hC, hF⟩ := bd_I hF
        dsimp only at hF
        refine g_ci1 (q := 43) rfl rfl (fun _ => rfl) rfl (A_C_shareBeds hC) (by decide +kernel) rfl ?_
        refine g_pop (q := 44) rfl rfl rfl ?_
        refine g_aload_n (q := 45) rfl rfl rfl ?_
        refine g_getR (q := 48) rfl (fun _ => rfl) rfl ?_
        refine g_iload_n (q := 49) rfl rfl rfl ?_
        obtain ⟨⟨r6, h5⟩, hC, hF⟩ := bd_I hF
        dsimp only at hF
        refine g_ci2 (q := 52) rfl rfl (fun _ => rfl) rfl (A_S_answer hC) (by decide +kernel) rfl ?_
        injection hF with hF
        injection hF with hv hh
        subst hv
        subst hh
        exact g_iret rfl
      · rw [if_neg c9] at hF
        refine g_ifF (q := 32) rfl (decide_eq_false c9) rfl ?_
        refine g_aload_n (q := 33) rfl rfl rfl ?_
        refine g_bipush (q := 35) rfl (by decide +kernel) rfl ?_
        obtain ⟨⟨r8, h7⟩, hC, hF⟩ := bd_I hF
        dsimp only at hF
        refine g_ci2 (q := 38) rfl rfl (fun _ => rfl) rfl (A_C_refuse hC) (by decide +kernel) rfl ?_
        injection hF with hF
        injection hF with hv hh
        subst hv
        subst hh
        exact g_iret rfl
  · rw [if_neg c13] at hF
    refine g_icmpF (q := 5) rfl (decide_eq_false c13) rfl ?_
    refine g_aload_n (q := 6) rfl rfl rfl ?_
    refine g_bipush (q := 8) rfl (by decide +kernel) rfl ?_
    obtain ⟨⟨r12, h11⟩, hC, hF⟩ := bd_I hF
    dsimp only at hF
    refine g_ci2 (q := 11) rfl rfl (fun _ => rfl) rfl (A_C_refuse hC) (by decide +kernel) rfl ?_
    injection hF with hF
    injection hF with hv hh
    subst hv
    subst hh
    exact g_iret rfl
/-- BothCorners$House.timeLearned(IIII)I -/
def F_H_timeLearned (x1 : Int32) (x2 : Int32) (x3 : Int32) (x4 : Int32) (h : MH) : Option (Int32 × MH) := ck (mm_in x3 4) (ck (mm_in x3 4) (iw (if ((h.1 12 (Int32.toNatClampNeg x3)) + x4) < (I 9) then (h.1 12 (Int32.toNatClampNeg x3)) + x4 else I 9) (fun v1 => bd (F_H_timeWith x1 x2 (h.1 11 (Int32.toNatClampNeg x3)) v1 h) (fun (r3, h2) => some (r3, h2)))))
theorem A_H_timeLearned {x1 : Int32} {x2 : Int32} {x3 : Int32} {x4 : Int32} {h h' : MH} {v : Int32} (hF : F_H_timeLearned x1 x2 x3 x4 h = some (v, h')) : Ex 6 15 [.inr (.inl (some 8)), .inl x1, .inl x2, .inl x3, .inl x4] h (some (.inl v), h') := by
  unfold F_H_timeLearned at hF
  refine ex_of (d := 5) rfl rfl ?_
  refine g_aload_n (q := 1) rfl rfl rfl ?_
  refine g_iload_n (q := 2) rfl rfl rfl ?_
  refine g_iload_n (q := 3) rfl rfl rfl ?_
  refine g_aload_n (q := 4) rfl rfl rfl ?_
  refine g_getR (q := 7) rfl (fun _ => rfl) rfl ?_
  refine g_iload_n (q := 8) rfl rfl rfl ?_
  obtain ⟨hi, hF⟩ := ck_I hF
  refine g_iaload (q := 9) rfl rfl rfl hi rfl ?_
  refine g_bipush (q := 11) rfl (by decide +kernel) rfl ?_
  refine g_aload_n (q := 12) rfl rfl rfl ?_
  refine g_getR (q := 15) rfl (fun _ => rfl) rfl ?_
  refine g_iload_n (q := 16) rfl rfl rfl ?_
  obtain ⟨hi, hF⟩ := ck_I hF
  refine g_iaload (q := 17) rfl rfl rfl hi rfl ?_
  refine g_iload (q := 19) rfl rfl rfl ?_
  refine g_iadd (q := 20) rfl rfl ?_
  refine g_min (q := 23) rfl rfl rfl ?_
  obtain ⟨v1, e_v1, hF⟩ := iw_I hF
  rw [← e_v1]
  obtain ⟨⟨r3, h2⟩, hC, hF⟩ := bd_I hF
  dsimp only at hF
  refine g_ci5 (q := 26) rfl rfl (fun _ => rfl) rfl (A_H_timeWith hC) (by decide +kernel) rfl ?_
  injection hF with hF
  injection hF with hv hh
  subst hv
  subst hh
  exact g_iret rfl
