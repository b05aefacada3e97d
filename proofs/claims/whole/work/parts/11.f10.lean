-- decompiled by wip/whole/dec.py: what a method does (F_), and that the mini machine does it (A_)
/-- BothCorners$House.copyFrom(LBothCorners$House;)V -/
def F_H_copyFrom_4 (h : MH) : Option (MH) := hw (mm_hcpy h.1 16 9 (Int32.toNatClampNeg (I 0)) (Int32.toNatClampNeg (I 0)) (Int32.toNatClampNeg (I 6)), h.2) (fun h1 => hw (mm_hcpy h1.1 17 10 (Int32.toNatClampNeg (I 0)) (Int32.toNatClampNeg (I 0)) (Int32.toNatClampNeg (I 6)), h1.2) (fun h2 => hw (mm_hcpy h2.1 18 11 (Int32.toNatClampNeg (I 0)) (Int32.toNatClampNeg (I 0)) (Int32.toNatClampNeg (I 4)), h2.2) (fun h3 => hw (mm_hcpy h3.1 19 12 (Int32.toNatClampNeg (I 0)) (Int32.toNatClampNeg (I 0)) (Int32.toNatClampNeg (I 4)), h3.2) (fun h4 => hw (mm_hcpy h4.1 20 13 (Int32.toNatClampNeg (I 0)) (Int32.toNatClampNeg (I 0)) (Int32.toNatClampNeg (I 6)), h4.2) (fun h5 => hw (mm_hcpy h5.1 21 14 (Int32.toNatClampNeg (I 0)) (Int32.toNatClampNeg (I 0)) (Int32.toNatClampNeg (I 6)), h5.2) (fun h6 => hw (mm_hset h6.1 8 7 (h6.1 15 7), h6.2) (fun h7 => hw (mm_hset h7.1 8 8 (h7.1 15 8), h7.2) (fun h8 => hw (mm_hset h8.1 8 9 (h8.1 15 9), h8.2) (fun h9 => hw (mm_hset h9.1 8 10 (h9.1 15 10), h9.2) (fun h10 => some h10))))))))))
theorem A_H_copyFrom_4 {h h' : MH} (hF : F_H_copyFrom_4 h = some h') : Ex 1 7 [.inr (.inl (some 8)), .inr (.inl (some 15))] h (none, h') := by
  unfold F_H_copyFrom_4 at hF
  refine ex_of (d := 0) rfl rfl ?_
  refine g_aload_n (q := 1) rfl rfl rfl ?_
  refine g_getR (q := 4) rfl (fun _ => rfl) rfl ?_
  refine g_iconst (q := 5) rfl rfl ?_
  refine g_aload_n (q := 6) rfl rfl rfl ?_
  refine g_getR (q := 9) rfl (fun _ => rfl) rfl ?_
  refine g_iconst (q := 10) rfl rfl ?_
  refine g_bipush (q := 12) rfl (by decide +kernel) rfl ?_
  refine g_copy (q := 15) rfl rfl rfl (by decide +kernel) rfl ?_
  obtain ⟨h1, e_h1, hF⟩ := hw_I hF
  rw [← e_h1]
  refine g_aload_n (q := 16) rfl rfl rfl ?_
  refine g_getR (q := 19) rfl (fun _ => rfl) rfl ?_
  refine g_iconst (q := 20) rfl rfl ?_
  refine g_aload_n (q := 21) rfl rfl rfl ?_
  refine g_getR (q := 24) rfl (fun _ => rfl) rfl ?_
  refine g_iconst (q := 25) rfl rfl ?_
  refine g_bipush (q := 27) rfl (by decide +kernel) rfl ?_
  refine g_copy (q := 30) rfl rfl rfl (by decide +kernel) rfl ?_
  obtain ⟨h2, e_h2, hF⟩ := hw_I hF
  rw [← e_h2]
  refine g_aload_n (q := 31) rfl rfl rfl ?_
  refine g_getR (q := 34) rfl (fun _ => rfl) rfl ?_
  refine g_iconst (q := 35) rfl rfl ?_
  refine g_aload_n (q := 36) rfl rfl rfl ?_
  refine g_getR (q := 39) rfl (fun _ => rfl) rfl ?_
  refine g_iconst (q := 40) rfl rfl ?_
  refine g_iconst (q := 41) rfl rfl ?_
  refine g_copy (q := 44) rfl rfl rfl (by decide +kernel) rfl ?_
  obtain ⟨h3, e_h3, hF⟩ := hw_I hF
  rw [← e_h3]
  refine g_aload_n (q := 45) rfl rfl rfl ?_
  refine g_getR (q := 48) rfl (fun _ => rfl) rfl ?_
  refine g_iconst (q := 49) rfl rfl ?_
  refine g_aload_n (q := 50) rfl rfl rfl ?_
  refine g_getR (q := 53) rfl (fun _ => rfl) rfl ?_
  refine g_iconst (q := 54) rfl rfl ?_
  refine g_iconst (q := 55) rfl rfl ?_
  refine g_copy (q := 58) rfl rfl rfl (by decide +kernel) rfl ?_
  obtain ⟨h4, e_h4, hF⟩ := hw_I hF
  rw [← e_h4]
  refine g_aload_n (q := 59) rfl rfl rfl ?_
  refine g_getR (q := 62) rfl (fun _ => rfl) rfl ?_
  refine g_iconst (q := 63) rfl rfl ?_
  refine g_aload_n (q := 64) rfl rfl rfl ?_
  refine g_getR (q := 67) rfl (fun _ => rfl) rfl ?_
  refine g_iconst (q := 68) rfl rfl ?_
  refine g_bipush (q := 70) rfl (by decide +kernel) rfl ?_
  refine g_copy (q := 73) rfl rfl rfl (by decide +kernel) rfl ?_
  obtain ⟨h5, e_h5, hF⟩ := hw_I hF
  rw [← e_h5]
  refine g_aload_n (q := 74) rfl rfl rfl ?_
  refine g_getR (q := 77) rfl (fun _ => rfl) rfl ?_
  refine g_iconst (q := 78) rfl rfl ?_
  refine g_aload_n (q := 79) rfl rfl rfl ?_
  refine g_getR (q := 82) rfl (fun _ => rfl) rfl ?_
  refine g_iconst (q := 83) rfl rfl ?_
  refine g_bipush (q := 85) rfl (by decide +kernel) rfl ?_
  refine g_copy (q := 88) rfl rfl rfl (by decide +kernel) rfl ?_
  obtain ⟨h6, e_h6, hF⟩ := hw_I hF
  rw [← e_h6]
  refine g_aload_n (q := 89) rfl rfl rfl ?_
  refine g_aload_n (q := 90) rfl rfl rfl ?_
  refine g_getI (q := 93) rfl (fun _ => rfl) rfl ?_
  refine g_putI (q := 96) rfl (fun _ => rfl) rfl ?_
  obtain ⟨h7, e_h7, hF⟩ := hw_I hF
  rw [← e_h7]
  refine g_aload_n (q := 97) rfl rfl rfl ?_
  refine g_aload_n (q := 98) rfl rfl rfl ?_
  refine g_getI (q := 101) rfl (fun _ => rfl) rfl ?_
  refine g_putI (q := 104) rfl (fun _ => rfl) rfl ?_
  obtain ⟨h8, e_h8, hF⟩ := hw_I hF
  rw [← e_h8]
  refine g_aload_n (q := 105) rfl rfl rfl ?_
  refine g_aload_n (q := 106) rfl rfl rfl ?_
  refine g_getI (q := 109) rfl (fun _ => rfl) rfl ?_
  refine g_putI (q := 112) rfl (fun _ => rfl) rfl ?_
  obtain ⟨h9, e_h9, hF⟩ := hw_I hF
  rw [← e_h9]
  refine g_aload_n (q := 113) rfl rfl rfl ?_
  refine g_aload_n (q := 114) rfl rfl rfl ?_
  refine g_getI (q := 117) rfl (fun _ => rfl) rfl ?_
  refine g_putI (q := 120) rfl (fun _ => rfl) rfl ?_
  obtain ⟨h10, e_h10, hF⟩ := hw_I hF
  rw [← e_h10]
  injection hF with hF
  subst hF
  exact g_vret rfl
/-- BothCorners.restore()I -/
def F_C_restore (h : MH) : Option (Int32 × MH) := if ¬ (h.1 0 10) = 0 then bd (F_H_copyFrom_4 h) (fun h1 => hw (mm_hset h1.1 31 3 (I 0), h1.2) (fun h2 => some (h2.1 8 7, h2))) else bd (F_C_refuse (I (-3)) h) (fun (r4, h3) => some (r4, h3))
theorem A_C_restore {h h' : MH} {v : Int32} (hF : F_C_restore h = some (v, h')) : Ex 2 117 [.inr (.inl (some 0))] h (some (.inl v), h') := by
  unfold F_C_restore at hF
  refine ex_of (d := 1) rfl rfl ?_
  refine g_aload_n (q := 1) rfl rfl rfl ?_
  refine g_getI (q := 4) rfl (fun _ => rfl) rfl ?_
  by_cases c5 : ¬ (h.1 0 10) = 0
  · rw [if_pos c5] at hF
    refine g_ifT rfl (decide_eq_true c5) ?_
    refine g_aload_n (q := 15) rfl rfl rfl ?_
    refine g_getR (q := 18) rfl (fun _ => rfl) rfl ?_
    refine g_aload_n (q := 19) rfl rfl rfl ?_
    refine g_getR (q := 22) rfl (fun _ => rfl) rfl ?_
    obtain ⟨h1, hC, hF⟩ := bd_I hF
    refine g_cv2 (q := 25) rfl rfl (fun _ => rfl) rfl (A_H_copyFrom_4 hC) (by decide +kernel) rfl ?_
    refine g_aload_n (q := 26) rfl rfl rfl ?_
    refine g_getR (q := 29) rfl (fun _ => rfl) rfl ?_
    refine g_iconst (q := 30) rfl rfl ?_
    refine g_putI (q := 33) rfl (fun _ => rfl) rfl ?_
    obtain ⟨h2, e_h2, hF⟩ := hw_I hF
    rw [← e_h2]
    refine g_aload_n (q := 34) rfl rfl rfl ?_
    refine g_getR (q := 37) rfl (fun _ => rfl) rfl ?_
    refine g_getI (q := 40) rfl (fun _ => rfl) rfl ?_
    injection hF with hF
    injection hF with hv hh
    subst hv
    subst hh
    exact g_iret rfl
  · rw [if_neg c5] at hF
    refine g_ifF (q := 7) rfl (decide_eq_false c5) rfl ?_
    refine g_aload_n (q := 8) rfl rfl rfl ?_
    refine g_bipush (q := 10) rfl (by decide +kernel) rfl ?_
    obtain ⟨⟨r4, h3⟩, hC, hF⟩ := bd_I hF
    dsimp only at hF
    refine g_ci2 (q := 13) rfl rfl (fun _ => rfl) rfl (A_C_refuse hC) (by decide +kernel) rfl ?_
    injection hF with hF
    injection hF with hv hh
    subst hv
    subst hh
    exact g_iret rfl
/-- BothCorners.count(I)I -/
def F_C_count (x1 : Int32) (h : MH) : Option (Int32 × MH) := if x1 < (I 11) then if x1 = I 0 then some (h.1 8 7, h) else if x1 = I 1 then some (h.1 8 8, h) else if x1 = I 2 then some (h.1 8 9, h) else if x1 = I 3 then bd (F_L_atTheirOwn (h.1 8 10) h) (fun (r6, h5) => some (r6, h5)) else if x1 = I 4 then bd (F_L_insideOut (h.1 8 10) h) (fun (r9, h8) => some (r9, h8)) else if x1 = I 5 then some (h.1 29 1, h) else if x1 = I 6 then some (h.1 0 9, h) else if x1 = I 7 then some (h.1 31 3, h) else some (I (-9), h) else if (I 16) < x1 then if x1 = I 0 then some (h.1 8 7, h) else if x1 = I 1 then some (h.1 8 8, h) else if x1 = I 2 then some (h.1 8 9, h) else if x1 = I 3 then bd (F_L_atTheirOwn (h.1 8 10) h) (fun (r18, h17) => some (r18, h17)) else if x1 = I 4 then bd (F_L_insideOut (h.1 8 10) h) (fun (r21, h20) => some (r21, h20)) else if x1 = I 5 then some (h.1 29 1, h) else if x1 = I 6 then some (h.1 0 9, h) else if x1 = I 7 then some (h.1 31 3, h) else some (I (-9), h) else ck (mm_in (x1 - (I 10)) 7) (some (h.1 54 (Int32.toNatClampNeg (x1 - (I 10))), h))
theorem A_C_count {x1 : Int32} {h h' : MH} {v : Int32} (hF : F_C_count x1 h = some (v, h')) : Ex 3 118 [.inr (.inl (some 0)), .inl x1] h (some (.inl v), h') := by
  unfold F_C_count at hF
  refine ex_of (d := 2) rfl rfl ?_
  refine g_iload_n (q := 1) rfl rfl rfl ?_
  refine g_bipush (q := 3) rfl (by decide +kernel) rfl ?_
  by_cases c26 : x1 < (I 11)
  · rw [if_pos c26] at hF
    refine g_icmpT rfl (decide_eq_true c26) ?_
    refine g_iload_n (q := 23) rfl rfl rfl ?_
    by_cases c1 : x1 = I 0
    · rw [if_pos c1] at hF
      refine g_tsw (off := 45) (t := 68) rfl (by rw [c1]; decide +kernel) (by decide) ?_
      refine g_aload_n (q := 69) rfl rfl rfl ?_
      refine g_getR (q := 72) rfl (fun _ => rfl) rfl ?_
      refine g_getI (q := 75) rfl (fun _ => rfl) rfl ?_
      injection hF with hF
      injection hF with hv hh
      subst hv
      subst hh
      exact g_iret rfl
    rw [if_neg c1] at hF
    by_cases c2 : x1 = I 1
    · rw [if_pos c2] at hF
      refine g_tsw (off := 53) (t := 76) rfl (by rw [c2]; decide +kernel) (by decide) ?_
      refine g_aload_n (q := 77) rfl rfl rfl ?_
      refine g_getR (q := 80) rfl (fun _ => rfl) rfl ?_
      refine g_getI (q := 83) rfl (fun _ => rfl) rfl ?_
      injection hF with hF
      injection hF with hv hh
      subst hv
      subst hh
      exact g_iret rfl
    rw [if_neg c2] at hF
    by_cases c3 : x1 = I 2
    · rw [if_pos c3] at hF
      refine g_tsw (off := 61) (t := 84) rfl (by rw [c3]; decide +kernel) (by decide) ?_
      refine g_aload_n (q := 85) rfl rfl rfl ?_
      refine g_getR (q := 88) rfl (fun _ => rfl) rfl ?_
      refine g_getI (q := 91) rfl (fun _ => rfl) rfl ?_
      injection hF with hF
      injection hF with hv hh
      subst hv
      subst hh
      exact g_iret rfl
    rw [if_neg c3] at hF
    by_cases c4 : x1 = I 3
    · rw [if_pos c4] at hF
      refine g_tsw (off := 69) (t := 92) rfl (by rw [c4]; decide +kernel) (by decide) ?_
      refine g_aload_n (q := 93) rfl rfl rfl ?_
      refine g_getR (q := 96) rfl (fun _ => rfl) rfl ?_
      refine g_getI (q := 99) rfl (fun _ => rfl) rfl ?_
      obtain ⟨⟨r6, h5⟩, hC, hF⟩ := bd_I hF
      dsimp only at hF
      refine g_ci1 (q := 102) rfl rfl (fun _ => rfl) rfl (A_L_atTheirOwn hC) (by decide +kernel) rfl ?_
      injection hF with hF
      injection hF with hv hh
      subst hv
      subst hh
      exact g_iret rfl
    rw [if_neg c4] at hF
    by_cases c7 : x1 = I 4
    · rw [if_pos c7] at hF
      refine g_tsw (off := 80) (t := 103) rfl (by rw [c7]; decide +kernel) (by decide) ?_
      refine g_aload_n (q := 104) rfl rfl rfl ?_
      refine g_getR (q := 107) rfl (fun _ => rfl) rfl ?_
      refine g_getI (q := 110) rfl (fun _ => rfl) rfl ?_
      obtain ⟨⟨r9, h8⟩, hC, hF⟩ := bd_I hF
      dsimp only at hF
      refine g_ci1 (q := 113) rfl rfl (fun _ => rfl) rfl (A_L_insideOut hC) (by decide +kernel) rfl ?_
      injection hF with hF
      injection hF with hv hh
      subst hv
      subst hh
      exact g_iret rfl
    rw [if_neg c7] at hF
    by_cases c10 : x1 = I 5
    · rw [if_pos c10] at hF
      refine g_tsw (off := 91) (t := 114) rfl (by rw [c10]; decide +kernel) (by decide) ?_
      refine g_aload_n (q := 115) rfl rfl rfl ?_
      refine g_getR (q := 118) rfl (fun _ => rfl) rfl ?_
      refine g_getI (q := 121) rfl (fun _ => rfl) rfl ?_
      injection hF with hF
      injection hF with hv hh
      subst hv
      subst hh
      exact g_iret rfl
    rw [if_neg c10] at hF
    by_cases c11 : x1 = I 6
    · rw [if_pos c11] at hF
      refine g_tsw (off := 99) (t := 122) rfl (by rw [c11]; decide +kernel) (by decide) ?_
      refine g_aload_n (q := 123) rfl rfl rfl ?_
      refine g_getI (q := 126) rfl (fun _ => rfl) rfl ?_
      injection hF with hF
      injection hF with hv hh
      subst hv
      subst hh
      exact g_iret rfl
    rw [if_neg c11] at hF
    by_cases c12 : x1 = I 7
    · rw [if_pos c12] at hF
      refine g_tsw (off := 104) (t := 127) rfl (by rw [c12]; decide +kernel) (by decide) ?_
      refine g_aload_n (q := 128) rfl rfl rfl ?_
      refine g_getR (q := 131) rfl (fun _ => rfl) rfl ?_
      refine g_getI (q := 134) rfl (fun _ => rfl) rfl ?_
      injection hF with hF
      injection hF with hv hh
      subst hv
      subst hh
      exact g_iret rfl
    rw [if_neg c12] at hF
    refine g_tsw (off := 112) (t := 135) rfl (mm_tswD (by decide) (by decide) (fun k h1 h2 => by rcases (show k = 0 ∨ k = 1 ∨ k = 2 ∨ k = 3 ∨ k = 4 ∨ k = 5 ∨ k = 6 ∨ k = 7 by omega) with rfl | rfl | rfl | rfl | rfl | rfl | rfl | rfl <;> assumption)) (by decide) ?_
    refine g_bipush (q := 137) rfl (by decide +kernel) rfl ?_
    injection hF with hF
    injection hF with hv hh
    subst hv
    subst hh
    exact g_iret rfl
  · rw [if_neg c26] at hF
    refine g_icmpF (q := 6) rfl (decide_eq_false c26) rfl ?_
    refine g_iload_n (q := 7) rfl rfl rfl ?_
    refine g_bipush (q := 9) rfl (by decide +kernel) rfl ?_
    by_cases c25 : (I 16) < x1
    · rw [if_pos c25] at hF
      refine g_icmpT rfl (decide_eq_true c25) ?_
      refine g_iload_n (q := 23) rfl rfl rfl ?_
      by_cases c13 : x1 = I 0
      · rw [if_pos c13] at hF
        refine g_tsw (off := 45) (t := 68) rfl (by rw [c13]; decide +kernel) (by decide) ?_
        refine g_aload_n (q := 69) rfl rfl rfl ?_
        refine g_getR (q := 72) rfl (fun _ => rfl) rfl ?_
        refine g_getI (q := 75) rfl (fun _ => rfl) rfl ?_
        injection hF with hF
        injection hF with hv hh
        subst hv
        subst hh
        exact g_iret rfl
      rw [if_neg c13] at hF
      by_cases c14 : x1 = I 1
      · rw [if_pos c14] at hF
        refine g_tsw (off := 53) (t := 76) rfl (by rw [c14]; decide +kernel) (by decide) ?_
        refine g_aload_n (q := 77) rfl rfl rfl ?_
        refine g_getR (q := 80) rfl (fun _ => rfl) rfl ?_
        refine g_getI (q := 83) rfl (fun _ => rfl) rfl ?_
        injection hF with hF
        injection hF with hv hh
        subst hv
        subst hh
        exact g_iret rfl
      rw [if_neg c14] at hF
      by_cases c15 : x1 = I 2
      · rw [if_pos c15] at hF
        refine g_tsw (off := 61) (t := 84) rfl (by rw [c15]; decide +kernel) (by decide) ?_
        refine g_aload_n (q := 85) rfl rfl rfl ?_
        refine g_getR (q := 88) rfl (fun _ => rfl) rfl ?_
        refine g_getI (q := 91) rfl (fun _ => rfl) rfl ?_
        injection hF with hF
        injection hF with hv hh
        subst hv
        subst hh
        exact g_iret rfl
      rw [if_neg c15] at hF
      by_cases c16 : x1 = I 3
      · rw [if_pos c16] at hF
        refine g_tsw (off := 69) (t := 92) rfl (by rw [c16]; decide +kernel) (by decide) ?_
        refine g_aload_n (q := 93) rfl rfl rfl ?_
        refine g_getR (q := 96) rfl (fun _ => rfl) rfl ?_
        refine g_getI (q := 99) rfl (fun _ => rfl) rfl ?_
        obtain ⟨⟨r18, h17⟩, hC, hF⟩ := bd_I hF
        dsimp only at hF
        refine g_ci1 (q := 102) rfl rfl (fun _ => rfl) rfl (A_L_atTheirOwn hC) (by decide +kernel) rfl ?_
        injection hF with hF
        injection hF with hv hh
        subst hv
        subst hh
        exact g_iret rfl
      rw [if_neg c16] at hF
      by_cases c19 : x1 = I 4
      · rw [if_pos c19] at hF
        refine g_tsw (off := 80) (t := 103) rfl (by rw [c19]; decide +kernel) (by decide) ?_
        refine g_aload_n (q := 104) rfl rfl rfl ?_
        refine g_getR (q := 107) rfl (fun _ => rfl) rfl ?_
        refine g_getI (q := 110) rfl (fun _ => rfl) rfl ?_
        obtain ⟨⟨r21, h20⟩, hC, hF⟩ := bd_I hF
        dsimp only at hF
        refine g_ci1 (q := 113) rfl rfl (fun _ => rfl) rfl (A_L_insideOut hC) (by decide +kernel) rfl ?_
        injection hF with hF
        injection hF with hv hh
        subst hv
        subst hh
        exact g_iret rfl
      rw [if_neg c19] at hF
      by_cases c22 : x1 = I 5
      · rw [if_pos c22] at hF
        refine g_tsw (off := 91) (t := 114) rfl (by rw [c22]; decide +kernel) (by decide) ?_
        refine g_aload_n (q := 115) rfl rfl rfl ?_
        refine g_getR (q := 118) rfl (fun _ => rfl) rfl ?_
        refine g_getI (q := 121) rfl (fun _ => rfl) rfl ?_
        injection hF with hF
        injection hF with hv hh
        subst hv
        subst hh
        exact g_iret rfl
      rw [if_neg c22] at hF
      by_cases c23 : x1 = I 6
      · rw [if_pos c23] at hF
        refine g_tsw (off := 99) (t := 122) rfl (by rw [c23]; decide +kernel) (by decide) ?_
        refine g_aload_n (q := 123) rfl rfl rfl ?_
        refine g_getI (q := 126) rfl (fun _ => rfl) rfl ?_
        injection hF with hF
        injection hF with hv hh
        subst hv
        subst hh
        exact g_iret rfl
      rw [if_neg c23] at hF
      by_cases c24 : x1 = I 7
      · rw [if_pos c24] at hF
        refine g_tsw (off := 104) (t := 127) rfl (by rw [c24]; decide +kernel) (by decide) ?_
        refine g_aload_n (q := 128) rfl rfl rfl ?_
        refine g_getR (q := 131) rfl (fun _ => rfl) rfl ?_
        refine g_getI (q := 134) rfl (fun _ => rfl) rfl ?_
        injection hF with hF
        injection hF with hv hh
        subst hv
        subst hh
        exact g_iret rfl
      rw [if_neg c24] at hF
      refine g_tsw (off := 112) (t := 135) rfl (mm_tswD (by decide) (by decide) (fun k h1 h2 => by rcases (show k = 0 ∨ k = 1 ∨ k = 2 ∨ k = 3 ∨ k = 4 ∨ k = 5 ∨ k = 6 ∨ k = 7 by omega) with rfl | rfl | rfl | rfl | rfl | rfl | rfl | rfl <;> assumption)) (by decide) ?_
      refine g_bipush (q := 137) rfl (by decide +kernel) rfl ?_
      injection hF with hF
      injection hF with hv hh
      subst hv
      subst hh
      exact g_iret rfl
    · rw [if_neg c25] at hF
      refine g_icmpF (q := 12) rfl (decide_eq_false c25) rfl ?_
      refine g_aload_n (q := 13) rfl rfl rfl ?_
      refine g_getR (q := 16) rfl (fun _ => rfl) rfl ?_
      refine g_iload_n (q := 17) rfl rfl rfl ?_
      refine g_bipush (q := 19) rfl (by decide +kernel) rfl ?_
      refine g_isub (q := 20) rfl rfl ?_
      obtain ⟨hi, hF⟩ := ck_I hF
      refine g_iaload (q := 21) rfl rfl rfl hi rfl ?_
      injection hF with hF
      injection hF with hv hh
      subst hv
      subst hh
      exact g_iret rfl
/-- BothCornersModel.refuse(I)I -/
def F_M_refuse (x1 : Int32) (h : MH) : Option (Int32 × MH) := ck (mm_in (-x1) 7) (ck (mm_in (-x1) 7) (hw (mm_hset h.1 62 (Int32.toNatClampNeg (-x1)) ((h.1 62 (Int32.toNatClampNeg (-x1))) + (I 1)), h.2) (fun h1 => some (x1, h1))))
theorem A_M_refuse {x1 : Int32} {h h' : MH} {v : Int32} (hF : F_M_refuse x1 h = some (v, h')) : Ex 1 154 [.inr (.inl (some 55)), .inl x1] h (some (.inl v), h') := by
  unfold F_M_refuse at hF
  refine ex_of (d := 0) rfl rfl ?_
  refine g_aload_n (q := 1) rfl rfl rfl ?_
  refine g_getR (q := 4) rfl (fun _ => rfl) rfl ?_
  refine g_iload_n (q := 5) rfl rfl rfl ?_
  refine g_ineg (q := 6) rfl rfl ?_
  refine g_dup2 (q := 7) rfl rfl rfl ?_
  obtain ⟨hi, hF⟩ := ck_I hF
  refine g_iaload (q := 8) rfl rfl rfl hi rfl ?_
  refine g_iconst (q := 9) rfl rfl ?_
  refine g_iadd (q := 10) rfl rfl ?_
  obtain ⟨hi, hF⟩ := ck_I hF
  refine g_iastore (q := 11) rfl rfl rfl hi rfl ?_
  obtain ⟨h1, e_h1, hF⟩ := hw_I hF
  rw [← e_h1]
  refine g_iload_n (q := 12) rfl rfl rfl ?_
  injection hF with hF
  injection hF with hv hh
  subst hv
  subst hh
  exact g_iret rfl
/-- BothCornersModel.feed(I)I -/
def F_M_feed (x1 : Int32) (h : MH) : Option (Int32 × MH) := hw (mm_hset h.1 55 10 (I 0), h.2) (fun h1 => if 0 ≤ x1 then if (I 255) < x1 then bd (F_M_refuse (I (-6)) h1) (fun (r3, h2) => some (r3, h2)) else if ¬ (h1.1 55 15) = (I 96) then ck (mm_in (h1.1 55 15) 96) (hw (mm_hset h1.1 64 (Int32.toNatClampNeg (h1.1 55 15)) x1, h1.2) (fun h4 => hw (mm_hset h4.1 55 15 ((h4.1 55 15) + (I 1)), h4.2) (fun h5 => some (h5.1 55 15, h5)))) else bd (F_M_refuse (I (-6)) h1) (fun (r7, h6) => some (r7, h6)) else bd (F_M_refuse (I (-4)) h1) (fun (r11, h10) => some (r11, h10)))
theorem A_M_feed {x1 : Int32} {h h' : MH} {v : Int32} (hF : F_M_feed x1 h = some (v, h')) : Ex 2 181 [.inr (.inl (some 55)), .inl x1] h (some (.inl v), h') := by
  unfold F_M_feed at hF
  refine ex_of (d := 1) rfl rfl ?_
  refine g_aload_n (q := 1) rfl rfl rfl ?_
  refine g_iconst (q := 2) rfl rfl ?_
  refine g_putI (q := 5) rfl (fun _ => rfl) rfl ?_
  obtain ⟨h1, e_h1, hF⟩ := hw_I hF
  rw [← e_h1]
  refine g_iload_n (q := 6) rfl rfl rfl ?_
  by_cases c12 : 0 ≤ x1
  · rw [if_pos c12] at hF
    refine g_ifT rfl (decide_eq_true c12) ?_
    refine g_iload_n (q := 17) rfl rfl rfl ?_
    refine g_sipush (q := 20) rfl (by decide +kernel) rfl ?_
    by_cases c9 : (I 255) < x1
    · rw [if_pos c9] at hF
      refine g_icmpT rfl (decide_eq_true c9) ?_
      refine g_aload_n (q := 33) rfl rfl rfl ?_
      refine g_bipush (q := 35) rfl (by decide +kernel) rfl ?_
      obtain ⟨⟨r3, h2⟩, hC, hF⟩ := bd_I hF
      dsimp only at hF
      refine g_ci2 (q := 38) rfl rfl (fun _ => rfl) rfl (A_M_refuse hC) (by decide +kernel) rfl ?_
      injection hF with hF
      injection hF with hv hh
      subst hv
      subst hh
      exact g_iret rfl
    · rw [if_neg c9] at hF
      refine g_icmpF (q := 23) rfl (decide_eq_false c9) rfl ?_
      refine g_aload_n (q := 24) rfl rfl rfl ?_
      refine g_getI (q := 27) rfl (fun _ => rfl) rfl ?_
      refine g_bipush (q := 29) rfl (by decide +kernel) rfl ?_
      by_cases c8 : ¬ (h1.1 55 15) = (I 96)
      · rw [if_pos c8] at hF
        refine g_icmpT rfl (decide_eq_true c8) ?_
        refine g_aload_n (q := 40) rfl rfl rfl ?_
        refine g_getR (q := 43) rfl (fun _ => rfl) rfl ?_
        refine g_aload_n (q := 44) rfl rfl rfl ?_
        refine g_getI (q := 47) rfl (fun _ => rfl) rfl ?_
        refine g_iload_n (q := 48) rfl rfl rfl ?_
        obtain ⟨hi, hF⟩ := ck_I hF
        refine g_iastore (q := 49) rfl rfl rfl hi rfl ?_
        obtain ⟨h4, e_h4, hF⟩ := hw_I hF
        rw [← e_h4]
        refine g_aload_n (q := 50) rfl rfl rfl ?_
        refine g_dup (q := 51) rfl rfl rfl ?_
        refine g_getI (q := 54) rfl (fun _ => rfl) rfl ?_
        refine g_iconst (q := 55) rfl rfl ?_
        refine g_iadd (q := 56) rfl rfl ?_
        refine g_putI (q := 59) rfl (fun _ => rfl) rfl ?_
        obtain ⟨h5, e_h5, hF⟩ := hw_I hF
        rw [← e_h5]
        refine g_aload_n (q := 60) rfl rfl rfl ?_
        refine g_getI (q := 63) rfl (fun _ => rfl) rfl ?_
        injection hF with hF
        injection hF with hv hh
        subst hv
        subst hh
        exact g_iret rfl
      · rw [if_neg c8] at hF
        refine g_icmpF (q := 32) rfl (decide_eq_false c8) rfl ?_
        refine g_aload_n (q := 33) rfl rfl rfl ?_
        refine g_bipush (q := 35) rfl (by decide +kernel) rfl ?_
        obtain ⟨⟨r7, h6⟩, hC, hF⟩ := bd_I hF
        dsimp only at hF
        refine g_ci2 (q := 38) rfl rfl (fun _ => rfl) rfl (A_M_refuse hC) (by decide +kernel) rfl ?_
        injection hF with hF
        injection hF with hv hh
        subst hv
        subst hh
        exact g_iret rfl
  · rw [if_neg c12] at hF
    refine g_ifF (q := 9) rfl (decide_eq_false c12) rfl ?_
    refine g_aload_n (q := 10) rfl rfl rfl ?_
    refine g_bipush (q := 12) rfl (by decide +kernel) rfl ?_
    obtain ⟨⟨r11, h10⟩, hC, hF⟩ := bd_I hF
    dsimp only at hF
    refine g_ci2 (q := 15) rfl rfl (fun _ => rfl) rfl (A_M_refuse hC) (by decide +kernel) rfl ?_
    injection hF with hF
    injection hF with hv hh
    subst hv
    subst hh
    exact g_iret rfl
/-- BothCornersModel.here()I -/
def F_M_here (h : MH) : Option (Int32 × MH) := if (h.1 55 15) ≤ (h.1 55 16) then some (I (-1), h) else ck (mm_in (h.1 55 16) 96) (some (h.1 64 (Int32.toNatClampNeg (h.1 55 16)), h))
theorem A_M_here {h h' : MH} {v : Int32} (hF : F_M_here h = some (v, h')) : Ex 1 182 [.inr (.inl (some 55))] h (some (.inl v), h') := by
  unfold F_M_here at hF
  refine ex_of (d := 0) rfl rfl ?_
  refine g_aload_n (q := 1) rfl rfl rfl ?_
  refine g_getI (q := 4) rfl (fun _ => rfl) rfl ?_
  refine g_aload_n (q := 5) rfl rfl rfl ?_
  refine g_getI (q := 8) rfl (fun _ => rfl) rfl ?_
  by_cases c1 : (h.1 55 15) ≤ (h.1 55 16)
  · rw [if_pos c1] at hF
    refine g_icmpT rfl (decide_eq_true c1) ?_
    refine g_iconst (q := 24) rfl rfl ?_
    injection hF with hF
    injection hF with hv hh
    subst hv
    subst hh
    exact g_iret rfl
  · rw [if_neg c1] at hF
    refine g_icmpF (q := 11) rfl (decide_eq_false c1) rfl ?_
    refine g_aload_n (q := 12) rfl rfl rfl ?_
    refine g_getR (q := 15) rfl (fun _ => rfl) rfl ?_
    refine g_aload_n (q := 16) rfl rfl rfl ?_
    refine g_getI (q := 19) rfl (fun _ => rfl) rfl ?_
    obtain ⟨hi, hF⟩ := ck_I hF
    refine g_iaload (q := 20) rfl rfl rfl hi rfl ?_
    refine g_goto rfl ?_
    injection hF with hF
    injection hF with hv hh
    subst hv
    subst hh
    exact g_iret rfl
/-- BothCornersModel.in(JJJ)Z -/
def F_M_in (x0 : Int64) (x2 : Int64) (x4 : Int64) (h : MH) : Option (Int32 × MH) := if (lg_cmp x0 x2) < 0 then some (I 0, h) else iw (if 0 < (lg_cmp x0 x4) then I 0 else I 1) (fun v1 => cd (v1 &&& 1 = v1) (some (v1, h)))
theorem A_M_in {x0 : Int64} {x2 : Int64} {x4 : Int64} {h h' : MH} {v : Int32} (hF : F_M_in x0 x2 x4 h = some (v, h')) : Ex 1 153 [.inr (.inr (x0)), .inr (.inr (x2)), .inr (.inr (x4))] h (some (.inl v), h') := by
  unfold F_M_in at hF
  refine ex_of (d := 0) rfl rfl ?_
  refine g_lload_n (q := 1) rfl rfl rfl ?_
  refine g_lload_n (q := 2) rfl rfl rfl ?_
  refine g_lcmp (q := 3) rfl rfl ?_
  by_cases c4 : (lg_cmp x0 x2) < 0
  · rw [if_pos c4] at hF
    refine g_ifT rfl (decide_eq_true c4) ?_
    refine g_iconst (q := 18) rfl rfl ?_
    injection hF with hF
    injection hF with hv hh
    subst hv
    subst hh
    exact g_zret rfl (by decide +kernel)
  · rw [if_neg c4] at hF
    refine g_ifF (q := 6) rfl (decide_eq_false c4) rfl ?_
    refine g_lload_n (q := 7) rfl rfl rfl ?_
    refine g_lload (q := 9) rfl rfl rfl ?_
    refine g_lcmp (q := 10) rfl rfl ?_
    obtain ⟨v1, e_v1, hF⟩ := iw_I hF
    suffices K2 : Go 0 153 18 (mm_lf []) [.inl v1] h (some (.inl v), h') by
      clear hF
      by_cases c3 : 0 < (lg_cmp x0 x4)
      · simp only [if_pos c3] at e_v1
        subst e_v1
        refine g_ifT rfl (decide_eq_true c3) ?_
        refine g_iconst (q := 18) rfl rfl ?_
        exact go_sub mm_sub0 K2
      · simp only [if_neg c3] at e_v1
        subst e_v1
        refine g_ifF (q := 13) rfl (decide_eq_false c3) rfl ?_
        refine g_iconst (q := 14) rfl rfl ?_
        refine g_goto rfl ?_
        exact go_sub mm_sub0 K2
    clear e_v1
    obtain ⟨hz, hF⟩ := cd_I hF
    injection hF with hF
    injection hF with hv hh
    subst hv
    subst hh
    exact g_zret rfl hz
def L_M_readDigits_4 (x1 : Int32) : Nat → Int32 → Int32 → MH → Option (Int32 × MH)
  | 0, _, _, _ => none
  | n + 1, x2, x3, h => if x1 ≤ x3 then some (x2, h) else kw (fun (z1 : Int32) (h2 : MH) => cd (z1 &&& 1 = z1) (hw (mm_hset h2.1 55 17 z1, h2.2) (fun h4 => kw (fun (z5 : Int32) (h6 : MH) => iw (if (h6.1 55 17) = 0 then I 1 else I 0) (fun v8 => hw (mm_hset h6.1 55 16 ((h6.1 55 16) + v8), h6.2) (fun h10 => L_M_readDigits_4 x1 n z5 (x3 + I 1) h10))) (fun k7 => if (h4.1 55 17) = 0 then ck (mm_in (h4.1 55 16) 96) (k7 ((((I 10) * x2) + (h4.1 64 (Int32.toNatClampNeg (h4.1 55 16)))) - (I 48)) h4) else k7 (I 0) h4)))) (fun k3 => if ¬ (h.1 55 17) = 0 then k3 (I 1) h else bd (F_M_here h) (fun (r16, h15) => bd (F_M_in (Int32.toInt64 r16) (Lg 48) (Lg 57) h15) (fun (r18, h17) => if ¬ r18 = 0 then k3 (I 0) h17 else k3 (I 1) h17)))
/-- BothCornersModel.readDigits(I)I -/
def F_M_readDigits (x1 : Int32) (h : MH) : Option (Int32 × MH) := bd (L_M_readDigits_4 x1 5000 (I 0) (I 0) h) (fun (y22, h23) => some (y22, h23))
theorem A_L_M_readDigits_4 {x1 : Int32} {r : MRs} : ∀ (n : Nat) (x2 : Int32) (x3 : Int32) (h : MH) (x : Int32 × MH), L_M_readDigits_4 x1 n x2 x3 h = some x → (True) → (∀ (e2 : Int32) (h' : MH), x = (e2, h') → Go 1 183 98 (mm_lf [(2, .inl e2)]) [] h' r) → Go 1 183 4 (mm_lf [(0, .inr (.inl (some 55))), (1, .inl x1), (2, .inl x2), (3, .inl x3)]) [] h r
  | 0, _, _, _, _, hF, _, _ => by cases hF
  | n + 1, x2, x3, h, x, hF, KR, KX => by
    have ih := fun a2 a3 => A_L_M_readDigits_4 (x1 := x1) (r := r) n a2 a3 
    unfold L_M_readDigits_4 at hF
    refine g_iload_n (q := 5) rfl rfl rfl ?_
    refine g_iload_n (q := 6) rfl rfl rfl ?_
    by_cases c21 : x1 ≤ x3
    · rw [if_pos c21] at hF
      refine g_icmpT rfl (decide_eq_true c21) ?_
      injection hF with hF
      subst hF
      exact go_sub (mm_subc rfl mm_sub0) (KX _ _ rfl)
    · rw [if_neg c21] at hF
      refine g_icmpF (q := 9) rfl (decide_eq_false c21) rfl ?_
      refine g_aload_n (q := 10) rfl rfl rfl ?_
      refine g_aload_n (q := 11) rfl rfl rfl ?_
      refine g_getI (q := 14) rfl (fun _ => rfl) rfl ?_
      obtain ⟨k3, e_k3, hF⟩ := kw_I hF
      have K14 : ∀ (z1 : Int32) (h2 : MH), k3 z1 h2 = some x → Go 1 183 39 (mm_lf [(0, .inr (.inl (some 55))), (1, .inl x1), (2, .inl x2), (3, .inl x3)]) [.inl z1, .inr (.inl (some 55))] h2 r := by
        intro z1 h2 hF
        rw [e_k3] at hF
        dsimp only at hF
        obtain ⟨hz, hF⟩ := cd_I hF
        refine g_putZ (q := 42) rfl (fun _ => rfl) hz rfl ?_
        obtain ⟨h4, e_h4, hF⟩ := hw_I hF
        rw [← e_h4]
        refine g_aload_n (q := 43) rfl rfl rfl ?_
        refine g_getI (q := 46) rfl (fun _ => rfl) rfl ?_
        obtain ⟨k7, e_k7, hF⟩ := kw_I hF
        have K12 : ∀ (z5 : Int32) (h6 : MH), k7 z5 h6 = some x → Go 1 183 70 (mm_lf [(0, .inr (.inl (some 55))), (1, .inl x1), (3, .inl x3)]) [.inl z5] h6 r := by
          intro z5 h6 hF
          rw [e_k7] at hF
          dsimp only at hF
          refine g_istore_n (q := 71) rfl rfl ?_
          refine g_aload_n (q := 72) rfl rfl rfl ?_
          refine g_dup (q := 73) rfl rfl rfl ?_
          refine g_getI (q := 76) rfl (fun _ => rfl) rfl ?_
          refine g_aload_n (q := 77) rfl rfl rfl ?_
          refine g_getI (q := 80) rfl (fun _ => rfl) rfl ?_
          obtain ⟨v8, e_v8, hF⟩ := iw_I hF
          suffices K9 : Go 1 183 88 (mm_lf [(0, .inr (.inl (some 55))), (1, .inl x1), (2, .inl z5), (3, .inl x3)]) [.inl v8, .inl (h6.1 55 16), .inr (.inl (some 55))] h6 r by
            clear hF
            by_cases c11 : (h6.1 55 17) = 0
            · simp only [if_pos c11] at e_v8
              subst e_v8
              refine g_ifT rfl (decide_eq_true c11) ?_
              refine g_iconst (q := 88) rfl rfl ?_
              exact go_sub (mm_subc rfl (mm_subc rfl (mm_subc rfl (mm_subc rfl mm_sub0)))) K9
            · simp only [if_neg c11] at e_v8
              subst e_v8
              refine g_ifF (q := 83) rfl (decide_eq_false c11) rfl ?_
              refine g_iconst (q := 84) rfl rfl ?_
              refine g_goto rfl ?_
              exact go_sub (mm_subc rfl (mm_subc rfl (mm_subc rfl (mm_subc rfl mm_sub0)))) K9
          clear e_v8
          refine g_iadd (q := 89) rfl rfl ?_
          refine g_putI (q := 92) rfl (fun _ => rfl) rfl ?_
          obtain ⟨h10, e_h10, hF⟩ := hw_I hF
          rw [← e_h10]
          refine g_iinc (q := 95) rfl rfl rfl ?_
          refine g_goto rfl ?_
          refine go_sub (lo' := mm_lf [(0, .inr (.inl (some 55))), (1, .inl x1), (2, .inl z5), (3, .inl (x3 + I 1))]) (mm_subc rfl (mm_subc rfl (mm_subc rfl (mm_subc rfl mm_sub0)))) ?_
          exact ih _ _ _ _ hF KR KX
        clear e_k7
        by_cases c13 : (h4.1 55 17) = 0
        · rw [if_pos c13] at hF
          refine g_ifT rfl (decide_eq_true c13) ?_
          refine g_bipush (q := 55) rfl (by decide +kernel) rfl ?_
          refine g_iload_n (q := 56) rfl rfl rfl ?_
          refine g_imul (q := 57) rfl rfl ?_
          refine g_aload_n (q := 58) rfl rfl rfl ?_
          refine g_getR (q := 61) rfl (fun _ => rfl) rfl ?_
          refine g_aload_n (q := 62) rfl rfl rfl ?_
          refine g_getI (q := 65) rfl (fun _ => rfl) rfl ?_
          obtain ⟨hi, hF⟩ := ck_I hF
          refine g_iaload (q := 66) rfl rfl rfl hi rfl ?_
          refine g_iadd (q := 67) rfl rfl ?_
          refine g_bipush (q := 69) rfl (by decide +kernel) rfl ?_
          refine g_isub (q := 70) rfl rfl ?_
          exact go_sub (mm_subc rfl (mm_subc rfl (mm_subc rfl mm_sub0))) (K12 _ _ hF)
        · rw [if_neg c13] at hF
          refine g_ifF (q := 49) rfl (decide_eq_false c13) rfl ?_
          refine g_iconst (q := 50) rfl rfl ?_
          refine g_goto rfl ?_
          exact go_sub (mm_subc rfl (mm_subc rfl (mm_subc rfl mm_sub0))) (K12 _ _ hF)
      clear e_k3
      by_cases c20 : ¬ (h.1 55 17) = 0
      · rw [if_pos c20] at hF
        refine g_ifT rfl (decide_eq_true c20) ?_
        refine g_iconst (q := 35) rfl rfl ?_
        refine g_goto rfl ?_
        exact go_sub (mm_subc rfl (mm_subc rfl (mm_subc rfl (mm_subc rfl mm_sub0)))) (K14 _ _ hF)
      · rw [if_neg c20] at hF
        refine g_ifF (q := 17) rfl (decide_eq_false c20) rfl ?_
        refine g_aload_n (q := 18) rfl rfl rfl ?_
        obtain ⟨⟨r16, h15⟩, hC, hF⟩ := bd_I hF
        dsimp only at hF
        refine g_ci1 (q := 21) rfl rfl (fun _ => rfl) rfl (A_M_here hC) (by decide +kernel) rfl ?_
        refine g_i2l (q := 22) rfl rfl ?_
        refine g_ldc2_w (q := 25) rfl rfl ?_
        refine g_ldc2_w (q := 28) rfl rfl ?_
        obtain ⟨⟨r18, h17⟩, hC, hF⟩ := bd_I hF
        dsimp only at hF
        refine g_ci3 (q := 31) rfl rfl (fun _ => rfl) rfl (A_M_in hC) (by decide +kernel) rfl ?_
        by_cases c19 : ¬ r18 = 0
        · rw [if_pos c19] at hF
          refine g_ifT rfl (decide_eq_true c19) ?_
          refine g_iconst (q := 39) rfl rfl ?_
          exact go_sub (mm_subc rfl (mm_subc rfl (mm_subc rfl (mm_subc rfl mm_sub0)))) (K14 _ _ hF)
        · rw [if_neg c19] at hF
          refine g_ifF (q := 34) rfl (decide_eq_false c19) rfl ?_
          refine g_iconst (q := 35) rfl rfl ?_
          refine g_goto rfl ?_
          exact go_sub (mm_subc rfl (mm_subc rfl (mm_subc rfl (mm_subc rfl mm_sub0)))) (K14 _ _ hF)
theorem A_M_readDigits {x1 : Int32} {h h' : MH} {v : Int32} (hF : F_M_readDigits x1 h = some (v, h')) : Ex 2 183 [.inr (.inl (some 55)), .inl x1] h (some (.inl v), h') := by
  unfold F_M_readDigits at hF
  refine ex_of (d := 1) rfl rfl ?_
  refine g_iconst (q := 1) rfl rfl ?_
  refine g_istore_n (q := 2) rfl rfl ?_
  refine g_iconst (q := 3) rfl rfl ?_
  refine g_istore_n (q := 4) rfl rfl ?_
  refine go_sub (lo' := mm_lf [(0, .inr (.inl (some 55))), (1, .inl x1), (2, .inl (I 0)), (3, .inl (I 0))]) (mm_subc rfl (mm_subc rfl (mm_subc rfl (mm_subc rfl mm_sub0)))) ?_
  obtain ⟨⟨y22, h23⟩, hC, hF⟩ := bd_I hF
  dsimp only at hF
  refine A_L_M_readDigits_4 5000 _ _ _ _ hC trivial ?_
  intro _ _ e2
  cases e2
  refine g_iload_n (q := 99) rfl rfl rfl ?_
  injection hF with hF
  injection hF with hv hh
  subst hv
  subst hh
  exact g_iret rfl
def L_M_readTurns_2 (x1 : Int32) : Nat → Int32 → MH → Option (Int32 × MH)
  | 0, _, _ => none
  | n + 1, x2, h => bd (F_M_readDigits (I 1) h) (fun (r2, h1) => ck (mm_in ((x1 + x2) + (I 1)) 490) (hw (mm_hset h1.1 67 (Int32.toNatClampNeg ((x1 + x2) + (I 1))) r2, h1.2) (fun h3 => if ¬ (h3.1 55 17) = 0 then some (x2 + I 1, h3) else if (I 9) ≤ (x2 + I 1) then some (x2 + I 1, h3) else bd (F_M_here h3) (fun (r5, h4) => bd (F_M_in (Int32.toInt64 r5) (Lg 48) (Lg 57) h4) (fun (r7, h6) => if ¬ r7 = 0 then L_M_readTurns_2 x1 n (x2 + I 1) h6 else some (x2 + I 1, h6))))))
/-- BothCornersModel.readTurns(I)V -/
def F_M_readTurns (x1 : Int32) (h : MH) : Option (MH) := bd (L_M_readTurns_2 x1 5000 (I 0) h) (fun (y11, h12) => ck (mm_in x1 490) (hw (mm_hset h12.1 67 (Int32.toNatClampNeg x1) y11, h12.2) (fun h13 => some h13)))
theorem A_L_M_readTurns_2 {x1 : Int32} {r : MRs} : ∀ (n : Nat) (x2 : Int32) (h : MH) (x : Int32 × MH), L_M_readTurns_2 x1 n x2 h = some x → (True) → (∀ (e2 : Int32) (h' : MH), x = (e2, h') → Go 2 184 50 (mm_lf [(0, .inr (.inl (some 55))), (1, .inl x1), (2, .inl e2)]) [] h' r) → Go 2 184 2 (mm_lf [(0, .inr (.inl (some 55))), (1, .inl x1), (2, .inl x2)]) [] h r
  | 0, _, _, _, hF, _, _ => by cases hF
  | n + 1, x2, h, x, hF, KR, KX => by
    have ih := fun a2 => A_L_M_readTurns_2 (x1 := x1) (r := r) n a2 
    unfold L_M_readTurns_2 at hF
    refine g_aload_n (q := 3) rfl rfl rfl ?_
    refine g_getR (q := 6) rfl (fun _ => rfl) rfl ?_
    refine g_iload_n (q := 7) rfl rfl rfl ?_
    refine g_iload_n (q := 8) rfl rfl rfl ?_
    refine g_iadd (q := 9) rfl rfl ?_
    refine g_iconst (q := 10) rfl rfl ?_
    refine g_iadd (q := 11) rfl rfl ?_
    refine g_aload_n (q := 12) rfl rfl rfl ?_
    refine g_iconst (q := 13) rfl rfl ?_
    obtain ⟨⟨r2, h1⟩, hC, hF⟩ := bd_I hF
    dsimp only at hF
    refine g_ci2 (q := 16) rfl rfl (fun _ => rfl) rfl (A_M_readDigits hC) (by decide +kernel) rfl ?_
    obtain ⟨hi, hF⟩ := ck_I hF
    refine g_iastore (q := 17) rfl rfl rfl hi rfl ?_
    obtain ⟨h3, e_h3, hF⟩ := hw_I hF
    rw [← e_h3]
    refine g_iinc (q := 20) rfl rfl rfl ?_
    refine g_aload_n (q := 21) rfl rfl rfl ?_
    refine g_getI (q := 24) rfl (fun _ => rfl) rfl ?_
    by_cases c10 : ¬ (h3.1 55 17) = 0
    · rw [if_pos c10] at hF
      refine g_ifT rfl (decide_eq_true c10) ?_
      injection hF with hF
      subst hF
      exact go_sub (mm_subc rfl (mm_subc rfl (mm_subc rfl mm_sub0))) (KX _ _ rfl)
    · rw [if_neg c10] at hF
      refine g_ifF (q := 27) rfl (decide_eq_false c10) rfl ?_
      refine g_iload_n (q := 28) rfl rfl rfl ?_
      refine g_bipush (q := 30) rfl (by decide +kernel) rfl ?_
      by_cases c9 : (I 9) ≤ (x2 + I 1)
      · rw [if_pos c9] at hF
        refine g_icmpT rfl (decide_eq_true c9) ?_
        injection hF with hF
        subst hF
        exact go_sub (mm_subc rfl (mm_subc rfl (mm_subc rfl mm_sub0))) (KX _ _ rfl)
      · rw [if_neg c9] at hF
        refine g_icmpF (q := 33) rfl (decide_eq_false c9) rfl ?_
        refine g_aload_n (q := 34) rfl rfl rfl ?_
        obtain ⟨⟨r5, h4⟩, hC, hF⟩ := bd_I hF
        dsimp only at hF
        refine g_ci1 (q := 37) rfl rfl (fun _ => rfl) rfl (A_M_here hC) (by decide +kernel) rfl ?_
        refine g_i2l (q := 38) rfl rfl ?_
        refine g_ldc2_w (q := 41) rfl rfl ?_
        refine g_ldc2_w (q := 44) rfl rfl ?_
        obtain ⟨⟨r7, h6⟩, hC, hF⟩ := bd_I hF
        dsimp only at hF
        refine g_ci3 (q := 47) rfl rfl (fun _ => rfl) rfl (A_M_in hC) (by decide +kernel) rfl ?_
        by_cases c8 : ¬ r7 = 0
        · rw [if_pos c8] at hF
          refine g_ifT rfl (decide_eq_true c8) ?_
          refine go_sub (lo' := mm_lf [(0, .inr (.inl (some 55))), (1, .inl x1), (2, .inl (x2 + I 1))]) (mm_subc rfl (mm_subc rfl (mm_subc rfl mm_sub0))) ?_
          exact ih _ _ _ hF KR KX
        · rw [if_neg c8] at hF
          refine g_ifF (q := 50) rfl (decide_eq_false c8) rfl ?_
          injection hF with hF
          subst hF
          exact go_sub (mm_subc rfl (mm_subc rfl (mm_subc rfl mm_sub0))) (KX _ _ rfl)
theorem A_M_readTurns {x1 : Int32} {h h' : MH} (hF : F_M_readTurns x1 h = some h') : Ex 3 184 [.inr (.inl (some 55)), .inl x1] h (none, h') := by
  unfold F_M_readTurns at hF
  refine ex_of (d := 2) rfl rfl ?_
  refine g_iconst (q := 1) rfl rfl ?_
  refine g_istore_n (q := 2) rfl rfl ?_
  refine go_sub (lo' := mm_lf [(0, .inr (.inl (some 55))), (1, .inl x1), (2, .inl (I 0))]) (mm_subc rfl (mm_subc rfl (mm_subc rfl mm_sub0))) ?_
  obtain ⟨⟨y11, h12⟩, hC, hF⟩ := bd_I hF
  dsimp only at hF
  refine A_L_M_readTurns_2 5000 _ _ _ hC trivial ?_
  intro _ _ e2
  cases e2
  refine g_aload_n (q := 51) rfl rfl rfl ?_
  refine g_getR (q := 54) rfl (fun _ => rfl) rfl ?_
  refine g_iload_n (q := 55) rfl rfl rfl ?_
  refine g_iload_n (q := 56) rfl rfl rfl ?_
  obtain ⟨hi, hF⟩ := ck_I hF
  refine g_iastore (q := 57) rfl rfl rfl hi rfl ?_
  obtain ⟨h13, e_h13, hF⟩ := hw_I hF
  rw [← e_h13]
  injection hF with hF
  subst hF
  exact g_vret rfl
def L_M_readNumbers_38 (x2 : Int32) : Nat → Int32 → MH → Option (MH)
  | 0, _, _ => none
  | n + 1, x3, h => if (I 4) ≤ x3 then some (h) else bd (F_M_readDigits (I 2) h) (fun (r3, h2) => ck (mm_in (x2 + x3) 490) (hw (mm_hset h2.1 67 (Int32.toNatClampNeg (x2 + x3)) r3, h2.2) (fun h4 => L_M_readNumbers_38 x2 n (x3 + I 1) h4)))
/-- BothCornersModel.readNumbers(II)V -/
def F_M_readNumbers (x1 : Int32) (x2 : Int32) (h : MH) : Option (MH) := if x1 = I 98 then bd (L_M_readNumbers_38 x2 5000 (I 0) h) (fun h6 => some h6) else if x1 = I 112 then bd (F_M_readDigits (I 2) h) (fun (r9, h8) => ck (mm_in x2 490) (hw (mm_hset h8.1 67 (Int32.toNatClampNeg x2) r9, h8.2) (fun h10 => bd (F_M_readDigits (I 1) h10) (fun (r12, h11) => ck (mm_in (x2 + (I 1)) 490) (hw (mm_hset h11.1 67 (Int32.toNatClampNeg (x2 + (I 1))) r12, h11.2) (fun h13 => some h13)))))) else if x1 = I 119 then bd (F_M_readDigits (I 1) h) (fun (r16, h15) => ck (mm_in x2 490) (hw (mm_hset h15.1 67 (Int32.toNatClampNeg x2) r16, h15.2) (fun h17 => bd (F_M_readDigits (I 1) h17) (fun (r19, h18) => ck (mm_in (x2 + (I 1)) 490) (hw (mm_hset h18.1 67 (Int32.toNatClampNeg (x2 + (I 1))) r19, h18.2) (fun h20 => some h20)))))) else bd (F_M_readTurns x2 h) (fun h21 => some h21)
theorem A_L_M_readNumbers_38 {x2 : Int32} {r : MRs} : ∀ (n : Nat) (x3 : Int32) (h : MH) (x : MH), L_M_readNumbers_38 x2 n x3 h = some x → (True) → (∀ (h' : MH), x = (h') → Go 3 185 62 (mm_lf []) [] h' r) → Go 3 185 38 (mm_lf [(0, .inr (.inl (some 55))), (2, .inl x2), (3, .inl x3)]) [] h r
  | 0, _, _, _, hF, _, _ => by cases hF
  | n + 1, x3, h, x, hF, KR, KX => by
    have ih := fun a3 => A_L_M_readNumbers_38 (x2 := x2) (r := r) n a3 
    unfold L_M_readNumbers_38 at hF
    refine g_iload_n (q := 39) rfl rfl rfl ?_
    refine g_iconst (q := 40) rfl rfl ?_
    by_cases c5 : (I 4) ≤ x3
    · rw [if_pos c5] at hF
      refine g_icmpT rfl (decide_eq_true c5) ?_
      injection hF with hF
      subst hF
      exact go_sub mm_sub0 (KX  _ rfl)
    · rw [if_neg c5] at hF
      refine g_icmpF (q := 43) rfl (decide_eq_false c5) rfl ?_
      refine g_aload_n (q := 44) rfl rfl rfl ?_
      refine g_getR (q := 47) rfl (fun _ => rfl) rfl ?_
      refine g_iload_n (q := 48) rfl rfl rfl ?_
      refine g_iload_n (q := 49) rfl rfl rfl ?_
      refine g_iadd (q := 50) rfl rfl ?_
      refine g_aload_n (q := 51) rfl rfl rfl ?_
      refine g_iconst (q := 52) rfl rfl ?_
      obtain ⟨⟨r3, h2⟩, hC, hF⟩ := bd_I hF
      dsimp only at hF
      refine g_ci2 (q := 55) rfl rfl (fun _ => rfl) rfl (A_M_readDigits hC) (by decide +kernel) rfl ?_
      obtain ⟨hi, hF⟩ := ck_I hF
      refine g_iastore (q := 56) rfl rfl rfl hi rfl ?_
      obtain ⟨h4, e_h4, hF⟩ := hw_I hF
      rw [← e_h4]
      refine g_iinc (q := 59) rfl rfl rfl ?_
      refine g_goto rfl ?_
      refine go_sub (lo' := mm_lf [(0, .inr (.inl (some 55))), (2, .inl x2), (3, .inl (x3 + I 1))]) (mm_subc rfl (mm_subc rfl (mm_subc rfl mm_sub0))) ?_
      exact ih _ _ _ hF KR KX
theorem A_M_readNumbers {x1 : Int32} {x2 : Int32} {h h' : MH} (hF : F_M_readNumbers x1 x2 h = some h') : Ex 4 185 [.inr (.inl (some 55)), .inl x1, .inl x2] h (none, h') := by
  unfold F_M_readNumbers at hF
  refine ex_of (d := 3) rfl rfl ?_
  refine g_iload_n (q := 1) rfl rfl rfl ?_
  by_cases c1 : x1 = I 98
  · rw [if_pos c1] at hF
    refine g_lsw (off := 35) (t := 36) rfl (by rw [c1]; decide +kernel) (by decide) ?_
    refine g_iconst (q := 37) rfl rfl ?_
    refine g_istore_n (q := 38) rfl rfl ?_
    refine go_sub (lo' := mm_lf [(0, .inr (.inl (some 55))), (2, .inl x2), (3, .inl (I 0))]) (mm_subc rfl (mm_subc rfl (mm_subc rfl mm_sub0))) ?_
    obtain ⟨h6, hC, hF⟩ := bd_I hF
    refine A_L_M_readNumbers_38 5000 _ _ _ hC trivial ?_
    intro _ e2
    cases e2
    refine g_goto rfl ?_
    injection hF with hF
    subst hF
    exact g_vret rfl
  rw [if_neg c1] at hF
  by_cases c7 : x1 = I 112
  · rw [if_pos c7] at hF
    refine g_lsw (off := 64) (t := 65) rfl (by rw [c7]; decide +kernel) (by decide) ?_
    refine g_aload_n (q := 66) rfl rfl rfl ?_
    refine g_getR (q := 69) rfl (fun _ => rfl) rfl ?_
    refine g_iload_n (q := 70) rfl rfl rfl ?_
    refine g_aload_n (q := 71) rfl rfl rfl ?_
    refine g_iconst (q := 72) rfl rfl ?_
    obtain ⟨⟨r9, h8⟩, hC, hF⟩ := bd_I hF
    dsimp only at hF
    refine g_ci2 (q := 75) rfl rfl (fun _ => rfl) rfl (A_M_readDigits hC) (by decide +kernel) rfl ?_
    obtain ⟨hi, hF⟩ := ck_I hF
    refine g_iastore (q := 76) rfl rfl rfl hi rfl ?_
    obtain ⟨h10, e_h10, hF⟩ := hw_I hF
    rw [← e_h10]
    refine g_aload_n (q := 77) rfl rfl rfl ?_
    refine g_getR (q := 80) rfl (fun _ => rfl) rfl ?_
    refine g_iload_n (q := 81) rfl rfl rfl ?_
    refine g_iconst (q := 82) rfl rfl ?_
    refine g_iadd (q := 83) rfl rfl ?_
    refine g_aload_n (q := 84) rfl rfl rfl ?_
    refine g_iconst (q := 85) rfl rfl ?_
    obtain ⟨⟨r12, h11⟩, hC, hF⟩ := bd_I hF
    dsimp only at hF
    refine g_ci2 (q := 88) rfl rfl (fun _ => rfl) rfl (A_M_readDigits hC) (by decide +kernel) rfl ?_
    obtain ⟨hi, hF⟩ := ck_I hF
    refine g_iastore (q := 89) rfl rfl rfl hi rfl ?_
    obtain ⟨h13, e_h13, hF⟩ := hw_I hF
    rw [← e_h13]
    refine g_goto rfl ?_
    injection hF with hF
    subst hF
    exact g_vret rfl
  rw [if_neg c7] at hF
  by_cases c14 : x1 = I 119
  · rw [if_pos c14] at hF
    refine g_lsw (off := 91) (t := 92) rfl (by rw [c14]; decide +kernel) (by decide) ?_
    refine g_aload_n (q := 93) rfl rfl rfl ?_
    refine g_getR (q := 96) rfl (fun _ => rfl) rfl ?_
    refine g_iload_n (q := 97) rfl rfl rfl ?_
    refine g_aload_n (q := 98) rfl rfl rfl ?_
    refine g_iconst (q := 99) rfl rfl ?_
    obtain ⟨⟨r16, h15⟩, hC, hF⟩ := bd_I hF
    dsimp only at hF
    refine g_ci2 (q := 102) rfl rfl (fun _ => rfl) rfl (A_M_readDigits hC) (by decide +kernel) rfl ?_
    obtain ⟨hi, hF⟩ := ck_I hF
    refine g_iastore (q := 103) rfl rfl rfl hi rfl ?_
    obtain ⟨h17, e_h17, hF⟩ := hw_I hF
    rw [← e_h17]
    refine g_aload_n (q := 104) rfl rfl rfl ?_
    refine g_getR (q := 107) rfl (fun _ => rfl) rfl ?_
    refine g_iload_n (q := 108) rfl rfl rfl ?_
    refine g_iconst (q := 109) rfl rfl ?_
    refine g_iadd (q := 110) rfl rfl ?_
    refine g_aload_n (q := 111) rfl rfl rfl ?_
    refine g_iconst (q := 112) rfl rfl ?_
    obtain ⟨⟨r19, h18⟩, hC, hF⟩ := bd_I hF
    dsimp only at hF
    refine g_ci2 (q := 115) rfl rfl (fun _ => rfl) rfl (A_M_readDigits hC) (by decide +kernel) rfl ?_
    obtain ⟨hi, hF⟩ := ck_I hF
    refine g_iastore (q := 116) rfl rfl rfl hi rfl ?_
    obtain ⟨h20, e_h20, hF⟩ := hw_I hF
    rw [← e_h20]
    refine g_goto rfl ?_
    injection hF with hF
    subst hF
    exact g_vret rfl
  rw [if_neg c14] at hF
  refine g_lsw (off := 118) (t := 119) rfl ((by refine mm_lswS c1 (by decide) ?_; refine mm_lswS c7 (by decide) ?_; refine mm_lswS c14 (by decide) ?_; rfl)) (by decide) ?_
  refine g_aload_n (q := 120) rfl rfl rfl ?_
  refine g_iload_n (q := 121) rfl rfl rfl ?_
  obtain ⟨h21, hC, hF⟩ := bd_I hF
  refine g_cv2 (q := 124) rfl rfl (fun _ => rfl) rfl (A_M_readTurns hC) (by decide +kernel) rfl ?_
  injection hF with hF
  subst hF
  exact g_vret rfl
/-- BothCornersModel.readStatement()V -/
def F_M_readStatement (h : MH) : Option (MH) := bd (F_M_here h) (fun (r2, h1) => ck (mm_in (h.1 55 18) 49) (hw (mm_hset h1.1 65 (Int32.toNatClampNeg (h.1 55 18)) (h1.1 55 16), h1.2) (fun h3 => ck (mm_in (h.1 55 18) 49) (hw (mm_hset h3.1 66 (Int32.toNatClampNeg (h.1 55 18)) r2, h3.2) (fun h4 => iw (if ¬ (h4.1 55 17) = 0 then I 1 else (if r2 = (I 98) then I 0 else (if r2 = (I 112) then I 0 else (if r2 = (I 119) then I 0 else (if r2 = (I 116) then I 0 else I 1))))) (fun v5 => cd (v5 &&& 1 = v5) (hw (mm_hset h4.1 55 17 v5, h4.2) (fun h7 => iw (if (h7.1 55 17) = 0 then I 1 else I 0) (fun v8 => hw (mm_hset h7.1 55 16 ((h7.1 55 16) + v8), h7.2) (fun h10 => kw (fun  (h11 : MH) => kw (fun (z13 : Int32) (h14 : MH) => cd (z13 &&& 1 = z13) (hw (mm_hset h14.1 55 17 z13, h14.2) (fun h16 => iw (if (h16.1 55 17) = 0 then I 1 else I 0) (fun v17 => hw (mm_hset h16.1 55 16 ((h16.1 55 16) + v17), h16.2) (fun h19 => hw (mm_hset h19.1 55 18 ((h19.1 55 18) + (I 1)), h19.2) (fun h20 => some h20)))))) (fun k15 => if ¬ (h11.1 55 17) = 0 then k15 (I 1) h11 else bd (F_M_here h11) (fun (r24, h23) => if r24 = (I 59) then k15 (I 0) h23 else k15 (I 1) h23))) (fun k12 => if ¬ (h10.1 55 17) = 0 then k12 h10 else bd (F_M_readNumbers r2 ((I 10) * (h.1 55 18)) h10) (fun h28 => k12 h28))))))))))))
theorem A_M_readStatement {h h' : MH} (hF : F_M_readStatement h = some h') : Ex 5 186 [.inr (.inl (some 55))] h (none, h') := by
  unfold F_M_readStatement at hF
  refine ex_of (d := 4) rfl rfl ?_
  refine g_aload_n (q := 1) rfl rfl rfl ?_
  refine g_getI (q := 4) rfl (fun _ => rfl) rfl ?_
  refine g_istore_n (q := 5) rfl rfl ?_
  refine g_aload_n (q := 6) rfl rfl rfl ?_
  obtain ⟨⟨r2, h1⟩, hC, hF⟩ := bd_I hF
  dsimp only at hF
  refine g_ci1 (q := 9) rfl rfl (fun _ => rfl) rfl (A_M_here hC) (by decide +kernel) rfl ?_
  refine g_istore_n (q := 10) rfl rfl ?_
  refine g_aload_n (q := 11) rfl rfl rfl ?_
  refine g_getR (q := 14) rfl (fun _ => rfl) rfl ?_
  refine g_iload_n (q := 15) rfl rfl rfl ?_
  refine g_aload_n (q := 16) rfl rfl rfl ?_
  refine g_getI (q := 19) rfl (fun _ => rfl) rfl ?_
  obtain ⟨hi, hF⟩ := ck_I hF
  refine g_iastore (q := 20) rfl rfl rfl hi rfl ?_
  obtain ⟨h3, e_h3, hF⟩ := hw_I hF
  rw [← e_h3]
  refine g_aload_n (q := 21) rfl rfl rfl ?_
  refine g_getR (q := 24) rfl (fun _ => rfl) rfl ?_
  refine g_iload_n (q := 25) rfl rfl rfl ?_
  refine g_iload_n (q := 26) rfl rfl rfl ?_
  obtain ⟨hi, hF⟩ := ck_I hF
  refine g_iastore (q := 27) rfl rfl rfl hi rfl ?_
  obtain ⟨h4, e_h4, hF⟩ := hw_I hF
  rw [← e_h4]
  refine g_aload_n (q := 28) rfl rfl rfl ?_
  refine g_aload_n (q := 29) rfl rfl rfl ?_
  refine g_getI (q := 32) rfl (fun _ => rfl) rfl ?_
  obtain ⟨v5, e_v5, hF⟩ := iw_I hF
  suffices K6 : Go 4 186 64 (mm_lf [(0, .inr (.inl (some 55))), (1, .inl (h.1 55 18)), (2, .inl r2)]) [.inl v5, .inr (.inl (some 55))] h4 (none, h') by
    clear hF
    by_cases c31 : ¬ (h4.1 55 17) = 0
    · simp only [if_pos c31] at e_v5
      subst e_v5
      refine g_ifT rfl (decide_eq_true c31) ?_
      refine g_iconst (q := 60) rfl rfl ?_
      refine g_goto rfl ?_
      exact go_sub (mm_subc rfl (mm_subc rfl (mm_subc rfl mm_sub0))) K6
    · simp only [if_neg c31] at e_v5
      refine g_ifF (q := 35) rfl (decide_eq_false c31) rfl ?_
      refine g_iload_n (q := 36) rfl rfl rfl ?_
      refine g_bipush (q := 38) rfl (by decide +kernel) rfl ?_
      by_cases c32 : r2 = (I 98)
      · simp only [if_pos c32] at e_v5
        subst e_v5
        refine g_icmpT rfl (decide_eq_true c32) ?_
        refine g_iconst (q := 64) rfl rfl ?_
        exact go_sub (mm_subc rfl (mm_subc rfl (mm_subc rfl mm_sub0))) K6
      · simp only [if_neg c32] at e_v5
        refine g_icmpF (q := 41) rfl (decide_eq_false c32) rfl ?_
        refine g_iload_n (q := 42) rfl rfl rfl ?_
        refine g_bipush (q := 44) rfl (by decide +kernel) rfl ?_
        by_cases c33 : r2 = (I 112)
        · simp only [if_pos c33] at e_v5
          subst e_v5
          refine g_icmpT rfl (decide_eq_true c33) ?_
          refine g_iconst (q := 64) rfl rfl ?_
          exact go_sub (mm_subc rfl (mm_subc rfl (mm_subc rfl mm_sub0))) K6
        · simp only [if_neg c33] at e_v5
          refine g_icmpF (q := 47) rfl (decide_eq_false c33) rfl ?_
          refine g_iload_n (q := 48) rfl rfl rfl ?_
          refine g_bipush (q := 50) rfl (by decide +kernel) rfl ?_
          by_cases c34 : r2 = (I 119)
          · simp only [if_pos c34] at e_v5
            subst e_v5
            refine g_icmpT rfl (decide_eq_true c34) ?_
            refine g_iconst (q := 64) rfl rfl ?_
            exact go_sub (mm_subc rfl (mm_subc rfl (mm_subc rfl mm_sub0))) K6
          · simp only [if_neg c34] at e_v5
            refine g_icmpF (q := 53) rfl (decide_eq_false c34) rfl ?_
            refine g_iload_n (q := 54) rfl rfl rfl ?_
            refine g_bipush (q := 56) rfl (by decide +kernel) rfl ?_
            by_cases c35 : r2 = (I 116)
            · simp only [if_pos c35] at e_v5
              subst e_v5
              refine g_icmpT rfl (decide_eq_true c35) ?_
              refine g_iconst (q := 64) rfl rfl ?_
              exact go_sub (mm_subc rfl (mm_subc rfl (mm_subc rfl mm_sub0))) K6
            · simp only [if_neg c35] at e_v5
              subst e_v5
              refine g_icmpF (q := 59) rfl (decide_eq_false c35) rfl ?_
              refine g_iconst (q := 60) rfl rfl ?_
              refine g_goto rfl ?_
              exact go_sub (mm_subc rfl (mm_subc rfl (mm_subc rfl mm_sub0))) K6
  clear e_v5
  obtain ⟨hz, hF⟩ := cd_I hF
  refine g_putZ (q := 67) rfl (fun _ => rfl) hz rfl ?_
  obtain ⟨h7, e_h7, hF⟩ := hw_I hF
  rw [← e_h7]
  refine g_aload_n (q := 68) rfl rfl rfl ?_
  refine g_dup (q := 69) rfl rfl rfl ?_
  refine g_getI (q := 72) rfl (fun _ => rfl) rfl ?_
  refine g_aload_n (q := 73) rfl rfl rfl ?_
  refine g_getI (q := 76) rfl (fun _ => rfl) rfl ?_
  obtain ⟨v8, e_v8, hF⟩ := iw_I hF
  suffices K9 : Go 4 186 84 (mm_lf [(0, .inr (.inl (some 55))), (1, .inl (h.1 55 18)), (2, .inl r2)]) [.inl v8, .inl (h7.1 55 16), .inr (.inl (some 55))] h7 (none, h') by
    clear hF
    by_cases c30 : (h7.1 55 17) = 0
    · simp only [if_pos c30] at e_v8
      subst e_v8
      refine g_ifT rfl (decide_eq_true c30) ?_
      refine g_iconst (q := 84) rfl rfl ?_
      exact go_sub (mm_subc rfl (mm_subc rfl (mm_subc rfl mm_sub0))) K9
    · simp only [if_neg c30] at e_v8
      subst e_v8
      refine g_ifF (q := 79) rfl (decide_eq_false c30) rfl ?_
      refine g_iconst (q := 80) rfl rfl ?_
      refine g_goto rfl ?_
      exact go_sub (mm_subc rfl (mm_subc rfl (mm_subc rfl mm_sub0))) K9
  clear e_v8
  refine g_iadd (q := 85) rfl rfl ?_
  refine g_putI (q := 88) rfl (fun _ => rfl) rfl ?_
  obtain ⟨h10, e_h10, hF⟩ := hw_I hF
  rw [← e_h10]
  refine g_aload_n (q := 89) rfl rfl rfl ?_
  refine g_getI (q := 92) rfl (fun _ => rfl) rfl ?_
  obtain ⟨k12, e_k12, hF⟩ := kw_I hF
  have K27 : ∀  (h11 : MH), k12 h11 = some h' → Go 4 186 104 (mm_lf [(0, .inr (.inl (some 55)))]) [] h11 (none, h') := by
    intro h11 hF
    rw [e_k12] at hF
    dsimp only at hF
    refine g_aload_n (q := 105) rfl rfl rfl ?_
    refine g_aload_n (q := 106) rfl rfl rfl ?_
    refine g_getI (q := 109) rfl (fun _ => rfl) rfl ?_
    obtain ⟨k15, e_k15, hF⟩ := kw_I hF
    have K22 : ∀ (z13 : Int32) (h14 : MH), k15 z13 h14 = some h' → Go 4 186 126 (mm_lf [(0, .inr (.inl (some 55)))]) [.inl z13, .inr (.inl (some 55))] h14 (none, h') := by
      intro z13 h14 hF
      rw [e_k15] at hF
      dsimp only at hF
      obtain ⟨hz, hF⟩ := cd_I hF
      refine g_putZ (q := 129) rfl (fun _ => rfl) hz rfl ?_
      obtain ⟨h16, e_h16, hF⟩ := hw_I hF
      rw [← e_h16]
      refine g_aload_n (q := 130) rfl rfl rfl ?_
      refine g_dup (q := 131) rfl rfl rfl ?_
      refine g_getI (q := 134) rfl (fun _ => rfl) rfl ?_
      refine g_aload_n (q := 135) rfl rfl rfl ?_
      refine g_getI (q := 138) rfl (fun _ => rfl) rfl ?_
      obtain ⟨v17, e_v17, hF⟩ := iw_I hF
      suffices K18 : Go 4 186 146 (mm_lf [(0, .inr (.inl (some 55)))]) [.inl v17, .inl (h16.1 55 16), .inr (.inl (some 55))] h16 (none, h') by
        clear hF
        by_cases c21 : (h16.1 55 17) = 0
        · simp only [if_pos c21] at e_v17
          subst e_v17
          refine g_ifT rfl (decide_eq_true c21) ?_
          refine g_iconst (q := 146) rfl rfl ?_
          exact go_sub (mm_subc rfl mm_sub0) K18
        · simp only [if_neg c21] at e_v17
          subst e_v17
          refine g_ifF (q := 141) rfl (decide_eq_false c21) rfl ?_
          refine g_iconst (q := 142) rfl rfl ?_
          refine g_goto rfl ?_
          exact go_sub (mm_subc rfl mm_sub0) K18
      clear e_v17
      refine g_iadd (q := 147) rfl rfl ?_
      refine g_putI (q := 150) rfl (fun _ => rfl) rfl ?_
      obtain ⟨h19, e_h19, hF⟩ := hw_I hF
      rw [← e_h19]
      refine g_aload_n (q := 151) rfl rfl rfl ?_
      refine g_dup (q := 152) rfl rfl rfl ?_
      refine g_getI (q := 155) rfl (fun _ => rfl) rfl ?_
      refine g_iconst (q := 156) rfl rfl ?_
      refine g_iadd (q := 157) rfl rfl ?_
      refine g_putI (q := 160) rfl (fun _ => rfl) rfl ?_
      obtain ⟨h20, e_h20, hF⟩ := hw_I hF
      rw [← e_h20]
      injection hF with hF
      subst hF
      exact g_vret rfl
    clear e_k15
    by_cases c26 : ¬ (h11.1 55 17) = 0
    · rw [if_pos c26] at hF
      refine g_ifT rfl (decide_eq_true c26) ?_
      refine g_iconst (q := 122) rfl rfl ?_
      refine g_goto rfl ?_
      exact go_sub (mm_subc rfl mm_sub0) (K22 _ _ hF)
    · rw [if_neg c26] at hF
      refine g_ifF (q := 112) rfl (decide_eq_false c26) rfl ?_
      refine g_aload_n (q := 113) rfl rfl rfl ?_
      obtain ⟨⟨r24, h23⟩, hC, hF⟩ := bd_I hF
      dsimp only at hF
      refine g_ci1 (q := 116) rfl rfl (fun _ => rfl) rfl (A_M_here hC) (by decide +kernel) rfl ?_
      refine g_bipush (q := 118) rfl (by decide +kernel) rfl ?_
      by_cases c25 : r24 = (I 59)
      · rw [if_pos c25] at hF
        refine g_icmpT rfl (decide_eq_true c25) ?_
        refine g_iconst (q := 126) rfl rfl ?_
        exact go_sub (mm_subc rfl mm_sub0) (K22 _ _ hF)
      · rw [if_neg c25] at hF
        refine g_icmpF (q := 121) rfl (decide_eq_false c25) rfl ?_
        refine g_iconst (q := 122) rfl rfl ?_
        refine g_goto rfl ?_
        exact go_sub (mm_subc rfl mm_sub0) (K22 _ _ hF)
  clear e_k12
  by_cases c29 : ¬ (h10.1 55 17) = 0
  · rw [if_pos c29] at hF
    refine g_ifT rfl (decide_eq_true c29) ?_
    exact go_sub (mm_subc rfl mm_sub0) (K27 _ hF)
  · rw [if_neg c29] at hF
    refine g_ifF (q := 95) rfl (decide_eq_false c29) rfl ?_
    refine g_aload_n (q := 96) rfl rfl rfl ?_
    refine g_iload_n (q := 97) rfl rfl rfl ?_
    refine g_bipush (q := 99) rfl (by decide +kernel) rfl ?_
    refine g_iload_n (q := 100) rfl rfl rfl ?_
    refine g_imul (q := 101) rfl rfl ?_
    obtain ⟨h28, hC, hF⟩ := bd_I hF
    refine g_cv3 (q := 104) rfl rfl (fun _ => rfl) rfl (A_M_readNumbers hC) (by decide +kernel) rfl ?_
    exact go_sub (mm_subc rfl mm_sub0) (K27 _ hF)
/-- BothCornersModel.carry(I)I -/
def F_M_carry (x1 : Int32) (h : MH) : Option (Int32 × MH) := kw (fun  (h1 : MH) => hw (mm_hset h1.1 55 25 ((h1.1 55 25) + (I 1)), h1.2) (fun h3 => cd (h3.2 = some 68) (ck (mm_in ((h3.1 55 25) - (I 1)) 52) (some (h3.1 68 (Int32.toNatClampNeg ((h3.1 55 25) - (I 1))), h3))))) (fun k2 => if (h.1 55 26) = 0 then k2 h else cd (h.2 = some 68) (ck (mm_in (h.1 55 25) 52) (hw (mm_hset h.1 68 (Int32.toNatClampNeg (h.1 55 25)) x1, h.2) (fun h5 => k2 h5))))
theorem A_M_carry {x1 : Int32} {h h' : MH} {v : Int32} (hF : F_M_carry x1 h = some (v, h')) : Ex 1 192 [.inr (.inl (some 55)), .inl x1] h (some (.inl v), h') := by
  unfold F_M_carry at hF
  refine ex_of (d := 0) rfl rfl ?_
  refine g_aload_n (q := 1) rfl rfl rfl ?_
  refine g_getI (q := 4) rfl (fun _ => rfl) rfl ?_
  obtain ⟨k2, e_k2, hF⟩ := kw_I hF
  have K4 : ∀  (h1 : MH), k2 h1 = some (v, h') → Go 0 192 17 (mm_lf [(0, .inr (.inl (some 55)))]) [] h1 (some (.inl v), h') := by
    intro h1 hF
    rw [e_k2] at hF
    dsimp only at hF
    refine g_aload_n (q := 18) rfl rfl rfl ?_
    refine g_dup (q := 19) rfl rfl rfl ?_
    refine g_getI (q := 22) rfl (fun _ => rfl) rfl ?_
    refine g_iconst (q := 23) rfl rfl ?_
    refine g_iadd (q := 24) rfl rfl ?_
    refine g_putI (q := 27) rfl (fun _ => rfl) rfl ?_
    obtain ⟨h3, e_h3, hF⟩ := hw_I hF
    rw [← e_h3]
    refine g_aload_n (q := 28) rfl rfl rfl ?_
    obtain ⟨hk, hF⟩ := cd_I hF
    refine g_getK (q := 31) rfl (fun _ => rfl) hk rfl ?_
    refine g_aload_n (q := 32) rfl rfl rfl ?_
    refine g_getI (q := 35) rfl (fun _ => rfl) rfl ?_
    refine g_iconst (q := 36) rfl rfl ?_
    refine g_isub (q := 37) rfl rfl ?_
    obtain ⟨hi, hF⟩ := ck_I hF
    refine g_iaload (q := 38) rfl rfl rfl hi rfl ?_
    injection hF with hF
    injection hF with hv hh
    subst hv
    subst hh
    exact g_iret rfl
  clear e_k2
  by_cases c6 : (h.1 55 26) = 0
  · rw [if_pos c6] at hF
    refine g_ifT rfl (decide_eq_true c6) ?_
    exact go_sub (mm_subc rfl mm_sub0) (K4 _ hF)
  · rw [if_neg c6] at hF
    refine g_ifF (q := 7) rfl (decide_eq_false c6) rfl ?_
    refine g_aload_n (q := 8) rfl rfl rfl ?_
    obtain ⟨hk, hF⟩ := cd_I hF
    refine g_getK (q := 11) rfl (fun _ => rfl) hk rfl ?_
    refine g_aload_n (q := 12) rfl rfl rfl ?_
    refine g_getI (q := 15) rfl (fun _ => rfl) rfl ?_
    refine g_iload_n (q := 16) rfl rfl rfl ?_
    obtain ⟨hi, hF⟩ := ck_I hF
    refine g_iastore (q := 17) rfl rfl rfl hi rfl ?_
    obtain ⟨h5, e_h5, hF⟩ := hw_I hF
    rw [← e_h5]
    exact go_sub (mm_subc rfl mm_sub0) (K4 _ hF)
