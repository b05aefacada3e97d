-- decompiled by wip/whole/dec.py: what a method does (F_), and that the mini machine does it (A_)
/-- BothCorners$Letters.tellStatement(IILBothCorners$House;)Z -/
def F_T_tellStatement (x1 : Int32) (x2 : Int32) (h : MH) : Option (Int32 × MH) := ck (mm_in x1 96) (if (h.1 30 (Int32.toNatClampNeg x1)) = I 98 then bd (F_T_number (x1 + (I 1)) (x1 + (I 5)) h) (fun (r3, h2) => bd (F_T_number (x1 + (I 5)) x2 h2) (fun (r5, h4) => bd (F_H_addBed r3 r5 h4) (fun (r7, h6) => iw (if r7 < 0 then I 0 else I 1) (fun v8 => cd (v8 &&& 1 = v8) (some (v8, h6)))))) else if (h.1 30 (Int32.toNatClampNeg x1)) = I 112 then bd (F_T_number (x1 + (I 1)) (x1 + (I 3)) h) (fun (r13, h12) => bd (F_T_number (x1 + (I 3)) x2 h12) (fun (r15, h14) => bd (F_H_addPerson r13 r15 h14) (fun (r17, h16) => iw (if r17 < 0 then I 0 else I 1) (fun v18 => cd (v18 &&& 1 = v18) (some (v18, h16)))))) else if (h.1 30 (Int32.toNatClampNeg x1)) = I 119 then bd (F_T_number (x1 + (I 1)) (x1 + (I 2)) h) (fun (r23, h22) => bd (F_T_number (x1 + (I 2)) x2 h22) (fun (r25, h24) => bd (F_H_addWay r23 r25 h24) (fun (r27, h26) => iw (if r27 < 0 then I 0 else I 1) (fun v28 => cd (v28 &&& 1 = v28) (some (v28, h26)))))) else bd (F_T_tellTurns (x1 + (I 1)) x2 h) (fun (r32, h31) => cd (r32 &&& 1 = r32) (some (r32, h31))))
theorem A_T_tellStatement {x1 : Int32} {x2 : Int32} {h h' : MH} {v : Int32} (hF : F_T_tellStatement x1 x2 h = some (v, h')) : Ex 4 30 [.inr (.inl (some 29)), .inl x1, .inl x2, .inr (.inl (some 22))] h (some (.inl v), h') := by
  unfold F_T_tellStatement at hF
  refine ex_of (d := 3) rfl rfl ?_
  refine g_aload_n (q := 1) rfl rfl rfl ?_
  refine g_getR (q := 4) rfl (fun _ => rfl) rfl ?_
  refine g_iload_n (q := 5) rfl rfl rfl ?_
  obtain ⟨hi, hF⟩ := ck_I hF
  refine g_iaload (q := 6) rfl rfl rfl hi rfl ?_
  by_cases c1 : (h.1 30 (Int32.toNatClampNeg x1)) = I 98
  · rw [if_pos c1] at hF
    refine g_lsw (off := 34) (t := 40) rfl (by rw [c1]; decide +kernel) (by decide) ?_
    refine g_aload_n (q := 41) rfl rfl rfl ?_
    refine g_aload_n (q := 42) rfl rfl rfl ?_
    refine g_iload_n (q := 43) rfl rfl rfl ?_
    refine g_iconst (q := 44) rfl rfl ?_
    refine g_iadd (q := 45) rfl rfl ?_
    refine g_iload_n (q := 46) rfl rfl rfl ?_
    refine g_iconst (q := 47) rfl rfl ?_
    refine g_iadd (q := 48) rfl rfl ?_
    obtain ⟨⟨r3, h2⟩, hC, hF⟩ := bd_I hF
    dsimp only at hF
    refine g_ci3 (q := 51) rfl rfl (fun _ => rfl) rfl (A_T_number hC) (by decide +kernel) rfl ?_
    refine g_aload_n (q := 52) rfl rfl rfl ?_
    refine g_iload_n (q := 53) rfl rfl rfl ?_
    refine g_iconst (q := 54) rfl rfl ?_
    refine g_iadd (q := 55) rfl rfl ?_
    refine g_iload_n (q := 56) rfl rfl rfl ?_
    obtain ⟨⟨r5, h4⟩, hC, hF⟩ := bd_I hF
    dsimp only at hF
    refine g_ci3 (q := 59) rfl rfl (fun _ => rfl) rfl (A_T_number hC) (by decide +kernel) rfl ?_
    obtain ⟨⟨r7, h6⟩, hC, hF⟩ := bd_I hF
    dsimp only at hF
    refine g_ci3 (q := 62) rfl rfl (fun _ => rfl) rfl (A_H_addBed hC) (by decide +kernel) rfl ?_
    obtain ⟨v8, e_v8, hF⟩ := iw_I hF
    suffices K9 : Go 3 30 70 (mm_lf []) [.inl v8] h6 (some (.inl v), h') by
      clear hF
      by_cases c10 : r7 < 0
      · simp only [if_pos c10] at e_v8
        subst e_v8
        refine g_ifT rfl (decide_eq_true c10) ?_
        refine g_iconst (q := 70) rfl rfl ?_
        exact go_sub mm_sub0 K9
      · simp only [if_neg c10] at e_v8
        subst e_v8
        refine g_ifF (q := 65) rfl (decide_eq_false c10) rfl ?_
        refine g_iconst (q := 66) rfl rfl ?_
        refine g_goto rfl ?_
        exact go_sub mm_sub0 K9
    clear e_v8
    obtain ⟨hz, hF⟩ := cd_I hF
    injection hF with hF
    injection hF with hv hh
    subst hv
    subst hh
    exact g_zret rfl hz
  rw [if_neg c1] at hF
  by_cases c11 : (h.1 30 (Int32.toNatClampNeg x1)) = I 112
  · rw [if_pos c11] at hF
    refine g_lsw (off := 65) (t := 71) rfl (by rw [c11]; decide +kernel) (by decide) ?_
    refine g_aload_n (q := 72) rfl rfl rfl ?_
    refine g_aload_n (q := 73) rfl rfl rfl ?_
    refine g_iload_n (q := 74) rfl rfl rfl ?_
    refine g_iconst (q := 75) rfl rfl ?_
    refine g_iadd (q := 76) rfl rfl ?_
    refine g_iload_n (q := 77) rfl rfl rfl ?_
    refine g_iconst (q := 78) rfl rfl ?_
    refine g_iadd (q := 79) rfl rfl ?_
    obtain ⟨⟨r13, h12⟩, hC, hF⟩ := bd_I hF
    dsimp only at hF
    refine g_ci3 (q := 82) rfl rfl (fun _ => rfl) rfl (A_T_number hC) (by decide +kernel) rfl ?_
    refine g_aload_n (q := 83) rfl rfl rfl ?_
    refine g_iload_n (q := 84) rfl rfl rfl ?_
    refine g_iconst (q := 85) rfl rfl ?_
    refine g_iadd (q := 86) rfl rfl ?_
    refine g_iload_n (q := 87) rfl rfl rfl ?_
    obtain ⟨⟨r15, h14⟩, hC, hF⟩ := bd_I hF
    dsimp only at hF
    refine g_ci3 (q := 90) rfl rfl (fun _ => rfl) rfl (A_T_number hC) (by decide +kernel) rfl ?_
    obtain ⟨⟨r17, h16⟩, hC, hF⟩ := bd_I hF
    dsimp only at hF
    refine g_ci3 (q := 93) rfl rfl (fun _ => rfl) rfl (A_H_addPerson hC) (by decide +kernel) rfl ?_
    obtain ⟨v18, e_v18, hF⟩ := iw_I hF
    suffices K19 : Go 3 30 101 (mm_lf []) [.inl v18] h16 (some (.inl v), h') by
      clear hF
      by_cases c20 : r17 < 0
      · simp only [if_pos c20] at e_v18
        subst e_v18
        refine g_ifT rfl (decide_eq_true c20) ?_
        refine g_iconst (q := 101) rfl rfl ?_
        exact go_sub mm_sub0 K19
      · simp only [if_neg c20] at e_v18
        subst e_v18
        refine g_ifF (q := 96) rfl (decide_eq_false c20) rfl ?_
        refine g_iconst (q := 97) rfl rfl ?_
        refine g_goto rfl ?_
        exact go_sub mm_sub0 K19
    clear e_v18
    obtain ⟨hz, hF⟩ := cd_I hF
    injection hF with hF
    injection hF with hv hh
    subst hv
    subst hh
    exact g_zret rfl hz
  rw [if_neg c11] at hF
  by_cases c21 : (h.1 30 (Int32.toNatClampNeg x1)) = I 119
  · rw [if_pos c21] at hF
    refine g_lsw (off := 96) (t := 102) rfl (by rw [c21]; decide +kernel) (by decide) ?_
    refine g_aload_n (q := 103) rfl rfl rfl ?_
    refine g_aload_n (q := 104) rfl rfl rfl ?_
    refine g_iload_n (q := 105) rfl rfl rfl ?_
    refine g_iconst (q := 106) rfl rfl ?_
    refine g_iadd (q := 107) rfl rfl ?_
    refine g_iload_n (q := 108) rfl rfl rfl ?_
    refine g_iconst (q := 109) rfl rfl ?_
    refine g_iadd (q := 110) rfl rfl ?_
    obtain ⟨⟨r23, h22⟩, hC, hF⟩ := bd_I hF
    dsimp only at hF
    refine g_ci3 (q := 113) rfl rfl (fun _ => rfl) rfl (A_T_number hC) (by decide +kernel) rfl ?_
    refine g_aload_n (q := 114) rfl rfl rfl ?_
    refine g_iload_n (q := 115) rfl rfl rfl ?_
    refine g_iconst (q := 116) rfl rfl ?_
    refine g_iadd (q := 117) rfl rfl ?_
    refine g_iload_n (q := 118) rfl rfl rfl ?_
    obtain ⟨⟨r25, h24⟩, hC, hF⟩ := bd_I hF
    dsimp only at hF
    refine g_ci3 (q := 121) rfl rfl (fun _ => rfl) rfl (A_T_number hC) (by decide +kernel) rfl ?_
    obtain ⟨⟨r27, h26⟩, hC, hF⟩ := bd_I hF
    dsimp only at hF
    refine g_ci3 (q := 124) rfl rfl (fun _ => rfl) rfl (A_H_addWay hC) (by decide +kernel) rfl ?_
    obtain ⟨v28, e_v28, hF⟩ := iw_I hF
    suffices K29 : Go 3 30 132 (mm_lf []) [.inl v28] h26 (some (.inl v), h') by
      clear hF
      by_cases c30 : r27 < 0
      · simp only [if_pos c30] at e_v28
        subst e_v28
        refine g_ifT rfl (decide_eq_true c30) ?_
        refine g_iconst (q := 132) rfl rfl ?_
        exact go_sub mm_sub0 K29
      · simp only [if_neg c30] at e_v28
        subst e_v28
        refine g_ifF (q := 127) rfl (decide_eq_false c30) rfl ?_
        refine g_iconst (q := 128) rfl rfl ?_
        refine g_goto rfl ?_
        exact go_sub mm_sub0 K29
    clear e_v28
    obtain ⟨hz, hF⟩ := cd_I hF
    injection hF with hF
    injection hF with hv hh
    subst hv
    subst hh
    exact g_zret rfl hz
  rw [if_neg c21] at hF
  refine g_lsw (off := 127) (t := 133) rfl ((by refine mm_lswS c1 (by decide) ?_; refine mm_lswS c11 (by decide) ?_; refine mm_lswS c21 (by decide) ?_; rfl)) (by decide) ?_
  refine g_aload_n (q := 134) rfl rfl rfl ?_
  refine g_iload_n (q := 135) rfl rfl rfl ?_
  refine g_iconst (q := 136) rfl rfl ?_
  refine g_iadd (q := 137) rfl rfl ?_
  refine g_iload_n (q := 138) rfl rfl rfl ?_
  refine g_aload_n (q := 139) rfl rfl rfl ?_
  obtain ⟨⟨r32, h31⟩, hC, hF⟩ := bd_I hF
  dsimp only at hF
  refine g_ci4 (q := 142) rfl rfl (fun _ => rfl) rfl (A_T_tellTurns hC) (by decide +kernel) rfl ?_
  obtain ⟨hz, hF⟩ := cd_I hF
  injection hF with hF
  injection hF with hv hh
  subst hv
  subst hh
  exact g_zret rfl hz
def L_T_tellTo_4 : Nat → Int32 → Int32 → MH → Option ((Int32 × MH) ⊕ (MH))
  | 0, _, _, _ => none
  | n + 1, x2, x3, h => if (h.1 29 1) ≤ x3 then some (.inr (h)) else ck (mm_in x3 96) (if ¬ (h.1 30 (Int32.toNatClampNeg x3)) = (I 59) then L_T_tellTo_4 n x2 (x3 + I 1) h else bd (F_T_tellStatement x2 x3 h) (fun (r2, h1) => if ¬ r2 = 0 then L_T_tellTo_4 n (x3 + (I 1)) (x3 + I 1) h1 else some (.inl (x2, h1))))
/-- BothCorners$Letters.tellTo(LBothCorners$House;)I -/
def F_T_tellTo (h : MH) : Option (Int32 × MH) := be (L_T_tellTo_4 5000 (I 0) (I 0) h) (fun u7 => some u7) (fun h6 => some (I (-1), h6))
theorem A_L_T_tellTo_4 {r : MRs} : ∀ (n : Nat) (x2 : Int32) (x3 : Int32) (h : MH) (x : (Int32 × MH) ⊕ (MH)), L_T_tellTo_4 n x2 x3 h = some x → (∀ (u : Int32) (h' : MH), x = .inl (u, h') → r = (some (.inl u), h')) → (∀ (h' : MH), x = .inr (h') → Go 4 29 45 (mm_lf []) [] h' r) → Go 4 29 4 (mm_lf [(0, .inr (.inl (some 29))), (1, .inr (.inl (some 22))), (2, .inl x2), (3, .inl x3)]) [] h r
  | 0, _, _, _, _, hF, _, _ => by cases hF
  | n + 1, x2, x3, h, x, hF, KR, KX => by
    have ih := fun a2 a3 => A_L_T_tellTo_4 (r := r) n a2 a3 
    unfold L_T_tellTo_4 at hF
    refine g_iload_n (q := 5) rfl rfl rfl ?_
    refine g_aload_n (q := 6) rfl rfl rfl ?_
    refine g_getI (q := 9) rfl (fun _ => rfl) rfl ?_
    by_cases c5 : (h.1 29 1) ≤ x3
    · rw [if_pos c5] at hF
      refine g_icmpT rfl (decide_eq_true c5) ?_
      injection hF with hF
      subst hF
      exact go_sub mm_sub0 (KX  _ rfl)
    · rw [if_neg c5] at hF
      refine g_icmpF (q := 12) rfl (decide_eq_false c5) rfl ?_
      refine g_aload_n (q := 13) rfl rfl rfl ?_
      refine g_getR (q := 16) rfl (fun _ => rfl) rfl ?_
      refine g_iload_n (q := 17) rfl rfl rfl ?_
      obtain ⟨hi, hF⟩ := ck_I hF
      refine g_iaload (q := 18) rfl rfl rfl hi rfl ?_
      refine g_bipush (q := 20) rfl (by decide +kernel) rfl ?_
      by_cases c4 : ¬ (h.1 30 (Int32.toNatClampNeg x3)) = (I 59)
      · rw [if_pos c4] at hF
        refine g_icmpT rfl (decide_eq_true c4) ?_
        refine g_iinc (q := 42) rfl rfl rfl ?_
        refine g_goto rfl ?_
        refine go_sub (lo' := mm_lf [(0, .inr (.inl (some 29))), (1, .inr (.inl (some 22))), (2, .inl x2), (3, .inl (x3 + I 1))]) (mm_subc rfl (mm_subc rfl (mm_subc rfl (mm_subc rfl mm_sub0)))) ?_
        exact ih _ _ _ _ hF KR KX
      · rw [if_neg c4] at hF
        refine g_icmpF (q := 23) rfl (decide_eq_false c4) rfl ?_
        refine g_aload_n (q := 24) rfl rfl rfl ?_
        refine g_iload_n (q := 25) rfl rfl rfl ?_
        refine g_iload_n (q := 26) rfl rfl rfl ?_
        refine g_aload_n (q := 27) rfl rfl rfl ?_
        obtain ⟨⟨r2, h1⟩, hC, hF⟩ := bd_I hF
        dsimp only at hF
        refine g_ci4 (q := 30) rfl rfl (fun _ => rfl) rfl (A_T_tellStatement hC) (by decide +kernel) rfl ?_
        by_cases c3 : ¬ r2 = 0
        · rw [if_pos c3] at hF
          refine g_ifT rfl (decide_eq_true c3) ?_
          refine g_iload_n (q := 36) rfl rfl rfl ?_
          refine g_iconst (q := 37) rfl rfl ?_
          refine g_iadd (q := 38) rfl rfl ?_
          refine g_istore_n (q := 39) rfl rfl ?_
          refine g_iinc (q := 42) rfl rfl rfl ?_
          refine g_goto rfl ?_
          refine go_sub (lo' := mm_lf [(0, .inr (.inl (some 29))), (1, .inr (.inl (some 22))), (2, .inl (x3 + (I 1))), (3, .inl (x3 + I 1))]) (mm_subc rfl (mm_subc rfl (mm_subc rfl (mm_subc rfl mm_sub0)))) ?_
          exact ih _ _ _ _ hF KR KX
        · rw [if_neg c3] at hF
          refine g_ifF (q := 33) rfl (decide_eq_false c3) rfl ?_
          refine g_iload_n (q := 34) rfl rfl rfl ?_
          injection hF with hF
          subst hF
          rw [KR _ _ rfl]
          exact g_iret rfl
theorem A_T_tellTo {h h' : MH} {v : Int32} (hF : F_T_tellTo h = some (v, h')) : Ex 5 29 [.inr (.inl (some 29)), .inr (.inl (some 22))] h (some (.inl v), h') := by
  unfold F_T_tellTo at hF
  refine ex_of (d := 4) rfl rfl ?_
  refine g_iconst (q := 1) rfl rfl ?_
  refine g_istore_n (q := 2) rfl rfl ?_
  refine g_iconst (q := 3) rfl rfl ?_
  refine g_istore_n (q := 4) rfl rfl ?_
  refine go_sub (lo' := mm_lf [(0, .inr (.inl (some 29))), (1, .inr (.inl (some 22))), (2, .inl (I 0)), (3, .inl (I 0))]) (mm_subc rfl (mm_subc rfl (mm_subc rfl (mm_subc rfl mm_sub0)))) ?_
  rcases be_I hF with ⟨u, hC, hF⟩ | ⟨h6, hC, hF⟩
  · refine A_L_T_tellTo_4 5000 _ _ _ _ hC ?_ ?_
    · intro u2 h2 e2
      cases e2
      injection hF with hF
      injection hF with hv hh
      subst hv
      subst hh
      rfl
    · intro _ e2
      cases e2
  refine A_L_T_tellTo_4 5000 _ _ _ _ hC ?_ ?_
  · intro u2 h2 e2
    cases e2
  intro _ e2
  cases e2
  refine g_iconst (q := 46) rfl rfl ?_
  injection hF with hF
  injection hF with hv hh
  subst hv
  subst hh
  exact g_iret rfl
/-- BothCorners$House.copyFrom(LBothCorners$House;)V -/
def F_H_copyFrom_2 (h : MH) : Option (MH) := hw (mm_hcpy h.1 23 9 (Int32.toNatClampNeg (I 0)) (Int32.toNatClampNeg (I 0)) (Int32.toNatClampNeg (I 6)), h.2) (fun h1 => hw (mm_hcpy h1.1 24 10 (Int32.toNatClampNeg (I 0)) (Int32.toNatClampNeg (I 0)) (Int32.toNatClampNeg (I 6)), h1.2) (fun h2 => hw (mm_hcpy h2.1 25 11 (Int32.toNatClampNeg (I 0)) (Int32.toNatClampNeg (I 0)) (Int32.toNatClampNeg (I 4)), h2.2) (fun h3 => hw (mm_hcpy h3.1 26 12 (Int32.toNatClampNeg (I 0)) (Int32.toNatClampNeg (I 0)) (Int32.toNatClampNeg (I 4)), h3.2) (fun h4 => hw (mm_hcpy h4.1 27 13 (Int32.toNatClampNeg (I 0)) (Int32.toNatClampNeg (I 0)) (Int32.toNatClampNeg (I 6)), h4.2) (fun h5 => hw (mm_hcpy h5.1 28 14 (Int32.toNatClampNeg (I 0)) (Int32.toNatClampNeg (I 0)) (Int32.toNatClampNeg (I 6)), h5.2) (fun h6 => hw (mm_hset h6.1 8 7 (h6.1 22 7), h6.2) (fun h7 => hw (mm_hset h7.1 8 8 (h7.1 22 8), h7.2) (fun h8 => hw (mm_hset h8.1 8 9 (h8.1 22 9), h8.2) (fun h9 => hw (mm_hset h9.1 8 10 (h9.1 22 10), h9.2) (fun h10 => some h10))))))))))
theorem A_H_copyFrom_2 {h h' : MH} (hF : F_H_copyFrom_2 h = some h') : Ex 1 7 [.inr (.inl (some 8)), .inr (.inl (some 22))] h (none, h') := by
  unfold F_H_copyFrom_2 at hF
  refine ex_of (d := 0) rfl rfl ?_
  refine g_aload_n (q := 1) rfl rfl rfl ?_
  refine g_getR (q := 4) rfl (fun _ => rfl) rfl ?_
  refine g_iconst (q := 5) rfl rfl ?_
  refine g_aload_n (q := 6) rfl rfl rfl ?_
  refine g_getR (q := 9) rfl (fun _ => rfl) rfl ?_
  refine g_iconst (q := 10) rfl rfl ?_
  refine g_bipush (q := 12) rfl (by decide +kernel) rfl ?_
  refine g_copy (q := 15) rfl rfl rfl (by decide +kernel) rfl ?_
  obtain ⟨h1, e_h1, hF⟩ := hw_I hF
  rw [← e_h1]
  refine g_aload_n (q := 16) rfl rfl rfl ?_
  refine g_getR (q := 19) rfl (fun _ => rfl) rfl ?_
  refine g_iconst (q := 20) rfl rfl ?_
  refine g_aload_n (q := 21) rfl rfl rfl ?_
  refine g_getR (q := 24) rfl (fun _ => rfl) rfl ?_
  refine g_iconst (q := 25) rfl rfl ?_
  refine g_bipush (q := 27) rfl (by decide +kernel) rfl ?_
  refine g_copy (q := 30) rfl rfl rfl (by decide +kernel) rfl ?_
  obtain ⟨h2, e_h2, hF⟩ := hw_I hF
  rw [← e_h2]
  refine g_aload_n (q := 31) rfl rfl rfl ?_
  refine g_getR (q := 34) rfl (fun _ => rfl) rfl ?_
  refine g_iconst (q := 35) rfl rfl ?_
  refine g_aload_n (q := 36) rfl rfl rfl ?_
  refine g_getR (q := 39) rfl (fun _ => rfl) rfl ?_
  refine g_iconst (q := 40) rfl rfl ?_
  refine g_iconst (q := 41) rfl rfl ?_
  refine g_copy (q := 44) rfl rfl rfl (by decide +kernel) rfl ?_
  obtain ⟨h3, e_h3, hF⟩ := hw_I hF
  rw [← e_h3]
  refine g_aload_n (q := 45) rfl rfl rfl ?_
  refine g_getR (q := 48) rfl (fun _ => rfl) rfl ?_
  refine g_iconst (q := 49) rfl rfl ?_
  refine g_aload_n (q := 50) rfl rfl rfl ?_
  refine g_getR (q := 53) rfl (fun _ => rfl) rfl ?_
  refine g_iconst (q := 54) rfl rfl ?_
  refine g_iconst (q := 55) rfl rfl ?_
  refine g_copy (q := 58) rfl rfl rfl (by decide +kernel) rfl ?_
  obtain ⟨h4, e_h4, hF⟩ := hw_I hF
  rw [← e_h4]
  refine g_aload_n (q := 59) rfl rfl rfl ?_
  refine g_getR (q := 62) rfl (fun _ => rfl) rfl ?_
  refine g_iconst (q := 63) rfl rfl ?_
  refine g_aload_n (q := 64) rfl rfl rfl ?_
  refine g_getR (q := 67) rfl (fun _ => rfl) rfl ?_
  refine g_iconst (q := 68) rfl rfl ?_
  refine g_bipush (q := 70) rfl (by decide +kernel) rfl ?_
  refine g_copy (q := 73) rfl rfl rfl (by decide +kernel) rfl ?_
  obtain ⟨h5, e_h5, hF⟩ := hw_I hF
  rw [← e_h5]
  refine g_aload_n (q := 74) rfl rfl rfl ?_
  refine g_getR (q := 77) rfl (fun _ => rfl) rfl ?_
  refine g_iconst (q := 78) rfl rfl ?_
  refine g_aload_n (q := 79) rfl rfl rfl ?_
  refine g_getR (q := 82) rfl (fun _ => rfl) rfl ?_
  refine g_iconst (q := 83) rfl rfl ?_
  refine g_bipush (q := 85) rfl (by decide +kernel) rfl ?_
  refine g_copy (q := 88) rfl rfl rfl (by decide +kernel) rfl ?_
  obtain ⟨h6, e_h6, hF⟩ := hw_I hF
  rw [← e_h6]
  refine g_aload_n (q := 89) rfl rfl rfl ?_
  refine g_aload_n (q := 90) rfl rfl rfl ?_
  refine g_getI (q := 93) rfl (fun _ => rfl) rfl ?_
  refine g_putI (q := 96) rfl (fun _ => rfl) rfl ?_
  obtain ⟨h7, e_h7, hF⟩ := hw_I hF
  rw [← e_h7]
  refine g_aload_n (q := 97) rfl rfl rfl ?_
  refine g_aload_n (q := 98) rfl rfl rfl ?_
  refine g_getI (q := 101) rfl (fun _ => rfl) rfl ?_
  refine g_putI (q := 104) rfl (fun _ => rfl) rfl ?_
  obtain ⟨h8, e_h8, hF⟩ := hw_I hF
  rw [← e_h8]
  refine g_aload_n (q := 105) rfl rfl rfl ?_
  refine g_aload_n (q := 106) rfl rfl rfl ?_
  refine g_getI (q := 109) rfl (fun _ => rfl) rfl ?_
  refine g_putI (q := 112) rfl (fun _ => rfl) rfl ?_
  obtain ⟨h9, e_h9, hF⟩ := hw_I hF
  rw [← e_h9]
  refine g_aload_n (q := 113) rfl rfl rfl ?_
  refine g_aload_n (q := 114) rfl rfl rfl ?_
  refine g_getI (q := 117) rfl (fun _ => rfl) rfl ?_
  refine g_putI (q := 120) rfl (fun _ => rfl) rfl ?_
  obtain ⟨h10, e_h10, hF⟩ := hw_I hF
  rw [← e_h10]
  injection hF with hF
  subst hF
  exact g_vret rfl
def L_T_statements_4 : Nat → Int32 → Int32 → MH → Option (Int32 × MH)
  | 0, _, _, _ => none
  | n + 1, x1, x2, h => if (h.1 29 1) ≤ x2 then some (x1, h) else ck (mm_in x2 96) (iw (if ¬ (h.1 30 (Int32.toNatClampNeg x2)) = (I 59) then x1 else x1 + I 1) (fun v1 => L_T_statements_4 n v1 (x2 + I 1) h))
/-- BothCorners$Letters.statements()I -/
def F_T_statements (h : MH) : Option (Int32 × MH) := bd (L_T_statements_4 5000 (I 0) (I 0) h) (fun (y5, h6) => some (y5, h6))
theorem A_L_T_statements_4 {r : MRs} : ∀ (n : Nat) (x1 : Int32) (x2 : Int32) (h : MH) (x : Int32 × MH), L_T_statements_4 n x1 x2 h = some x → (True) → (∀ (e1 : Int32) (h' : MH), x = (e1, h') → Go 0 28 32 (mm_lf [(1, .inl e1)]) [] h' r) → Go 0 28 4 (mm_lf [(0, .inr (.inl (some 29))), (1, .inl x1), (2, .inl x2)]) [] h r
  | 0, _, _, _, _, hF, _, _ => by cases hF
  | n + 1, x1, x2, h, x, hF, KR, KX => by
    have ih := fun a1 a2 => A_L_T_statements_4 (r := r) n a1 a2 
    unfold L_T_statements_4 at hF
    refine g_iload_n (q := 5) rfl rfl rfl ?_
    refine g_aload_n (q := 6) rfl rfl rfl ?_
    refine g_getI (q := 9) rfl (fun _ => rfl) rfl ?_
    by_cases c4 : (h.1 29 1) ≤ x2
    · rw [if_pos c4] at hF
      refine g_icmpT rfl (decide_eq_true c4) ?_
      injection hF with hF
      subst hF
      exact go_sub (mm_subc rfl mm_sub0) (KX _ _ rfl)
    · rw [if_neg c4] at hF
      refine g_icmpF (q := 12) rfl (decide_eq_false c4) rfl ?_
      refine g_aload_n (q := 13) rfl rfl rfl ?_
      refine g_getR (q := 16) rfl (fun _ => rfl) rfl ?_
      refine g_iload_n (q := 17) rfl rfl rfl ?_
      obtain ⟨hi, hF⟩ := ck_I hF
      refine g_iaload (q := 18) rfl rfl rfl hi rfl ?_
      refine g_bipush (q := 20) rfl (by decide +kernel) rfl ?_
      obtain ⟨v1, e_v1, hF⟩ := iw_I hF
      suffices K2 : Go 0 28 26 (mm_lf [(0, .inr (.inl (some 29))), (1, .inl v1), (2, .inl x2)]) [] h r by
        clear hF
        by_cases c3 : ¬ (h.1 30 (Int32.toNatClampNeg x2)) = (I 59)
        · simp only [if_pos c3] at e_v1
          subst e_v1
          refine g_icmpT rfl (decide_eq_true c3) ?_
          exact go_sub (mm_subc rfl (mm_subc rfl (mm_subc rfl mm_sub0))) K2
        · simp only [if_neg c3] at e_v1
          subst e_v1
          refine g_icmpF (q := 23) rfl (decide_eq_false c3) rfl ?_
          refine g_iinc (q := 26) rfl rfl rfl ?_
          exact go_sub (mm_subc rfl (mm_subc rfl (mm_subc rfl mm_sub0))) K2
      clear e_v1
      refine g_iinc (q := 29) rfl rfl rfl ?_
      refine g_goto rfl ?_
      refine go_sub (lo' := mm_lf [(0, .inr (.inl (some 29))), (1, .inl v1), (2, .inl (x2 + I 1))]) (mm_subc rfl (mm_subc rfl (mm_subc rfl mm_sub0))) ?_
      exact ih _ _ _ _ hF KR KX
theorem A_T_statements {h h' : MH} {v : Int32} (hF : F_T_statements h = some (v, h')) : Ex 1 28 [.inr (.inl (some 29))] h (some (.inl v), h') := by
  unfold F_T_statements at hF
  refine ex_of (d := 0) rfl rfl ?_
  refine g_iconst (q := 1) rfl rfl ?_
  refine g_istore_n (q := 2) rfl rfl ?_
  refine g_iconst (q := 3) rfl rfl ?_
  refine g_istore_n (q := 4) rfl rfl ?_
  refine go_sub (lo' := mm_lf [(0, .inr (.inl (some 29))), (1, .inl (I 0)), (2, .inl (I 0))]) (mm_subc rfl (mm_subc rfl (mm_subc rfl mm_sub0))) ?_
  obtain ⟨⟨y5, h6⟩, hC, hF⟩ := bd_I hF
  dsimp only at hF
  refine A_L_T_statements_4 5000 _ _ _ _ hC trivial ?_
  intro _ _ e2
  cases e2
  refine g_iload_n (q := 33) rfl rfl rfl ?_
  injection hF with hF
  injection hF with hv hh
  subst hv
  subst hh
  exact g_iret rfl
/-- BothCorners.houseTold()I -/
def F_C_houseTold (h : MH) : Option (Int32 × MH) := bd (F_T_faultPlace h) (fun (r2, h1) => if r2 < 0 then bd (F_H_copyFrom h1) (fun h3 => bd (F_T_tellTo h3) (fun (r5, h4) => if r5 < 0 then bd (F_H_copyFrom_2 h4) (fun h6 => hw (mm_hset h6.1 31 3 (I 0), h6.2) (fun h7 => bd (F_T_statements h7) (fun (r9, h8) => some (r9, h8)))) else some ((I (-2000)) - r5, h4))) else some ((I (-1000)) - r2, h1))
theorem A_C_houseTold {h h' : MH} {v : Int32} (hF : F_C_houseTold h = some (v, h')) : Ex 6 130 [.inr (.inl (some 0))] h (some (.inl v), h') := by
  unfold F_C_houseTold at hF
  refine ex_of (d := 5) rfl rfl ?_
  refine g_aload_n (q := 1) rfl rfl rfl ?_
  refine g_getR (q := 4) rfl (fun _ => rfl) rfl ?_
  obtain ⟨⟨r2, h1⟩, hC, hF⟩ := bd_I hF
  dsimp only at hF
  refine g_ci1 (q := 7) rfl rfl (fun _ => rfl) rfl (A_T_faultPlace hC) (by decide +kernel) rfl ?_
  refine g_istore_n (q := 8) rfl rfl ?_
  refine g_iload_n (q := 9) rfl rfl rfl ?_
  by_cases c11 : r2 < 0
  · rw [if_pos c11] at hF
    refine g_ifT rfl (decide_eq_true c11) ?_
    refine g_aload_n (q := 19) rfl rfl rfl ?_
    refine g_getR (q := 22) rfl (fun _ => rfl) rfl ?_
    refine g_aload_n (q := 23) rfl rfl rfl ?_
    refine g_getR (q := 26) rfl (fun _ => rfl) rfl ?_
    obtain ⟨h3, hC, hF⟩ := bd_I hF
    refine g_cv2 (q := 29) rfl rfl (fun _ => rfl) rfl (A_H_copyFrom hC) (by decide +kernel) rfl ?_
    refine g_aload_n (q := 30) rfl rfl rfl ?_
    refine g_getR (q := 33) rfl (fun _ => rfl) rfl ?_
    refine g_aload_n (q := 34) rfl rfl rfl ?_
    refine g_getR (q := 37) rfl (fun _ => rfl) rfl ?_
    obtain ⟨⟨r5, h4⟩, hC, hF⟩ := bd_I hF
    dsimp only at hF
    refine g_ci2 (q := 40) rfl rfl (fun _ => rfl) rfl (A_T_tellTo hC) (by decide +kernel) rfl ?_
    refine g_istore_n (q := 41) rfl rfl ?_
    refine g_iload_n (q := 42) rfl rfl rfl ?_
    by_cases c10 : r5 < 0
    · rw [if_pos c10] at hF
      refine g_ifT rfl (decide_eq_true c10) ?_
      refine g_aload_n (q := 52) rfl rfl rfl ?_
      refine g_getR (q := 55) rfl (fun _ => rfl) rfl ?_
      refine g_aload_n (q := 56) rfl rfl rfl ?_
      refine g_getR (q := 59) rfl (fun _ => rfl) rfl ?_
      obtain ⟨h6, hC, hF⟩ := bd_I hF
      refine g_cv2 (q := 62) rfl rfl (fun _ => rfl) rfl (A_H_copyFrom_2 hC) (by decide +kernel) rfl ?_
      refine g_aload_n (q := 63) rfl rfl rfl ?_
      refine g_getR (q := 66) rfl (fun _ => rfl) rfl ?_
      refine g_iconst (q := 67) rfl rfl ?_
      refine g_putI (q := 70) rfl (fun _ => rfl) rfl ?_
      obtain ⟨h7, e_h7, hF⟩ := hw_I hF
      rw [← e_h7]
      refine g_aload_n (q := 71) rfl rfl rfl ?_
      refine g_getR (q := 74) rfl (fun _ => rfl) rfl ?_
      obtain ⟨⟨r9, h8⟩, hC, hF⟩ := bd_I hF
      dsimp only at hF
      refine g_ci1 (q := 77) rfl rfl (fun _ => rfl) rfl (A_T_statements hC) (by decide +kernel) rfl ?_
      injection hF with hF
      injection hF with hv hh
      subst hv
      subst hh
      exact g_iret rfl
    · rw [if_neg c10] at hF
      refine g_ifF (q := 45) rfl (decide_eq_false c10) rfl ?_
      refine g_sipush (q := 48) rfl (by decide +kernel) rfl ?_
      refine g_iload_n (q := 49) rfl rfl rfl ?_
      refine g_isub (q := 50) rfl rfl ?_
      injection hF with hF
      injection hF with hv hh
      subst hv
      subst hh
      exact g_iret rfl
  · rw [if_neg c11] at hF
    refine g_ifF (q := 12) rfl (decide_eq_false c11) rfl ?_
    refine g_sipush (q := 15) rfl (by decide +kernel) rfl ?_
    refine g_iload_n (q := 16) rfl rfl rfl ?_
    refine g_isub (q := 17) rfl rfl ?_
    injection hF with hF
    injection hF with hv hh
    subst hv
    subst hh
    exact g_iret rfl
/-- BothCorners.house()I -/
def F_C_house (h : MH) : Option (Int32 × MH) := bd (F_C_houseTold h) (fun (r2, h1) => hw (mm_hset h1.1 29 1 (I 0), h1.2) (fun h3 => some (r2, h3)))
theorem A_C_house {h h' : MH} {v : Int32} (hF : F_C_house h = some (v, h')) : Ex 7 62 [.inr (.inl (some 0))] h (some (.inl v), h') := by
  unfold F_C_house at hF
  refine ex_of (d := 6) rfl rfl ?_
  refine g_aload_n (q := 1) rfl rfl rfl ?_
  obtain ⟨⟨r2, h1⟩, hC, hF⟩ := bd_I hF
  dsimp only at hF
  refine g_ci1 (q := 4) rfl rfl (fun _ => rfl) rfl (A_C_houseTold hC) (by decide +kernel) rfl ?_
  refine g_istore_n (q := 5) rfl rfl ?_
  refine g_aload_n (q := 6) rfl rfl rfl ?_
  refine g_getR (q := 9) rfl (fun _ => rfl) rfl ?_
  refine g_iconst (q := 10) rfl rfl ?_
  refine g_putI (q := 13) rfl (fun _ => rfl) rfl ?_
  obtain ⟨h3, e_h3, hF⟩ := hw_I hF
  rw [← e_h3]
  refine g_iload_n (q := 14) rfl rfl rfl ?_
  injection hF with hF
  injection hF with hv hh
  subst hv
  subst hh
  exact g_iret rfl
/-- BothCorners.noBed(I)Z -/
def F_C_noBed (x1 : Int32) (h : MH) : Option (Int32 × MH) := if x1 < 0 then some (I 1, h) else iw (if x1 < (h.1 8 7) then I 0 else I 1) (fun v1 => cd (v1 &&& 1 = v1) (some (v1, h)))
theorem A_C_noBed {x1 : Int32} {h h' : MH} {v : Int32} (hF : F_C_noBed x1 h = some (v, h')) : Ex 1 120 [.inr (.inl (some 0)), .inl x1] h (some (.inl v), h') := by
  unfold F_C_noBed at hF
  refine ex_of (d := 0) rfl rfl ?_
  refine g_iload_n (q := 1) rfl rfl rfl ?_
  by_cases c4 : x1 < 0
  · rw [if_pos c4] at hF
    refine g_ifT rfl (decide_eq_true c4) ?_
    refine g_iconst (q := 16) rfl rfl ?_
    refine g_goto rfl ?_
    injection hF with hF
    injection hF with hv hh
    subst hv
    subst hh
    exact g_zret rfl (by decide +kernel)
  · rw [if_neg c4] at hF
    refine g_ifF (q := 4) rfl (decide_eq_false c4) rfl ?_
    refine g_iload_n (q := 5) rfl rfl rfl ?_
    refine g_aload_n (q := 6) rfl rfl rfl ?_
    refine g_getR (q := 9) rfl (fun _ => rfl) rfl ?_
    refine g_getI (q := 12) rfl (fun _ => rfl) rfl ?_
    obtain ⟨v1, e_v1, hF⟩ := iw_I hF
    suffices K2 : Go 0 120 20 (mm_lf []) [.inl v1] h (some (.inl v), h') by
      clear hF
      by_cases c3 : x1 < (h.1 8 7)
      · simp only [if_pos c3] at e_v1
        subst e_v1
        refine g_icmpT rfl (decide_eq_true c3) ?_
        refine g_iconst (q := 20) rfl rfl ?_
        exact go_sub mm_sub0 K2
      · simp only [if_neg c3] at e_v1
        subst e_v1
        refine g_icmpF (q := 15) rfl (decide_eq_false c3) rfl ?_
        refine g_iconst (q := 16) rfl rfl ?_
        refine g_goto rfl ?_
        exact go_sub mm_sub0 K2
    clear e_v1
    obtain ⟨hz, hF⟩ := cd_I hF
    injection hF with hF
    injection hF with hv hh
    subst hv
    subst hh
    exact g_zret rfl hz
/-- BothCorners.bedOf(II)I -/
def F_C_bedOf (x1 : Int32) (x2 : Int32) (h : MH) : Option (Int32 × MH) := bd (F_C_noBed x1 h) (fun (r2, h1) => if r2 = 0 then bd (F_C_otherThan x2 (I 3) h1) (fun (r4, h3) => if r4 = 0 then kw (fun (z5 : Int32) (h6 : MH) => if ¬ (irem x2 (I 2)) = 0 then bd (F_C_breadthOf z5 h6) (fun (r9, h8) => some (r9, h8)) else bd (F_C_lengthOf z5 h6) (fun (r11, h10) => some (r11, h10))) (fun k7 => if (I 2) ≤ x2 then ck (mm_in x1 6) (k7 (h3.1 10 (Int32.toNatClampNeg x1)) h3) else ck (mm_in x1 6) (k7 (h3.1 9 (Int32.toNatClampNeg x1)) h3)) else bd (F_C_refuse (I (-2)) h3) (fun (r16, h15) => some (r16, h15))) else bd (F_C_refuse (I (-1)) h1) (fun (r19, h18) => some (r19, h18)))
theorem A_C_bedOf {x1 : Int32} {x2 : Int32} {h h' : MH} {v : Int32} (hF : F_C_bedOf x1 x2 h = some (v, h')) : Ex 2 63 [.inr (.inl (some 0)), .inl x1, .inl x2] h (some (.inl v), h') := by
  unfold F_C_bedOf at hF
  refine ex_of (d := 1) rfl rfl ?_
  refine g_aload_n (q := 1) rfl rfl rfl ?_
  refine g_iload_n (q := 2) rfl rfl rfl ?_
  obtain ⟨⟨r2, h1⟩, hC, hF⟩ := bd_I hF
  dsimp only at hF
  refine g_ci2 (q := 5) rfl rfl (fun _ => rfl) rfl (A_C_noBed hC) (by decide +kernel) rfl ?_
  by_cases c20 : r2 = 0
  · rw [if_pos c20] at hF
    refine g_ifT rfl (decide_eq_true c20) ?_
    refine g_iload_n (q := 15) rfl rfl rfl ?_
    refine g_iconst (q := 16) rfl rfl ?_
    obtain ⟨⟨r4, h3⟩, hC, hF⟩ := bd_I hF
    dsimp only at hF
    refine g_ci2 (q := 19) rfl rfl (fun _ => rfl) rfl (A_C_otherThan hC) (by decide +kernel) rfl ?_
    by_cases c17 : r4 = 0
    · rw [if_pos c17] at hF
      refine g_ifT rfl (decide_eq_true c17) ?_
      refine g_iload_n (q := 30) rfl rfl rfl ?_
      refine g_iconst (q := 31) rfl rfl ?_
      obtain ⟨k7, e_k7, hF⟩ := kw_I hF
      have K13 : ∀ (z5 : Int32) (h6 : MH), k7 z5 h6 = some (v, h') → Go 1 63 55 (mm_lf [(2, .inl x2)]) [.inl z5] h6 (some (.inl v), h') := by
        intro z5 h6 hF
        rw [e_k7] at hF
        dsimp only at hF
        refine g_istore_n (q := 56) rfl rfl ?_
        refine g_iload_n (q := 57) rfl rfl rfl ?_
        refine g_iconst (q := 58) rfl rfl ?_
        refine g_irem (q := 59) rfl (by decide +kernel) rfl ?_
        by_cases c12 : ¬ (irem x2 (I 2)) = 0
        · rw [if_pos c12] at hF
          refine g_ifT rfl (decide_eq_true c12) ?_
          refine g_iload_n (q := 70) rfl rfl rfl ?_
          obtain ⟨⟨r9, h8⟩, hC, hF⟩ := bd_I hF
          dsimp only at hF
          refine g_ci1 (q := 73) rfl rfl (fun _ => rfl) rfl (A_C_breadthOf hC) (by decide +kernel) rfl ?_
          injection hF with hF
          injection hF with hv hh
          subst hv
          subst hh
          exact g_iret rfl
        · rw [if_neg c12] at hF
          refine g_ifF (q := 62) rfl (decide_eq_false c12) rfl ?_
          refine g_iload_n (q := 63) rfl rfl rfl ?_
          obtain ⟨⟨r11, h10⟩, hC, hF⟩ := bd_I hF
          dsimp only at hF
          refine g_ci1 (q := 66) rfl rfl (fun _ => rfl) rfl (A_C_lengthOf hC) (by decide +kernel) rfl ?_
          refine g_goto rfl ?_
          injection hF with hF
          injection hF with hv hh
          subst hv
          subst hh
          exact g_iret rfl
      clear e_k7
      by_cases c14 : (I 2) ≤ x2
      · rw [if_pos c14] at hF
        refine g_icmpT rfl (decide_eq_true c14) ?_
        refine g_aload_n (q := 47) rfl rfl rfl ?_
        refine g_getR (q := 50) rfl (fun _ => rfl) rfl ?_
        refine g_getR (q := 53) rfl (fun _ => rfl) rfl ?_
        refine g_iload_n (q := 54) rfl rfl rfl ?_
        obtain ⟨hi, hF⟩ := ck_I hF
        refine g_iaload (q := 55) rfl rfl rfl hi rfl ?_
        exact go_sub (mm_subc rfl mm_sub0) (K13 _ _ hF)
      · rw [if_neg c14] at hF
        refine g_icmpF (q := 34) rfl (decide_eq_false c14) rfl ?_
        refine g_aload_n (q := 35) rfl rfl rfl ?_
        refine g_getR (q := 38) rfl (fun _ => rfl) rfl ?_
        refine g_getR (q := 41) rfl (fun _ => rfl) rfl ?_
        refine g_iload_n (q := 42) rfl rfl rfl ?_
        obtain ⟨hi, hF⟩ := ck_I hF
        refine g_iaload (q := 43) rfl rfl rfl hi rfl ?_
        refine g_goto rfl ?_
        exact go_sub (mm_subc rfl mm_sub0) (K13 _ _ hF)
    · rw [if_neg c17] at hF
      refine g_ifF (q := 22) rfl (decide_eq_false c17) rfl ?_
      refine g_aload_n (q := 23) rfl rfl rfl ?_
      refine g_bipush (q := 25) rfl (by decide +kernel) rfl ?_
      obtain ⟨⟨r16, h15⟩, hC, hF⟩ := bd_I hF
      dsimp only at hF
      refine g_ci2 (q := 28) rfl rfl (fun _ => rfl) rfl (A_C_refuse hC) (by decide +kernel) rfl ?_
      injection hF with hF
      injection hF with hv hh
      subst hv
      subst hh
      exact g_iret rfl
  · rw [if_neg c20] at hF
    refine g_ifF (q := 8) rfl (decide_eq_false c20) rfl ?_
    refine g_aload_n (q := 9) rfl rfl rfl ?_
    refine g_iconst (q := 10) rfl rfl ?_
    obtain ⟨⟨r19, h18⟩, hC, hF⟩ := bd_I hF
    dsimp only at hF
    refine g_ci2 (q := 13) rfl rfl (fun _ => rfl) rfl (A_C_refuse hC) (by decide +kernel) rfl ?_
    injection hF with hF
    injection hF with hv hh
    subst hv
    subst hh
    exact g_iret rfl
/-- BothCorners.noOne(I)Z -/
def F_C_noOne (x1 : Int32) (h : MH) : Option (Int32 × MH) := if x1 < 0 then some (I 1, h) else iw (if x1 < (h.1 8 8) then I 0 else I 1) (fun v1 => cd (v1 &&& 1 = v1) (some (v1, h)))
theorem A_C_noOne {x1 : Int32} {h h' : MH} {v : Int32} (hF : F_C_noOne x1 h = some (v, h')) : Ex 1 121 [.inr (.inl (some 0)), .inl x1] h (some (.inl v), h') := by
  unfold F_C_noOne at hF
  refine ex_of (d := 0) rfl rfl ?_
  refine g_iload_n (q := 1) rfl rfl rfl ?_
  by_cases c4 : x1 < 0
  · rw [if_pos c4] at hF
    refine g_ifT rfl (decide_eq_true c4) ?_
    refine g_iconst (q := 16) rfl rfl ?_
    refine g_goto rfl ?_
    injection hF with hF
    injection hF with hv hh
    subst hv
    subst hh
    exact g_zret rfl (by decide +kernel)
  · rw [if_neg c4] at hF
    refine g_ifF (q := 4) rfl (decide_eq_false c4) rfl ?_
    refine g_iload_n (q := 5) rfl rfl rfl ?_
    refine g_aload_n (q := 6) rfl rfl rfl ?_
    refine g_getR (q := 9) rfl (fun _ => rfl) rfl ?_
    refine g_getI (q := 12) rfl (fun _ => rfl) rfl ?_
    obtain ⟨v1, e_v1, hF⟩ := iw_I hF
    suffices K2 : Go 0 121 20 (mm_lf []) [.inl v1] h (some (.inl v), h') by
      clear hF
      by_cases c3 : x1 < (h.1 8 8)
      · simp only [if_pos c3] at e_v1
        subst e_v1
        refine g_icmpT rfl (decide_eq_true c3) ?_
        refine g_iconst (q := 20) rfl rfl ?_
        exact go_sub mm_sub0 K2
      · simp only [if_neg c3] at e_v1
        subst e_v1
        refine g_icmpF (q := 15) rfl (decide_eq_false c3) rfl ?_
        refine g_iconst (q := 16) rfl rfl ?_
        refine g_goto rfl ?_
        exact go_sub mm_sub0 K2
    clear e_v1
    obtain ⟨hz, hF⟩ := cd_I hF
    injection hF with hF
    injection hF with hv hh
    subst hv
    subst hh
    exact g_zret rfl hz
/-- BothCorners.personOf(II)I -/
def F_C_personOf (x1 : Int32) (x2 : Int32) (h : MH) : Option (Int32 × MH) := bd (F_C_noOne x1 h) (fun (r2, h1) => if r2 = 0 then bd (F_C_otherThan x2 (I 1) h1) (fun (r4, h3) => if r4 = 0 then if ¬ x2 = 0 then ck (mm_in x1 4) (some (h3.1 12 (Int32.toNatClampNeg x1), h3)) else ck (mm_in x1 4) (some (h3.1 11 (Int32.toNatClampNeg x1), h3)) else bd (F_C_refuse (I (-2)) h3) (fun (r7, h6) => some (r7, h6))) else bd (F_C_refuse (I (-1)) h1) (fun (r10, h9) => some (r10, h9)))
theorem A_C_personOf {x1 : Int32} {x2 : Int32} {h h' : MH} {v : Int32} (hF : F_C_personOf x1 x2 h = some (v, h')) : Ex 2 64 [.inr (.inl (some 0)), .inl x1, .inl x2] h (some (.inl v), h') := by
  unfold F_C_personOf at hF
  refine ex_of (d := 1) rfl rfl ?_
  refine g_aload_n (q := 1) rfl rfl rfl ?_
  refine g_iload_n (q := 2) rfl rfl rfl ?_
  obtain ⟨⟨r2, h1⟩, hC, hF⟩ := bd_I hF
  dsimp only at hF
  refine g_ci2 (q := 5) rfl rfl (fun _ => rfl) rfl (A_C_noOne hC) (by decide +kernel) rfl ?_
  by_cases c11 : r2 = 0
  · rw [if_pos c11] at hF
    refine g_ifT rfl (decide_eq_true c11) ?_
    refine g_iload_n (q := 15) rfl rfl rfl ?_
    refine g_iconst (q := 16) rfl rfl ?_
    obtain ⟨⟨r4, h3⟩, hC, hF⟩ := bd_I hF
    dsimp only at hF
    refine g_ci2 (q := 19) rfl rfl (fun _ => rfl) rfl (A_C_otherThan hC) (by decide +kernel) rfl ?_
    by_cases c8 : r4 = 0
    · rw [if_pos c8] at hF
      refine g_ifT rfl (decide_eq_true c8) ?_
      refine g_iload_n (q := 30) rfl rfl rfl ?_
      by_cases c5 : ¬ x2 = 0
      · rw [if_pos c5] at hF
        refine g_ifT rfl (decide_eq_true c5) ?_
        refine g_aload_n (q := 46) rfl rfl rfl ?_
        refine g_getR (q := 49) rfl (fun _ => rfl) rfl ?_
        refine g_getR (q := 52) rfl (fun _ => rfl) rfl ?_
        refine g_iload_n (q := 53) rfl rfl rfl ?_
        obtain ⟨hi, hF⟩ := ck_I hF
        refine g_iaload (q := 54) rfl rfl rfl hi rfl ?_
        injection hF with hF
        injection hF with hv hh
        subst hv
        subst hh
        exact g_iret rfl
      · rw [if_neg c5] at hF
        refine g_ifF (q := 33) rfl (decide_eq_false c5) rfl ?_
        refine g_aload_n (q := 34) rfl rfl rfl ?_
        refine g_getR (q := 37) rfl (fun _ => rfl) rfl ?_
        refine g_getR (q := 40) rfl (fun _ => rfl) rfl ?_
        refine g_iload_n (q := 41) rfl rfl rfl ?_
        obtain ⟨hi, hF⟩ := ck_I hF
        refine g_iaload (q := 42) rfl rfl rfl hi rfl ?_
        refine g_goto rfl ?_
        injection hF with hF
        injection hF with hv hh
        subst hv
        subst hh
        exact g_iret rfl
    · rw [if_neg c8] at hF
      refine g_ifF (q := 22) rfl (decide_eq_false c8) rfl ?_
      refine g_aload_n (q := 23) rfl rfl rfl ?_
      refine g_bipush (q := 25) rfl (by decide +kernel) rfl ?_
      obtain ⟨⟨r7, h6⟩, hC, hF⟩ := bd_I hF
      dsimp only at hF
      refine g_ci2 (q := 28) rfl rfl (fun _ => rfl) rfl (A_C_refuse hC) (by decide +kernel) rfl ?_
      injection hF with hF
      injection hF with hv hh
      subst hv
      subst hh
      exact g_iret rfl
  · rw [if_neg c11] at hF
    refine g_ifF (q := 8) rfl (decide_eq_false c11) rfl ?_
    refine g_aload_n (q := 9) rfl rfl rfl ?_
    refine g_iconst (q := 10) rfl rfl ?_
    obtain ⟨⟨r10, h9⟩, hC, hF⟩ := bd_I hF
    dsimp only at hF
    refine g_ci2 (q := 13) rfl rfl (fun _ => rfl) rfl (A_C_refuse hC) (by decide +kernel) rfl ?_
    injection hF with hF
    injection hF with hv hh
    subst hv
    subst hh
    exact g_iret rfl
/-- BothCorners.noWay(I)Z -/
def F_C_noWay (x1 : Int32) (h : MH) : Option (Int32 × MH) := if x1 < 0 then some (I 1, h) else iw (if x1 < (h.1 8 9) then I 0 else I 1) (fun v1 => cd (v1 &&& 1 = v1) (some (v1, h)))
theorem A_C_noWay {x1 : Int32} {h h' : MH} {v : Int32} (hF : F_C_noWay x1 h = some (v, h')) : Ex 1 122 [.inr (.inl (some 0)), .inl x1] h (some (.inl v), h') := by
  unfold F_C_noWay at hF
  refine ex_of (d := 0) rfl rfl ?_
  refine g_iload_n (q := 1) rfl rfl rfl ?_
  by_cases c4 : x1 < 0
  · rw [if_pos c4] at hF
    refine g_ifT rfl (decide_eq_true c4) ?_
    refine g_iconst (q := 16) rfl rfl ?_
    refine g_goto rfl ?_
    injection hF with hF
    injection hF with hv hh
    subst hv
    subst hh
    exact g_zret rfl (by decide +kernel)
  · rw [if_neg c4] at hF
    refine g_ifF (q := 4) rfl (decide_eq_false c4) rfl ?_
    refine g_iload_n (q := 5) rfl rfl rfl ?_
    refine g_aload_n (q := 6) rfl rfl rfl ?_
    refine g_getR (q := 9) rfl (fun _ => rfl) rfl ?_
    refine g_getI (q := 12) rfl (fun _ => rfl) rfl ?_
    obtain ⟨v1, e_v1, hF⟩ := iw_I hF
    suffices K2 : Go 0 122 20 (mm_lf []) [.inl v1] h (some (.inl v), h') by
      clear hF
      by_cases c3 : x1 < (h.1 8 9)
      · simp only [if_pos c3] at e_v1
        subst e_v1
        refine g_icmpT rfl (decide_eq_true c3) ?_
        refine g_iconst (q := 20) rfl rfl ?_
        exact go_sub mm_sub0 K2
      · simp only [if_neg c3] at e_v1
        subst e_v1
        refine g_icmpF (q := 15) rfl (decide_eq_false c3) rfl ?_
        refine g_iconst (q := 16) rfl rfl ?_
        refine g_goto rfl ?_
        exact go_sub mm_sub0 K2
    clear e_v1
    obtain ⟨hz, hF⟩ := cd_I hF
    injection hF with hF
    injection hF with hv hh
    subst hv
    subst hh
    exact g_zret rfl hz
/-- BothCorners.wayOf(II)I -/
def F_C_wayOf (x1 : Int32) (x2 : Int32) (h : MH) : Option (Int32 × MH) := bd (F_C_noWay x1 h) (fun (r2, h1) => if r2 = 0 then bd (F_C_otherThan x2 (I 1) h1) (fun (r4, h3) => if r4 = 0 then if ¬ x2 = 0 then ck (mm_in x1 6) (some (h3.1 14 (Int32.toNatClampNeg x1), h3)) else ck (mm_in x1 6) (some (h3.1 13 (Int32.toNatClampNeg x1), h3)) else bd (F_C_refuse (I (-2)) h3) (fun (r7, h6) => some (r7, h6))) else bd (F_C_refuse (I (-1)) h1) (fun (r10, h9) => some (r10, h9)))
theorem A_C_wayOf {x1 : Int32} {x2 : Int32} {h h' : MH} {v : Int32} (hF : F_C_wayOf x1 x2 h = some (v, h')) : Ex 2 65 [.inr (.inl (some 0)), .inl x1, .inl x2] h (some (.inl v), h') := by
  unfold F_C_wayOf at hF
  refine ex_of (d := 1) rfl rfl ?_
  refine g_aload_n (q := 1) rfl rfl rfl ?_
  refine g_iload_n (q := 2) rfl rfl rfl ?_
  obtain ⟨⟨r2, h1⟩, hC, hF⟩ := bd_I hF
  dsimp only at hF
  refine g_ci2 (q := 5) rfl rfl (fun _ => rfl) rfl (A_C_noWay hC) (by decide +kernel) rfl ?_
  by_cases c11 : r2 = 0
  · rw [if_pos c11] at hF
    refine g_ifT rfl (decide_eq_true c11) ?_
    refine g_iload_n (q := 15) rfl rfl rfl ?_
    refine g_iconst (q := 16) rfl rfl ?_
    obtain ⟨⟨r4, h3⟩, hC, hF⟩ := bd_I hF
    dsimp only at hF
    refine g_ci2 (q := 19) rfl rfl (fun _ => rfl) rfl (A_C_otherThan hC) (by decide +kernel) rfl ?_
    by_cases c8 : r4 = 0
    · rw [if_pos c8] at hF
      refine g_ifT rfl (decide_eq_true c8) ?_
      refine g_iload_n (q := 30) rfl rfl rfl ?_
      by_cases c5 : ¬ x2 = 0
      · rw [if_pos c5] at hF
        refine g_ifT rfl (decide_eq_true c5) ?_
        refine g_aload_n (q := 46) rfl rfl rfl ?_
        refine g_getR (q := 49) rfl (fun _ => rfl) rfl ?_
        refine g_getR (q := 52) rfl (fun _ => rfl) rfl ?_
        refine g_iload_n (q := 53) rfl rfl rfl ?_
        obtain ⟨hi, hF⟩ := ck_I hF
        refine g_iaload (q := 54) rfl rfl rfl hi rfl ?_
        injection hF with hF
        injection hF with hv hh
        subst hv
        subst hh
        exact g_iret rfl
      · rw [if_neg c5] at hF
        refine g_ifF (q := 33) rfl (decide_eq_false c5) rfl ?_
        refine g_aload_n (q := 34) rfl rfl rfl ?_
        refine g_getR (q := 37) rfl (fun _ => rfl) rfl ?_
        refine g_getR (q := 40) rfl (fun _ => rfl) rfl ?_
        refine g_iload_n (q := 41) rfl rfl rfl ?_
        obtain ⟨hi, hF⟩ := ck_I hF
        refine g_iaload (q := 42) rfl rfl rfl hi rfl ?_
        refine g_goto rfl ?_
        injection hF with hF
        injection hF with hv hh
        subst hv
        subst hh
        exact g_iret rfl
    · rw [if_neg c8] at hF
      refine g_ifF (q := 22) rfl (decide_eq_false c8) rfl ?_
      refine g_aload_n (q := 23) rfl rfl rfl ?_
      refine g_bipush (q := 25) rfl (by decide +kernel) rfl ?_
      obtain ⟨⟨r7, h6⟩, hC, hF⟩ := bd_I hF
      dsimp only at hF
      refine g_ci2 (q := 28) rfl rfl (fun _ => rfl) rfl (A_C_refuse hC) (by decide +kernel) rfl ?_
      injection hF with hF
      injection hF with hv hh
      subst hv
      subst hh
      exact g_iret rfl
  · rw [if_neg c11] at hF
    refine g_ifF (q := 8) rfl (decide_eq_false c11) rfl ?_
    refine g_aload_n (q := 9) rfl rfl rfl ?_
    refine g_iconst (q := 10) rfl rfl ?_
    obtain ⟨⟨r10, h9⟩, hC, hF⟩ := bd_I hF
    dsimp only at hF
    refine g_ci2 (q := 13) rfl rfl (fun _ => rfl) rfl (A_C_refuse hC) (by decide +kernel) rfl ?_
    injection hF with hF
    injection hF with hv hh
    subst hv
    subst hh
    exact g_iret rfl
/-- BothCorners$House.addBed(II)I -/
def F_H_addBed_2 (x1 : Int32) (x2 : Int32) (h : MH) : Option (Int32 × MH) := bd (F_C_tooSmall x1 h) (fun (r2, h1) => if ¬ r2 = 0 then some (I (-4), h1) else bd (F_C_tooSmall x2 h1) (fun (r4, h3) => if r4 = 0 then bd (F_C_tooLarge x1 h3) (fun (r6, h5) => if ¬ r6 = 0 then some (I (-6), h5) else bd (F_C_tooLarge x2 h5) (fun (r8, h7) => if ¬ r8 = 0 then some (I (-6), h7) else if (h7.1 8 7) < (I 6) then ck (mm_in (h7.1 8 7) 6) (hw (mm_hset h7.1 9 (Int32.toNatClampNeg (h7.1 8 7)) x1, h7.2) (fun h9 => ck (mm_in (h9.1 8 7) 6) (hw (mm_hset h9.1 10 (Int32.toNatClampNeg (h9.1 8 7)) x2, h9.2) (fun h10 => hw (mm_hset h10.1 8 7 ((h10.1 8 7) + (I 1)), h10.2) (fun h11 => some ((h11.1 8 7) - (I 1), h11)))))) else some (I (-6), h7))) else some (I (-4), h3)))
theorem A_H_addBed_2 {x1 : Int32} {x2 : Int32} {h h' : MH} {v : Int32} (hF : F_H_addBed_2 x1 x2 h = some (v, h')) : Ex 3 8 [.inr (.inl (some 8)), .inl x1, .inl x2] h (some (.inl v), h') := by
  unfold F_H_addBed_2 at hF
  refine ex_of (d := 2) rfl rfl ?_
  refine g_iload_n (q := 1) rfl rfl rfl ?_
  obtain ⟨⟨r2, h1⟩, hC, hF⟩ := bd_I hF
  dsimp only at hF
  refine g_ci1 (q := 4) rfl rfl (fun _ => rfl) rfl (A_C_tooSmall hC) (by decide +kernel) rfl ?_
  by_cases c16 : ¬ r2 = 0
  · rw [if_pos c16] at hF
    refine g_ifT rfl (decide_eq_true c16) ?_
    refine g_bipush (q := 16) rfl (by decide +kernel) rfl ?_
    injection hF with hF
    injection hF with hv hh
    subst hv
    subst hh
    exact g_iret rfl
  · rw [if_neg c16] at hF
    refine g_ifF (q := 7) rfl (decide_eq_false c16) rfl ?_
    refine g_iload_n (q := 8) rfl rfl rfl ?_
    obtain ⟨⟨r4, h3⟩, hC, hF⟩ := bd_I hF
    dsimp only at hF
    refine g_ci1 (q := 11) rfl rfl (fun _ => rfl) rfl (A_C_tooSmall hC) (by decide +kernel) rfl ?_
    by_cases c15 : r4 = 0
    · rw [if_pos c15] at hF
      refine g_ifT rfl (decide_eq_true c15) ?_
      refine g_iload_n (q := 18) rfl rfl rfl ?_
      obtain ⟨⟨r6, h5⟩, hC, hF⟩ := bd_I hF
      dsimp only at hF
      refine g_ci1 (q := 21) rfl rfl (fun _ => rfl) rfl (A_C_tooLarge hC) (by decide +kernel) rfl ?_
      by_cases c14 : ¬ r6 = 0
      · rw [if_pos c14] at hF
        refine g_ifT rfl (decide_eq_true c14) ?_
        refine g_bipush (q := 42) rfl (by decide +kernel) rfl ?_
        injection hF with hF
        injection hF with hv hh
        subst hv
        subst hh
        exact g_iret rfl
      · rw [if_neg c14] at hF
        refine g_ifF (q := 24) rfl (decide_eq_false c14) rfl ?_
        refine g_iload_n (q := 25) rfl rfl rfl ?_
        obtain ⟨⟨r8, h7⟩, hC, hF⟩ := bd_I hF
        dsimp only at hF
        refine g_ci1 (q := 28) rfl rfl (fun _ => rfl) rfl (A_C_tooLarge hC) (by decide +kernel) rfl ?_
        by_cases c13 : ¬ r8 = 0
        · rw [if_pos c13] at hF
          refine g_ifT rfl (decide_eq_true c13) ?_
          refine g_bipush (q := 42) rfl (by decide +kernel) rfl ?_
          injection hF with hF
          injection hF with hv hh
          subst hv
          subst hh
          exact g_iret rfl
        · rw [if_neg c13] at hF
          refine g_ifF (q := 31) rfl (decide_eq_false c13) rfl ?_
          refine g_aload_n (q := 32) rfl rfl rfl ?_
          refine g_getI (q := 35) rfl (fun _ => rfl) rfl ?_
          refine g_bipush (q := 37) rfl (by decide +kernel) rfl ?_
          by_cases c12 : (h7.1 8 7) < (I 6)
          · rw [if_pos c12] at hF
            refine g_icmpT rfl (decide_eq_true c12) ?_
            refine g_aload_n (q := 44) rfl rfl rfl ?_
            refine g_getR (q := 47) rfl (fun _ => rfl) rfl ?_
            refine g_aload_n (q := 48) rfl rfl rfl ?_
            refine g_getI (q := 51) rfl (fun _ => rfl) rfl ?_
            refine g_iload_n (q := 52) rfl rfl rfl ?_
            obtain ⟨hi, hF⟩ := ck_I hF
            refine g_iastore (q := 53) rfl rfl rfl hi rfl ?_
            obtain ⟨h9, e_h9, hF⟩ := hw_I hF
            rw [← e_h9]
            refine g_aload_n (q := 54) rfl rfl rfl ?_
            refine g_getR (q := 57) rfl (fun _ => rfl) rfl ?_
            refine g_aload_n (q := 58) rfl rfl rfl ?_
            refine g_getI (q := 61) rfl (fun _ => rfl) rfl ?_
            refine g_iload_n (q := 62) rfl rfl rfl ?_
            obtain ⟨hi, hF⟩ := ck_I hF
            refine g_iastore (q := 63) rfl rfl rfl hi rfl ?_
            obtain ⟨h10, e_h10, hF⟩ := hw_I hF
            rw [← e_h10]
            refine g_aload_n (q := 64) rfl rfl rfl ?_
            refine g_dup (q := 65) rfl rfl rfl ?_
            refine g_getI (q := 68) rfl (fun _ => rfl) rfl ?_
            refine g_iconst (q := 69) rfl rfl ?_
            refine g_iadd (q := 70) rfl rfl ?_
            refine g_putI (q := 73) rfl (fun _ => rfl) rfl ?_
            obtain ⟨h11, e_h11, hF⟩ := hw_I hF
            rw [← e_h11]
            refine g_aload_n (q := 74) rfl rfl rfl ?_
            refine g_getI (q := 77) rfl (fun _ => rfl) rfl ?_
            refine g_iconst (q := 78) rfl rfl ?_
            refine g_isub (q := 79) rfl rfl ?_
            injection hF with hF
            injection hF with hv hh
            subst hv
            subst hh
            exact g_iret rfl
          · rw [if_neg c12] at hF
            refine g_icmpF (q := 40) rfl (decide_eq_false c12) rfl ?_
            refine g_bipush (q := 42) rfl (by decide +kernel) rfl ?_
            injection hF with hF
            injection hF with hv hh
            subst hv
            subst hh
            exact g_iret rfl
    · rw [if_neg c15] at hF
      refine g_ifF (q := 14) rfl (decide_eq_false c15) rfl ?_
      refine g_bipush (q := 16) rfl (by decide +kernel) rfl ?_
      injection hF with hF
      injection hF with hv hh
      subst hv
      subst hh
      exact g_iret rfl
/-- BothCorners.comes(I)I -/
def F_C_comes (x1 : Int32) (h : MH) : Option (Int32 × MH) := if 0 ≤ x1 then hw (mm_hset h.1 31 3 (I 0), h.2) (fun h1 => some (x1, h1)) else bd (F_C_refuse x1 h) (fun (r3, h2) => some (r3, h2))
theorem A_C_comes {x1 : Int32} {h h' : MH} {v : Int32} (hF : F_C_comes x1 h = some (v, h')) : Ex 2 129 [.inr (.inl (some 0)), .inl x1] h (some (.inl v), h') := by
  unfold F_C_comes at hF
  refine ex_of (d := 1) rfl rfl ?_
  refine g_iload_n (q := 1) rfl rfl rfl ?_
  by_cases c4 : 0 ≤ x1
  · rw [if_pos c4] at hF
    refine g_ifT rfl (decide_eq_true c4) ?_
    refine g_aload_n (q := 11) rfl rfl rfl ?_
    refine g_getR (q := 14) rfl (fun _ => rfl) rfl ?_
    refine g_iconst (q := 15) rfl rfl ?_
    refine g_putI (q := 18) rfl (fun _ => rfl) rfl ?_
    obtain ⟨h1, e_h1, hF⟩ := hw_I hF
    rw [← e_h1]
    refine g_iload_n (q := 19) rfl rfl rfl ?_
    injection hF with hF
    injection hF with hv hh
    subst hv
    subst hh
    exact g_iret rfl
  · rw [if_neg c4] at hF
    refine g_ifF (q := 4) rfl (decide_eq_false c4) rfl ?_
    refine g_aload_n (q := 5) rfl rfl rfl ?_
    refine g_iload_n (q := 6) rfl rfl rfl ?_
    obtain ⟨⟨r3, h2⟩, hC, hF⟩ := bd_I hF
    dsimp only at hF
    refine g_ci2 (q := 9) rfl rfl (fun _ => rfl) rfl (A_C_refuse hC) (by decide +kernel) rfl ?_
    injection hF with hF
    injection hF with hv hh
    subst hv
    subst hh
    exact g_iret rfl
/-- BothCorners.bed(II)I -/
def F_C_bed (x1 : Int32) (x2 : Int32) (h : MH) : Option (Int32 × MH) := bd (F_H_addBed_2 x1 x2 h) (fun (r2, h1) => bd (F_C_comes r2 h1) (fun (r4, h3) => some (r4, h3)))
theorem A_C_bed {x1 : Int32} {x2 : Int32} {h h' : MH} {v : Int32} (hF : F_C_bed x1 x2 h = some (v, h')) : Ex 4 66 [.inr (.inl (some 0)), .inl x1, .inl x2] h (some (.inl v), h') := by
  unfold F_C_bed at hF
  refine ex_of (d := 3) rfl rfl ?_
  refine g_aload_n (q := 1) rfl rfl rfl ?_
  refine g_aload_n (q := 2) rfl rfl rfl ?_
  refine g_getR (q := 5) rfl (fun _ => rfl) rfl ?_
  refine g_iload_n (q := 6) rfl rfl rfl ?_
  refine g_iload_n (q := 7) rfl rfl rfl ?_
  obtain ⟨⟨r2, h1⟩, hC, hF⟩ := bd_I hF
  dsimp only at hF
  refine g_ci3 (q := 10) rfl rfl (fun _ => rfl) rfl (A_H_addBed_2 hC) (by decide +kernel) rfl ?_
  obtain ⟨⟨r4, h3⟩, hC, hF⟩ := bd_I hF
  dsimp only at hF
  refine g_ci2 (q := 13) rfl rfl (fun _ => rfl) rfl (A_C_comes hC) (by decide +kernel) rfl ?_
  injection hF with hF
  injection hF with hv hh
  subst hv
  subst hh
  exact g_iret rfl
/-- BothCorners$House.addPerson(II)I -/
def F_H_addPerson_2 (x1 : Int32) (x2 : Int32) (h : MH) : Option (Int32 × MH) := if x1 < (I 1) then some (I (-4), h) else if 0 ≤ x2 then if (I 12) < x1 then some (I (-6), h) else if (I 9) < x2 then some (I (-6), h) else if (h.1 8 8) < (I 4) then ck (mm_in (h.1 8 8) 4) (hw (mm_hset h.1 11 (Int32.toNatClampNeg (h.1 8 8)) x1, h.2) (fun h1 => ck (mm_in (h1.1 8 8) 4) (hw (mm_hset h1.1 12 (Int32.toNatClampNeg (h1.1 8 8)) x2, h1.2) (fun h2 => hw (mm_hset h2.1 8 8 ((h2.1 8 8) + (I 1)), h2.2) (fun h3 => some ((h3.1 8 8) - (I 1), h3)))))) else some (I (-6), h) else some (I (-4), h)
theorem A_H_addPerson_2 {x1 : Int32} {x2 : Int32} {h h' : MH} {v : Int32} (hF : F_H_addPerson_2 x1 x2 h = some (v, h')) : Ex 1 9 [.inr (.inl (some 8)), .inl x1, .inl x2] h (some (.inl v), h') := by
  unfold F_H_addPerson_2 at hF
  refine ex_of (d := 0) rfl rfl ?_
  refine g_iload_n (q := 1) rfl rfl rfl ?_
  refine g_iconst (q := 2) rfl rfl ?_
  by_cases c8 : x1 < (I 1)
  · rw [if_pos c8] at hF
    refine g_icmpT rfl (decide_eq_true c8) ?_
    refine g_bipush (q := 11) rfl (by decide +kernel) rfl ?_
    injection hF with hF
    injection hF with hv hh
    subst hv
    subst hh
    exact g_iret rfl
  · rw [if_neg c8] at hF
    refine g_icmpF (q := 5) rfl (decide_eq_false c8) rfl ?_
    refine g_iload_n (q := 6) rfl rfl rfl ?_
    by_cases c7 : 0 ≤ x2
    · rw [if_pos c7] at hF
      refine g_ifT rfl (decide_eq_true c7) ?_
      refine g_iload_n (q := 13) rfl rfl rfl ?_
      refine g_bipush (q := 15) rfl (by decide +kernel) rfl ?_
      by_cases c6 : (I 12) < x1
      · rw [if_pos c6] at hF
        refine g_icmpT rfl (decide_eq_true c6) ?_
        refine g_bipush (q := 34) rfl (by decide +kernel) rfl ?_
        injection hF with hF
        injection hF with hv hh
        subst hv
        subst hh
        exact g_iret rfl
      · rw [if_neg c6] at hF
        refine g_icmpF (q := 18) rfl (decide_eq_false c6) rfl ?_
        refine g_iload_n (q := 19) rfl rfl rfl ?_
        refine g_bipush (q := 21) rfl (by decide +kernel) rfl ?_
        by_cases c5 : (I 9) < x2
        · rw [if_pos c5] at hF
          refine g_icmpT rfl (decide_eq_true c5) ?_
          refine g_bipush (q := 34) rfl (by decide +kernel) rfl ?_
          injection hF with hF
          injection hF with hv hh
          subst hv
          subst hh
          exact g_iret rfl
        · rw [if_neg c5] at hF
          refine g_icmpF (q := 24) rfl (decide_eq_false c5) rfl ?_
          refine g_aload_n (q := 25) rfl rfl rfl ?_
          refine g_getI (q := 28) rfl (fun _ => rfl) rfl ?_
          refine g_iconst (q := 29) rfl rfl ?_
          by_cases c4 : (h.1 8 8) < (I 4)
          · rw [if_pos c4] at hF
            refine g_icmpT rfl (decide_eq_true c4) ?_
            refine g_aload_n (q := 36) rfl rfl rfl ?_
            refine g_getR (q := 39) rfl (fun _ => rfl) rfl ?_
            refine g_aload_n (q := 40) rfl rfl rfl ?_
            refine g_getI (q := 43) rfl (fun _ => rfl) rfl ?_
            refine g_iload_n (q := 44) rfl rfl rfl ?_
            obtain ⟨hi, hF⟩ := ck_I hF
            refine g_iastore (q := 45) rfl rfl rfl hi rfl ?_
            obtain ⟨h1, e_h1, hF⟩ := hw_I hF
            rw [← e_h1]
            refine g_aload_n (q := 46) rfl rfl rfl ?_
            refine g_getR (q := 49) rfl (fun _ => rfl) rfl ?_
            refine g_aload_n (q := 50) rfl rfl rfl ?_
            refine g_getI (q := 53) rfl (fun _ => rfl) rfl ?_
            refine g_iload_n (q := 54) rfl rfl rfl ?_
            obtain ⟨hi, hF⟩ := ck_I hF
            refine g_iastore (q := 55) rfl rfl rfl hi rfl ?_
            obtain ⟨h2, e_h2, hF⟩ := hw_I hF
            rw [← e_h2]
            refine g_aload_n (q := 56) rfl rfl rfl ?_
            refine g_dup (q := 57) rfl rfl rfl ?_
            refine g_getI (q := 60) rfl (fun _ => rfl) rfl ?_
            refine g_iconst (q := 61) rfl rfl ?_
            refine g_iadd (q := 62) rfl rfl ?_
            refine g_putI (q := 65) rfl (fun _ => rfl) rfl ?_
            obtain ⟨h3, e_h3, hF⟩ := hw_I hF
            rw [← e_h3]
            refine g_aload_n (q := 66) rfl rfl rfl ?_
            refine g_getI (q := 69) rfl (fun _ => rfl) rfl ?_
            refine g_iconst (q := 70) rfl rfl ?_
            refine g_isub (q := 71) rfl rfl ?_
            injection hF with hF
            injection hF with hv hh
            subst hv
            subst hh
            exact g_iret rfl
          · rw [if_neg c4] at hF
            refine g_icmpF (q := 32) rfl (decide_eq_false c4) rfl ?_
            refine g_bipush (q := 34) rfl (by decide +kernel) rfl ?_
            injection hF with hF
            injection hF with hv hh
            subst hv
            subst hh
            exact g_iret rfl
    · rw [if_neg c7] at hF
      refine g_ifF (q := 9) rfl (decide_eq_false c7) rfl ?_
      refine g_bipush (q := 11) rfl (by decide +kernel) rfl ?_
      injection hF with hF
      injection hF with hv hh
      subst hv
      subst hh
      exact g_iret rfl
/-- BothCorners.person(II)I -/
def F_C_person (x1 : Int32) (x2 : Int32) (h : MH) : Option (Int32 × MH) := bd (F_H_addPerson_2 x1 x2 h) (fun (r2, h1) => bd (F_C_comes r2 h1) (fun (r4, h3) => some (r4, h3)))
theorem A_C_person {x1 : Int32} {x2 : Int32} {h h' : MH} {v : Int32} (hF : F_C_person x1 x2 h = some (v, h')) : Ex 3 67 [.inr (.inl (some 0)), .inl x1, .inl x2] h (some (.inl v), h') := by
  unfold F_C_person at hF
  refine ex_of (d := 2) rfl rfl ?_
  refine g_aload_n (q := 1) rfl rfl rfl ?_
  refine g_aload_n (q := 2) rfl rfl rfl ?_
  refine g_getR (q := 5) rfl (fun _ => rfl) rfl ?_
  refine g_iload_n (q := 6) rfl rfl rfl ?_
  refine g_iload_n (q := 7) rfl rfl rfl ?_
  obtain ⟨⟨r2, h1⟩, hC, hF⟩ := bd_I hF
  dsimp only at hF
  refine g_ci3 (q := 10) rfl rfl (fun _ => rfl) rfl (A_H_addPerson_2 hC) (by decide +kernel) rfl ?_
  obtain ⟨⟨r4, h3⟩, hC, hF⟩ := bd_I hF
  dsimp only at hF
  refine g_ci2 (q := 13) rfl rfl (fun _ => rfl) rfl (A_C_comes hC) (by decide +kernel) rfl ?_
  injection hF with hF
  injection hF with hv hh
  subst hv
  subst hh
  exact g_iret rfl
/-- BothCorners$House.addWay(II)I -/
def F_H_addWay_2 (x1 : Int32) (x2 : Int32) (h : MH) : Option (Int32 × MH) := bd (F_C_otherThan x1 (I 5) h) (fun (r2, h1) => if r2 = 0 then if 0 ≤ x2 then if (I 9) < x2 then some (I (-6), h1) else if (h1.1 8 9) < (I 6) then ck (mm_in (h1.1 8 9) 6) (hw (mm_hset h1.1 13 (Int32.toNatClampNeg (h1.1 8 9)) x1, h1.2) (fun h3 => ck (mm_in (h3.1 8 9) 6) (hw (mm_hset h3.1 14 (Int32.toNatClampNeg (h3.1 8 9)) x2, h3.2) (fun h4 => hw (mm_hset h4.1 8 9 ((h4.1 8 9) + (I 1)), h4.2) (fun h5 => some ((h5.1 8 9) - (I 1), h5)))))) else some (I (-6), h1) else some (I (-4), h1) else some (I (-2), h1))
theorem A_H_addWay_2 {x1 : Int32} {x2 : Int32} {h h' : MH} {v : Int32} (hF : F_H_addWay_2 x1 x2 h = some (v, h')) : Ex 2 10 [.inr (.inl (some 8)), .inl x1, .inl x2] h (some (.inl v), h') := by
  unfold F_H_addWay_2 at hF
  refine ex_of (d := 1) rfl rfl ?_
  refine g_iload_n (q := 1) rfl rfl rfl ?_
  refine g_iconst (q := 2) rfl rfl ?_
  obtain ⟨⟨r2, h1⟩, hC, hF⟩ := bd_I hF
  dsimp only at hF
  refine g_ci2 (q := 5) rfl rfl (fun _ => rfl) rfl (A_C_otherThan hC) (by decide +kernel) rfl ?_
  by_cases c9 : r2 = 0
  · rw [if_pos c9] at hF
    refine g_ifT rfl (decide_eq_true c9) ?_
    refine g_iload_n (q := 12) rfl rfl rfl ?_
    by_cases c8 : 0 ≤ x2
    · rw [if_pos c8] at hF
      refine g_ifT rfl (decide_eq_true c8) ?_
      refine g_iload_n (q := 19) rfl rfl rfl ?_
      refine g_bipush (q := 21) rfl (by decide +kernel) rfl ?_
      by_cases c7 : (I 9) < x2
      · rw [if_pos c7] at hF
        refine g_icmpT rfl (decide_eq_true c7) ?_
        refine g_bipush (q := 35) rfl (by decide +kernel) rfl ?_
        injection hF with hF
        injection hF with hv hh
        subst hv
        subst hh
        exact g_iret rfl
      · rw [if_neg c7] at hF
        refine g_icmpF (q := 24) rfl (decide_eq_false c7) rfl ?_
        refine g_aload_n (q := 25) rfl rfl rfl ?_
        refine g_getI (q := 28) rfl (fun _ => rfl) rfl ?_
        refine g_bipush (q := 30) rfl (by decide +kernel) rfl ?_
        by_cases c6 : (h1.1 8 9) < (I 6)
        · rw [if_pos c6] at hF
          refine g_icmpT rfl (decide_eq_true c6) ?_
          refine g_aload_n (q := 37) rfl rfl rfl ?_
          refine g_getR (q := 40) rfl (fun _ => rfl) rfl ?_
          refine g_aload_n (q := 41) rfl rfl rfl ?_
          refine g_getI (q := 44) rfl (fun _ => rfl) rfl ?_
          refine g_iload_n (q := 45) rfl rfl rfl ?_
          obtain ⟨hi, hF⟩ := ck_I hF
          refine g_iastore (q := 46) rfl rfl rfl hi rfl ?_
          obtain ⟨h3, e_h3, hF⟩ := hw_I hF
          rw [← e_h3]
          refine g_aload_n (q := 47) rfl rfl rfl ?_
          refine g_getR (q := 50) rfl (fun _ => rfl) rfl ?_
          refine g_aload_n (q := 51) rfl rfl rfl ?_
          refine g_getI (q := 54) rfl (fun _ => rfl) rfl ?_
          refine g_iload_n (q := 55) rfl rfl rfl ?_
          obtain ⟨hi, hF⟩ := ck_I hF
          refine g_iastore (q := 56) rfl rfl rfl hi rfl ?_
          obtain ⟨h4, e_h4, hF⟩ := hw_I hF
          rw [← e_h4]
          refine g_aload_n (q := 57) rfl rfl rfl ?_
          refine g_dup (q := 58) rfl rfl rfl ?_
          refine g_getI (q := 61) rfl (fun _ => rfl) rfl ?_
          refine g_iconst (q := 62) rfl rfl ?_
          refine g_iadd (q := 63) rfl rfl ?_
          refine g_putI (q := 66) rfl (fun _ => rfl) rfl ?_
          obtain ⟨h5, e_h5, hF⟩ := hw_I hF
          rw [← e_h5]
          refine g_aload_n (q := 67) rfl rfl rfl ?_
          refine g_getI (q := 70) rfl (fun _ => rfl) rfl ?_
          refine g_iconst (q := 71) rfl rfl ?_
          refine g_isub (q := 72) rfl rfl ?_
          injection hF with hF
          injection hF with hv hh
          subst hv
          subst hh
          exact g_iret rfl
        · rw [if_neg c6] at hF
          refine g_icmpF (q := 33) rfl (decide_eq_false c6) rfl ?_
          refine g_bipush (q := 35) rfl (by decide +kernel) rfl ?_
          injection hF with hF
          injection hF with hv hh
          subst hv
          subst hh
          exact g_iret rfl
    · rw [if_neg c8] at hF
      refine g_ifF (q := 15) rfl (decide_eq_false c8) rfl ?_
      refine g_bipush (q := 17) rfl (by decide +kernel) rfl ?_
      injection hF with hF
      injection hF with hv hh
      subst hv
      subst hh
      exact g_iret rfl
  · rw [if_neg c9] at hF
    refine g_ifF (q := 8) rfl (decide_eq_false c9) rfl ?_
    refine g_bipush (q := 10) rfl (by decide +kernel) rfl ?_
    injection hF with hF
    injection hF with hv hh
    subst hv
    subst hh
    exact g_iret rfl
