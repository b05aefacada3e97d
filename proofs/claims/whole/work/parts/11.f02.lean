-- decompiled by wip/whole/dec.py: what a method does (F_), and that the mini machine does it (A_)
/-- BothCorners.way(II)I -/
def F_C_way (x1 : Int32) (x2 : Int32) (h : MH) : Option (Int32 × MH) := bd (F_H_addWay_2 x1 x2 h) (fun (r2, h1) => bd (F_C_comes r2 h1) (fun (r4, h3) => some (r4, h3)))
theorem A_C_way {x1 : Int32} {x2 : Int32} {h h' : MH} {v : Int32} (hF : F_C_way x1 x2 h = some (v, h')) : Ex 3 68 [.inr (.inl (some 0)), .inl x1, .inl x2] h (some (.inl v), h') := by
  unfold F_C_way at hF
  refine ex_of (d := 2) rfl rfl ?_
  refine g_aload_n (q := 1) rfl rfl rfl ?_
  refine g_aload_n (q := 2) rfl rfl rfl ?_
  refine g_getR (q := 5) rfl (fun _ => rfl) rfl ?_
  refine g_iload_n (q := 6) rfl rfl rfl ?_
  refine g_iload_n (q := 7) rfl rfl rfl ?_
  obtain ⟨⟨r2, h1⟩, hC, hF⟩ := bd_I hF
  dsimp only at hF
  refine g_ci3 (q := 10) rfl rfl (fun _ => rfl) rfl (A_H_addWay_2 hC) (by decide +kernel) rfl ?_
  obtain ⟨⟨r4, h3⟩, hC, hF⟩ := bd_I hF
  dsimp only at hF
  refine g_ci2 (q := 13) rfl rfl (fun _ => rfl) rfl (A_C_comes hC) (by decide +kernel) rfl ?_
  injection hF with hF
  injection hF with hv hh
  subst hv
  subst hh
  exact g_iret rfl
def L_G_dropOldest_2 : Nat → Int32 → MH → Option (MH)
  | 0, _, _ => none
  | n + 1, x1, h => if (I 8) ≤ x1 then some (h) else ck (mm_in x1 8) (ck (mm_in (x1 - (I 1)) 8) (hw (mm_hset h.1 32 (Int32.toNatClampNeg (x1 - (I 1))) (h.1 32 (Int32.toNatClampNeg x1)), h.2) (fun h1 => ck (mm_in x1 8) (ck (mm_in (x1 - (I 1)) 8) (hw (mm_hset h1.1 33 (Int32.toNatClampNeg (x1 - (I 1))) (h1.1 33 (Int32.toNatClampNeg x1)), h1.2) (fun h2 => ck (mm_in x1 8) (ck (mm_in (x1 - (I 1)) 8) (hw (mm_hset h2.1 34 (Int32.toNatClampNeg (x1 - (I 1))) (h2.1 34 (Int32.toNatClampNeg x1)), h2.2) (fun h3 => L_G_dropOldest_2 n (x1 + I 1) h3)))))))))
/-- BothCorners$Changes.dropOldest()V -/
def F_G_dropOldest (h : MH) : Option (MH) := bd (L_G_dropOldest_2 5000 (I 1) h) (fun h5 => hw (mm_hset h5.1 31 3 (I 7), h5.2) (fun h6 => some h6))
theorem A_L_G_dropOldest_2 {r : MRs} : ∀ (n : Nat) (x1 : Int32) (h : MH) (x : MH), L_G_dropOldest_2 n x1 h = some x → (True) → (∀ (h' : MH), x = (h') → Go 0 1 56 (mm_lf [(0, .inr (.inl (some 31)))]) [] h' r) → Go 0 1 2 (mm_lf [(0, .inr (.inl (some 31))), (1, .inl x1)]) [] h r
  | 0, _, _, _, hF, _, _ => by cases hF
  | n + 1, x1, h, x, hF, KR, KX => by
    have ih := fun a1 => A_L_G_dropOldest_2 (r := r) n a1 
    unfold L_G_dropOldest_2 at hF
    refine g_iload_n (q := 3) rfl rfl rfl ?_
    refine g_bipush (q := 5) rfl (by decide +kernel) rfl ?_
    by_cases c4 : (I 8) ≤ x1
    · rw [if_pos c4] at hF
      refine g_icmpT rfl (decide_eq_true c4) ?_
      injection hF with hF
      subst hF
      exact go_sub (mm_subc rfl mm_sub0) (KX  _ rfl)
    · rw [if_neg c4] at hF
      refine g_icmpF (q := 8) rfl (decide_eq_false c4) rfl ?_
      refine g_aload_n (q := 9) rfl rfl rfl ?_
      refine g_getR (q := 12) rfl (fun _ => rfl) rfl ?_
      refine g_iload_n (q := 13) rfl rfl rfl ?_
      refine g_iconst (q := 14) rfl rfl ?_
      refine g_isub (q := 15) rfl rfl ?_
      refine g_aload_n (q := 16) rfl rfl rfl ?_
      refine g_getR (q := 19) rfl (fun _ => rfl) rfl ?_
      refine g_iload_n (q := 20) rfl rfl rfl ?_
      obtain ⟨hi, hF⟩ := ck_I hF
      refine g_iaload (q := 21) rfl rfl rfl hi rfl ?_
      obtain ⟨hi, hF⟩ := ck_I hF
      refine g_iastore (q := 22) rfl rfl rfl hi rfl ?_
      obtain ⟨h1, e_h1, hF⟩ := hw_I hF
      rw [← e_h1]
      refine g_aload_n (q := 23) rfl rfl rfl ?_
      refine g_getR (q := 26) rfl (fun _ => rfl) rfl ?_
      refine g_iload_n (q := 27) rfl rfl rfl ?_
      refine g_iconst (q := 28) rfl rfl ?_
      refine g_isub (q := 29) rfl rfl ?_
      refine g_aload_n (q := 30) rfl rfl rfl ?_
      refine g_getR (q := 33) rfl (fun _ => rfl) rfl ?_
      refine g_iload_n (q := 34) rfl rfl rfl ?_
      obtain ⟨hi, hF⟩ := ck_I hF
      refine g_iaload (q := 35) rfl rfl rfl hi rfl ?_
      obtain ⟨hi, hF⟩ := ck_I hF
      refine g_iastore (q := 36) rfl rfl rfl hi rfl ?_
      obtain ⟨h2, e_h2, hF⟩ := hw_I hF
      rw [← e_h2]
      refine g_aload_n (q := 37) rfl rfl rfl ?_
      refine g_getR (q := 40) rfl (fun _ => rfl) rfl ?_
      refine g_iload_n (q := 41) rfl rfl rfl ?_
      refine g_iconst (q := 42) rfl rfl ?_
      refine g_isub (q := 43) rfl rfl ?_
      refine g_aload_n (q := 44) rfl rfl rfl ?_
      refine g_getR (q := 47) rfl (fun _ => rfl) rfl ?_
      refine g_iload_n (q := 48) rfl rfl rfl ?_
      obtain ⟨hi, hF⟩ := ck_I hF
      refine g_iaload (q := 49) rfl rfl rfl hi rfl ?_
      obtain ⟨hi, hF⟩ := ck_I hF
      refine g_iastore (q := 50) rfl rfl rfl hi rfl ?_
      obtain ⟨h3, e_h3, hF⟩ := hw_I hF
      rw [← e_h3]
      refine g_iinc (q := 53) rfl rfl rfl ?_
      refine g_goto rfl ?_
      refine go_sub (lo' := mm_lf [(0, .inr (.inl (some 31))), (1, .inl (x1 + I 1))]) (mm_subc rfl (mm_subc rfl mm_sub0)) ?_
      exact ih _ _ _ hF KR KX
theorem A_G_dropOldest {h h' : MH} (hF : F_G_dropOldest h = some h') : Ex 1 1 [.inr (.inl (some 31))] h (none, h') := by
  unfold F_G_dropOldest at hF
  refine ex_of (d := 0) rfl rfl ?_
  refine g_iconst (q := 1) rfl rfl ?_
  refine g_istore_n (q := 2) rfl rfl ?_
  refine go_sub (lo' := mm_lf [(0, .inr (.inl (some 31))), (1, .inl (I 1))]) (mm_subc rfl (mm_subc rfl mm_sub0)) ?_
  obtain ⟨h5, hC, hF⟩ := bd_I hF
  refine A_L_G_dropOldest_2 5000 _ _ _ hC trivial ?_
  intro _ e2
  cases e2
  refine g_aload_n (q := 57) rfl rfl rfl ?_
  refine g_bipush (q := 59) rfl (by decide +kernel) rfl ?_
  refine g_putI (q := 62) rfl (fun _ => rfl) rfl ?_
  obtain ⟨h6, e_h6, hF⟩ := hw_I hF
  rw [← e_h6]
  injection hF with hF
  subst hF
  exact g_vret rfl
/-- BothCorners$Changes.keep(III)V -/
def F_G_keep (x1 : Int32) (x2 : Int32) (x3 : Int32) (h : MH) : Option (MH) := kw (fun  (h1 : MH) => ck (mm_in (h1.1 31 3) 8) (hw (mm_hset h1.1 32 (Int32.toNatClampNeg (h1.1 31 3)) x1, h1.2) (fun h3 => ck (mm_in (h3.1 31 3) 8) (hw (mm_hset h3.1 33 (Int32.toNatClampNeg (h3.1 31 3)) x2, h3.2) (fun h4 => ck (mm_in (h4.1 31 3) 8) (hw (mm_hset h4.1 34 (Int32.toNatClampNeg (h4.1 31 3)) x3, h4.2) (fun h5 => hw (mm_hset h5.1 31 3 ((h5.1 31 3) + (I 1)), h5.2) (fun h6 => some h6)))))))) (fun k2 => if (h.1 31 3) < (I 8) then k2 h else bd (F_G_dropOldest h) (fun h8 => k2 h8))
theorem A_G_keep {x1 : Int32} {x2 : Int32} {x3 : Int32} {h h' : MH} (hF : F_G_keep x1 x2 x3 h = some h') : Ex 2 0 [.inr (.inl (some 31)), .inl x1, .inl x2, .inl x3] h (none, h') := by
  unfold F_G_keep at hF
  refine ex_of (d := 1) rfl rfl ?_
  refine g_aload_n (q := 1) rfl rfl rfl ?_
  refine g_getI (q := 4) rfl (fun _ => rfl) rfl ?_
  refine g_bipush (q := 6) rfl (by decide +kernel) rfl ?_
  obtain ⟨k2, e_k2, hF⟩ := kw_I hF
  have K7 : ∀  (h1 : MH), k2 h1 = some h' → Go 1 0 13 (mm_lf [(0, .inr (.inl (some 31))), (1, .inl x1), (2, .inl x2), (3, .inl x3)]) [] h1 (none, h') := by
    intro h1 hF
    rw [e_k2] at hF
    dsimp only at hF
    refine g_aload_n (q := 14) rfl rfl rfl ?_
    refine g_getR (q := 17) rfl (fun _ => rfl) rfl ?_
    refine g_aload_n (q := 18) rfl rfl rfl ?_
    refine g_getI (q := 21) rfl (fun _ => rfl) rfl ?_
    refine g_iload_n (q := 22) rfl rfl rfl ?_
    obtain ⟨hi, hF⟩ := ck_I hF
    refine g_iastore (q := 23) rfl rfl rfl hi rfl ?_
    obtain ⟨h3, e_h3, hF⟩ := hw_I hF
    rw [← e_h3]
    refine g_aload_n (q := 24) rfl rfl rfl ?_
    refine g_getR (q := 27) rfl (fun _ => rfl) rfl ?_
    refine g_aload_n (q := 28) rfl rfl rfl ?_
    refine g_getI (q := 31) rfl (fun _ => rfl) rfl ?_
    refine g_iload_n (q := 32) rfl rfl rfl ?_
    obtain ⟨hi, hF⟩ := ck_I hF
    refine g_iastore (q := 33) rfl rfl rfl hi rfl ?_
    obtain ⟨h4, e_h4, hF⟩ := hw_I hF
    rw [← e_h4]
    refine g_aload_n (q := 34) rfl rfl rfl ?_
    refine g_getR (q := 37) rfl (fun _ => rfl) rfl ?_
    refine g_aload_n (q := 38) rfl rfl rfl ?_
    refine g_getI (q := 41) rfl (fun _ => rfl) rfl ?_
    refine g_iload_n (q := 42) rfl rfl rfl ?_
    obtain ⟨hi, hF⟩ := ck_I hF
    refine g_iastore (q := 43) rfl rfl rfl hi rfl ?_
    obtain ⟨h5, e_h5, hF⟩ := hw_I hF
    rw [← e_h5]
    refine g_aload_n (q := 44) rfl rfl rfl ?_
    refine g_dup (q := 45) rfl rfl rfl ?_
    refine g_getI (q := 48) rfl (fun _ => rfl) rfl ?_
    refine g_iconst (q := 49) rfl rfl ?_
    refine g_iadd (q := 50) rfl rfl ?_
    refine g_putI (q := 53) rfl (fun _ => rfl) rfl ?_
    obtain ⟨h6, e_h6, hF⟩ := hw_I hF
    rw [← e_h6]
    injection hF with hF
    subst hF
    exact g_vret rfl
  clear e_k2
  by_cases c9 : (h.1 31 3) < (I 8)
  · rw [if_pos c9] at hF
    refine g_icmpT rfl (decide_eq_true c9) ?_
    exact go_sub (mm_subc rfl (mm_subc rfl (mm_subc rfl (mm_subc rfl mm_sub0)))) (K7 _ hF)
  · rw [if_neg c9] at hF
    refine g_icmpF (q := 9) rfl (decide_eq_false c9) rfl ?_
    refine g_aload_n (q := 10) rfl rfl rfl ?_
    obtain ⟨h8, hC, hF⟩ := bd_I hF
    refine g_cv1 (q := 13) rfl rfl (fun _ => rfl) rfl (A_G_dropOldest hC) (by decide +kernel) rfl ?_
    exact go_sub (mm_subc rfl (mm_subc rfl (mm_subc rfl (mm_subc rfl mm_sub0)))) (K7 _ hF)
/-- BothCorners.skill(II)I -/
def F_C_skill (x1 : Int32) (x2 : Int32) (h : MH) : Option (Int32 × MH) := bd (F_C_noOne x1 h) (fun (r2, h1) => if r2 = 0 then if 0 ≤ x2 then if x2 ≤ (I 9) then ck (mm_in x1 4) (bd (F_G_keep (I 0) x1 (h1.1 12 (Int32.toNatClampNeg x1)) h1) (fun h3 => ck (mm_in x1 4) (hw (mm_hset h3.1 12 (Int32.toNatClampNeg x1) x2, h3.2) (fun h4 => some (h1.1 12 (Int32.toNatClampNeg x1), h4))))) else bd (F_C_refuse (I (-6)) h1) (fun (r6, h5) => some (r6, h5)) else bd (F_C_refuse (I (-4)) h1) (fun (r9, h8) => some (r9, h8)) else bd (F_C_refuse (I (-1)) h1) (fun (r12, h11) => some (r12, h11)))
theorem A_C_skill {x1 : Int32} {x2 : Int32} {h h' : MH} {v : Int32} (hF : F_C_skill x1 x2 h = some (v, h')) : Ex 3 69 [.inr (.inl (some 0)), .inl x1, .inl x2] h (some (.inl v), h') := by
  unfold F_C_skill at hF
  refine ex_of (d := 2) rfl rfl ?_
  refine g_aload_n (q := 1) rfl rfl rfl ?_
  refine g_iload_n (q := 2) rfl rfl rfl ?_
  obtain ⟨⟨r2, h1⟩, hC, hF⟩ := bd_I hF
  dsimp only at hF
  refine g_ci2 (q := 5) rfl rfl (fun _ => rfl) rfl (A_C_noOne hC) (by decide +kernel) rfl ?_
  by_cases c13 : r2 = 0
  · rw [if_pos c13] at hF
    refine g_ifT rfl (decide_eq_true c13) ?_
    refine g_iload_n (q := 15) rfl rfl rfl ?_
    by_cases c10 : 0 ≤ x2
    · rw [if_pos c10] at hF
      refine g_ifT rfl (decide_eq_true c10) ?_
      refine g_iload_n (q := 26) rfl rfl rfl ?_
      refine g_bipush (q := 28) rfl (by decide +kernel) rfl ?_
      by_cases c7 : x2 ≤ (I 9)
      · rw [if_pos c7] at hF
        refine g_icmpT rfl (decide_eq_true c7) ?_
        refine g_aload_n (q := 39) rfl rfl rfl ?_
        refine g_getR (q := 42) rfl (fun _ => rfl) rfl ?_
        refine g_getR (q := 45) rfl (fun _ => rfl) rfl ?_
        refine g_iload_n (q := 46) rfl rfl rfl ?_
        obtain ⟨hi, hF⟩ := ck_I hF
        refine g_iaload (q := 47) rfl rfl rfl hi rfl ?_
        refine g_istore_n (q := 48) rfl rfl ?_
        refine g_aload_n (q := 49) rfl rfl rfl ?_
        refine g_getR (q := 52) rfl (fun _ => rfl) rfl ?_
        refine g_iconst (q := 53) rfl rfl ?_
        refine g_iload_n (q := 54) rfl rfl rfl ?_
        refine g_iload_n (q := 55) rfl rfl rfl ?_
        obtain ⟨h3, hC, hF⟩ := bd_I hF
        refine g_cv4 (q := 58) rfl rfl (fun _ => rfl) rfl (A_G_keep hC) (by decide +kernel) rfl ?_
        refine g_aload_n (q := 59) rfl rfl rfl ?_
        refine g_getR (q := 62) rfl (fun _ => rfl) rfl ?_
        refine g_getR (q := 65) rfl (fun _ => rfl) rfl ?_
        refine g_iload_n (q := 66) rfl rfl rfl ?_
        refine g_iload_n (q := 67) rfl rfl rfl ?_
        obtain ⟨hi, hF⟩ := ck_I hF
        refine g_iastore (q := 68) rfl rfl rfl hi rfl ?_
        obtain ⟨h4, e_h4, hF⟩ := hw_I hF
        rw [← e_h4]
        refine g_iload_n (q := 69) rfl rfl rfl ?_
        injection hF with hF
        injection hF with hv hh
        subst hv
        subst hh
        exact g_iret rfl
      · rw [if_neg c7] at hF
        refine g_icmpF (q := 31) rfl (decide_eq_false c7) rfl ?_
        refine g_aload_n (q := 32) rfl rfl rfl ?_
        refine g_bipush (q := 34) rfl (by decide +kernel) rfl ?_
        obtain ⟨⟨r6, h5⟩, hC, hF⟩ := bd_I hF
        dsimp only at hF
        refine g_ci2 (q := 37) rfl rfl (fun _ => rfl) rfl (A_C_refuse hC) (by decide +kernel) rfl ?_
        injection hF with hF
        injection hF with hv hh
        subst hv
        subst hh
        exact g_iret rfl
    · rw [if_neg c10] at hF
      refine g_ifF (q := 18) rfl (decide_eq_false c10) rfl ?_
      refine g_aload_n (q := 19) rfl rfl rfl ?_
      refine g_bipush (q := 21) rfl (by decide +kernel) rfl ?_
      obtain ⟨⟨r9, h8⟩, hC, hF⟩ := bd_I hF
      dsimp only at hF
      refine g_ci2 (q := 24) rfl rfl (fun _ => rfl) rfl (A_C_refuse hC) (by decide +kernel) rfl ?_
      injection hF with hF
      injection hF with hv hh
      subst hv
      subst hh
      exact g_iret rfl
  · rw [if_neg c13] at hF
    refine g_ifF (q := 8) rfl (decide_eq_false c13) rfl ?_
    refine g_aload_n (q := 9) rfl rfl rfl ?_
    refine g_iconst (q := 10) rfl rfl ?_
    obtain ⟨⟨r12, h11⟩, hC, hF⟩ := bd_I hF
    dsimp only at hF
    refine g_ci2 (q := 13) rfl rfl (fun _ => rfl) rfl (A_C_refuse hC) (by decide +kernel) rfl ?_
    injection hF with hF
    injection hF with hv hh
    subst hv
    subst hh
    exact g_iret rfl
/-- BothCorners.cover(II)I -/
def F_C_cover (x1 : Int32) (x2 : Int32) (h : MH) : Option (Int32 × MH) := bd (F_C_noBed x1 h) (fun (r2, h1) => if r2 = 0 then bd (F_C_tooSmall x2 h1) (fun (r4, h3) => if r4 = 0 then bd (F_C_tooLarge x2 h3) (fun (r6, h5) => if r6 = 0 then ck (mm_in x1 6) (bd (F_G_keep (I 1) x1 (h5.1 10 (Int32.toNatClampNeg x1)) h5) (fun h7 => ck (mm_in x1 6) (hw (mm_hset h7.1 10 (Int32.toNatClampNeg x1) x2, h7.2) (fun h8 => some (h5.1 10 (Int32.toNatClampNeg x1), h8))))) else bd (F_C_refuse (I (-6)) h5) (fun (r10, h9) => some (r10, h9))) else bd (F_C_refuse (I (-4)) h3) (fun (r13, h12) => some (r13, h12))) else bd (F_C_refuse (I (-1)) h1) (fun (r16, h15) => some (r16, h15)))
theorem A_C_cover {x1 : Int32} {x2 : Int32} {h h' : MH} {v : Int32} (hF : F_C_cover x1 x2 h = some (v, h')) : Ex 3 70 [.inr (.inl (some 0)), .inl x1, .inl x2] h (some (.inl v), h') := by
  unfold F_C_cover at hF
  refine ex_of (d := 2) rfl rfl ?_
  refine g_aload_n (q := 1) rfl rfl rfl ?_
  refine g_iload_n (q := 2) rfl rfl rfl ?_
  obtain ⟨⟨r2, h1⟩, hC, hF⟩ := bd_I hF
  dsimp only at hF
  refine g_ci2 (q := 5) rfl rfl (fun _ => rfl) rfl (A_C_noBed hC) (by decide +kernel) rfl ?_
  by_cases c17 : r2 = 0
  · rw [if_pos c17] at hF
    refine g_ifT rfl (decide_eq_true c17) ?_
    refine g_iload_n (q := 15) rfl rfl rfl ?_
    obtain ⟨⟨r4, h3⟩, hC, hF⟩ := bd_I hF
    dsimp only at hF
    refine g_ci1 (q := 18) rfl rfl (fun _ => rfl) rfl (A_C_tooSmall hC) (by decide +kernel) rfl ?_
    by_cases c14 : r4 = 0
    · rw [if_pos c14] at hF
      refine g_ifT rfl (decide_eq_true c14) ?_
      refine g_iload_n (q := 29) rfl rfl rfl ?_
      obtain ⟨⟨r6, h5⟩, hC, hF⟩ := bd_I hF
      dsimp only at hF
      refine g_ci1 (q := 32) rfl rfl (fun _ => rfl) rfl (A_C_tooLarge hC) (by decide +kernel) rfl ?_
      by_cases c11 : r6 = 0
      · rw [if_pos c11] at hF
        refine g_ifT rfl (decide_eq_true c11) ?_
        refine g_aload_n (q := 43) rfl rfl rfl ?_
        refine g_getR (q := 46) rfl (fun _ => rfl) rfl ?_
        refine g_getR (q := 49) rfl (fun _ => rfl) rfl ?_
        refine g_iload_n (q := 50) rfl rfl rfl ?_
        obtain ⟨hi, hF⟩ := ck_I hF
        refine g_iaload (q := 51) rfl rfl rfl hi rfl ?_
        refine g_istore_n (q := 52) rfl rfl ?_
        refine g_aload_n (q := 53) rfl rfl rfl ?_
        refine g_getR (q := 56) rfl (fun _ => rfl) rfl ?_
        refine g_iconst (q := 57) rfl rfl ?_
        refine g_iload_n (q := 58) rfl rfl rfl ?_
        refine g_iload_n (q := 59) rfl rfl rfl ?_
        obtain ⟨h7, hC, hF⟩ := bd_I hF
        refine g_cv4 (q := 62) rfl rfl (fun _ => rfl) rfl (A_G_keep hC) (by decide +kernel) rfl ?_
        refine g_aload_n (q := 63) rfl rfl rfl ?_
        refine g_getR (q := 66) rfl (fun _ => rfl) rfl ?_
        refine g_getR (q := 69) rfl (fun _ => rfl) rfl ?_
        refine g_iload_n (q := 70) rfl rfl rfl ?_
        refine g_iload_n (q := 71) rfl rfl rfl ?_
        obtain ⟨hi, hF⟩ := ck_I hF
        refine g_iastore (q := 72) rfl rfl rfl hi rfl ?_
        obtain ⟨h8, e_h8, hF⟩ := hw_I hF
        rw [← e_h8]
        refine g_iload_n (q := 73) rfl rfl rfl ?_
        injection hF with hF
        injection hF with hv hh
        subst hv
        subst hh
        exact g_iret rfl
      · rw [if_neg c11] at hF
        refine g_ifF (q := 35) rfl (decide_eq_false c11) rfl ?_
        refine g_aload_n (q := 36) rfl rfl rfl ?_
        refine g_bipush (q := 38) rfl (by decide +kernel) rfl ?_
        obtain ⟨⟨r10, h9⟩, hC, hF⟩ := bd_I hF
        dsimp only at hF
        refine g_ci2 (q := 41) rfl rfl (fun _ => rfl) rfl (A_C_refuse hC) (by decide +kernel) rfl ?_
        injection hF with hF
        injection hF with hv hh
        subst hv
        subst hh
        exact g_iret rfl
    · rw [if_neg c14] at hF
      refine g_ifF (q := 21) rfl (decide_eq_false c14) rfl ?_
      refine g_aload_n (q := 22) rfl rfl rfl ?_
      refine g_bipush (q := 24) rfl (by decide +kernel) rfl ?_
      obtain ⟨⟨r13, h12⟩, hC, hF⟩ := bd_I hF
      dsimp only at hF
      refine g_ci2 (q := 27) rfl rfl (fun _ => rfl) rfl (A_C_refuse hC) (by decide +kernel) rfl ?_
      injection hF with hF
      injection hF with hv hh
      subst hv
      subst hh
      exact g_iret rfl
  · rw [if_neg c17] at hF
    refine g_ifF (q := 8) rfl (decide_eq_false c17) rfl ?_
    refine g_aload_n (q := 9) rfl rfl rfl ?_
    refine g_iconst (q := 10) rfl rfl ?_
    obtain ⟨⟨r16, h15⟩, hC, hF⟩ := bd_I hF
    dsimp only at hF
    refine g_ci2 (q := 13) rfl rfl (fun _ => rfl) rfl (A_C_refuse hC) (by decide +kernel) rfl ?_
    injection hF with hF
    injection hF with hv hh
    subst hv
    subst hh
    exact g_iret rfl
def L_L_atTheirOwn_4 (x0 : Int32) : Nat → Int32 → Int32 → MH → Option (Int32 × MH)
  | 0, _, _, _ => none
  | n + 1, x1, x2, h => if (I 4) ≤ x2 then some (x1, h) else bd (F_L_cornerAt x0 x2 h) (fun (r2, h1) => iw (if ¬ r2 = x2 then x1 else x1 + I 1) (fun v3 => L_L_atTheirOwn_4 x0 n v3 (x2 + I 1) h1))
/-- BothCorners$Lies.atTheirOwn(I)I -/
def F_L_atTheirOwn (x0 : Int32) (h : MH) : Option (Int32 × MH) := bd (L_L_atTheirOwn_4 x0 5000 (I 0) (I 0) h) (fun (y7, h8) => some (y7, h8))
theorem A_L_L_atTheirOwn_4 {x0 : Int32} {r : MRs} : ∀ (n : Nat) (x1 : Int32) (x2 : Int32) (h : MH) (x : Int32 × MH), L_L_atTheirOwn_4 x0 n x1 x2 h = some x → (True) → (∀ (e1 : Int32) (h' : MH), x = (e1, h') → Go 1 36 27 (mm_lf [(1, .inl e1)]) [] h' r) → Go 1 36 4 (mm_lf [(0, .inl x0), (1, .inl x1), (2, .inl x2)]) [] h r
  | 0, _, _, _, _, hF, _, _ => by cases hF
  | n + 1, x1, x2, h, x, hF, KR, KX => by
    have ih := fun a1 a2 => A_L_L_atTheirOwn_4 (x0 := x0) (r := r) n a1 a2 
    unfold L_L_atTheirOwn_4 at hF
    refine g_iload_n (q := 5) rfl rfl rfl ?_
    refine g_iconst (q := 6) rfl rfl ?_
    by_cases c6 : (I 4) ≤ x2
    · rw [if_pos c6] at hF
      refine g_icmpT rfl (decide_eq_true c6) ?_
      injection hF with hF
      subst hF
      exact go_sub (mm_subc rfl mm_sub0) (KX _ _ rfl)
    · rw [if_neg c6] at hF
      refine g_icmpF (q := 9) rfl (decide_eq_false c6) rfl ?_
      refine g_iload_n (q := 10) rfl rfl rfl ?_
      refine g_iload_n (q := 11) rfl rfl rfl ?_
      obtain ⟨⟨r2, h1⟩, hC, hF⟩ := bd_I hF
      dsimp only at hF
      refine g_ci2 (q := 14) rfl rfl (fun _ => rfl) rfl (A_L_cornerAt hC) (by decide +kernel) rfl ?_
      refine g_iload_n (q := 15) rfl rfl rfl ?_
      obtain ⟨v3, e_v3, hF⟩ := iw_I hF
      suffices K4 : Go 1 36 21 (mm_lf [(0, .inl x0), (1, .inl v3), (2, .inl x2)]) [] h1 r by
        clear hF
        by_cases c5 : ¬ r2 = x2
        · simp only [if_pos c5] at e_v3
          subst e_v3
          refine g_icmpT rfl (decide_eq_true c5) ?_
          exact go_sub (mm_subc rfl (mm_subc rfl (mm_subc rfl mm_sub0))) K4
        · simp only [if_neg c5] at e_v3
          subst e_v3
          refine g_icmpF (q := 18) rfl (decide_eq_false c5) rfl ?_
          refine g_iinc (q := 21) rfl rfl rfl ?_
          exact go_sub (mm_subc rfl (mm_subc rfl (mm_subc rfl mm_sub0))) K4
      clear e_v3
      refine g_iinc (q := 24) rfl rfl rfl ?_
      refine g_goto rfl ?_
      refine go_sub (lo' := mm_lf [(0, .inl x0), (1, .inl v3), (2, .inl (x2 + I 1))]) (mm_subc rfl (mm_subc rfl (mm_subc rfl mm_sub0))) ?_
      exact ih _ _ _ _ hF KR KX
theorem A_L_atTheirOwn {x0 : Int32} {h h' : MH} {v : Int32} (hF : F_L_atTheirOwn x0 h = some (v, h')) : Ex 2 36 [.inl x0] h (some (.inl v), h') := by
  unfold F_L_atTheirOwn at hF
  refine ex_of (d := 1) rfl rfl ?_
  refine g_iconst (q := 1) rfl rfl ?_
  refine g_istore_n (q := 2) rfl rfl ?_
  refine g_iconst (q := 3) rfl rfl ?_
  refine g_istore_n (q := 4) rfl rfl ?_
  refine go_sub (lo' := mm_lf [(0, .inl x0), (1, .inl (I 0)), (2, .inl (I 0))]) (mm_subc rfl (mm_subc rfl (mm_subc rfl mm_sub0))) ?_
  obtain ⟨⟨y7, h8⟩, hC, hF⟩ := bd_I hF
  dsimp only at hF
  refine A_L_L_atTheirOwn_4 5000 _ _ _ _ hC trivial ?_
  intro _ _ e2
  cases e2
  refine g_iload_n (q := 28) rfl rfl rfl ?_
  injection hF with hF
  injection hF with hv hh
  subst hv
  subst hh
  exact g_iret rfl
/-- BothCorners.turn(I)I -/
def F_C_turn (x1 : Int32) (h : MH) : Option (Int32 × MH) := bd (F_C_noTurn x1 h) (fun (r2, h1) => if r2 = 0 then bd (F_G_keep (I 2) (I 0) (h1.1 8 10) h1) (fun h3 => bd (F_L_turned (h3.1 8 10) x1 h3) (fun (r5, h4) => hw (mm_hset h4.1 8 10 r5, h4.2) (fun h6 => bd (F_L_atTheirOwn (h6.1 8 10) h6) (fun (r8, h7) => some (r8, h7))))) else bd (F_C_refuse (I (-2)) h1) (fun (r10, h9) => some (r10, h9)))
theorem A_C_turn {x1 : Int32} {h h' : MH} {v : Int32} (hF : F_C_turn x1 h = some (v, h')) : Ex 3 71 [.inr (.inl (some 0)), .inl x1] h (some (.inl v), h') := by
  unfold F_C_turn at hF
  refine ex_of (d := 2) rfl rfl ?_
  refine g_iload_n (q := 1) rfl rfl rfl ?_
  obtain ⟨⟨r2, h1⟩, hC, hF⟩ := bd_I hF
  dsimp only at hF
  refine g_ci1 (q := 4) rfl rfl (fun _ => rfl) rfl (A_C_noTurn hC) (by decide +kernel) rfl ?_
  by_cases c11 : r2 = 0
  · rw [if_pos c11] at hF
    refine g_ifT rfl (decide_eq_true c11) ?_
    refine g_aload_n (q := 15) rfl rfl rfl ?_
    refine g_getR (q := 18) rfl (fun _ => rfl) rfl ?_
    refine g_iconst (q := 19) rfl rfl ?_
    refine g_iconst (q := 20) rfl rfl ?_
    refine g_aload_n (q := 21) rfl rfl rfl ?_
    refine g_getR (q := 24) rfl (fun _ => rfl) rfl ?_
    refine g_getI (q := 27) rfl (fun _ => rfl) rfl ?_
    obtain ⟨h3, hC, hF⟩ := bd_I hF
    refine g_cv4 (q := 30) rfl rfl (fun _ => rfl) rfl (A_G_keep hC) (by decide +kernel) rfl ?_
    refine g_aload_n (q := 31) rfl rfl rfl ?_
    refine g_getR (q := 34) rfl (fun _ => rfl) rfl ?_
    refine g_aload_n (q := 35) rfl rfl rfl ?_
    refine g_getR (q := 38) rfl (fun _ => rfl) rfl ?_
    refine g_getI (q := 41) rfl (fun _ => rfl) rfl ?_
    refine g_iload_n (q := 42) rfl rfl rfl ?_
    obtain ⟨⟨r5, h4⟩, hC, hF⟩ := bd_I hF
    dsimp only at hF
    refine g_ci2 (q := 45) rfl rfl (fun _ => rfl) rfl (A_L_turned hC) (by decide +kernel) rfl ?_
    refine g_putI (q := 48) rfl (fun _ => rfl) rfl ?_
    obtain ⟨h6, e_h6, hF⟩ := hw_I hF
    rw [← e_h6]
    refine g_aload_n (q := 49) rfl rfl rfl ?_
    refine g_getR (q := 52) rfl (fun _ => rfl) rfl ?_
    refine g_getI (q := 55) rfl (fun _ => rfl) rfl ?_
    obtain ⟨⟨r8, h7⟩, hC, hF⟩ := bd_I hF
    dsimp only at hF
    refine g_ci1 (q := 58) rfl rfl (fun _ => rfl) rfl (A_L_atTheirOwn hC) (by decide +kernel) rfl ?_
    injection hF with hF
    injection hF with hv hh
    subst hv
    subst hh
    exact g_iret rfl
  · rw [if_neg c11] at hF
    refine g_ifF (q := 7) rfl (decide_eq_false c11) rfl ?_
    refine g_aload_n (q := 8) rfl rfl rfl ?_
    refine g_bipush (q := 10) rfl (by decide +kernel) rfl ?_
    obtain ⟨⟨r10, h9⟩, hC, hF⟩ := bd_I hF
    dsimp only at hF
    refine g_ci2 (q := 13) rfl rfl (fun _ => rfl) rfl (A_C_refuse hC) (by decide +kernel) rfl ?_
    injection hF with hF
    injection hF with hv hh
    subst hv
    subst hh
    exact g_iret rfl
/-- BothCorners$Changes.takeBack(LBothCorners$House;)V -/
def F_G_takeBack (h : MH) : Option (MH) := if (I 1) ≤ (h.1 31 3) then hw (mm_hset h.1 31 3 ((h.1 31 3) - (I 1)), h.2) (fun h1 => ck (mm_in (h1.1 31 3) 8) (iw (h1.1 34 (Int32.toNatClampNeg (h1.1 31 3))) (fun v2 => ck (mm_in (h1.1 31 3) 8) (if ¬ (h1.1 32 (Int32.toNatClampNeg (h1.1 31 3))) = (I 2) then ck (mm_in (h1.1 31 3) 8) (if ¬ (h1.1 32 (Int32.toNatClampNeg (h1.1 31 3))) = 0 then ck (mm_in (h1.1 31 3) 8) (ck (mm_in (h1.1 33 (Int32.toNatClampNeg (h1.1 31 3))) 6) (hw (mm_hset h1.1 10 (Int32.toNatClampNeg (h1.1 33 (Int32.toNatClampNeg (h1.1 31 3)))) v2, h1.2) (fun h3 => some h3))) else ck (mm_in (h1.1 31 3) 8) (ck (mm_in (h1.1 33 (Int32.toNatClampNeg (h1.1 31 3))) 4) (hw (mm_hset h1.1 12 (Int32.toNatClampNeg (h1.1 33 (Int32.toNatClampNeg (h1.1 31 3)))) v2, h1.2) (fun h4 => some h4)))) else hw (mm_hset h1.1 8 10 v2, h1.2) (fun h6 => some h6))))) else some h
theorem A_G_takeBack {h h' : MH} (hF : F_G_takeBack h = some h') : Ex 1 2 [.inr (.inl (some 31)), .inr (.inl (some 8))] h (none, h') := by
  unfold F_G_takeBack at hF
  refine ex_of (d := 0) rfl rfl ?_
  refine g_aload_n (q := 1) rfl rfl rfl ?_
  refine g_getI (q := 4) rfl (fun _ => rfl) rfl ?_
  refine g_iconst (q := 5) rfl rfl ?_
  by_cases c8 : (I 1) ≤ (h.1 31 3)
  · rw [if_pos c8] at hF
    refine g_icmpT rfl (decide_eq_true c8) ?_
    refine g_aload_n (q := 10) rfl rfl rfl ?_
    refine g_dup (q := 11) rfl rfl rfl ?_
    refine g_getI (q := 14) rfl (fun _ => rfl) rfl ?_
    refine g_iconst (q := 15) rfl rfl ?_
    refine g_isub (q := 16) rfl rfl ?_
    refine g_putI (q := 19) rfl (fun _ => rfl) rfl ?_
    obtain ⟨h1, e_h1, hF⟩ := hw_I hF
    rw [← e_h1]
    refine g_aload_n (q := 20) rfl rfl rfl ?_
    refine g_getR (q := 23) rfl (fun _ => rfl) rfl ?_
    refine g_aload_n (q := 24) rfl rfl rfl ?_
    refine g_getI (q := 27) rfl (fun _ => rfl) rfl ?_
    obtain ⟨hi, hF⟩ := ck_I hF
    refine g_iaload (q := 28) rfl rfl rfl hi rfl ?_
    refine g_istore_n (q := 29) rfl rfl ?_
    obtain ⟨v2, e_v2, hF⟩ := iw_I hF
    rw [← e_v2]
    refine g_aload_n (q := 30) rfl rfl rfl ?_
    refine g_getR (q := 33) rfl (fun _ => rfl) rfl ?_
    refine g_aload_n (q := 34) rfl rfl rfl ?_
    refine g_getI (q := 37) rfl (fun _ => rfl) rfl ?_
    obtain ⟨hi, hF⟩ := ck_I hF
    refine g_iaload (q := 38) rfl rfl rfl hi rfl ?_
    refine g_iconst (q := 39) rfl rfl ?_
    by_cases c7 : ¬ (h1.1 32 (Int32.toNatClampNeg (h1.1 31 3))) = (I 2)
    · rw [if_pos c7] at hF
      refine g_icmpT rfl (decide_eq_true c7) ?_
      refine g_aload_n (q := 51) rfl rfl rfl ?_
      refine g_getR (q := 54) rfl (fun _ => rfl) rfl ?_
      refine g_aload_n (q := 55) rfl rfl rfl ?_
      refine g_getI (q := 58) rfl (fun _ => rfl) rfl ?_
      obtain ⟨hi, hF⟩ := ck_I hF
      refine g_iaload (q := 59) rfl rfl rfl hi rfl ?_
      by_cases c5 : ¬ (h1.1 32 (Int32.toNatClampNeg (h1.1 31 3))) = 0
      · rw [if_pos c5] at hF
        refine g_ifT rfl (decide_eq_true c5) ?_
        refine g_aload_n (q := 81) rfl rfl rfl ?_
        refine g_getR (q := 84) rfl (fun _ => rfl) rfl ?_
        refine g_aload_n (q := 85) rfl rfl rfl ?_
        refine g_getR (q := 88) rfl (fun _ => rfl) rfl ?_
        refine g_aload_n (q := 89) rfl rfl rfl ?_
        refine g_getI (q := 92) rfl (fun _ => rfl) rfl ?_
        obtain ⟨hi, hF⟩ := ck_I hF
        refine g_iaload (q := 93) rfl rfl rfl hi rfl ?_
        refine g_iload_n (q := 94) rfl rfl rfl ?_
        obtain ⟨hi, hF⟩ := ck_I hF
        refine g_iastore (q := 95) rfl rfl rfl hi rfl ?_
        obtain ⟨h3, e_h3, hF⟩ := hw_I hF
        rw [← e_h3]
        injection hF with hF
        subst hF
        exact g_vret rfl
      · rw [if_neg c5] at hF
        refine g_ifF (q := 62) rfl (decide_eq_false c5) rfl ?_
        refine g_aload_n (q := 63) rfl rfl rfl ?_
        refine g_getR (q := 66) rfl (fun _ => rfl) rfl ?_
        refine g_aload_n (q := 67) rfl rfl rfl ?_
        refine g_getR (q := 70) rfl (fun _ => rfl) rfl ?_
        refine g_aload_n (q := 71) rfl rfl rfl ?_
        refine g_getI (q := 74) rfl (fun _ => rfl) rfl ?_
        obtain ⟨hi, hF⟩ := ck_I hF
        refine g_iaload (q := 75) rfl rfl rfl hi rfl ?_
        refine g_iload_n (q := 76) rfl rfl rfl ?_
        obtain ⟨hi, hF⟩ := ck_I hF
        refine g_iastore (q := 77) rfl rfl rfl hi rfl ?_
        obtain ⟨h4, e_h4, hF⟩ := hw_I hF
        rw [← e_h4]
        refine g_goto rfl ?_
        injection hF with hF
        subst hF
        exact g_vret rfl
    · rw [if_neg c7] at hF
      refine g_icmpF (q := 42) rfl (decide_eq_false c7) rfl ?_
      refine g_aload_n (q := 43) rfl rfl rfl ?_
      refine g_iload_n (q := 44) rfl rfl rfl ?_
      refine g_putI (q := 47) rfl (fun _ => rfl) rfl ?_
      obtain ⟨h6, e_h6, hF⟩ := hw_I hF
      rw [← e_h6]
      refine g_goto rfl ?_
      injection hF with hF
      subst hF
      exact g_vret rfl
  · rw [if_neg c8] at hF
    refine g_icmpF (q := 8) rfl (decide_eq_false c8) rfl ?_
    injection hF with hF
    subst hF
    exact g_vret rfl
/-- BothCorners.back()I -/
def F_C_back (h : MH) : Option (Int32 × MH) := if ¬ (h.1 31 3) = 0 then bd (F_G_takeBack h) (fun h1 => some (h1.1 31 3, h1)) else bd (F_C_refuse (I (-3)) h) (fun (r3, h2) => some (r3, h2))
theorem A_C_back {h h' : MH} {v : Int32} (hF : F_C_back h = some (v, h')) : Ex 2 72 [.inr (.inl (some 0))] h (some (.inl v), h') := by
  unfold F_C_back at hF
  refine ex_of (d := 1) rfl rfl ?_
  refine g_aload_n (q := 1) rfl rfl rfl ?_
  refine g_getR (q := 4) rfl (fun _ => rfl) rfl ?_
  refine g_getI (q := 7) rfl (fun _ => rfl) rfl ?_
  by_cases c4 : ¬ (h.1 31 3) = 0
  · rw [if_pos c4] at hF
    refine g_ifT rfl (decide_eq_true c4) ?_
    refine g_aload_n (q := 18) rfl rfl rfl ?_
    refine g_getR (q := 21) rfl (fun _ => rfl) rfl ?_
    refine g_aload_n (q := 22) rfl rfl rfl ?_
    refine g_getR (q := 25) rfl (fun _ => rfl) rfl ?_
    obtain ⟨h1, hC, hF⟩ := bd_I hF
    refine g_cv2 (q := 28) rfl rfl (fun _ => rfl) rfl (A_G_takeBack hC) (by decide +kernel) rfl ?_
    refine g_aload_n (q := 29) rfl rfl rfl ?_
    refine g_getR (q := 32) rfl (fun _ => rfl) rfl ?_
    refine g_getI (q := 35) rfl (fun _ => rfl) rfl ?_
    injection hF with hF
    injection hF with hv hh
    subst hv
    subst hh
    exact g_iret rfl
  · rw [if_neg c4] at hF
    refine g_ifF (q := 10) rfl (decide_eq_false c4) rfl ?_
    refine g_aload_n (q := 11) rfl rfl rfl ?_
    refine g_bipush (q := 13) rfl (by decide +kernel) rfl ?_
    obtain ⟨⟨r3, h2⟩, hC, hF⟩ := bd_I hF
    dsimp only at hF
    refine g_ci2 (q := 16) rfl rfl (fun _ => rfl) rfl (A_C_refuse hC) (by decide +kernel) rfl ?_
    injection hF with hF
    injection hF with hv hh
    subst hv
    subst hh
    exact g_iret rfl
/-- BothCorners.lacks(III)Z -/
def F_C_lacks (x1 : Int32) (x2 : Int32) (x3 : Int32) (h : MH) : Option (Int32 × MH) := bd (F_C_noBed x1 h) (fun (r2, h1) => if ¬ r2 = 0 then some (I 1, h1) else bd (F_C_noWay x2 h1) (fun (r4, h3) => if ¬ r4 = 0 then some (I 1, h3) else bd (F_C_noOne x3 h3) (fun (r6, h5) => iw (if r6 = 0 then I 0 else I 1) (fun v7 => cd (v7 &&& 1 = v7) (some (v7, h5))))))
theorem A_C_lacks {x1 : Int32} {x2 : Int32} {x3 : Int32} {h h' : MH} {v : Int32} (hF : F_C_lacks x1 x2 x3 h = some (v, h')) : Ex 2 123 [.inr (.inl (some 0)), .inl x1, .inl x2, .inl x3] h (some (.inl v), h') := by
  unfold F_C_lacks at hF
  refine ex_of (d := 1) rfl rfl ?_
  refine g_aload_n (q := 1) rfl rfl rfl ?_
  refine g_iload_n (q := 2) rfl rfl rfl ?_
  obtain ⟨⟨r2, h1⟩, hC, hF⟩ := bd_I hF
  dsimp only at hF
  refine g_ci2 (q := 5) rfl rfl (fun _ => rfl) rfl (A_C_noBed hC) (by decide +kernel) rfl ?_
  by_cases c11 : ¬ r2 = 0
  · rw [if_pos c11] at hF
    refine g_ifT rfl (decide_eq_true c11) ?_
    refine g_iconst (q := 25) rfl rfl ?_
    refine g_goto rfl ?_
    injection hF with hF
    injection hF with hv hh
    subst hv
    subst hh
    exact g_zret rfl (by decide +kernel)
  · rw [if_neg c11] at hF
    refine g_ifF (q := 8) rfl (decide_eq_false c11) rfl ?_
    refine g_aload_n (q := 9) rfl rfl rfl ?_
    refine g_iload_n (q := 10) rfl rfl rfl ?_
    obtain ⟨⟨r4, h3⟩, hC, hF⟩ := bd_I hF
    dsimp only at hF
    refine g_ci2 (q := 13) rfl rfl (fun _ => rfl) rfl (A_C_noWay hC) (by decide +kernel) rfl ?_
    by_cases c10 : ¬ r4 = 0
    · rw [if_pos c10] at hF
      refine g_ifT rfl (decide_eq_true c10) ?_
      refine g_iconst (q := 25) rfl rfl ?_
      refine g_goto rfl ?_
      injection hF with hF
      injection hF with hv hh
      subst hv
      subst hh
      exact g_zret rfl (by decide +kernel)
    · rw [if_neg c10] at hF
      refine g_ifF (q := 16) rfl (decide_eq_false c10) rfl ?_
      refine g_aload_n (q := 17) rfl rfl rfl ?_
      refine g_iload_n (q := 18) rfl rfl rfl ?_
      obtain ⟨⟨r6, h5⟩, hC, hF⟩ := bd_I hF
      dsimp only at hF
      refine g_ci2 (q := 21) rfl rfl (fun _ => rfl) rfl (A_C_noOne hC) (by decide +kernel) rfl ?_
      obtain ⟨v7, e_v7, hF⟩ := iw_I hF
      suffices K8 : Go 1 123 29 (mm_lf []) [.inl v7] h5 (some (.inl v), h') by
        clear hF
        by_cases c9 : r6 = 0
        · simp only [if_pos c9] at e_v7
          subst e_v7
          refine g_ifT rfl (decide_eq_true c9) ?_
          refine g_iconst (q := 29) rfl rfl ?_
          exact go_sub mm_sub0 K8
        · simp only [if_neg c9] at e_v7
          subst e_v7
          refine g_ifF (q := 24) rfl (decide_eq_false c9) rfl ?_
          refine g_iconst (q := 25) rfl rfl ?_
          refine g_goto rfl ?_
          exact go_sub mm_sub0 K8
      clear e_v7
      obtain ⟨hz, hF⟩ := cd_I hF
      injection hF with hF
      injection hF with hv hh
      subst hv
      subst hh
      exact g_zret rfl hz
/-- BothCorners.sizeOf(I)I -/
def F_C_sizeOf (x0 : Int32) (h : MH) : Option (Int32 × MH) := bd (F_C_lengthOf x0 h) (fun (r2, h1) => bd (F_C_breadthOf x0 h1) (fun (r4, h3) => some (r2 + r4, h3)))
theorem A_C_sizeOf {x0 : Int32} {h h' : MH} {v : Int32} (hF : F_C_sizeOf x0 h = some (v, h')) : Ex 2 145 [.inl x0] h (some (.inl v), h') := by
  unfold F_C_sizeOf at hF
  refine ex_of (d := 1) rfl rfl ?_
  refine g_iload_n (q := 1) rfl rfl rfl ?_
  obtain ⟨⟨r2, h1⟩, hC, hF⟩ := bd_I hF
  dsimp only at hF
  refine g_ci1 (q := 4) rfl rfl (fun _ => rfl) rfl (A_C_lengthOf hC) (by decide +kernel) rfl ?_
  refine g_iload_n (q := 5) rfl rfl rfl ?_
  obtain ⟨⟨r4, h3⟩, hC, hF⟩ := bd_I hF
  dsimp only at hF
  refine g_ci1 (q := 8) rfl rfl (fun _ => rfl) rfl (A_C_breadthOf hC) (by decide +kernel) rfl ?_
  refine g_iadd (q := 9) rfl rfl ?_
  injection hF with hF
  injection hF with hv hh
  subst hv
  subst hh
  exact g_iret rfl
/-- BothCorners$Way.secondsFor(III)I -/
def F_W0_secondsFor (x1 : Int32) (x2 : Int32) (x3 : Int32) (h : MH) : Option (Int32 × MH) := iw (if (I 1) < (x1 - x2) then x1 - x2 else I 1) (fun v1 => some (v1, h))
theorem A_W0_secondsFor {x1 : Int32} {x2 : Int32} {x3 : Int32} {h h' : MH} {v : Int32} (hF : F_W0_secondsFor x1 x2 x3 h = some (v, h')) : Ex 1 59 [.inr (.inl (some 2)), .inl x1, .inl x2, .inl x3] h (some (.inl v), h') := by
  unfold F_W0_secondsFor at hF
  refine ex_of (d := 0) rfl rfl ?_
  refine g_iconst (q := 1) rfl rfl ?_
  refine g_iload_n (q := 2) rfl rfl rfl ?_
  refine g_iload_n (q := 3) rfl rfl rfl ?_
  refine g_isub (q := 4) rfl rfl ?_
  refine g_max (q := 7) rfl rfl rfl ?_
  obtain ⟨v1, e_v1, hF⟩ := iw_I hF
  rw [← e_v1]
  injection hF with hF
  injection hF with hv hh
  subst hv
  subst hh
  exact g_iret rfl
/-- BothCorners$Way.secondsFor(III)I -/
def F_W0_secondsFor_2 (x1 : Int32) (x2 : Int32) (x3 : Int32) (h : MH) : Option (Int32 × MH) := iw (if (I 1) < (x1 - x2) then x1 - x2 else I 1) (fun v1 => some (v1, h))
theorem A_W0_secondsFor_2 {x1 : Int32} {x2 : Int32} {x3 : Int32} {h h' : MH} {v : Int32} (hF : F_W0_secondsFor_2 x1 x2 x3 h = some (v, h')) : Ex 1 59 [.inr (.inl (some 3)), .inl x1, .inl x2, .inl x3] h (some (.inl v), h') := by
  unfold F_W0_secondsFor_2 at hF
  refine ex_of (d := 0) rfl rfl ?_
  refine g_iconst (q := 1) rfl rfl ?_
  refine g_iload_n (q := 2) rfl rfl rfl ?_
  refine g_iload_n (q := 3) rfl rfl rfl ?_
  refine g_isub (q := 4) rfl rfl ?_
  refine g_max (q := 7) rfl rfl rfl ?_
  obtain ⟨v1, e_v1, hF⟩ := iw_I hF
  rw [← e_v1]
  injection hF with hF
  injection hF with hv hh
  subst hv
  subst hh
  exact g_iret rfl
/-- BothCorners$Crept.secondsFor(III)I -/
def F_W1_secondsFor (x1 : Int32) (x2 : Int32) (x3 : Int32) (h : MH) : Option (Int32 × MH) := bd (F_W0_secondsFor_2 x1 x2 x3 h) (fun (r2, h1) => some (r2 + ((I 2) * x3), h1))
theorem A_W1_secondsFor {x1 : Int32} {x2 : Int32} {x3 : Int32} {h h' : MH} {v : Int32} (hF : F_W1_secondsFor x1 x2 x3 h = some (v, h')) : Ex 2 3 [.inr (.inl (some 3)), .inl x1, .inl x2, .inl x3] h (some (.inl v), h') := by
  unfold F_W1_secondsFor at hF
  refine ex_of (d := 1) rfl rfl ?_
  refine g_aload_n (q := 1) rfl rfl rfl ?_
  refine g_iload_n (q := 2) rfl rfl rfl ?_
  refine g_iload_n (q := 3) rfl rfl rfl ?_
  refine g_iload_n (q := 4) rfl rfl rfl ?_
  obtain ⟨⟨r2, h1⟩, hC, hF⟩ := bd_I hF
  dsimp only at hF
  refine g_ci4 (q := 7) rfl rfl (fun _ => rfl) rfl (A_W0_secondsFor_2 hC) (by decide +kernel) rfl ?_
  refine g_iconst (q := 8) rfl rfl ?_
  refine g_iload_n (q := 9) rfl rfl rfl ?_
  refine g_imul (q := 10) rfl rfl ?_
  refine g_iadd (q := 11) rfl rfl ?_
  injection hF with hF
  injection hF with hv hh
  subst hv
  subst hh
  exact g_iret rfl
/-- BothCorners$Way.secondsFor(III)I -/
def F_W0_secondsFor_3 (x1 : Int32) (x2 : Int32) (x3 : Int32) (h : MH) : Option (Int32 × MH) := iw (if (I 1) < (x1 - x2) then x1 - x2 else I 1) (fun v1 => some (v1, h))
theorem A_W0_secondsFor_3 {x1 : Int32} {x2 : Int32} {x3 : Int32} {h h' : MH} {v : Int32} (hF : F_W0_secondsFor_3 x1 x2 x3 h = some (v, h')) : Ex 1 59 [.inr (.inl (some 4)), .inl x1, .inl x2, .inl x3] h (some (.inl v), h') := by
  unfold F_W0_secondsFor_3 at hF
  refine ex_of (d := 0) rfl rfl ?_
  refine g_iconst (q := 1) rfl rfl ?_
  refine g_iload_n (q := 2) rfl rfl rfl ?_
  refine g_iload_n (q := 3) rfl rfl rfl ?_
  refine g_isub (q := 4) rfl rfl ?_
  refine g_max (q := 7) rfl rfl rfl ?_
  obtain ⟨v1, e_v1, hF⟩ := iw_I hF
  rw [← e_v1]
  injection hF with hF
  injection hF with hv hh
  subst hv
  subst hh
  exact g_iret rfl
/-- BothCorners$Turned.secondsFor(III)I -/
def F_W2_secondsFor (x1 : Int32) (x2 : Int32) (x3 : Int32) (h : MH) : Option (Int32 × MH) := bd (F_W0_secondsFor_3 x1 x2 x3 h) (fun (r2, h1) => some ((((I 3) * r2) / (I 4)) + x3, h1))
theorem A_W2_secondsFor {x1 : Int32} {x2 : Int32} {x3 : Int32} {h h' : MH} {v : Int32} (hF : F_W2_secondsFor x1 x2 x3 h = some (v, h')) : Ex 2 57 [.inr (.inl (some 4)), .inl x1, .inl x2, .inl x3] h (some (.inl v), h') := by
  unfold F_W2_secondsFor at hF
  refine ex_of (d := 1) rfl rfl ?_
  refine g_iconst (q := 1) rfl rfl ?_
  refine g_aload_n (q := 2) rfl rfl rfl ?_
  refine g_iload_n (q := 3) rfl rfl rfl ?_
  refine g_iload_n (q := 4) rfl rfl rfl ?_
  refine g_iload_n (q := 5) rfl rfl rfl ?_
  obtain ⟨⟨r2, h1⟩, hC, hF⟩ := bd_I hF
  dsimp only at hF
  refine g_ci4 (q := 8) rfl rfl (fun _ => rfl) rfl (A_W0_secondsFor_3 hC) (by decide +kernel) rfl ?_
  refine g_imul (q := 9) rfl rfl ?_
  refine g_iconst (q := 10) rfl rfl ?_
  refine g_idiv (q := 11) rfl (by decide +kernel) rfl ?_
  refine g_iload_n (q := 12) rfl rfl rfl ?_
  refine g_iadd (q := 13) rfl rfl ?_
  injection hF with hF
  injection hF with hv hh
  subst hv
  subst hh
  exact g_iret rfl
/-- BothCorners$Way.secondsFor(III)I -/
def F_W0_secondsFor_4 (x1 : Int32) (x2 : Int32) (x3 : Int32) (h : MH) : Option (Int32 × MH) := iw (if (I 1) < (x1 - x2) then x1 - x2 else I 1) (fun v1 => some (v1, h))
theorem A_W0_secondsFor_4 {x1 : Int32} {x2 : Int32} {x3 : Int32} {h h' : MH} {v : Int32} (hF : F_W0_secondsFor_4 x1 x2 x3 h = some (v, h')) : Ex 1 59 [.inr (.inl (some 5)), .inl x1, .inl x2, .inl x3] h (some (.inl v), h') := by
  unfold F_W0_secondsFor_4 at hF
  refine ex_of (d := 0) rfl rfl ?_
  refine g_iconst (q := 1) rfl rfl ?_
  refine g_iload_n (q := 2) rfl rfl rfl ?_
  refine g_iload_n (q := 3) rfl rfl rfl ?_
  refine g_isub (q := 4) rfl rfl ?_
  refine g_max (q := 7) rfl rfl rfl ?_
  obtain ⟨v1, e_v1, hF⟩ := iw_I hF
  rw [← e_v1]
  injection hF with hF
  injection hF with hv hh
  subst hv
  subst hh
  exact g_iret rfl
/-- BothCorners$Turned.secondsFor(III)I -/
def F_W2_secondsFor_2 (x1 : Int32) (x2 : Int32) (x3 : Int32) (h : MH) : Option (Int32 × MH) := bd (F_W0_secondsFor_4 x1 x2 x3 h) (fun (r2, h1) => some ((((I 3) * r2) / (I 4)) + x3, h1))
theorem A_W2_secondsFor_2 {x1 : Int32} {x2 : Int32} {x3 : Int32} {h h' : MH} {v : Int32} (hF : F_W2_secondsFor_2 x1 x2 x3 h = some (v, h')) : Ex 2 57 [.inr (.inl (some 5)), .inl x1, .inl x2, .inl x3] h (some (.inl v), h') := by
  unfold F_W2_secondsFor_2 at hF
  refine ex_of (d := 1) rfl rfl ?_
  refine g_iconst (q := 1) rfl rfl ?_
  refine g_aload_n (q := 2) rfl rfl rfl ?_
  refine g_iload_n (q := 3) rfl rfl rfl ?_
  refine g_iload_n (q := 4) rfl rfl rfl ?_
  refine g_iload_n (q := 5) rfl rfl rfl ?_
  obtain ⟨⟨r2, h1⟩, hC, hF⟩ := bd_I hF
  dsimp only at hF
  refine g_ci4 (q := 8) rfl rfl (fun _ => rfl) rfl (A_W0_secondsFor_4 hC) (by decide +kernel) rfl ?_
  refine g_imul (q := 9) rfl rfl ?_
  refine g_iconst (q := 10) rfl rfl ?_
  refine g_idiv (q := 11) rfl (by decide +kernel) rfl ?_
  refine g_iload_n (q := 12) rfl rfl rfl ?_
  refine g_iadd (q := 13) rfl rfl ?_
  injection hF with hF
  injection hF with hv hh
  subst hv
  subst hh
  exact g_iret rfl
/-- BothCorners$Rolled.secondsFor(III)I -/
def F_W3_secondsFor (x1 : Int32) (x2 : Int32) (x3 : Int32) (h : MH) : Option (Int32 × MH) := bd (F_W2_secondsFor_2 x1 x2 x3 h) (fun (r2, h1) => some ((r2 / (I 2)) + (I 10), h1))
theorem A_W3_secondsFor {x1 : Int32} {x2 : Int32} {x3 : Int32} {h h' : MH} {v : Int32} (hF : F_W3_secondsFor x1 x2 x3 h = some (v, h')) : Ex 3 44 [.inr (.inl (some 5)), .inl x1, .inl x2, .inl x3] h (some (.inl v), h') := by
  unfold F_W3_secondsFor at hF
  refine ex_of (d := 2) rfl rfl ?_
  refine g_aload_n (q := 1) rfl rfl rfl ?_
  refine g_iload_n (q := 2) rfl rfl rfl ?_
  refine g_iload_n (q := 3) rfl rfl rfl ?_
  refine g_iload_n (q := 4) rfl rfl rfl ?_
  obtain ⟨⟨r2, h1⟩, hC, hF⟩ := bd_I hF
  dsimp only at hF
  refine g_ci4 (q := 7) rfl rfl (fun _ => rfl) rfl (A_W2_secondsFor_2 hC) (by decide +kernel) rfl ?_
  refine g_iconst (q := 8) rfl rfl ?_
  refine g_idiv (q := 9) rfl (by decide +kernel) rfl ?_
  refine g_bipush (q := 11) rfl (by decide +kernel) rfl ?_
  refine g_iadd (q := 12) rfl rfl ?_
  injection hF with hF
  injection hF with hv hh
  subst hv
  subst hh
  exact g_iret rfl
/-- BothCorners$Way.secondsFor(III)I -/
def F_W0_secondsFor_5 (x1 : Int32) (x2 : Int32) (x3 : Int32) (h : MH) : Option (Int32 × MH) := iw (if (I 1) < (x1 - x2) then x1 - x2 else I 1) (fun v1 => some (v1, h))
theorem A_W0_secondsFor_5 {x1 : Int32} {x2 : Int32} {x3 : Int32} {h h' : MH} {v : Int32} (hF : F_W0_secondsFor_5 x1 x2 x3 h = some (v, h')) : Ex 1 59 [.inr (.inl (some 6)), .inl x1, .inl x2, .inl x3] h (some (.inl v), h') := by
  unfold F_W0_secondsFor_5 at hF
  refine ex_of (d := 0) rfl rfl ?_
  refine g_iconst (q := 1) rfl rfl ?_
  refine g_iload_n (q := 2) rfl rfl rfl ?_
  refine g_iload_n (q := 3) rfl rfl rfl ?_
  refine g_isub (q := 4) rfl rfl ?_
  refine g_max (q := 7) rfl rfl rfl ?_
  obtain ⟨v1, e_v1, hF⟩ := iw_I hF
  rw [← e_v1]
  injection hF with hF
  injection hF with hv hh
  subst hv
  subst hh
  exact g_iret rfl
/-- BothCorners$Crept.secondsFor(III)I -/
def F_W1_secondsFor_2 (x1 : Int32) (x2 : Int32) (x3 : Int32) (h : MH) : Option (Int32 × MH) := bd (F_W0_secondsFor_5 x1 x2 x3 h) (fun (r2, h1) => some (r2 + ((I 2) * x3), h1))
theorem A_W1_secondsFor_2 {x1 : Int32} {x2 : Int32} {x3 : Int32} {h h' : MH} {v : Int32} (hF : F_W1_secondsFor_2 x1 x2 x3 h = some (v, h')) : Ex 2 3 [.inr (.inl (some 6)), .inl x1, .inl x2, .inl x3] h (some (.inl v), h') := by
  unfold F_W1_secondsFor_2 at hF
  refine ex_of (d := 1) rfl rfl ?_
  refine g_aload_n (q := 1) rfl rfl rfl ?_
  refine g_iload_n (q := 2) rfl rfl rfl ?_
  refine g_iload_n (q := 3) rfl rfl rfl ?_
  refine g_iload_n (q := 4) rfl rfl rfl ?_
  obtain ⟨⟨r2, h1⟩, hC, hF⟩ := bd_I hF
  dsimp only at hF
  refine g_ci4 (q := 7) rfl rfl (fun _ => rfl) rfl (A_W0_secondsFor_5 hC) (by decide +kernel) rfl ?_
  refine g_iconst (q := 8) rfl rfl ?_
  refine g_iload_n (q := 9) rfl rfl rfl ?_
  refine g_imul (q := 10) rfl rfl ?_
  refine g_iadd (q := 11) rfl rfl ?_
  injection hF with hF
  injection hF with hv hh
  subst hv
  subst hh
  exact g_iret rfl
/-- BothCorners$Crossed.secondsFor(III)I -/
def F_W4_secondsFor (x1 : Int32) (x2 : Int32) (x3 : Int32) (h : MH) : Option (Int32 × MH) := bd (F_W1_secondsFor_2 x1 x2 x3 h) (fun (r2, h1) => some (r2 + (I 20), h1))
theorem A_W4_secondsFor {x1 : Int32} {x2 : Int32} {x3 : Int32} {h h' : MH} {v : Int32} (hF : F_W4_secondsFor x1 x2 x3 h = some (v, h')) : Ex 3 5 [.inr (.inl (some 6)), .inl x1, .inl x2, .inl x3] h (some (.inl v), h') := by
  unfold F_W4_secondsFor at hF
  refine ex_of (d := 2) rfl rfl ?_
  refine g_aload_n (q := 1) rfl rfl rfl ?_
  refine g_iload_n (q := 2) rfl rfl rfl ?_
  refine g_iload_n (q := 3) rfl rfl rfl ?_
  refine g_iload_n (q := 4) rfl rfl rfl ?_
  obtain ⟨⟨r2, h1⟩, hC, hF⟩ := bd_I hF
  dsimp only at hF
  refine g_ci4 (q := 7) rfl rfl (fun _ => rfl) rfl (A_W1_secondsFor_2 hC) (by decide +kernel) rfl ?_
  refine g_bipush (q := 9) rfl (by decide +kernel) rfl ?_
  refine g_iadd (q := 10) rfl rfl ?_
  injection hF with hF
  injection hF with hv hh
  subst hv
  subst hh
  exact g_iret rfl
/-- BothCorners$Way.secondsFor(III)I -/
def F_W0_secondsFor_6 (x1 : Int32) (x2 : Int32) (x3 : Int32) (h : MH) : Option (Int32 × MH) := iw (if (I 1) < (x1 - x2) then x1 - x2 else I 1) (fun v1 => some (v1, h))
theorem A_W0_secondsFor_6 {x1 : Int32} {x2 : Int32} {x3 : Int32} {h h' : MH} {v : Int32} (hF : F_W0_secondsFor_6 x1 x2 x3 h = some (v, h')) : Ex 1 59 [.inr (.inl (some 7)), .inl x1, .inl x2, .inl x3] h (some (.inl v), h') := by
  unfold F_W0_secondsFor_6 at hF
  refine ex_of (d := 0) rfl rfl ?_
  refine g_iconst (q := 1) rfl rfl ?_
  refine g_iload_n (q := 2) rfl rfl rfl ?_
  refine g_iload_n (q := 3) rfl rfl rfl ?_
  refine g_isub (q := 4) rfl rfl ?_
  refine g_max (q := 7) rfl rfl rfl ?_
  obtain ⟨v1, e_v1, hF⟩ := iw_I hF
  rw [← e_v1]
  injection hF with hF
  injection hF with hv hh
  subst hv
  subst hh
  exact g_iret rfl
/-- BothCorners$Turned.secondsFor(III)I -/
def F_W2_secondsFor_3 (x1 : Int32) (x2 : Int32) (x3 : Int32) (h : MH) : Option (Int32 × MH) := bd (F_W0_secondsFor_6 x1 x2 x3 h) (fun (r2, h1) => some ((((I 3) * r2) / (I 4)) + x3, h1))
theorem A_W2_secondsFor_3 {x1 : Int32} {x2 : Int32} {x3 : Int32} {h h' : MH} {v : Int32} (hF : F_W2_secondsFor_3 x1 x2 x3 h = some (v, h')) : Ex 2 57 [.inr (.inl (some 7)), .inl x1, .inl x2, .inl x3] h (some (.inl v), h') := by
  unfold F_W2_secondsFor_3 at hF
  refine ex_of (d := 1) rfl rfl ?_
  refine g_iconst (q := 1) rfl rfl ?_
  refine g_aload_n (q := 2) rfl rfl rfl ?_
  refine g_iload_n (q := 3) rfl rfl rfl ?_
  refine g_iload_n (q := 4) rfl rfl rfl ?_
  refine g_iload_n (q := 5) rfl rfl rfl ?_
  obtain ⟨⟨r2, h1⟩, hC, hF⟩ := bd_I hF
  dsimp only at hF
  refine g_ci4 (q := 8) rfl rfl (fun _ => rfl) rfl (A_W0_secondsFor_6 hC) (by decide +kernel) rfl ?_
  refine g_imul (q := 9) rfl rfl ?_
  refine g_iconst (q := 10) rfl rfl ?_
  refine g_idiv (q := 11) rfl (by decide +kernel) rfl ?_
  refine g_iload_n (q := 12) rfl rfl rfl ?_
  refine g_iadd (q := 13) rfl rfl ?_
  injection hF with hF
  injection hF with hv hh
  subst hv
  subst hh
  exact g_iret rfl
/-- BothCorners$Taped.secondsFor(III)I -/
def F_W5_secondsFor (x1 : Int32) (x2 : Int32) (x3 : Int32) (h : MH) : Option (Int32 × MH) := bd (F_W2_secondsFor_3 x1 x2 x3 h) (fun (r2, h1) => some (r2 + (I 5), h1))
theorem A_W5_secondsFor {x1 : Int32} {x2 : Int32} {x3 : Int32} {h h' : MH} {v : Int32} (hF : F_W5_secondsFor x1 x2 x3 h = some (v, h')) : Ex 3 55 [.inr (.inl (some 7)), .inl x1, .inl x2, .inl x3] h (some (.inl v), h') := by
  unfold F_W5_secondsFor at hF
  refine ex_of (d := 2) rfl rfl ?_
  refine g_aload_n (q := 1) rfl rfl rfl ?_
  refine g_iload_n (q := 2) rfl rfl rfl ?_
  refine g_iload_n (q := 3) rfl rfl rfl ?_
  refine g_iload_n (q := 4) rfl rfl rfl ?_
  obtain ⟨⟨r2, h1⟩, hC, hF⟩ := bd_I hF
  dsimp only at hF
  refine g_ci4 (q := 7) rfl rfl (fun _ => rfl) rfl (A_W2_secondsFor_3 hC) (by decide +kernel) rfl ?_
  refine g_iconst (q := 8) rfl rfl ?_
  refine g_iadd (q := 9) rfl rfl ?_
  injection hF with hF
  injection hF with hv hh
  subst hv
  subst hh
  exact g_iret rfl
/-- a way by its kind -/
def D_secondsFor (i a b c : Int32) (h : MH) : Option (Int32 × MH) := w6 i (fun q => match q with | 2 => F_W0_secondsFor a b c h | 3 => F_W1_secondsFor a b c h | 4 => F_W2_secondsFor a b c h | 5 => F_W3_secondsFor a b c h | 6 => F_W4_secondsFor a b c h | 7 => F_W5_secondsFor a b c h | _ => none)
theorem A_D_secondsFor {i a b c v : Int32} {h h' : MH} (hF : D_secondsFor i a b c h = some (v, h')) : ∃ tg, mm_wt 0 (2 + Int32.toNatClampNeg i) = some tg ∧ Ex 3 tg [.inr (.inl (some (2 + Int32.toNatClampNeg i))), .inl a, .inl b, .inl c] h (some (.inl v), h') := by
  unfold D_secondsFor at hF
  rcases w6_I hF with ⟨hw, hF⟩ | ⟨hw, hF⟩ | ⟨hw, hF⟩ | ⟨hw, hF⟩ | ⟨hw, hF⟩ | ⟨hw, hF⟩
  · rw [show 2 + Int32.toNatClampNeg i = 2 by rw [hw]; decide +kernel]
    exact ⟨59, by decide +kernel, ex_up (by decide) (A_W0_secondsFor hF)⟩
  · rw [show 2 + Int32.toNatClampNeg i = 3 by rw [hw]; decide +kernel]
    exact ⟨3, by decide +kernel, ex_up (by decide) (A_W1_secondsFor hF)⟩
  · rw [show 2 + Int32.toNatClampNeg i = 4 by rw [hw]; decide +kernel]
    exact ⟨57, by decide +kernel, ex_up (by decide) (A_W2_secondsFor hF)⟩
  · rw [show 2 + Int32.toNatClampNeg i = 5 by rw [hw]; decide +kernel]
    exact ⟨44, by decide +kernel, ex_up (by decide) (A_W3_secondsFor hF)⟩
  · rw [show 2 + Int32.toNatClampNeg i = 6 by rw [hw]; decide +kernel]
    exact ⟨5, by decide +kernel, ex_up (by decide) (A_W4_secondsFor hF)⟩
  · rw [show 2 + Int32.toNatClampNeg i = 7 by rw [hw]; decide +kernel]
    exact ⟨55, by decide +kernel, ex_up (by decide) (A_W5_secondsFor hF)⟩

/-- BothCorners$House.secondsBy(III)I -/
def F_H_secondsBy (x1 : Int32) (x2 : Int32) (x3 : Int32) (h : MH) : Option (Int32 × MH) := ck (mm_in x2 6) (ck (mm_in (h.1 13 (Int32.toNatClampNeg x2)) 6) (ck (mm_in x1 6) (bd (F_C_sizeOf (h.1 9 (Int32.toNatClampNeg x1)) h) (fun (r3, h2) => ck (mm_in x3 4) (ck (mm_in x2 6) (bd (D_secondsFor (h.1 13 (Int32.toNatClampNeg x2)) r3 (h2.1 12 (Int32.toNatClampNeg x3)) (h2.1 14 (Int32.toNatClampNeg x2)) h2) (fun (r5, h4) => some (r5, h4))))))))
theorem A_H_secondsBy {x1 : Int32} {x2 : Int32} {x3 : Int32} {h h' : MH} {v : Int32} (hF : F_H_secondsBy x1 x2 x3 h = some (v, h')) : Ex 4 18 [.inr (.inl (some 8)), .inl x1, .inl x2, .inl x3] h (some (.inl v), h') := by
  unfold F_H_secondsBy at hF
  refine ex_of (d := 3) rfl rfl ?_
  refine g_aload_n (q := 1) rfl rfl rfl ?_
  refine g_getR (q := 4) rfl (fun _ => rfl) rfl ?_
  refine g_aload_n (q := 5) rfl rfl rfl ?_
  refine g_getR (q := 8) rfl (fun _ => rfl) rfl ?_
  refine g_iload_n (q := 9) rfl rfl rfl ?_
  obtain ⟨hi, hF⟩ := ck_I hF
  refine g_iaload (q := 10) rfl rfl rfl hi rfl ?_
  obtain ⟨hi1, hF⟩ := ck_I hF
  refine g_aaload (q := 11) rfl rfl rfl hi1 (mm_w6r hi1) rfl ?_
  refine g_aload_n (q := 12) rfl rfl rfl ?_
  refine g_getR (q := 15) rfl (fun _ => rfl) rfl ?_
  refine g_iload_n (q := 16) rfl rfl rfl ?_
  obtain ⟨hi, hF⟩ := ck_I hF
  refine g_iaload (q := 17) rfl rfl rfl hi rfl ?_
  obtain ⟨⟨r3, h2⟩, hC, hF⟩ := bd_I hF
  dsimp only at hF
  refine g_ci1 (q := 20) rfl rfl (fun _ => rfl) rfl (A_C_sizeOf hC) (by decide +kernel) rfl ?_
  refine g_aload_n (q := 21) rfl rfl rfl ?_
  refine g_getR (q := 24) rfl (fun _ => rfl) rfl ?_
  refine g_iload_n (q := 25) rfl rfl rfl ?_
  obtain ⟨hi, hF⟩ := ck_I hF
  refine g_iaload (q := 26) rfl rfl rfl hi rfl ?_
  refine g_aload_n (q := 27) rfl rfl rfl ?_
  refine g_getR (q := 30) rfl (fun _ => rfl) rfl ?_
  refine g_iload_n (q := 31) rfl rfl rfl ?_
  obtain ⟨hi, hF⟩ := ck_I hF
  refine g_iaload (q := 32) rfl rfl rfl hi rfl ?_
  obtain ⟨⟨r5, h4⟩, hC, hF⟩ := bd_I hF
  dsimp only at hF
  obtain ⟨tg, hT, hE⟩ := A_D_secondsFor hC
  refine g_ciW (q := 35) rfl hT rfl hE (by decide +kernel) rfl ?_
  injection hF with hF
  injection hF with hv hh
  subst hv
  subst hh
  exact g_iret rfl
/-- BothCorners.apartAlong(II)I -/
def F_C_apartAlong (x0 : Int32) (x1 : Int32) (h : MH) : Option (Int32 × MH) := bd (F_C_lengthOf x0 h) (fun (r2, h1) => bd (F_C_lengthOf x1 h1) (fun (r4, h3) => iw (if 0 ≤ (r2 - r4) then r2 - r4 else 0 - (r2 - r4)) (fun v5 => bd (F_C_breadthOf x0 h3) (fun (r7, h6) => bd (F_C_breadthOf x1 h6) (fun (r9, h8) => iw (if 0 ≤ (r7 - r9) then r7 - r9 else 0 - (r7 - r9)) (fun v10 => some (v5 + v10, h8)))))))
theorem A_C_apartAlong {x0 : Int32} {x1 : Int32} {h h' : MH} {v : Int32} (hF : F_C_apartAlong x0 x1 h = some (v, h')) : Ex 2 148 [.inl x0, .inl x1] h (some (.inl v), h') := by
  unfold F_C_apartAlong at hF
  refine ex_of (d := 1) rfl rfl ?_
  refine g_iload_n (q := 1) rfl rfl rfl ?_
  obtain ⟨⟨r2, h1⟩, hC, hF⟩ := bd_I hF
  dsimp only at hF
  refine g_ci1 (q := 4) rfl rfl (fun _ => rfl) rfl (A_C_lengthOf hC) (by decide +kernel) rfl ?_
  refine g_iload_n (q := 5) rfl rfl rfl ?_
  obtain ⟨⟨r4, h3⟩, hC, hF⟩ := bd_I hF
  dsimp only at hF
  refine g_ci1 (q := 8) rfl rfl (fun _ => rfl) rfl (A_C_lengthOf hC) (by decide +kernel) rfl ?_
  refine g_isub (q := 9) rfl rfl ?_
  refine g_abs (q := 12) rfl rfl rfl ?_
  obtain ⟨v5, e_v5, hF⟩ := iw_I hF
  rw [← e_v5]
  refine g_iload_n (q := 13) rfl rfl rfl ?_
  obtain ⟨⟨r7, h6⟩, hC, hF⟩ := bd_I hF
  dsimp only at hF
  refine g_ci1 (q := 16) rfl rfl (fun _ => rfl) rfl (A_C_breadthOf hC) (by decide +kernel) rfl ?_
  refine g_iload_n (q := 17) rfl rfl rfl ?_
  obtain ⟨⟨r9, h8⟩, hC, hF⟩ := bd_I hF
  dsimp only at hF
  refine g_ci1 (q := 20) rfl rfl (fun _ => rfl) rfl (A_C_breadthOf hC) (by decide +kernel) rfl ?_
  refine g_isub (q := 21) rfl rfl ?_
  refine g_abs (q := 24) rfl rfl rfl ?_
  obtain ⟨v10, e_v10, hF⟩ := iw_I hF
  rw [← e_v10]
  refine g_iadd (q := 25) rfl rfl ?_
  injection hF with hF
  injection hF with hv hh
  subst hv
  subst hh
  exact g_iret rfl
/-- BothCorners.apartAcross(II)I -/
def F_C_apartAcross (x0 : Int32) (x1 : Int32) (h : MH) : Option (Int32 × MH) := bd (F_C_lengthOf x0 h) (fun (r2, h1) => bd (F_C_breadthOf x1 h1) (fun (r4, h3) => iw (if 0 ≤ (r2 - r4) then r2 - r4 else 0 - (r2 - r4)) (fun v5 => bd (F_C_breadthOf x0 h3) (fun (r7, h6) => bd (F_C_lengthOf x1 h6) (fun (r9, h8) => iw (if 0 ≤ (r7 - r9) then r7 - r9 else 0 - (r7 - r9)) (fun v10 => some (v5 + v10, h8)))))))
theorem A_C_apartAcross {x0 : Int32} {x1 : Int32} {h h' : MH} {v : Int32} (hF : F_C_apartAcross x0 x1 h = some (v, h')) : Ex 2 149 [.inl x0, .inl x1] h (some (.inl v), h') := by
  unfold F_C_apartAcross at hF
  refine ex_of (d := 1) rfl rfl ?_
  refine g_iload_n (q := 1) rfl rfl rfl ?_
  obtain ⟨⟨r2, h1⟩, hC, hF⟩ := bd_I hF
  dsimp only at hF
  refine g_ci1 (q := 4) rfl rfl (fun _ => rfl) rfl (A_C_lengthOf hC) (by decide +kernel) rfl ?_
  refine g_iload_n (q := 5) rfl rfl rfl ?_
  obtain ⟨⟨r4, h3⟩, hC, hF⟩ := bd_I hF
  dsimp only at hF
  refine g_ci1 (q := 8) rfl rfl (fun _ => rfl) rfl (A_C_breadthOf hC) (by decide +kernel) rfl ?_
  refine g_isub (q := 9) rfl rfl ?_
  refine g_abs (q := 12) rfl rfl rfl ?_
  obtain ⟨v5, e_v5, hF⟩ := iw_I hF
  rw [← e_v5]
  refine g_iload_n (q := 13) rfl rfl rfl ?_
  obtain ⟨⟨r7, h6⟩, hC, hF⟩ := bd_I hF
  dsimp only at hF
  refine g_ci1 (q := 16) rfl rfl (fun _ => rfl) rfl (A_C_breadthOf hC) (by decide +kernel) rfl ?_
  refine g_iload_n (q := 17) rfl rfl rfl ?_
  obtain ⟨⟨r9, h8⟩, hC, hF⟩ := bd_I hF
  dsimp only at hF
  refine g_ci1 (q := 20) rfl rfl (fun _ => rfl) rfl (A_C_lengthOf hC) (by decide +kernel) rfl ?_
  refine g_isub (q := 21) rfl rfl ?_
  refine g_abs (q := 24) rfl rfl rfl ?_
  obtain ⟨v10, e_v10, hF⟩ := iw_I hF
  rw [← e_v10]
  refine g_iadd (q := 25) rfl rfl ?_
  injection hF with hF
  injection hF with hv hh
  subst hv
  subst hh
  exact g_iret rfl
/-- BothCorners$Way.foldsFor(III)I -/
def F_W0_foldsFor (x1 : Int32) (x2 : Int32) (x3 : Int32) (h : MH) : Option (Int32 × MH) := some (x1 + x3, h)
theorem A_W0_foldsFor {x1 : Int32} {x2 : Int32} {x3 : Int32} {h h' : MH} {v : Int32} (hF : F_W0_foldsFor x1 x2 x3 h = some (v, h')) : Ex 1 60 [.inr (.inl (some 2)), .inl x1, .inl x2, .inl x3] h (some (.inl v), h') := by
  unfold F_W0_foldsFor at hF
  refine ex_of (d := 0) rfl rfl ?_
  refine g_iload_n (q := 1) rfl rfl rfl ?_
  refine g_iload_n (q := 2) rfl rfl rfl ?_
  refine g_iadd (q := 3) rfl rfl ?_
  injection hF with hF
  injection hF with hv hh
  subst hv
  subst hh
  exact g_iret rfl
/-- BothCorners$Way.foldsFor(III)I -/
def F_W0_foldsFor_2 (x1 : Int32) (x2 : Int32) (x3 : Int32) (h : MH) : Option (Int32 × MH) := some (x1 + x3, h)
theorem A_W0_foldsFor_2 {x1 : Int32} {x2 : Int32} {x3 : Int32} {h h' : MH} {v : Int32} (hF : F_W0_foldsFor_2 x1 x2 x3 h = some (v, h')) : Ex 1 60 [.inr (.inl (some 3)), .inl x1, .inl x2, .inl x3] h (some (.inl v), h') := by
  unfold F_W0_foldsFor_2 at hF
  refine ex_of (d := 0) rfl rfl ?_
  refine g_iload_n (q := 1) rfl rfl rfl ?_
  refine g_iload_n (q := 2) rfl rfl rfl ?_
  refine g_iadd (q := 3) rfl rfl ?_
  injection hF with hF
  injection hF with hv hh
  subst hv
  subst hh
  exact g_iret rfl
/-- BothCorners$Crept.foldsFor(III)I -/
def F_W1_foldsFor (x1 : Int32) (x2 : Int32) (x3 : Int32) (h : MH) : Option (Int32 × MH) := bd (F_W0_foldsFor_2 x1 x2 x3 h) (fun (r2, h1) => some ((I 2) * r2, h1))
theorem A_W1_foldsFor {x1 : Int32} {x2 : Int32} {x3 : Int32} {h h' : MH} {v : Int32} (hF : F_W1_foldsFor x1 x2 x3 h = some (v, h')) : Ex 2 4 [.inr (.inl (some 3)), .inl x1, .inl x2, .inl x3] h (some (.inl v), h') := by
  unfold F_W1_foldsFor at hF
  refine ex_of (d := 1) rfl rfl ?_
  refine g_iconst (q := 1) rfl rfl ?_
  refine g_aload_n (q := 2) rfl rfl rfl ?_
  refine g_iload_n (q := 3) rfl rfl rfl ?_
  refine g_iload_n (q := 4) rfl rfl rfl ?_
  refine g_iload_n (q := 5) rfl rfl rfl ?_
  obtain ⟨⟨r2, h1⟩, hC, hF⟩ := bd_I hF
  dsimp only at hF
  refine g_ci4 (q := 8) rfl rfl (fun _ => rfl) rfl (A_W0_foldsFor_2 hC) (by decide +kernel) rfl ?_
  refine g_imul (q := 9) rfl rfl ?_
  injection hF with hF
  injection hF with hv hh
  subst hv
  subst hh
  exact g_iret rfl
/-- BothCorners$Way.foldsFor(III)I -/
def F_W0_foldsFor_3 (x1 : Int32) (x2 : Int32) (x3 : Int32) (h : MH) : Option (Int32 × MH) := some (x1 + x3, h)
theorem A_W0_foldsFor_3 {x1 : Int32} {x2 : Int32} {x3 : Int32} {h h' : MH} {v : Int32} (hF : F_W0_foldsFor_3 x1 x2 x3 h = some (v, h')) : Ex 1 60 [.inr (.inl (some 4)), .inl x1, .inl x2, .inl x3] h (some (.inl v), h') := by
  unfold F_W0_foldsFor_3 at hF
  refine ex_of (d := 0) rfl rfl ?_
  refine g_iload_n (q := 1) rfl rfl rfl ?_
  refine g_iload_n (q := 2) rfl rfl rfl ?_
  refine g_iadd (q := 3) rfl rfl ?_
  injection hF with hF
  injection hF with hv hh
  subst hv
  subst hh
  exact g_iret rfl
/-- BothCorners$Turned.foldsFor(III)I -/
def F_W2_foldsFor (x1 : Int32) (x2 : Int32) (x3 : Int32) (h : MH) : Option (Int32 × MH) := bd (F_W0_foldsFor_3 x1 x2 x3 h) (fun (r2, h1) => some (r2 / (I 2), h1))
theorem A_W2_foldsFor {x1 : Int32} {x2 : Int32} {x3 : Int32} {h h' : MH} {v : Int32} (hF : F_W2_foldsFor x1 x2 x3 h = some (v, h')) : Ex 2 58 [.inr (.inl (some 4)), .inl x1, .inl x2, .inl x3] h (some (.inl v), h') := by
  unfold F_W2_foldsFor at hF
  refine ex_of (d := 1) rfl rfl ?_
  refine g_aload_n (q := 1) rfl rfl rfl ?_
  refine g_iload_n (q := 2) rfl rfl rfl ?_
  refine g_iload_n (q := 3) rfl rfl rfl ?_
  refine g_iload_n (q := 4) rfl rfl rfl ?_
  obtain ⟨⟨r2, h1⟩, hC, hF⟩ := bd_I hF
  dsimp only at hF
  refine g_ci4 (q := 7) rfl rfl (fun _ => rfl) rfl (A_W0_foldsFor_3 hC) (by decide +kernel) rfl ?_
  refine g_iconst (q := 8) rfl rfl ?_
  refine g_idiv (q := 9) rfl (by decide +kernel) rfl ?_
  injection hF with hF
  injection hF with hv hh
  subst hv
  subst hh
  exact g_iret rfl
/-- BothCorners$Way.foldsFor(III)I -/
def F_W0_foldsFor_4 (x1 : Int32) (x2 : Int32) (x3 : Int32) (h : MH) : Option (Int32 × MH) := some (x1 + x3, h)
theorem A_W0_foldsFor_4 {x1 : Int32} {x2 : Int32} {x3 : Int32} {h h' : MH} {v : Int32} (hF : F_W0_foldsFor_4 x1 x2 x3 h = some (v, h')) : Ex 1 60 [.inr (.inl (some 5)), .inl x1, .inl x2, .inl x3] h (some (.inl v), h') := by
  unfold F_W0_foldsFor_4 at hF
  refine ex_of (d := 0) rfl rfl ?_
  refine g_iload_n (q := 1) rfl rfl rfl ?_
  refine g_iload_n (q := 2) rfl rfl rfl ?_
  refine g_iadd (q := 3) rfl rfl ?_
  injection hF with hF
  injection hF with hv hh
  subst hv
  subst hh
  exact g_iret rfl
