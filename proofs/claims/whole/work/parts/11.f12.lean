-- decompiled by wip/whole/dec.py: what a method does (F_), and that the mini machine does it (A_)
def L_M_house_20 : Nat → MH → Option (MH)
  | 0, _ => none
  | n + 1, h => if ¬ (h.1 55 17) = 0 then some (h) else if (h.1 55 18) = 0 then bd (F_M_readStatement h) (fun h5 => L_M_house_20 n h5) else if (h.1 55 15) ≤ (h.1 55 16) then some (h) else bd (F_M_readStatement h) (fun h6 => L_M_house_20 n h6)
def L_M_house_84 : Nat → Int32 → MH → Option ((Int32 × MH) ⊕ (MH))
  | 0, _, _ => none
  | n + 1, x1, h => if (h.1 55 18) ≤ x1 then some (.inr (h)) else bd (F_M_comesTold x1 h) (fun (r14, h13) => if ¬ r14 = 0 then L_M_house_84 n (x1 + I 1) h13 else bd (F_M_carryAll (I 0) h13) (fun h15 => ck (mm_in x1 49) (some (.inl ((I (-2000)) - (h15.1 65 (Int32.toNatClampNeg x1)), h15)))))
/-- BothCornersModel.house()I -/
def F_M_house (h : MH) : Option (Int32 × MH) := hw (mm_hset h.1 55 10 (I 0), h.2) (fun h1 => hw (mm_hset h1.1 55 16 (I 0), h1.2) (fun h2 => hw (mm_hset h2.1 55 17 (I 0), h2.2) (fun h3 => hw (mm_hset h3.1 55 18 (I 0), h3.2) (fun h4 => bd (L_M_house_20 5000 h4) (fun h10 => hw (mm_hset h10.1 55 15 (I 0), h10.2) (fun h11 => if (h11.1 55 17) = 0 then bd (F_M_carryAll (I 1) h11) (fun h12 => be (L_M_house_84 5000 (I 0) h12) (fun u19 => some u19) (fun h18 => hw (mm_hset h18.1 55 30 (I 0), h18.2) (fun h20 => some (h20.1 55 18, h20)))) else some ((I (-1000)) - (h11.1 55 16), h11)))))))
theorem A_L_M_house_20 {r : MRs} : ∀ (n : Nat) (h : MH) (x : MH), L_M_house_20 n h = some x → (True) → (∀ (h' : MH), x = (h') → Go 5 191 52 (mm_lf [(0, .inr (.inl (some 55)))]) [] h' r) → Go 5 191 20 (mm_lf [(0, .inr (.inl (some 55)))]) [] h r
  | 0, _, _, hF, _, _ => by cases hF
  | n + 1, h, x, hF, KR, KX => by
    have ih := A_L_M_house_20 (r := r) n
    unfold L_M_house_20 at hF
    refine g_aload_n (q := 21) rfl rfl rfl ?_
    refine g_getI (q := 24) rfl (fun _ => rfl) rfl ?_
    by_cases c9 : ¬ (h.1 55 17) = 0
    · rw [if_pos c9] at hF
      refine g_ifT rfl (decide_eq_true c9) ?_
      injection hF with hF
      subst hF
      exact go_sub (mm_subc rfl mm_sub0) (KX  _ rfl)
    · rw [if_neg c9] at hF
      refine g_ifF (q := 27) rfl (decide_eq_false c9) rfl ?_
      refine g_aload_n (q := 28) rfl rfl rfl ?_
      refine g_getI (q := 31) rfl (fun _ => rfl) rfl ?_
      by_cases c8 : (h.1 55 18) = 0
      · rw [if_pos c8] at hF
        refine g_ifT rfl (decide_eq_true c8) ?_
        refine g_aload_n (q := 46) rfl rfl rfl ?_
        obtain ⟨h5, hC, hF⟩ := bd_I hF
        refine g_cv1 (q := 49) rfl rfl (fun _ => rfl) rfl (A_M_readStatement hC) (by decide +kernel) rfl ?_
        refine g_goto rfl ?_
        refine go_sub (lo' := mm_lf [(0, .inr (.inl (some 55)))]) (mm_subc rfl mm_sub0) ?_
        exact ih  _ _ hF KR KX
      · rw [if_neg c8] at hF
        refine g_ifF (q := 34) rfl (decide_eq_false c8) rfl ?_
        refine g_aload_n (q := 35) rfl rfl rfl ?_
        refine g_getI (q := 38) rfl (fun _ => rfl) rfl ?_
        refine g_aload_n (q := 39) rfl rfl rfl ?_
        refine g_getI (q := 42) rfl (fun _ => rfl) rfl ?_
        by_cases c7 : (h.1 55 15) ≤ (h.1 55 16)
        · rw [if_pos c7] at hF
          refine g_icmpT rfl (decide_eq_true c7) ?_
          injection hF with hF
          subst hF
          exact go_sub (mm_subc rfl mm_sub0) (KX  _ rfl)
        · rw [if_neg c7] at hF
          refine g_icmpF (q := 45) rfl (decide_eq_false c7) rfl ?_
          refine g_aload_n (q := 46) rfl rfl rfl ?_
          obtain ⟨h6, hC, hF⟩ := bd_I hF
          refine g_cv1 (q := 49) rfl rfl (fun _ => rfl) rfl (A_M_readStatement hC) (by decide +kernel) rfl ?_
          refine g_goto rfl ?_
          refine go_sub (lo' := mm_lf [(0, .inr (.inl (some 55)))]) (mm_subc rfl mm_sub0) ?_
          exact ih  _ _ hF KR KX
theorem A_L_M_house_84 {r : MRs} : ∀ (n : Nat) (x1 : Int32) (h : MH) (x : (Int32 × MH) ⊕ (MH)), L_M_house_84 n x1 h = some x → (∀ (u : Int32) (h' : MH), x = .inl (u, h') → r = (some (.inl u), h')) → (∀ (h' : MH), x = .inr (h') → Go 5 191 126 (mm_lf [(0, .inr (.inl (some 55)))]) [] h' r) → Go 5 191 84 (mm_lf [(0, .inr (.inl (some 55))), (1, .inl x1)]) [] h r
  | 0, _, _, _, hF, _, _ => by cases hF
  | n + 1, x1, h, x, hF, KR, KX => by
    have ih := fun a1 => A_L_M_house_84 (r := r) n a1 
    unfold L_M_house_84 at hF
    refine g_iload_n (q := 85) rfl rfl rfl ?_
    refine g_aload_n (q := 86) rfl rfl rfl ?_
    refine g_getI (q := 89) rfl (fun _ => rfl) rfl ?_
    by_cases c17 : (h.1 55 18) ≤ x1
    · rw [if_pos c17] at hF
      refine g_icmpT rfl (decide_eq_true c17) ?_
      injection hF with hF
      subst hF
      exact go_sub (mm_subc rfl mm_sub0) (KX  _ rfl)
    · rw [if_neg c17] at hF
      refine g_icmpF (q := 92) rfl (decide_eq_false c17) rfl ?_
      refine g_aload_n (q := 93) rfl rfl rfl ?_
      refine g_iload_n (q := 94) rfl rfl rfl ?_
      obtain ⟨⟨r14, h13⟩, hC, hF⟩ := bd_I hF
      dsimp only at hF
      refine g_ci2 (q := 97) rfl rfl (fun _ => rfl) rfl (A_M_comesTold hC) (by decide +kernel) rfl ?_
      by_cases c16 : ¬ r14 = 0
      · rw [if_pos c16] at hF
        refine g_ifT rfl (decide_eq_true c16) ?_
        refine g_iinc (q := 123) rfl rfl rfl ?_
        refine g_goto rfl ?_
        refine go_sub (lo' := mm_lf [(0, .inr (.inl (some 55))), (1, .inl (x1 + I 1))]) (mm_subc rfl (mm_subc rfl mm_sub0)) ?_
        exact ih _ _ _ hF KR KX
      · rw [if_neg c16] at hF
        refine g_ifF (q := 100) rfl (decide_eq_false c16) rfl ?_
        refine g_aload_n (q := 101) rfl rfl rfl ?_
        refine g_aload_n (q := 102) rfl rfl rfl ?_
        refine g_getR (q := 105) rfl (fun _ => rfl) rfl ?_
        refine g_iconst (q := 106) rfl rfl ?_
        obtain ⟨h15, hC, hF⟩ := bd_I hF
        refine g_cv3 (q := 109) rfl rfl (fun _ => rfl) rfl (A_M_carryAll hC) (by decide +kernel) rfl ?_
        refine g_sipush (q := 112) rfl (by decide +kernel) rfl ?_
        refine g_aload_n (q := 113) rfl rfl rfl ?_
        refine g_getR (q := 116) rfl (fun _ => rfl) rfl ?_
        refine g_iload_n (q := 117) rfl rfl rfl ?_
        obtain ⟨hi, hF⟩ := ck_I hF
        refine g_iaload (q := 118) rfl rfl rfl hi rfl ?_
        refine g_isub (q := 119) rfl rfl ?_
        injection hF with hF
        subst hF
        rw [KR _ _ rfl]
        exact g_iret rfl
theorem A_M_house {h h' : MH} {v : Int32} (hF : F_M_house h = some (v, h')) : Ex 6 191 [.inr (.inl (some 55))] h (some (.inl v), h') := by
  unfold F_M_house at hF
  refine ex_of (d := 5) rfl rfl ?_
  refine g_aload_n (q := 1) rfl rfl rfl ?_
  refine g_iconst (q := 2) rfl rfl ?_
  refine g_putI (q := 5) rfl (fun _ => rfl) rfl ?_
  obtain ⟨h1, e_h1, hF⟩ := hw_I hF
  rw [← e_h1]
  refine g_aload_n (q := 6) rfl rfl rfl ?_
  refine g_iconst (q := 7) rfl rfl ?_
  refine g_putI (q := 10) rfl (fun _ => rfl) rfl ?_
  obtain ⟨h2, e_h2, hF⟩ := hw_I hF
  rw [← e_h2]
  refine g_aload_n (q := 11) rfl rfl rfl ?_
  refine g_iconst (q := 12) rfl rfl ?_
  refine g_putZ (q := 15) rfl (fun _ => rfl) (by decide +kernel) rfl ?_
  obtain ⟨h3, e_h3, hF⟩ := hw_I hF
  rw [← e_h3]
  refine g_aload_n (q := 16) rfl rfl rfl ?_
  refine g_iconst (q := 17) rfl rfl ?_
  refine g_putI (q := 20) rfl (fun _ => rfl) rfl ?_
  obtain ⟨h4, e_h4, hF⟩ := hw_I hF
  rw [← e_h4]
  refine go_sub (lo' := mm_lf [(0, .inr (.inl (some 55)))]) (mm_subc rfl mm_sub0) ?_
  obtain ⟨h10, hC, hF⟩ := bd_I hF
  refine A_L_M_house_20 5000 _ _ hC trivial ?_
  intro _ e2
  cases e2
  refine g_aload_n (q := 53) rfl rfl rfl ?_
  refine g_iconst (q := 54) rfl rfl ?_
  refine g_putI (q := 57) rfl (fun _ => rfl) rfl ?_
  obtain ⟨h11, e_h11, hF⟩ := hw_I hF
  rw [← e_h11]
  refine g_aload_n (q := 58) rfl rfl rfl ?_
  refine g_getI (q := 61) rfl (fun _ => rfl) rfl ?_
  by_cases c21 : (h11.1 55 17) = 0
  · rw [if_pos c21] at hF
    refine g_ifT rfl (decide_eq_true c21) ?_
    refine g_aload_n (q := 74) rfl rfl rfl ?_
    refine g_aload_n (q := 75) rfl rfl rfl ?_
    refine g_getR (q := 78) rfl (fun _ => rfl) rfl ?_
    refine g_iconst (q := 79) rfl rfl ?_
    obtain ⟨h12, hC, hF⟩ := bd_I hF
    refine g_cv3 (q := 82) rfl rfl (fun _ => rfl) rfl (A_M_carryAll hC) (by decide +kernel) rfl ?_
    refine g_iconst (q := 83) rfl rfl ?_
    refine g_istore_n (q := 84) rfl rfl ?_
    refine go_sub (lo' := mm_lf [(0, .inr (.inl (some 55))), (1, .inl (I 0))]) (mm_subc rfl (mm_subc rfl mm_sub0)) ?_
    rcases be_I hF with ⟨u, hC, hF⟩ | ⟨h18, hC, hF⟩
    · refine A_L_M_house_84 5000 _ _ _ hC ?_ ?_
      · intro u2 h2 e2
        cases e2
        injection hF with hF
        injection hF with hv hh
        subst hv
        subst hh
        rfl
      · intro _ e2
        cases e2
    refine A_L_M_house_84 5000 _ _ _ hC ?_ ?_
    · intro u2 h2 e2
      cases e2
    intro _ e2
    cases e2
    refine g_aload_n (q := 127) rfl rfl rfl ?_
    refine g_iconst (q := 128) rfl rfl ?_
    refine g_putI (q := 131) rfl (fun _ => rfl) rfl ?_
    obtain ⟨h20, e_h20, hF⟩ := hw_I hF
    rw [← e_h20]
    refine g_aload_n (q := 132) rfl rfl rfl ?_
    refine g_getI (q := 135) rfl (fun _ => rfl) rfl ?_
    injection hF with hF
    injection hF with hv hh
    subst hv
    subst hh
    exact g_iret rfl
  · rw [if_neg c21] at hF
    refine g_ifF (q := 64) rfl (decide_eq_false c21) rfl ?_
    refine g_sipush (q := 67) rfl (by decide +kernel) rfl ?_
    refine g_aload_n (q := 68) rfl rfl rfl ?_
    refine g_getI (q := 71) rfl (fun _ => rfl) rfl ?_
    refine g_isub (q := 72) rfl rfl ?_
    injection hF with hF
    injection hF with hv hh
    subst hv
    subst hh
    exact g_iret rfl
/-- BothCornersModel.isBed(I)Z -/
def F_M_isBed (x1 : Int32) (h : MH) : Option (Int32 × MH) := bd (F_M_in (Int32.toInt64 x1) (Lg 0) (Int32.toInt64 ((h.1 55 0) - (I 1))) h) (fun (r2, h1) => cd (r2 &&& 1 = r2) (some (r2, h1)))
theorem A_M_isBed {x1 : Int32} {h h' : MH} {v : Int32} (hF : F_M_isBed x1 h = some (v, h')) : Ex 2 155 [.inr (.inl (some 55)), .inl x1] h (some (.inl v), h') := by
  unfold F_M_isBed at hF
  refine ex_of (d := 1) rfl rfl ?_
  refine g_iload_n (q := 1) rfl rfl rfl ?_
  refine g_i2l (q := 2) rfl rfl ?_
  refine g_lconst (u := 0) (q := 3) rfl (by decide +kernel) rfl ?_
  refine g_aload_n (q := 4) rfl rfl rfl ?_
  refine g_getI (q := 7) rfl (fun _ => rfl) rfl ?_
  refine g_iconst (q := 8) rfl rfl ?_
  refine g_isub (q := 9) rfl rfl ?_
  refine g_i2l (q := 10) rfl rfl ?_
  obtain ⟨⟨r2, h1⟩, hC, hF⟩ := bd_I hF
  dsimp only at hF
  refine g_ci3 (q := 13) rfl rfl (fun _ => rfl) rfl (A_M_in hC) (by decide +kernel) rfl ?_
  obtain ⟨hz, hF⟩ := cd_I hF
  injection hF with hF
  injection hF with hv hh
  subst hv
  subst hh
  exact g_zret rfl hz
/-- BothCornersModel.bedOf(II)I -/
def F_M_bedOf (x1 : Int32) (x2 : Int32) (h : MH) : Option (Int32 × MH) := hw (mm_hset h.1 55 10 (I 0), h.2) (fun h1 => bd (F_M_isBed x1 h1) (fun (r3, h2) => if r3 = 0 then bd (F_M_isBed x1 h2) (fun (r5, h4) => iw (if r5 = 0 then I (-1) else I (-2)) (fun v6 => bd (F_M_refuse v6 h4) (fun (r9, h8) => some (r9, h8)))) else bd (F_M_in (Int32.toInt64 x2) (Lg 0) (Lg 3) h2) (fun (r12, h11) => if ¬ r12 = 0 then ck (mm_in (((I 4) * x1) + x2) 24) (some (h11.1 56 (Int32.toNatClampNeg (((I 4) * x1) + x2)), h11)) else bd (F_M_isBed x1 h11) (fun (r14, h13) => iw (if r14 = 0 then I (-1) else I (-2)) (fun v15 => bd (F_M_refuse v15 h13) (fun (r18, h17) => some (r18, h17)))))))
theorem A_M_bedOf {x1 : Int32} {x2 : Int32} {h h' : MH} {v : Int32} (hF : F_M_bedOf x1 x2 h = some (v, h')) : Ex 3 198 [.inr (.inl (some 55)), .inl x1, .inl x2] h (some (.inl v), h') := by
  unfold F_M_bedOf at hF
  refine ex_of (d := 2) rfl rfl ?_
  refine g_aload_n (q := 1) rfl rfl rfl ?_
  refine g_iconst (q := 2) rfl rfl ?_
  refine g_putI (q := 5) rfl (fun _ => rfl) rfl ?_
  obtain ⟨h1, e_h1, hF⟩ := hw_I hF
  rw [← e_h1]
  refine g_aload_n (q := 6) rfl rfl rfl ?_
  refine g_iload_n (q := 7) rfl rfl rfl ?_
  obtain ⟨⟨r3, h2⟩, hC, hF⟩ := bd_I hF
  dsimp only at hF
  refine g_ci2 (q := 10) rfl rfl (fun _ => rfl) rfl (A_M_isBed hC) (by decide +kernel) rfl ?_
  by_cases c21 : r3 = 0
  · rw [if_pos c21] at hF
    refine g_ifT rfl (decide_eq_true c21) ?_
    refine g_aload_n (q := 26) rfl rfl rfl ?_
    refine g_aload_n (q := 27) rfl rfl rfl ?_
    refine g_iload_n (q := 28) rfl rfl rfl ?_
    obtain ⟨⟨r5, h4⟩, hC, hF⟩ := bd_I hF
    dsimp only at hF
    refine g_ci2 (q := 31) rfl rfl (fun _ => rfl) rfl (A_M_isBed hC) (by decide +kernel) rfl ?_
    obtain ⟨v6, e_v6, hF⟩ := iw_I hF
    suffices K7 : Go 2 198 40 (mm_lf []) [.inl v6, .inr (.inl (some 55))] h4 (some (.inl v), h') by
      clear hF
      by_cases c10 : r5 = 0
      · simp only [if_pos c10] at e_v6
        subst e_v6
        refine g_ifT rfl (decide_eq_true c10) ?_
        refine g_iconst (q := 40) rfl rfl ?_
        exact go_sub mm_sub0 K7
      · simp only [if_neg c10] at e_v6
        subst e_v6
        refine g_ifF (q := 34) rfl (decide_eq_false c10) rfl ?_
        refine g_bipush (q := 36) rfl (by decide +kernel) rfl ?_
        refine g_goto rfl ?_
        exact go_sub mm_sub0 K7
    clear e_v6
    obtain ⟨⟨r9, h8⟩, hC, hF⟩ := bd_I hF
    dsimp only at hF
    refine g_ci2 (q := 43) rfl rfl (fun _ => rfl) rfl (A_M_refuse hC) (by decide +kernel) rfl ?_
    injection hF with hF
    injection hF with hv hh
    subst hv
    subst hh
    exact g_iret rfl
  · rw [if_neg c21] at hF
    refine g_ifF (q := 13) rfl (decide_eq_false c21) rfl ?_
    refine g_iload_n (q := 14) rfl rfl rfl ?_
    refine g_i2l (q := 15) rfl rfl ?_
    refine g_lconst (u := 0) (q := 16) rfl (by decide +kernel) rfl ?_
    refine g_ldc2_w (q := 19) rfl rfl ?_
    obtain ⟨⟨r12, h11⟩, hC, hF⟩ := bd_I hF
    dsimp only at hF
    refine g_ci3 (q := 22) rfl rfl (fun _ => rfl) rfl (A_M_in hC) (by decide +kernel) rfl ?_
    by_cases c20 : ¬ r12 = 0
    · rw [if_pos c20] at hF
      refine g_ifT rfl (decide_eq_true c20) ?_
      refine g_aload_n (q := 45) rfl rfl rfl ?_
      refine g_getR (q := 48) rfl (fun _ => rfl) rfl ?_
      refine g_iconst (q := 49) rfl rfl ?_
      refine g_iload_n (q := 50) rfl rfl rfl ?_
      refine g_imul (q := 51) rfl rfl ?_
      refine g_iload_n (q := 52) rfl rfl rfl ?_
      refine g_iadd (q := 53) rfl rfl ?_
      obtain ⟨hi, hF⟩ := ck_I hF
      refine g_iaload (q := 54) rfl rfl rfl hi rfl ?_
      injection hF with hF
      injection hF with hv hh
      subst hv
      subst hh
      exact g_iret rfl
    · rw [if_neg c20] at hF
      refine g_ifF (q := 25) rfl (decide_eq_false c20) rfl ?_
      refine g_aload_n (q := 26) rfl rfl rfl ?_
      refine g_aload_n (q := 27) rfl rfl rfl ?_
      refine g_iload_n (q := 28) rfl rfl rfl ?_
      obtain ⟨⟨r14, h13⟩, hC, hF⟩ := bd_I hF
      dsimp only at hF
      refine g_ci2 (q := 31) rfl rfl (fun _ => rfl) rfl (A_M_isBed hC) (by decide +kernel) rfl ?_
      obtain ⟨v15, e_v15, hF⟩ := iw_I hF
      suffices K16 : Go 2 198 40 (mm_lf []) [.inl v15, .inr (.inl (some 55))] h13 (some (.inl v), h') by
        clear hF
        by_cases c19 : r14 = 0
        · simp only [if_pos c19] at e_v15
          subst e_v15
          refine g_ifT rfl (decide_eq_true c19) ?_
          refine g_iconst (q := 40) rfl rfl ?_
          exact go_sub mm_sub0 K16
        · simp only [if_neg c19] at e_v15
          subst e_v15
          refine g_ifF (q := 34) rfl (decide_eq_false c19) rfl ?_
          refine g_bipush (q := 36) rfl (by decide +kernel) rfl ?_
          refine g_goto rfl ?_
          exact go_sub mm_sub0 K16
      clear e_v15
      obtain ⟨⟨r18, h17⟩, hC, hF⟩ := bd_I hF
      dsimp only at hF
      refine g_ci2 (q := 43) rfl rfl (fun _ => rfl) rfl (A_M_refuse hC) (by decide +kernel) rfl ?_
      injection hF with hF
      injection hF with hv hh
      subst hv
      subst hh
      exact g_iret rfl
/-- BothCornersModel.isOne(I)Z -/
def F_M_isOne (x1 : Int32) (h : MH) : Option (Int32 × MH) := bd (F_M_in (Int32.toInt64 x1) (Lg 0) (Int32.toInt64 ((h.1 55 2) - (I 1))) h) (fun (r2, h1) => cd (r2 &&& 1 = r2) (some (r2, h1)))
theorem A_M_isOne {x1 : Int32} {h h' : MH} {v : Int32} (hF : F_M_isOne x1 h = some (v, h')) : Ex 2 156 [.inr (.inl (some 55)), .inl x1] h (some (.inl v), h') := by
  unfold F_M_isOne at hF
  refine ex_of (d := 1) rfl rfl ?_
  refine g_iload_n (q := 1) rfl rfl rfl ?_
  refine g_i2l (q := 2) rfl rfl ?_
  refine g_lconst (u := 0) (q := 3) rfl (by decide +kernel) rfl ?_
  refine g_aload_n (q := 4) rfl rfl rfl ?_
  refine g_getI (q := 7) rfl (fun _ => rfl) rfl ?_
  refine g_iconst (q := 8) rfl rfl ?_
  refine g_isub (q := 9) rfl rfl ?_
  refine g_i2l (q := 10) rfl rfl ?_
  obtain ⟨⟨r2, h1⟩, hC, hF⟩ := bd_I hF
  dsimp only at hF
  refine g_ci3 (q := 13) rfl rfl (fun _ => rfl) rfl (A_M_in hC) (by decide +kernel) rfl ?_
  obtain ⟨hz, hF⟩ := cd_I hF
  injection hF with hF
  injection hF with hv hh
  subst hv
  subst hh
  exact g_zret rfl hz
/-- BothCornersModel.personOf(II)I -/
def F_M_personOf (x1 : Int32) (x2 : Int32) (h : MH) : Option (Int32 × MH) := hw (mm_hset h.1 55 10 (I 0), h.2) (fun h1 => bd (F_M_isOne x1 h1) (fun (r3, h2) => if r3 = 0 then bd (F_M_isOne x1 h2) (fun (r5, h4) => iw (if r5 = 0 then I (-1) else I (-2)) (fun v6 => bd (F_M_refuse v6 h4) (fun (r9, h8) => some (r9, h8)))) else bd (F_M_in (Int32.toInt64 x2) (Lg 0) (Lg 1) h2) (fun (r12, h11) => if ¬ r12 = 0 then if ¬ x2 = 0 then ck (mm_in x1 4) (some (h11.1 58 (Int32.toNatClampNeg x1), h11)) else ck (mm_in x1 4) (some (h11.1 57 (Int32.toNatClampNeg x1), h11)) else bd (F_M_isOne x1 h11) (fun (r15, h14) => iw (if r15 = 0 then I (-1) else I (-2)) (fun v16 => bd (F_M_refuse v16 h14) (fun (r19, h18) => some (r19, h18)))))))
theorem A_M_personOf {x1 : Int32} {x2 : Int32} {h h' : MH} {v : Int32} (hF : F_M_personOf x1 x2 h = some (v, h')) : Ex 3 199 [.inr (.inl (some 55)), .inl x1, .inl x2] h (some (.inl v), h') := by
  unfold F_M_personOf at hF
  refine ex_of (d := 2) rfl rfl ?_
  refine g_aload_n (q := 1) rfl rfl rfl ?_
  refine g_iconst (q := 2) rfl rfl ?_
  refine g_putI (q := 5) rfl (fun _ => rfl) rfl ?_
  obtain ⟨h1, e_h1, hF⟩ := hw_I hF
  rw [← e_h1]
  refine g_aload_n (q := 6) rfl rfl rfl ?_
  refine g_iload_n (q := 7) rfl rfl rfl ?_
  obtain ⟨⟨r3, h2⟩, hC, hF⟩ := bd_I hF
  dsimp only at hF
  refine g_ci2 (q := 10) rfl rfl (fun _ => rfl) rfl (A_M_isOne hC) (by decide +kernel) rfl ?_
  by_cases c22 : r3 = 0
  · rw [if_pos c22] at hF
    refine g_ifT rfl (decide_eq_true c22) ?_
    refine g_aload_n (q := 24) rfl rfl rfl ?_
    refine g_aload_n (q := 25) rfl rfl rfl ?_
    refine g_iload_n (q := 26) rfl rfl rfl ?_
    obtain ⟨⟨r5, h4⟩, hC, hF⟩ := bd_I hF
    dsimp only at hF
    refine g_ci2 (q := 29) rfl rfl (fun _ => rfl) rfl (A_M_isOne hC) (by decide +kernel) rfl ?_
    obtain ⟨v6, e_v6, hF⟩ := iw_I hF
    suffices K7 : Go 2 199 38 (mm_lf []) [.inl v6, .inr (.inl (some 55))] h4 (some (.inl v), h') by
      clear hF
      by_cases c10 : r5 = 0
      · simp only [if_pos c10] at e_v6
        subst e_v6
        refine g_ifT rfl (decide_eq_true c10) ?_
        refine g_iconst (q := 38) rfl rfl ?_
        exact go_sub mm_sub0 K7
      · simp only [if_neg c10] at e_v6
        subst e_v6
        refine g_ifF (q := 32) rfl (decide_eq_false c10) rfl ?_
        refine g_bipush (q := 34) rfl (by decide +kernel) rfl ?_
        refine g_goto rfl ?_
        exact go_sub mm_sub0 K7
    clear e_v6
    obtain ⟨⟨r9, h8⟩, hC, hF⟩ := bd_I hF
    dsimp only at hF
    refine g_ci2 (q := 41) rfl rfl (fun _ => rfl) rfl (A_M_refuse hC) (by decide +kernel) rfl ?_
    injection hF with hF
    injection hF with hv hh
    subst hv
    subst hh
    exact g_iret rfl
  · rw [if_neg c22] at hF
    refine g_ifF (q := 13) rfl (decide_eq_false c22) rfl ?_
    refine g_iload_n (q := 14) rfl rfl rfl ?_
    refine g_i2l (q := 15) rfl rfl ?_
    refine g_lconst (u := 0) (q := 16) rfl (by decide +kernel) rfl ?_
    refine g_lconst (u := 1) (q := 17) rfl (by decide +kernel) rfl ?_
    obtain ⟨⟨r12, h11⟩, hC, hF⟩ := bd_I hF
    dsimp only at hF
    refine g_ci3 (q := 20) rfl rfl (fun _ => rfl) rfl (A_M_in hC) (by decide +kernel) rfl ?_
    by_cases c21 : ¬ r12 = 0
    · rw [if_pos c21] at hF
      refine g_ifT rfl (decide_eq_true c21) ?_
      refine g_iload_n (q := 43) rfl rfl rfl ?_
      by_cases c13 : ¬ x2 = 0
      · rw [if_pos c13] at hF
        refine g_ifT rfl (decide_eq_true c13) ?_
        refine g_aload_n (q := 56) rfl rfl rfl ?_
        refine g_getR (q := 59) rfl (fun _ => rfl) rfl ?_
        refine g_iload_n (q := 60) rfl rfl rfl ?_
        obtain ⟨hi, hF⟩ := ck_I hF
        refine g_iaload (q := 61) rfl rfl rfl hi rfl ?_
        injection hF with hF
        injection hF with hv hh
        subst hv
        subst hh
        exact g_iret rfl
      · rw [if_neg c13] at hF
        refine g_ifF (q := 46) rfl (decide_eq_false c13) rfl ?_
        refine g_aload_n (q := 47) rfl rfl rfl ?_
        refine g_getR (q := 50) rfl (fun _ => rfl) rfl ?_
        refine g_iload_n (q := 51) rfl rfl rfl ?_
        obtain ⟨hi, hF⟩ := ck_I hF
        refine g_iaload (q := 52) rfl rfl rfl hi rfl ?_
        refine g_goto rfl ?_
        injection hF with hF
        injection hF with hv hh
        subst hv
        subst hh
        exact g_iret rfl
    · rw [if_neg c21] at hF
      refine g_ifF (q := 23) rfl (decide_eq_false c21) rfl ?_
      refine g_aload_n (q := 24) rfl rfl rfl ?_
      refine g_aload_n (q := 25) rfl rfl rfl ?_
      refine g_iload_n (q := 26) rfl rfl rfl ?_
      obtain ⟨⟨r15, h14⟩, hC, hF⟩ := bd_I hF
      dsimp only at hF
      refine g_ci2 (q := 29) rfl rfl (fun _ => rfl) rfl (A_M_isOne hC) (by decide +kernel) rfl ?_
      obtain ⟨v16, e_v16, hF⟩ := iw_I hF
      suffices K17 : Go 2 199 38 (mm_lf []) [.inl v16, .inr (.inl (some 55))] h14 (some (.inl v), h') by
        clear hF
        by_cases c20 : r15 = 0
        · simp only [if_pos c20] at e_v16
          subst e_v16
          refine g_ifT rfl (decide_eq_true c20) ?_
          refine g_iconst (q := 38) rfl rfl ?_
          exact go_sub mm_sub0 K17
        · simp only [if_neg c20] at e_v16
          subst e_v16
          refine g_ifF (q := 32) rfl (decide_eq_false c20) rfl ?_
          refine g_bipush (q := 34) rfl (by decide +kernel) rfl ?_
          refine g_goto rfl ?_
          exact go_sub mm_sub0 K17
      clear e_v16
      obtain ⟨⟨r19, h18⟩, hC, hF⟩ := bd_I hF
      dsimp only at hF
      refine g_ci2 (q := 41) rfl rfl (fun _ => rfl) rfl (A_M_refuse hC) (by decide +kernel) rfl ?_
      injection hF with hF
      injection hF with hv hh
      subst hv
      subst hh
      exact g_iret rfl
/-- BothCornersModel.isWay(I)Z -/
def F_M_isWay (x1 : Int32) (h : MH) : Option (Int32 × MH) := bd (F_M_in (Int32.toInt64 x1) (Lg 0) (Int32.toInt64 ((h.1 55 5) - (I 1))) h) (fun (r2, h1) => cd (r2 &&& 1 = r2) (some (r2, h1)))
theorem A_M_isWay {x1 : Int32} {h h' : MH} {v : Int32} (hF : F_M_isWay x1 h = some (v, h')) : Ex 2 157 [.inr (.inl (some 55)), .inl x1] h (some (.inl v), h') := by
  unfold F_M_isWay at hF
  refine ex_of (d := 1) rfl rfl ?_
  refine g_iload_n (q := 1) rfl rfl rfl ?_
  refine g_i2l (q := 2) rfl rfl ?_
  refine g_lconst (u := 0) (q := 3) rfl (by decide +kernel) rfl ?_
  refine g_aload_n (q := 4) rfl rfl rfl ?_
  refine g_getI (q := 7) rfl (fun _ => rfl) rfl ?_
  refine g_iconst (q := 8) rfl rfl ?_
  refine g_isub (q := 9) rfl rfl ?_
  refine g_i2l (q := 10) rfl rfl ?_
  obtain ⟨⟨r2, h1⟩, hC, hF⟩ := bd_I hF
  dsimp only at hF
  refine g_ci3 (q := 13) rfl rfl (fun _ => rfl) rfl (A_M_in hC) (by decide +kernel) rfl ?_
  obtain ⟨hz, hF⟩ := cd_I hF
  injection hF with hF
  injection hF with hv hh
  subst hv
  subst hh
  exact g_zret rfl hz
/-- BothCornersModel.wayOf(II)I -/
def F_M_wayOf (x1 : Int32) (x2 : Int32) (h : MH) : Option (Int32 × MH) := hw (mm_hset h.1 55 10 (I 0), h.2) (fun h1 => bd (F_M_isWay x1 h1) (fun (r3, h2) => if r3 = 0 then bd (F_M_isWay x1 h2) (fun (r5, h4) => iw (if r5 = 0 then I (-1) else I (-2)) (fun v6 => bd (F_M_refuse v6 h4) (fun (r9, h8) => some (r9, h8)))) else bd (F_M_in (Int32.toInt64 x2) (Lg 0) (Lg 1) h2) (fun (r12, h11) => if ¬ r12 = 0 then if ¬ x2 = 0 then ck (mm_in x1 6) (some (h11.1 60 (Int32.toNatClampNeg x1), h11)) else ck (mm_in x1 6) (some (h11.1 59 (Int32.toNatClampNeg x1), h11)) else bd (F_M_isWay x1 h11) (fun (r15, h14) => iw (if r15 = 0 then I (-1) else I (-2)) (fun v16 => bd (F_M_refuse v16 h14) (fun (r19, h18) => some (r19, h18)))))))
theorem A_M_wayOf {x1 : Int32} {x2 : Int32} {h h' : MH} {v : Int32} (hF : F_M_wayOf x1 x2 h = some (v, h')) : Ex 3 200 [.inr (.inl (some 55)), .inl x1, .inl x2] h (some (.inl v), h') := by
  unfold F_M_wayOf at hF
  refine ex_of (d := 2) rfl rfl ?_
  refine g_aload_n (q := 1) rfl rfl rfl ?_
  refine g_iconst (q := 2) rfl rfl ?_
  refine g_putI (q := 5) rfl (fun _ => rfl) rfl ?_
  obtain ⟨h1, e_h1, hF⟩ := hw_I hF
  rw [← e_h1]
  refine g_aload_n (q := 6) rfl rfl rfl ?_
  refine g_iload_n (q := 7) rfl rfl rfl ?_
  obtain ⟨⟨r3, h2⟩, hC, hF⟩ := bd_I hF
  dsimp only at hF
  refine g_ci2 (q := 10) rfl rfl (fun _ => rfl) rfl (A_M_isWay hC) (by decide +kernel) rfl ?_
  by_cases c22 : r3 = 0
  · rw [if_pos c22] at hF
    refine g_ifT rfl (decide_eq_true c22) ?_
    refine g_aload_n (q := 24) rfl rfl rfl ?_
    refine g_aload_n (q := 25) rfl rfl rfl ?_
    refine g_iload_n (q := 26) rfl rfl rfl ?_
    obtain ⟨⟨r5, h4⟩, hC, hF⟩ := bd_I hF
    dsimp only at hF
    refine g_ci2 (q := 29) rfl rfl (fun _ => rfl) rfl (A_M_isWay hC) (by decide +kernel) rfl ?_
    obtain ⟨v6, e_v6, hF⟩ := iw_I hF
    suffices K7 : Go 2 200 38 (mm_lf []) [.inl v6, .inr (.inl (some 55))] h4 (some (.inl v), h') by
      clear hF
      by_cases c10 : r5 = 0
      · simp only [if_pos c10] at e_v6
        subst e_v6
        refine g_ifT rfl (decide_eq_true c10) ?_
        refine g_iconst (q := 38) rfl rfl ?_
        exact go_sub mm_sub0 K7
      · simp only [if_neg c10] at e_v6
        subst e_v6
        refine g_ifF (q := 32) rfl (decide_eq_false c10) rfl ?_
        refine g_bipush (q := 34) rfl (by decide +kernel) rfl ?_
        refine g_goto rfl ?_
        exact go_sub mm_sub0 K7
    clear e_v6
    obtain ⟨⟨r9, h8⟩, hC, hF⟩ := bd_I hF
    dsimp only at hF
    refine g_ci2 (q := 41) rfl rfl (fun _ => rfl) rfl (A_M_refuse hC) (by decide +kernel) rfl ?_
    injection hF with hF
    injection hF with hv hh
    subst hv
    subst hh
    exact g_iret rfl
  · rw [if_neg c22] at hF
    refine g_ifF (q := 13) rfl (decide_eq_false c22) rfl ?_
    refine g_iload_n (q := 14) rfl rfl rfl ?_
    refine g_i2l (q := 15) rfl rfl ?_
    refine g_lconst (u := 0) (q := 16) rfl (by decide +kernel) rfl ?_
    refine g_lconst (u := 1) (q := 17) rfl (by decide +kernel) rfl ?_
    obtain ⟨⟨r12, h11⟩, hC, hF⟩ := bd_I hF
    dsimp only at hF
    refine g_ci3 (q := 20) rfl rfl (fun _ => rfl) rfl (A_M_in hC) (by decide +kernel) rfl ?_
    by_cases c21 : ¬ r12 = 0
    · rw [if_pos c21] at hF
      refine g_ifT rfl (decide_eq_true c21) ?_
      refine g_iload_n (q := 43) rfl rfl rfl ?_
      by_cases c13 : ¬ x2 = 0
      · rw [if_pos c13] at hF
        refine g_ifT rfl (decide_eq_true c13) ?_
        refine g_aload_n (q := 56) rfl rfl rfl ?_
        refine g_getR (q := 59) rfl (fun _ => rfl) rfl ?_
        refine g_iload_n (q := 60) rfl rfl rfl ?_
        obtain ⟨hi, hF⟩ := ck_I hF
        refine g_iaload (q := 61) rfl rfl rfl hi rfl ?_
        injection hF with hF
        injection hF with hv hh
        subst hv
        subst hh
        exact g_iret rfl
      · rw [if_neg c13] at hF
        refine g_ifF (q := 46) rfl (decide_eq_false c13) rfl ?_
        refine g_aload_n (q := 47) rfl rfl rfl ?_
        refine g_getR (q := 50) rfl (fun _ => rfl) rfl ?_
        refine g_iload_n (q := 51) rfl rfl rfl ?_
        obtain ⟨hi, hF⟩ := ck_I hF
        refine g_iaload (q := 52) rfl rfl rfl hi rfl ?_
        refine g_goto rfl ?_
        injection hF with hF
        injection hF with hv hh
        subst hv
        subst hh
        exact g_iret rfl
    · rw [if_neg c21] at hF
      refine g_ifF (q := 23) rfl (decide_eq_false c21) rfl ?_
      refine g_aload_n (q := 24) rfl rfl rfl ?_
      refine g_aload_n (q := 25) rfl rfl rfl ?_
      refine g_iload_n (q := 26) rfl rfl rfl ?_
      obtain ⟨⟨r15, h14⟩, hC, hF⟩ := bd_I hF
      dsimp only at hF
      refine g_ci2 (q := 29) rfl rfl (fun _ => rfl) rfl (A_M_isWay hC) (by decide +kernel) rfl ?_
      obtain ⟨v16, e_v16, hF⟩ := iw_I hF
      suffices K17 : Go 2 200 38 (mm_lf []) [.inl v16, .inr (.inl (some 55))] h14 (some (.inl v), h') by
        clear hF
        by_cases c20 : r15 = 0
        · simp only [if_pos c20] at e_v16
          subst e_v16
          refine g_ifT rfl (decide_eq_true c20) ?_
          refine g_iconst (q := 38) rfl rfl ?_
          exact go_sub mm_sub0 K17
        · simp only [if_neg c20] at e_v16
          subst e_v16
          refine g_ifF (q := 32) rfl (decide_eq_false c20) rfl ?_
          refine g_bipush (q := 34) rfl (by decide +kernel) rfl ?_
          refine g_goto rfl ?_
          exact go_sub mm_sub0 K17
      clear e_v16
      obtain ⟨⟨r19, h18⟩, hC, hF⟩ := bd_I hF
      dsimp only at hF
      refine g_ci2 (q := 41) rfl rfl (fun _ => rfl) rfl (A_M_refuse hC) (by decide +kernel) rfl ?_
      injection hF with hF
      injection hF with hv hh
      subst hv
      subst hh
      exact g_iret rfl
/-- BothCornersModel.wrongSize(I)I -/
def F_M_wrongSize (x0 : Int32) (h : MH) : Option (Int32 × MH) := if x0 < 0 then some (I (-4), h) else if (x0 / (I 100)) < (I 1) then some (I (-4), h) else if (I 1) ≤ (irem x0 (I 100)) then if (I 24) < (x0 / (I 100)) then some (I (-6), h) else iw (if (irem x0 (I 100)) ≤ (I 24) then I 0 else I (-6)) (fun v1 => some (v1, h)) else some (I (-4), h)
theorem A_M_wrongSize {x0 : Int32} {h h' : MH} {v : Int32} (hF : F_M_wrongSize x0 h = some (v, h')) : Ex 1 201 [.inl x0] h (some (.inl v), h') := by
  unfold F_M_wrongSize at hF
  refine ex_of (d := 0) rfl rfl ?_
  refine g_iload_n (q := 1) rfl rfl rfl ?_
  by_cases c7 : x0 < 0
  · rw [if_pos c7] at hF
    refine g_ifT rfl (decide_eq_true c7) ?_
    refine g_bipush (q := 22) rfl (by decide +kernel) rfl ?_
    refine g_goto rfl ?_
    injection hF with hF
    injection hF with hv hh
    subst hv
    subst hh
    exact g_iret rfl
  · rw [if_neg c7] at hF
    refine g_ifF (q := 4) rfl (decide_eq_false c7) rfl ?_
    refine g_iload_n (q := 5) rfl rfl rfl ?_
    refine g_bipush (q := 7) rfl (by decide +kernel) rfl ?_
    refine g_idiv (q := 8) rfl (by decide +kernel) rfl ?_
    refine g_iconst (q := 9) rfl rfl ?_
    by_cases c6 : (x0 / (I 100)) < (I 1)
    · rw [if_pos c6] at hF
      refine g_icmpT rfl (decide_eq_true c6) ?_
      refine g_bipush (q := 22) rfl (by decide +kernel) rfl ?_
      refine g_goto rfl ?_
      injection hF with hF
      injection hF with hv hh
      subst hv
      subst hh
      exact g_iret rfl
    · rw [if_neg c6] at hF
      refine g_icmpF (q := 12) rfl (decide_eq_false c6) rfl ?_
      refine g_iload_n (q := 13) rfl rfl rfl ?_
      refine g_bipush (q := 15) rfl (by decide +kernel) rfl ?_
      refine g_irem (q := 16) rfl (by decide +kernel) rfl ?_
      refine g_iconst (q := 17) rfl rfl ?_
      by_cases c5 : (I 1) ≤ (irem x0 (I 100))
      · rw [if_pos c5] at hF
        refine g_icmpT rfl (decide_eq_true c5) ?_
        refine g_iload_n (q := 26) rfl rfl rfl ?_
        refine g_bipush (q := 28) rfl (by decide +kernel) rfl ?_
        refine g_idiv (q := 29) rfl (by decide +kernel) rfl ?_
        refine g_bipush (q := 31) rfl (by decide +kernel) rfl ?_
        by_cases c4 : (I 24) < (x0 / (I 100))
        · rw [if_pos c4] at hF
          refine g_icmpT rfl (decide_eq_true c4) ?_
          refine g_bipush (q := 45) rfl (by decide +kernel) rfl ?_
          refine g_goto rfl ?_
          injection hF with hF
          injection hF with hv hh
          subst hv
          subst hh
          exact g_iret rfl
        · rw [if_neg c4] at hF
          refine g_icmpF (q := 34) rfl (decide_eq_false c4) rfl ?_
          refine g_iload_n (q := 35) rfl rfl rfl ?_
          refine g_bipush (q := 37) rfl (by decide +kernel) rfl ?_
          refine g_irem (q := 38) rfl (by decide +kernel) rfl ?_
          refine g_bipush (q := 40) rfl (by decide +kernel) rfl ?_
          obtain ⟨v1, e_v1, hF⟩ := iw_I hF
          suffices K2 : Go 0 201 49 (mm_lf []) [.inl v1] h (some (.inl v), h') by
            clear hF
            by_cases c3 : (irem x0 (I 100)) ≤ (I 24)
            · simp only [if_pos c3] at e_v1
              subst e_v1
              refine g_icmpT rfl (decide_eq_true c3) ?_
              refine g_iconst (q := 49) rfl rfl ?_
              exact go_sub mm_sub0 K2
            · simp only [if_neg c3] at e_v1
              subst e_v1
              refine g_icmpF (q := 43) rfl (decide_eq_false c3) rfl ?_
              refine g_bipush (q := 45) rfl (by decide +kernel) rfl ?_
              refine g_goto rfl ?_
              exact go_sub mm_sub0 K2
          clear e_v1
          injection hF with hF
          injection hF with hv hh
          subst hv
          subst hh
          exact g_iret rfl
      · rw [if_neg c5] at hF
        refine g_icmpF (q := 20) rfl (decide_eq_false c5) rfl ?_
        refine g_bipush (q := 22) rfl (by decide +kernel) rfl ?_
        refine g_goto rfl ?_
        injection hF with hF
        injection hF with hv hh
        subst hv
        subst hh
        exact g_iret rfl
/-- BothCornersModel.bed(II)I -/
def F_M_bed (x1 : Int32) (x2 : Int32) (h : MH) : Option (Int32 × MH) := hw (mm_hset h.1 55 10 (I 0), h.2) (fun h1 => bd (F_M_wrongSize x1 h1) (fun (r3, h2) => bd (F_M_wrongSize x2 h2) (fun (r5, h4) => kw (fun (z6 : Int32) (h7 : MH) => if 0 ≤ z6 then bd (F_M_bedComes (x1 / (I 100)) (irem x1 (I 100)) (x2 / (I 100)) (irem x2 (I 100)) h7) (fun h9 => hw (mm_hset h9.1 55 30 (I 0), h9.2) (fun h10 => some ((h10.1 55 0) - (I 1), h10))) else bd (F_M_refuse z6 h7) (fun (r12, h11) => some (r12, h11))) (fun k8 => if r3 = (I (-4)) then k8 (I (-4)) h4 else if ¬ r5 = (I (-4)) then if r3 < 0 then k8 (I (-6)) h4 else if r5 < 0 then k8 (I (-6)) h4 else if ¬ (h4.1 55 0) = (I 6) then k8 (I 0) h4 else k8 (I (-6)) h4 else k8 (I (-4)) h4))))
theorem A_M_bed {x1 : Int32} {x2 : Int32} {h h' : MH} {v : Int32} (hF : F_M_bed x1 x2 h = some (v, h')) : Ex 2 202 [.inr (.inl (some 55)), .inl x1, .inl x2] h (some (.inl v), h') := by
  unfold F_M_bed at hF
  refine ex_of (d := 1) rfl rfl ?_
  refine g_aload_n (q := 1) rfl rfl rfl ?_
  refine g_iconst (q := 2) rfl rfl ?_
  refine g_putI (q := 5) rfl (fun _ => rfl) rfl ?_
  obtain ⟨h1, e_h1, hF⟩ := hw_I hF
  rw [← e_h1]
  refine g_iload_n (q := 6) rfl rfl rfl ?_
  obtain ⟨⟨r3, h2⟩, hC, hF⟩ := bd_I hF
  dsimp only at hF
  refine g_ci1 (q := 9) rfl rfl (fun _ => rfl) rfl (A_M_wrongSize hC) (by decide +kernel) rfl ?_
  refine g_istore_n (q := 10) rfl rfl ?_
  refine g_iload_n (q := 11) rfl rfl rfl ?_
  obtain ⟨⟨r5, h4⟩, hC, hF⟩ := bd_I hF
  dsimp only at hF
  refine g_ci1 (q := 14) rfl rfl (fun _ => rfl) rfl (A_M_wrongSize hC) (by decide +kernel) rfl ?_
  refine g_istore (q := 16) rfl rfl ?_
  refine g_iload_n (q := 17) rfl rfl rfl ?_
  refine g_bipush (q := 19) rfl (by decide +kernel) rfl ?_
  obtain ⟨k8, e_k8, hF⟩ := kw_I hF
  have K14 : ∀ (z6 : Int32) (h7 : MH), k8 z6 h7 = some (v, h') → Go 1 202 58 (mm_lf [(0, .inr (.inl (some 55))), (1, .inl x1), (2, .inl x2)]) [.inl z6] h7 (some (.inl v), h') := by
    intro z6 h7 hF
    rw [e_k8] at hF
    dsimp only at hF
    refine g_istore (q := 60) rfl rfl ?_
    refine g_iload (q := 62) rfl rfl rfl ?_
    by_cases c13 : 0 ≤ z6
    · rw [if_pos c13] at hF
      refine g_ifT rfl (decide_eq_true c13) ?_
      refine g_aload_n (q := 73) rfl rfl rfl ?_
      refine g_iload_n (q := 74) rfl rfl rfl ?_
      refine g_bipush (q := 76) rfl (by decide +kernel) rfl ?_
      refine g_idiv (q := 77) rfl (by decide +kernel) rfl ?_
      refine g_iload_n (q := 78) rfl rfl rfl ?_
      refine g_bipush (q := 80) rfl (by decide +kernel) rfl ?_
      refine g_irem (q := 81) rfl (by decide +kernel) rfl ?_
      refine g_iload_n (q := 82) rfl rfl rfl ?_
      refine g_bipush (q := 84) rfl (by decide +kernel) rfl ?_
      refine g_idiv (q := 85) rfl (by decide +kernel) rfl ?_
      refine g_iload_n (q := 86) rfl rfl rfl ?_
      refine g_bipush (q := 88) rfl (by decide +kernel) rfl ?_
      refine g_irem (q := 89) rfl (by decide +kernel) rfl ?_
      obtain ⟨h9, hC, hF⟩ := bd_I hF
      refine g_cv5 (q := 92) rfl rfl (fun _ => rfl) rfl (A_M_bedComes hC) (by decide +kernel) rfl ?_
      refine g_aload_n (q := 93) rfl rfl rfl ?_
      refine g_iconst (q := 94) rfl rfl ?_
      refine g_putI (q := 97) rfl (fun _ => rfl) rfl ?_
      obtain ⟨h10, e_h10, hF⟩ := hw_I hF
      rw [← e_h10]
      refine g_aload_n (q := 98) rfl rfl rfl ?_
      refine g_getI (q := 101) rfl (fun _ => rfl) rfl ?_
      refine g_iconst (q := 102) rfl rfl ?_
      refine g_isub (q := 103) rfl rfl ?_
      injection hF with hF
      injection hF with hv hh
      subst hv
      subst hh
      exact g_iret rfl
    · rw [if_neg c13] at hF
      refine g_ifF (q := 65) rfl (decide_eq_false c13) rfl ?_
      refine g_aload_n (q := 66) rfl rfl rfl ?_
      refine g_iload (q := 68) rfl rfl rfl ?_
      obtain ⟨⟨r12, h11⟩, hC, hF⟩ := bd_I hF
      dsimp only at hF
      refine g_ci2 (q := 71) rfl rfl (fun _ => rfl) rfl (A_M_refuse hC) (by decide +kernel) rfl ?_
      injection hF with hF
      injection hF with hv hh
      subst hv
      subst hh
      exact g_iret rfl
  clear e_k8
  by_cases c19 : r3 = (I (-4))
  · rw [if_pos c19] at hF
    refine g_icmpT rfl (decide_eq_true c19) ?_
    refine g_bipush (q := 31) rfl (by decide +kernel) rfl ?_
    refine g_goto rfl ?_
    exact go_sub (mm_subc rfl (mm_subc rfl (mm_subc rfl mm_sub0))) (K14 _ _ hF)
  · rw [if_neg c19] at hF
    refine g_icmpF (q := 22) rfl (decide_eq_false c19) rfl ?_
    refine g_iload (q := 24) rfl rfl rfl ?_
    refine g_bipush (q := 26) rfl (by decide +kernel) rfl ?_
    by_cases c18 : ¬ r5 = (I (-4))
    · rw [if_pos c18] at hF
      refine g_icmpT rfl (decide_eq_true c18) ?_
      refine g_iload_n (q := 35) rfl rfl rfl ?_
      by_cases c17 : r3 < 0
      · rw [if_pos c17] at hF
        refine g_ifT rfl (decide_eq_true c17) ?_
        refine g_bipush (q := 54) rfl (by decide +kernel) rfl ?_
        refine g_goto rfl ?_
        exact go_sub (mm_subc rfl (mm_subc rfl (mm_subc rfl mm_sub0))) (K14 _ _ hF)
      · rw [if_neg c17] at hF
        refine g_ifF (q := 38) rfl (decide_eq_false c17) rfl ?_
        refine g_iload (q := 40) rfl rfl rfl ?_
        by_cases c16 : r5 < 0
        · rw [if_pos c16] at hF
          refine g_ifT rfl (decide_eq_true c16) ?_
          refine g_bipush (q := 54) rfl (by decide +kernel) rfl ?_
          refine g_goto rfl ?_
          exact go_sub (mm_subc rfl (mm_subc rfl (mm_subc rfl mm_sub0))) (K14 _ _ hF)
        · rw [if_neg c16] at hF
          refine g_ifF (q := 43) rfl (decide_eq_false c16) rfl ?_
          refine g_aload_n (q := 44) rfl rfl rfl ?_
          refine g_getI (q := 47) rfl (fun _ => rfl) rfl ?_
          refine g_bipush (q := 49) rfl (by decide +kernel) rfl ?_
          by_cases c15 : ¬ (h4.1 55 0) = (I 6)
          · rw [if_pos c15] at hF
            refine g_icmpT rfl (decide_eq_true c15) ?_
            refine g_iconst (q := 58) rfl rfl ?_
            exact go_sub (mm_subc rfl (mm_subc rfl (mm_subc rfl mm_sub0))) (K14 _ _ hF)
          · rw [if_neg c15] at hF
            refine g_icmpF (q := 52) rfl (decide_eq_false c15) rfl ?_
            refine g_bipush (q := 54) rfl (by decide +kernel) rfl ?_
            refine g_goto rfl ?_
            exact go_sub (mm_subc rfl (mm_subc rfl (mm_subc rfl mm_sub0))) (K14 _ _ hF)
    · rw [if_neg c18] at hF
      refine g_icmpF (q := 29) rfl (decide_eq_false c18) rfl ?_
      refine g_bipush (q := 31) rfl (by decide +kernel) rfl ?_
      refine g_goto rfl ?_
      exact go_sub (mm_subc rfl (mm_subc rfl (mm_subc rfl mm_sub0))) (K14 _ _ hF)
/-- BothCornersModel.person(II)I -/
def F_M_person (x1 : Int32) (x2 : Int32) (h : MH) : Option (Int32 × MH) := hw (mm_hset h.1 55 10 (I 0), h.2) (fun h1 => kw (fun (z2 : Int32) (h3 : MH) => if 0 ≤ z2 then ck (mm_in (h3.1 55 2) 4) (hw (mm_hset h3.1 57 (Int32.toNatClampNeg (h3.1 55 2)) x1, h3.2) (fun h5 => ck (mm_in (h5.1 55 2) 4) (hw (mm_hset h5.1 58 (Int32.toNatClampNeg (h5.1 55 2)) x2, h5.2) (fun h6 => hw (mm_hset h6.1 55 2 ((h6.1 55 2) + (I 1)), h6.2) (fun h7 => hw (mm_hset h7.1 55 30 (I 0), h7.2) (fun h8 => some ((h8.1 55 2) - (I 1), h8))))))) else bd (F_M_refuse z2 h3) (fun (r10, h9) => some (r10, h9))) (fun k4 => if x1 < (I 1) then k4 (I (-4)) h1 else if 0 ≤ x2 then if (I 12) < x1 then k4 (I (-6)) h1 else if (I 9) < x2 then k4 (I (-6)) h1 else if ¬ (h1.1 55 2) = (I 4) then k4 (I 0) h1 else k4 (I (-6)) h1 else k4 (I (-4)) h1))
theorem A_M_person {x1 : Int32} {x2 : Int32} {h h' : MH} {v : Int32} (hF : F_M_person x1 x2 h = some (v, h')) : Ex 2 203 [.inr (.inl (some 55)), .inl x1, .inl x2] h (some (.inl v), h') := by
  unfold F_M_person at hF
  refine ex_of (d := 1) rfl rfl ?_
  refine g_aload_n (q := 1) rfl rfl rfl ?_
  refine g_iconst (q := 2) rfl rfl ?_
  refine g_putI (q := 5) rfl (fun _ => rfl) rfl ?_
  obtain ⟨h1, e_h1, hF⟩ := hw_I hF
  rw [← e_h1]
  refine g_iload_n (q := 6) rfl rfl rfl ?_
  refine g_iconst (q := 7) rfl rfl ?_
  obtain ⟨k4, e_k4, hF⟩ := kw_I hF
  have K12 : ∀ (z2 : Int32) (h3 : MH), k4 z2 h3 = some (v, h') → Go 1 203 45 (mm_lf [(0, .inr (.inl (some 55))), (1, .inl x1), (2, .inl x2)]) [.inl z2] h3 (some (.inl v), h') := by
    intro z2 h3 hF
    rw [e_k4] at hF
    dsimp only at hF
    refine g_istore_n (q := 46) rfl rfl ?_
    refine g_iload_n (q := 47) rfl rfl rfl ?_
    by_cases c11 : 0 ≤ z2
    · rw [if_pos c11] at hF
      refine g_ifT rfl (decide_eq_true c11) ?_
      refine g_aload_n (q := 57) rfl rfl rfl ?_
      refine g_getR (q := 60) rfl (fun _ => rfl) rfl ?_
      refine g_aload_n (q := 61) rfl rfl rfl ?_
      refine g_getI (q := 64) rfl (fun _ => rfl) rfl ?_
      refine g_iload_n (q := 65) rfl rfl rfl ?_
      obtain ⟨hi, hF⟩ := ck_I hF
      refine g_iastore (q := 66) rfl rfl rfl hi rfl ?_
      obtain ⟨h5, e_h5, hF⟩ := hw_I hF
      rw [← e_h5]
      refine g_aload_n (q := 67) rfl rfl rfl ?_
      refine g_getR (q := 70) rfl (fun _ => rfl) rfl ?_
      refine g_aload_n (q := 71) rfl rfl rfl ?_
      refine g_getI (q := 74) rfl (fun _ => rfl) rfl ?_
      refine g_iload_n (q := 75) rfl rfl rfl ?_
      obtain ⟨hi, hF⟩ := ck_I hF
      refine g_iastore (q := 76) rfl rfl rfl hi rfl ?_
      obtain ⟨h6, e_h6, hF⟩ := hw_I hF
      rw [← e_h6]
      refine g_aload_n (q := 77) rfl rfl rfl ?_
      refine g_dup (q := 78) rfl rfl rfl ?_
      refine g_getI (q := 81) rfl (fun _ => rfl) rfl ?_
      refine g_iconst (q := 82) rfl rfl ?_
      refine g_iadd (q := 83) rfl rfl ?_
      refine g_putI (q := 86) rfl (fun _ => rfl) rfl ?_
      obtain ⟨h7, e_h7, hF⟩ := hw_I hF
      rw [← e_h7]
      refine g_aload_n (q := 87) rfl rfl rfl ?_
      refine g_iconst (q := 88) rfl rfl ?_
      refine g_putI (q := 91) rfl (fun _ => rfl) rfl ?_
      obtain ⟨h8, e_h8, hF⟩ := hw_I hF
      rw [← e_h8]
      refine g_aload_n (q := 92) rfl rfl rfl ?_
      refine g_getI (q := 95) rfl (fun _ => rfl) rfl ?_
      refine g_iconst (q := 96) rfl rfl ?_
      refine g_isub (q := 97) rfl rfl ?_
      injection hF with hF
      injection hF with hv hh
      subst hv
      subst hh
      exact g_iret rfl
    · rw [if_neg c11] at hF
      refine g_ifF (q := 50) rfl (decide_eq_false c11) rfl ?_
      refine g_aload_n (q := 51) rfl rfl rfl ?_
      refine g_iload_n (q := 52) rfl rfl rfl ?_
      obtain ⟨⟨r10, h9⟩, hC, hF⟩ := bd_I hF
      dsimp only at hF
      refine g_ci2 (q := 55) rfl rfl (fun _ => rfl) rfl (A_M_refuse hC) (by decide +kernel) rfl ?_
      injection hF with hF
      injection hF with hv hh
      subst hv
      subst hh
      exact g_iret rfl
  clear e_k4
  by_cases c17 : x1 < (I 1)
  · rw [if_pos c17] at hF
    refine g_icmpT rfl (decide_eq_true c17) ?_
    refine g_bipush (q := 16) rfl (by decide +kernel) rfl ?_
    refine g_goto rfl ?_
    exact go_sub (mm_subc rfl (mm_subc rfl (mm_subc rfl mm_sub0))) (K12 _ _ hF)
  · rw [if_neg c17] at hF
    refine g_icmpF (q := 10) rfl (decide_eq_false c17) rfl ?_
    refine g_iload_n (q := 11) rfl rfl rfl ?_
    by_cases c16 : 0 ≤ x2
    · rw [if_pos c16] at hF
      refine g_ifT rfl (decide_eq_true c16) ?_
      refine g_iload_n (q := 20) rfl rfl rfl ?_
      refine g_bipush (q := 22) rfl (by decide +kernel) rfl ?_
      by_cases c15 : (I 12) < x1
      · rw [if_pos c15] at hF
        refine g_icmpT rfl (decide_eq_true c15) ?_
        refine g_bipush (q := 41) rfl (by decide +kernel) rfl ?_
        refine g_goto rfl ?_
        exact go_sub (mm_subc rfl (mm_subc rfl (mm_subc rfl mm_sub0))) (K12 _ _ hF)
      · rw [if_neg c15] at hF
        refine g_icmpF (q := 25) rfl (decide_eq_false c15) rfl ?_
        refine g_iload_n (q := 26) rfl rfl rfl ?_
        refine g_bipush (q := 28) rfl (by decide +kernel) rfl ?_
        by_cases c14 : (I 9) < x2
        · rw [if_pos c14] at hF
          refine g_icmpT rfl (decide_eq_true c14) ?_
          refine g_bipush (q := 41) rfl (by decide +kernel) rfl ?_
          refine g_goto rfl ?_
          exact go_sub (mm_subc rfl (mm_subc rfl (mm_subc rfl mm_sub0))) (K12 _ _ hF)
        · rw [if_neg c14] at hF
          refine g_icmpF (q := 31) rfl (decide_eq_false c14) rfl ?_
          refine g_aload_n (q := 32) rfl rfl rfl ?_
          refine g_getI (q := 35) rfl (fun _ => rfl) rfl ?_
          refine g_iconst (q := 36) rfl rfl ?_
          by_cases c13 : ¬ (h1.1 55 2) = (I 4)
          · rw [if_pos c13] at hF
            refine g_icmpT rfl (decide_eq_true c13) ?_
            refine g_iconst (q := 45) rfl rfl ?_
            exact go_sub (mm_subc rfl (mm_subc rfl (mm_subc rfl mm_sub0))) (K12 _ _ hF)
          · rw [if_neg c13] at hF
            refine g_icmpF (q := 39) rfl (decide_eq_false c13) rfl ?_
            refine g_bipush (q := 41) rfl (by decide +kernel) rfl ?_
            refine g_goto rfl ?_
            exact go_sub (mm_subc rfl (mm_subc rfl (mm_subc rfl mm_sub0))) (K12 _ _ hF)
    · rw [if_neg c16] at hF
      refine g_ifF (q := 14) rfl (decide_eq_false c16) rfl ?_
      refine g_bipush (q := 16) rfl (by decide +kernel) rfl ?_
      refine g_goto rfl ?_
      exact go_sub (mm_subc rfl (mm_subc rfl (mm_subc rfl mm_sub0))) (K12 _ _ hF)
/-- BothCornersModel.way(II)I -/
def F_M_way (x1 : Int32) (x2 : Int32) (h : MH) : Option (Int32 × MH) := hw (mm_hset h.1 55 10 (I 0), h.2) (fun h1 => bd (F_M_in (Int32.toInt64 x1) (Lg 0) (Lg 5) h1) (fun (r3, h2) => kw (fun (z4 : Int32) (h5 : MH) => if 0 ≤ z4 then ck (mm_in (h5.1 55 5) 6) (hw (mm_hset h5.1 59 (Int32.toNatClampNeg (h5.1 55 5)) x1, h5.2) (fun h7 => ck (mm_in (h7.1 55 5) 6) (hw (mm_hset h7.1 60 (Int32.toNatClampNeg (h7.1 55 5)) x2, h7.2) (fun h8 => hw (mm_hset h8.1 55 5 ((h8.1 55 5) + (I 1)), h8.2) (fun h9 => hw (mm_hset h9.1 55 30 (I 0), h9.2) (fun h10 => some ((h10.1 55 5) - (I 1), h10))))))) else bd (F_M_refuse z4 h5) (fun (r12, h11) => some (r12, h11))) (fun k6 => if ¬ r3 = 0 then if 0 ≤ x2 then if (I 9) < x2 then k6 (I (-6)) h2 else if ¬ (h2.1 55 5) = (I 6) then k6 (I 0) h2 else k6 (I (-6)) h2 else k6 (I (-4)) h2 else k6 (I (-2)) h2)))
theorem A_M_way {x1 : Int32} {x2 : Int32} {h h' : MH} {v : Int32} (hF : F_M_way x1 x2 h = some (v, h')) : Ex 2 204 [.inr (.inl (some 55)), .inl x1, .inl x2] h (some (.inl v), h') := by
  unfold F_M_way at hF
  refine ex_of (d := 1) rfl rfl ?_
  refine g_aload_n (q := 1) rfl rfl rfl ?_
  refine g_iconst (q := 2) rfl rfl ?_
  refine g_putI (q := 5) rfl (fun _ => rfl) rfl ?_
  obtain ⟨h1, e_h1, hF⟩ := hw_I hF
  rw [← e_h1]
  refine g_iload_n (q := 6) rfl rfl rfl ?_
  refine g_i2l (q := 7) rfl rfl ?_
  refine g_lconst (u := 0) (q := 8) rfl (by decide +kernel) rfl ?_
  refine g_ldc2_w (q := 11) rfl rfl ?_
  obtain ⟨⟨r3, h2⟩, hC, hF⟩ := bd_I hF
  dsimp only at hF
  refine g_ci3 (q := 14) rfl rfl (fun _ => rfl) rfl (A_M_in hC) (by decide +kernel) rfl ?_
  obtain ⟨k6, e_k6, hF⟩ := kw_I hF
  have K14 : ∀ (z4 : Int32) (h5 : MH), k6 z4 h5 = some (v, h') → Go 1 204 52 (mm_lf [(0, .inr (.inl (some 55))), (1, .inl x1), (2, .inl x2)]) [.inl z4] h5 (some (.inl v), h') := by
    intro z4 h5 hF
    rw [e_k6] at hF
    dsimp only at hF
    refine g_istore_n (q := 53) rfl rfl ?_
    refine g_iload_n (q := 54) rfl rfl rfl ?_
    by_cases c13 : 0 ≤ z4
    · rw [if_pos c13] at hF
      refine g_ifT rfl (decide_eq_true c13) ?_
      refine g_aload_n (q := 64) rfl rfl rfl ?_
      refine g_getR (q := 67) rfl (fun _ => rfl) rfl ?_
      refine g_aload_n (q := 68) rfl rfl rfl ?_
      refine g_getI (q := 71) rfl (fun _ => rfl) rfl ?_
      refine g_iload_n (q := 72) rfl rfl rfl ?_
      obtain ⟨hi, hF⟩ := ck_I hF
      refine g_iastore (q := 73) rfl rfl rfl hi rfl ?_
      obtain ⟨h7, e_h7, hF⟩ := hw_I hF
      rw [← e_h7]
      refine g_aload_n (q := 74) rfl rfl rfl ?_
      refine g_getR (q := 77) rfl (fun _ => rfl) rfl ?_
      refine g_aload_n (q := 78) rfl rfl rfl ?_
      refine g_getI (q := 81) rfl (fun _ => rfl) rfl ?_
      refine g_iload_n (q := 82) rfl rfl rfl ?_
      obtain ⟨hi, hF⟩ := ck_I hF
      refine g_iastore (q := 83) rfl rfl rfl hi rfl ?_
      obtain ⟨h8, e_h8, hF⟩ := hw_I hF
      rw [← e_h8]
      refine g_aload_n (q := 84) rfl rfl rfl ?_
      refine g_dup (q := 85) rfl rfl rfl ?_
      refine g_getI (q := 88) rfl (fun _ => rfl) rfl ?_
      refine g_iconst (q := 89) rfl rfl ?_
      refine g_iadd (q := 90) rfl rfl ?_
      refine g_putI (q := 93) rfl (fun _ => rfl) rfl ?_
      obtain ⟨h9, e_h9, hF⟩ := hw_I hF
      rw [← e_h9]
      refine g_aload_n (q := 94) rfl rfl rfl ?_
      refine g_iconst (q := 95) rfl rfl ?_
      refine g_putI (q := 98) rfl (fun _ => rfl) rfl ?_
      obtain ⟨h10, e_h10, hF⟩ := hw_I hF
      rw [← e_h10]
      refine g_aload_n (q := 99) rfl rfl rfl ?_
      refine g_getI (q := 102) rfl (fun _ => rfl) rfl ?_
      refine g_iconst (q := 103) rfl rfl ?_
      refine g_isub (q := 104) rfl rfl ?_
      injection hF with hF
      injection hF with hv hh
      subst hv
      subst hh
      exact g_iret rfl
    · rw [if_neg c13] at hF
      refine g_ifF (q := 57) rfl (decide_eq_false c13) rfl ?_
      refine g_aload_n (q := 58) rfl rfl rfl ?_
      refine g_iload_n (q := 59) rfl rfl rfl ?_
      obtain ⟨⟨r12, h11⟩, hC, hF⟩ := bd_I hF
      dsimp only at hF
      refine g_ci2 (q := 62) rfl rfl (fun _ => rfl) rfl (A_M_refuse hC) (by decide +kernel) rfl ?_
      injection hF with hF
      injection hF with hv hh
      subst hv
      subst hh
      exact g_iret rfl
  clear e_k6
  by_cases c18 : ¬ r3 = 0
  · rw [if_pos c18] at hF
    refine g_ifT rfl (decide_eq_true c18) ?_
    refine g_iload_n (q := 23) rfl rfl rfl ?_
    by_cases c17 : 0 ≤ x2
    · rw [if_pos c17] at hF
      refine g_ifT rfl (decide_eq_true c17) ?_
      refine g_iload_n (q := 32) rfl rfl rfl ?_
      refine g_bipush (q := 34) rfl (by decide +kernel) rfl ?_
      by_cases c16 : (I 9) < x2
      · rw [if_pos c16] at hF
        refine g_icmpT rfl (decide_eq_true c16) ?_
        refine g_bipush (q := 48) rfl (by decide +kernel) rfl ?_
        refine g_goto rfl ?_
        exact go_sub (mm_subc rfl (mm_subc rfl (mm_subc rfl mm_sub0))) (K14 _ _ hF)
      · rw [if_neg c16] at hF
        refine g_icmpF (q := 37) rfl (decide_eq_false c16) rfl ?_
        refine g_aload_n (q := 38) rfl rfl rfl ?_
        refine g_getI (q := 41) rfl (fun _ => rfl) rfl ?_
        refine g_bipush (q := 43) rfl (by decide +kernel) rfl ?_
        by_cases c15 : ¬ (h2.1 55 5) = (I 6)
        · rw [if_pos c15] at hF
          refine g_icmpT rfl (decide_eq_true c15) ?_
          refine g_iconst (q := 52) rfl rfl ?_
          exact go_sub (mm_subc rfl (mm_subc rfl (mm_subc rfl mm_sub0))) (K14 _ _ hF)
        · rw [if_neg c15] at hF
          refine g_icmpF (q := 46) rfl (decide_eq_false c15) rfl ?_
          refine g_bipush (q := 48) rfl (by decide +kernel) rfl ?_
          refine g_goto rfl ?_
          exact go_sub (mm_subc rfl (mm_subc rfl (mm_subc rfl mm_sub0))) (K14 _ _ hF)
    · rw [if_neg c17] at hF
      refine g_ifF (q := 26) rfl (decide_eq_false c17) rfl ?_
      refine g_bipush (q := 28) rfl (by decide +kernel) rfl ?_
      refine g_goto rfl ?_
      exact go_sub (mm_subc rfl (mm_subc rfl (mm_subc rfl mm_sub0))) (K14 _ _ hF)
  · rw [if_neg c18] at hF
    refine g_ifF (q := 17) rfl (decide_eq_false c18) rfl ?_
    refine g_bipush (q := 19) rfl (by decide +kernel) rfl ?_
    refine g_goto rfl ?_
    exact go_sub (mm_subc rfl (mm_subc rfl (mm_subc rfl mm_sub0))) (K14 _ _ hF)
/-- BothCornersModel.carry(I)I -/
def F_M_carry_2 (x1 : Int32) (h : MH) : Option (Int32 × MH) := kw (fun  (h1 : MH) => hw (mm_hset h1.1 55 25 ((h1.1 55 25) + (I 1)), h1.2) (fun h3 => cd (h3.2 = some 71) (ck (mm_in ((h3.1 55 25) - (I 1)) 52) (some (h3.1 71 (Int32.toNatClampNeg ((h3.1 55 25) - (I 1))), h3))))) (fun k2 => if (h.1 55 26) = 0 then k2 h else cd (h.2 = some 71) (ck (mm_in (h.1 55 25) 52) (hw (mm_hset h.1 71 (Int32.toNatClampNeg (h.1 55 25)) x1, h.2) (fun h5 => k2 h5))))
theorem A_M_carry_2 {x1 : Int32} {h h' : MH} {v : Int32} (hF : F_M_carry_2 x1 h = some (v, h')) : Ex 1 192 [.inr (.inl (some 55)), .inl x1] h (some (.inl v), h') := by
  unfold F_M_carry_2 at hF
  refine ex_of (d := 0) rfl rfl ?_
  refine g_aload_n (q := 1) rfl rfl rfl ?_
  refine g_getI (q := 4) rfl (fun _ => rfl) rfl ?_
  obtain ⟨k2, e_k2, hF⟩ := kw_I hF
  have K4 : ∀  (h1 : MH), k2 h1 = some (v, h') → Go 0 192 17 (mm_lf [(0, .inr (.inl (some 55)))]) [] h1 (some (.inl v), h') := by
    intro h1 hF
    rw [e_k2] at hF
    dsimp only at hF
    refine g_aload_n (q := 18) rfl rfl rfl ?_
    refine g_dup (q := 19) rfl rfl rfl ?_
    refine g_getI (q := 22) rfl (fun _ => rfl) rfl ?_
    refine g_iconst (q := 23) rfl rfl ?_
    refine g_iadd (q := 24) rfl rfl ?_
    refine g_putI (q := 27) rfl (fun _ => rfl) rfl ?_
    obtain ⟨h3, e_h3, hF⟩ := hw_I hF
    rw [← e_h3]
    refine g_aload_n (q := 28) rfl rfl rfl ?_
    obtain ⟨hk, hF⟩ := cd_I hF
    refine g_getK (q := 31) rfl (fun _ => rfl) hk rfl ?_
    refine g_aload_n (q := 32) rfl rfl rfl ?_
    refine g_getI (q := 35) rfl (fun _ => rfl) rfl ?_
    refine g_iconst (q := 36) rfl rfl ?_
    refine g_isub (q := 37) rfl rfl ?_
    obtain ⟨hi, hF⟩ := ck_I hF
    refine g_iaload (q := 38) rfl rfl rfl hi rfl ?_
    injection hF with hF
    injection hF with hv hh
    subst hv
    subst hh
    exact g_iret rfl
  clear e_k2
  by_cases c6 : (h.1 55 26) = 0
  · rw [if_pos c6] at hF
    refine g_ifT rfl (decide_eq_true c6) ?_
    exact go_sub (mm_subc rfl mm_sub0) (K4 _ hF)
  · rw [if_neg c6] at hF
    refine g_ifF (q := 7) rfl (decide_eq_false c6) rfl ?_
    refine g_aload_n (q := 8) rfl rfl rfl ?_
    obtain ⟨hk, hF⟩ := cd_I hF
    refine g_getK (q := 11) rfl (fun _ => rfl) hk rfl ?_
    refine g_aload_n (q := 12) rfl rfl rfl ?_
    refine g_getI (q := 15) rfl (fun _ => rfl) rfl ?_
    refine g_iload_n (q := 16) rfl rfl rfl ?_
    obtain ⟨hi, hF⟩ := ck_I hF
    refine g_iastore (q := 17) rfl rfl rfl hi rfl ?_
    obtain ⟨h5, e_h5, hF⟩ := hw_I hF
    rw [← e_h5]
    exact go_sub (mm_subc rfl mm_sub0) (K4 _ hF)
def L_M_carryAll_2_82 : Nat → Int32 → MH → Option (MH)
  | 0, _, _ => none
  | n + 1, x3, h => if (I 24) ≤ x3 then some (h) else ck (mm_in x3 24) (bd (F_M_carry_2 (h.1 56 (Int32.toNatClampNeg x3)) h) (fun (r21, h20) => ck (mm_in x3 24) (hw (mm_hset h20.1 56 (Int32.toNatClampNeg x3) r21, h20.2) (fun h22 => L_M_carryAll_2_82 n (x3 + I 1) h22))))
def L_M_carryAll_2_112 : Nat → Int32 → MH → Option (MH)
  | 0, _, _ => none
  | n + 1, x3, h => if (I 4) ≤ x3 then some (h) else ck (mm_in x3 4) (bd (F_M_carry_2 (h.1 57 (Int32.toNatClampNeg x3)) h) (fun (r26, h25) => ck (mm_in x3 4) (hw (mm_hset h25.1 57 (Int32.toNatClampNeg x3) r26, h25.2) (fun h27 => ck (mm_in x3 4) (bd (F_M_carry_2 (h27.1 58 (Int32.toNatClampNeg x3)) h27) (fun (r29, h28) => ck (mm_in x3 4) (hw (mm_hset h28.1 58 (Int32.toNatClampNeg x3) r29, h28.2) (fun h30 => ck (mm_in x3 4) (bd (F_M_carry_2 (h30.1 61 (Int32.toNatClampNeg x3)) h30) (fun (r32, h31) => ck (mm_in x3 4) (hw (mm_hset h31.1 61 (Int32.toNatClampNeg x3) r32, h31.2) (fun h33 => L_M_carryAll_2_112 n (x3 + I 1) h33))))))))))))
def L_M_carryAll_2_173 : Nat → Int32 → MH → Option (MH)
  | 0, _, _ => none
  | n + 1, x3, h => if (I 6) ≤ x3 then some (h) else ck (mm_in x3 6) (bd (F_M_carry_2 (h.1 59 (Int32.toNatClampNeg x3)) h) (fun (r37, h36) => ck (mm_in x3 6) (hw (mm_hset h36.1 59 (Int32.toNatClampNeg x3) r37, h36.2) (fun h38 => ck (mm_in x3 6) (bd (F_M_carry_2 (h38.1 60 (Int32.toNatClampNeg x3)) h38) (fun (r40, h39) => ck (mm_in x3 6) (hw (mm_hset h39.1 60 (Int32.toNatClampNeg x3) r40, h39.2) (fun h41 => L_M_carryAll_2_173 n (x3 + I 1) h41))))))))
/-- BothCornersModel.carryAll([IZ)V -/
def F_M_carryAll_2 (x2 : Int32) (h : MH) : Option (MH) := hw (h.1, some 71) (fun h1 => cd (x2 &&& 1 = x2) (hw (mm_hset h1.1 55 26 x2, h1.2) (fun h2 => hw (mm_hset h2.1 55 25 (I 0), h2.2) (fun h3 => bd (F_M_carry_2 (h3.1 55 0) h3) (fun (r5, h4) => hw (mm_hset h4.1 55 0 r5, h4.2) (fun h6 => bd (F_M_carry_2 (h6.1 55 2) h6) (fun (r8, h7) => hw (mm_hset h7.1 55 2 r8, h7.2) (fun h9 => bd (F_M_carry_2 (h9.1 55 5) h9) (fun (r11, h10) => hw (mm_hset h10.1 55 5 r11, h10.2) (fun h12 => iw (if (h12.1 55 9) = 0 then I 0 else I 1) (fun v13 => bd (F_M_carry_2 v13 h12) (fun (r16, h15) => iw (if ¬ r16 = (I 1) then I 0 else I 1) (fun v17 => cd (v17 &&& 1 = v17) (hw (mm_hset h15.1 55 9 v17, h15.2) (fun h19 => bd (L_M_carryAll_2_82 5000 (I 0) h19) (fun h24 => bd (L_M_carryAll_2_112 5000 (I 0) h24) (fun h35 => bd (L_M_carryAll_2_173 5000 (I 0) h35) (fun h43 => some h43))))))))))))))))))
theorem A_L_M_carryAll_2_82 {r : MRs} : ∀ (n : Nat) (x3 : Int32) (h : MH) (x : MH), L_M_carryAll_2_82 n x3 h = some x → (True) → (∀ (h' : MH), x = (h') → Go 1 193 110 (mm_lf [(0, .inr (.inl (some 55)))]) [] h' r) → Go 1 193 82 (mm_lf [(0, .inr (.inl (some 55))), (3, .inl x3)]) [] h r
  | 0, _, _, _, hF, _, _ => by cases hF
  | n + 1, x3, h, x, hF, KR, KX => by
    have ih := fun a3 => A_L_M_carryAll_2_82 (r := r) n a3 
    unfold L_M_carryAll_2_82 at hF
    refine g_iload_n (q := 83) rfl rfl rfl ?_
    refine g_bipush (q := 85) rfl (by decide +kernel) rfl ?_
    by_cases c23 : (I 24) ≤ x3
    · rw [if_pos c23] at hF
      refine g_icmpT rfl (decide_eq_true c23) ?_
      injection hF with hF
      subst hF
      exact go_sub (mm_subc rfl mm_sub0) (KX  _ rfl)
    · rw [if_neg c23] at hF
      refine g_icmpF (q := 88) rfl (decide_eq_false c23) rfl ?_
      refine g_aload_n (q := 89) rfl rfl rfl ?_
      refine g_getR (q := 92) rfl (fun _ => rfl) rfl ?_
      refine g_iload_n (q := 93) rfl rfl rfl ?_
      refine g_aload_n (q := 94) rfl rfl rfl ?_
      refine g_aload_n (q := 95) rfl rfl rfl ?_
      refine g_getR (q := 98) rfl (fun _ => rfl) rfl ?_
      refine g_iload_n (q := 99) rfl rfl rfl ?_
      obtain ⟨hi, hF⟩ := ck_I hF
      refine g_iaload (q := 100) rfl rfl rfl hi rfl ?_
      obtain ⟨⟨r21, h20⟩, hC, hF⟩ := bd_I hF
      dsimp only at hF
      refine g_ci2 (q := 103) rfl rfl (fun _ => rfl) rfl (A_M_carry_2 hC) (by decide +kernel) rfl ?_
      obtain ⟨hi, hF⟩ := ck_I hF
      refine g_iastore (q := 104) rfl rfl rfl hi rfl ?_
      obtain ⟨h22, e_h22, hF⟩ := hw_I hF
      rw [← e_h22]
      refine g_iinc (q := 107) rfl rfl rfl ?_
      refine g_goto rfl ?_
      refine go_sub (lo' := mm_lf [(0, .inr (.inl (some 55))), (3, .inl (x3 + I 1))]) (mm_subc rfl (mm_subc rfl mm_sub0)) ?_
      exact ih _ _ _ hF KR KX
theorem A_L_M_carryAll_2_112 {r : MRs} : ∀ (n : Nat) (x3 : Int32) (h : MH) (x : MH), L_M_carryAll_2_112 n x3 h = some x → (True) → (∀ (h' : MH), x = (h') → Go 1 193 171 (mm_lf [(0, .inr (.inl (some 55)))]) [] h' r) → Go 1 193 112 (mm_lf [(0, .inr (.inl (some 55))), (3, .inl x3)]) [] h r
  | 0, _, _, _, hF, _, _ => by cases hF
  | n + 1, x3, h, x, hF, KR, KX => by
    have ih := fun a3 => A_L_M_carryAll_2_112 (r := r) n a3 
    unfold L_M_carryAll_2_112 at hF
    refine g_iload_n (q := 113) rfl rfl rfl ?_
    refine g_iconst (q := 114) rfl rfl ?_
    by_cases c34 : (I 4) ≤ x3
    · rw [if_pos c34] at hF
      refine g_icmpT rfl (decide_eq_true c34) ?_
      injection hF with hF
      subst hF
      exact go_sub (mm_subc rfl mm_sub0) (KX  _ rfl)
    · rw [if_neg c34] at hF
      refine g_icmpF (q := 117) rfl (decide_eq_false c34) rfl ?_
      refine g_aload_n (q := 118) rfl rfl rfl ?_
      refine g_getR (q := 121) rfl (fun _ => rfl) rfl ?_
      refine g_iload_n (q := 122) rfl rfl rfl ?_
      refine g_aload_n (q := 123) rfl rfl rfl ?_
      refine g_aload_n (q := 124) rfl rfl rfl ?_
      refine g_getR (q := 127) rfl (fun _ => rfl) rfl ?_
      refine g_iload_n (q := 128) rfl rfl rfl ?_
      obtain ⟨hi, hF⟩ := ck_I hF
      refine g_iaload (q := 129) rfl rfl rfl hi rfl ?_
      obtain ⟨⟨r26, h25⟩, hC, hF⟩ := bd_I hF
      dsimp only at hF
      refine g_ci2 (q := 132) rfl rfl (fun _ => rfl) rfl (A_M_carry_2 hC) (by decide +kernel) rfl ?_
      obtain ⟨hi, hF⟩ := ck_I hF
      refine g_iastore (q := 133) rfl rfl rfl hi rfl ?_
      obtain ⟨h27, e_h27, hF⟩ := hw_I hF
      rw [← e_h27]
      refine g_aload_n (q := 134) rfl rfl rfl ?_
      refine g_getR (q := 137) rfl (fun _ => rfl) rfl ?_
      refine g_iload_n (q := 138) rfl rfl rfl ?_
      refine g_aload_n (q := 139) rfl rfl rfl ?_
      refine g_aload_n (q := 140) rfl rfl rfl ?_
      refine g_getR (q := 143) rfl (fun _ => rfl) rfl ?_
      refine g_iload_n (q := 144) rfl rfl rfl ?_
      obtain ⟨hi, hF⟩ := ck_I hF
      refine g_iaload (q := 145) rfl rfl rfl hi rfl ?_
      obtain ⟨⟨r29, h28⟩, hC, hF⟩ := bd_I hF
      dsimp only at hF
      refine g_ci2 (q := 148) rfl rfl (fun _ => rfl) rfl (A_M_carry_2 hC) (by decide +kernel) rfl ?_
      obtain ⟨hi, hF⟩ := ck_I hF
      refine g_iastore (q := 149) rfl rfl rfl hi rfl ?_
      obtain ⟨h30, e_h30, hF⟩ := hw_I hF
      rw [← e_h30]
      refine g_aload_n (q := 150) rfl rfl rfl ?_
      refine g_getR (q := 153) rfl (fun _ => rfl) rfl ?_
      refine g_iload_n (q := 154) rfl rfl rfl ?_
      refine g_aload_n (q := 155) rfl rfl rfl ?_
      refine g_aload_n (q := 156) rfl rfl rfl ?_
      refine g_getR (q := 159) rfl (fun _ => rfl) rfl ?_
      refine g_iload_n (q := 160) rfl rfl rfl ?_
      obtain ⟨hi, hF⟩ := ck_I hF
      refine g_iaload (q := 161) rfl rfl rfl hi rfl ?_
      obtain ⟨⟨r32, h31⟩, hC, hF⟩ := bd_I hF
      dsimp only at hF
      refine g_ci2 (q := 164) rfl rfl (fun _ => rfl) rfl (A_M_carry_2 hC) (by decide +kernel) rfl ?_
      obtain ⟨hi, hF⟩ := ck_I hF
      refine g_iastore (q := 165) rfl rfl rfl hi rfl ?_
      obtain ⟨h33, e_h33, hF⟩ := hw_I hF
      rw [← e_h33]
      refine g_iinc (q := 168) rfl rfl rfl ?_
      refine g_goto rfl ?_
      refine go_sub (lo' := mm_lf [(0, .inr (.inl (some 55))), (3, .inl (x3 + I 1))]) (mm_subc rfl (mm_subc rfl mm_sub0)) ?_
      exact ih _ _ _ hF KR KX
theorem A_L_M_carryAll_2_173 {r : MRs} : ∀ (n : Nat) (x3 : Int32) (h : MH) (x : MH), L_M_carryAll_2_173 n x3 h = some x → (True) → (∀ (h' : MH), x = (h') → Go 1 193 217 (mm_lf []) [] h' r) → Go 1 193 173 (mm_lf [(0, .inr (.inl (some 55))), (3, .inl x3)]) [] h r
  | 0, _, _, _, hF, _, _ => by cases hF
  | n + 1, x3, h, x, hF, KR, KX => by
    have ih := fun a3 => A_L_M_carryAll_2_173 (r := r) n a3 
    unfold L_M_carryAll_2_173 at hF
    refine g_iload_n (q := 174) rfl rfl rfl ?_
    refine g_bipush (q := 176) rfl (by decide +kernel) rfl ?_
    by_cases c42 : (I 6) ≤ x3
    · rw [if_pos c42] at hF
      refine g_icmpT rfl (decide_eq_true c42) ?_
      injection hF with hF
      subst hF
      exact go_sub mm_sub0 (KX  _ rfl)
    · rw [if_neg c42] at hF
      refine g_icmpF (q := 179) rfl (decide_eq_false c42) rfl ?_
      refine g_aload_n (q := 180) rfl rfl rfl ?_
      refine g_getR (q := 183) rfl (fun _ => rfl) rfl ?_
      refine g_iload_n (q := 184) rfl rfl rfl ?_
      refine g_aload_n (q := 185) rfl rfl rfl ?_
      refine g_aload_n (q := 186) rfl rfl rfl ?_
      refine g_getR (q := 189) rfl (fun _ => rfl) rfl ?_
      refine g_iload_n (q := 190) rfl rfl rfl ?_
      obtain ⟨hi, hF⟩ := ck_I hF
      refine g_iaload (q := 191) rfl rfl rfl hi rfl ?_
      obtain ⟨⟨r37, h36⟩, hC, hF⟩ := bd_I hF
      dsimp only at hF
      refine g_ci2 (q := 194) rfl rfl (fun _ => rfl) rfl (A_M_carry_2 hC) (by decide +kernel) rfl ?_
      obtain ⟨hi, hF⟩ := ck_I hF
      refine g_iastore (q := 195) rfl rfl rfl hi rfl ?_
      obtain ⟨h38, e_h38, hF⟩ := hw_I hF
      rw [← e_h38]
      refine g_aload_n (q := 196) rfl rfl rfl ?_
      refine g_getR (q := 199) rfl (fun _ => rfl) rfl ?_
      refine g_iload_n (q := 200) rfl rfl rfl ?_
      refine g_aload_n (q := 201) rfl rfl rfl ?_
      refine g_aload_n (q := 202) rfl rfl rfl ?_
      refine g_getR (q := 205) rfl (fun _ => rfl) rfl ?_
      refine g_iload_n (q := 206) rfl rfl rfl ?_
      obtain ⟨hi, hF⟩ := ck_I hF
      refine g_iaload (q := 207) rfl rfl rfl hi rfl ?_
      obtain ⟨⟨r40, h39⟩, hC, hF⟩ := bd_I hF
      dsimp only at hF
      refine g_ci2 (q := 210) rfl rfl (fun _ => rfl) rfl (A_M_carry_2 hC) (by decide +kernel) rfl ?_
      obtain ⟨hi, hF⟩ := ck_I hF
      refine g_iastore (q := 211) rfl rfl rfl hi rfl ?_
      obtain ⟨h41, e_h41, hF⟩ := hw_I hF
      rw [← e_h41]
      refine g_iinc (q := 214) rfl rfl rfl ?_
      refine g_goto rfl ?_
      refine go_sub (lo' := mm_lf [(0, .inr (.inl (some 55))), (3, .inl (x3 + I 1))]) (mm_subc rfl (mm_subc rfl mm_sub0)) ?_
      exact ih _ _ _ hF KR KX
theorem A_M_carryAll_2 {x2 : Int32} {h h' : MH} (hF : F_M_carryAll_2 x2 h = some h') : Ex 2 193 [.inr (.inl (some 55)), .inr (.inl (some 71)), .inl x2] h (none, h') := by
  unfold F_M_carryAll_2 at hF
  refine ex_of (d := 1) rfl rfl ?_
  refine g_aload_n (q := 1) rfl rfl rfl ?_
  refine g_aload_n (q := 2) rfl rfl rfl ?_
  refine g_putK (q := 5) rfl (fun _ => rfl) rfl ?_
  obtain ⟨h1, e_h1, hF⟩ := hw_I hF
  rw [← e_h1]
  refine g_aload_n (q := 6) rfl rfl rfl ?_
  refine g_iload_n (q := 7) rfl rfl rfl ?_
  obtain ⟨hz, hF⟩ := cd_I hF
  refine g_putZ (q := 10) rfl (fun _ => rfl) hz rfl ?_
  obtain ⟨h2, e_h2, hF⟩ := hw_I hF
  rw [← e_h2]
  refine g_aload_n (q := 11) rfl rfl rfl ?_
  refine g_iconst (q := 12) rfl rfl ?_
  refine g_putI (q := 15) rfl (fun _ => rfl) rfl ?_
  obtain ⟨h3, e_h3, hF⟩ := hw_I hF
  rw [← e_h3]
  refine g_aload_n (q := 16) rfl rfl rfl ?_
  refine g_aload_n (q := 17) rfl rfl rfl ?_
  refine g_aload_n (q := 18) rfl rfl rfl ?_
  refine g_getI (q := 21) rfl (fun _ => rfl) rfl ?_
  obtain ⟨⟨r5, h4⟩, hC, hF⟩ := bd_I hF
  dsimp only at hF
  refine g_ci2 (q := 24) rfl rfl (fun _ => rfl) rfl (A_M_carry_2 hC) (by decide +kernel) rfl ?_
  refine g_putI (q := 27) rfl (fun _ => rfl) rfl ?_
  obtain ⟨h6, e_h6, hF⟩ := hw_I hF
  rw [← e_h6]
  refine g_aload_n (q := 28) rfl rfl rfl ?_
  refine g_aload_n (q := 29) rfl rfl rfl ?_
  refine g_aload_n (q := 30) rfl rfl rfl ?_
  refine g_getI (q := 33) rfl (fun _ => rfl) rfl ?_
  obtain ⟨⟨r8, h7⟩, hC, hF⟩ := bd_I hF
  dsimp only at hF
  refine g_ci2 (q := 36) rfl rfl (fun _ => rfl) rfl (A_M_carry_2 hC) (by decide +kernel) rfl ?_
  refine g_putI (q := 39) rfl (fun _ => rfl) rfl ?_
  obtain ⟨h9, e_h9, hF⟩ := hw_I hF
  rw [← e_h9]
  refine g_aload_n (q := 40) rfl rfl rfl ?_
  refine g_aload_n (q := 41) rfl rfl rfl ?_
  refine g_aload_n (q := 42) rfl rfl rfl ?_
  refine g_getI (q := 45) rfl (fun _ => rfl) rfl ?_
  obtain ⟨⟨r11, h10⟩, hC, hF⟩ := bd_I hF
  dsimp only at hF
  refine g_ci2 (q := 48) rfl rfl (fun _ => rfl) rfl (A_M_carry_2 hC) (by decide +kernel) rfl ?_
  refine g_putI (q := 51) rfl (fun _ => rfl) rfl ?_
  obtain ⟨h12, e_h12, hF⟩ := hw_I hF
  rw [← e_h12]
  refine g_aload_n (q := 52) rfl rfl rfl ?_
  refine g_aload_n (q := 53) rfl rfl rfl ?_
  refine g_aload_n (q := 54) rfl rfl rfl ?_
  refine g_getI (q := 57) rfl (fun _ => rfl) rfl ?_
  obtain ⟨v13, e_v13, hF⟩ := iw_I hF
  suffices K14 : Go 1 193 65 (mm_lf [(0, .inr (.inl (some 55)))]) [.inl v13, .inr (.inl (some 55)), .inr (.inl (some 55))] h12 (none, h') by
    clear hF
    by_cases c45 : (h12.1 55 9) = 0
    · simp only [if_pos c45] at e_v13
      subst e_v13
      refine g_ifT rfl (decide_eq_true c45) ?_
      refine g_iconst (q := 65) rfl rfl ?_
      exact go_sub (mm_subc rfl mm_sub0) K14
    · simp only [if_neg c45] at e_v13
      subst e_v13
      refine g_ifF (q := 60) rfl (decide_eq_false c45) rfl ?_
      refine g_iconst (q := 61) rfl rfl ?_
      refine g_goto rfl ?_
      exact go_sub (mm_subc rfl mm_sub0) K14
  clear e_v13
  obtain ⟨⟨r16, h15⟩, hC, hF⟩ := bd_I hF
  dsimp only at hF
  refine g_ci2 (q := 68) rfl rfl (fun _ => rfl) rfl (A_M_carry_2 hC) (by decide +kernel) rfl ?_
  refine g_iconst (q := 69) rfl rfl ?_
  obtain ⟨v17, e_v17, hF⟩ := iw_I hF
  suffices K18 : Go 1 193 77 (mm_lf [(0, .inr (.inl (some 55)))]) [.inl v17, .inr (.inl (some 55))] h15 (none, h') by
    clear hF
    by_cases c44 : ¬ r16 = (I 1)
    · simp only [if_pos c44] at e_v17
      subst e_v17
      refine g_icmpT rfl (decide_eq_true c44) ?_
      refine g_iconst (q := 77) rfl rfl ?_
      exact go_sub (mm_subc rfl mm_sub0) K18
    · simp only [if_neg c44] at e_v17
      subst e_v17
      refine g_icmpF (q := 72) rfl (decide_eq_false c44) rfl ?_
      refine g_iconst (q := 73) rfl rfl ?_
      refine g_goto rfl ?_
      exact go_sub (mm_subc rfl mm_sub0) K18
  clear e_v17
  obtain ⟨hz, hF⟩ := cd_I hF
  refine g_putZ (q := 80) rfl (fun _ => rfl) hz rfl ?_
  obtain ⟨h19, e_h19, hF⟩ := hw_I hF
  rw [← e_h19]
  refine g_iconst (q := 81) rfl rfl ?_
  refine g_istore_n (q := 82) rfl rfl ?_
  refine go_sub (lo' := mm_lf [(0, .inr (.inl (some 55))), (3, .inl (I 0))]) (mm_subc rfl (mm_subc rfl mm_sub0)) ?_
  obtain ⟨h24, hC, hF⟩ := bd_I hF
  refine A_L_M_carryAll_2_82 5000 _ _ _ hC trivial ?_
  intro _ e2
  cases e2
  refine g_iconst (q := 111) rfl rfl ?_
  refine g_istore_n (q := 112) rfl rfl ?_
  refine go_sub (lo' := mm_lf [(0, .inr (.inl (some 55))), (3, .inl (I 0))]) (mm_subc rfl (mm_subc rfl mm_sub0)) ?_
  obtain ⟨h35, hC, hF⟩ := bd_I hF
  refine A_L_M_carryAll_2_112 5000 _ _ _ hC trivial ?_
  intro _ e2
  cases e2
  refine g_iconst (q := 172) rfl rfl ?_
  refine g_istore_n (q := 173) rfl rfl ?_
  refine go_sub (lo' := mm_lf [(0, .inr (.inl (some 55))), (3, .inl (I 0))]) (mm_subc rfl (mm_subc rfl mm_sub0)) ?_
  obtain ⟨h43, hC, hF⟩ := bd_I hF
  refine A_L_M_carryAll_2_173 5000 _ _ _ hC trivial ?_
  intro _ e2
  cases e2
  injection hF with hF
  subst hF
  exact g_vret rfl
