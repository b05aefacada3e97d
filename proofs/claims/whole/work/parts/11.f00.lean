-- decompiled by wip/whole/dec.py: what a method does (F_), and that the mini machine does it (A_)
/-- BothCorners.refuse(I)I -/
def F_C_refuse (x1 : Int32) (h : MH) : Option (Int32 × MH) := ck (mm_in (-x1) 7) (ck (mm_in (-x1) 7) (hw (mm_hset h.1 54 (Int32.toNatClampNeg (-x1)) ((h.1 54 (Int32.toNatClampNeg (-x1))) + (I 1)), h.2) (fun h1 => some (x1, h1))))
theorem A_C_refuse {x1 : Int32} {h h' : MH} {v : Int32} (hF : F_C_refuse x1 h = some (v, h')) : Ex 1 119 [.inr (.inl (some 0)), .inl x1] h (some (.inl v), h') := by
  unfold F_C_refuse at hF
  refine ex_of (d := 0) rfl rfl ?_
  refine g_aload_n (q := 1) rfl rfl rfl ?_
  refine g_getR (q := 4) rfl (fun _ => rfl) rfl ?_
  refine g_iload_n (q := 5) rfl rfl rfl ?_
  refine g_ineg (q := 6) rfl rfl ?_
  refine g_dup2 (q := 7) rfl rfl rfl ?_
  obtain ⟨hi, hF⟩ := ck_I hF
  refine g_iaload (q := 8) rfl rfl rfl hi rfl ?_
  refine g_iconst (q := 9) rfl rfl ?_
  refine g_iadd (q := 10) rfl rfl ?_
  obtain ⟨hi, hF⟩ := ck_I hF
  refine g_iastore (q := 11) rfl rfl rfl hi rfl ?_
  obtain ⟨h1, e_h1, hF⟩ := hw_I hF
  rw [← e_h1]
  refine g_iload_n (q := 12) rfl rfl rfl ?_
  injection hF with hF
  injection hF with hv hh
  subst hv
  subst hh
  exact g_iret rfl
/-- BothCorners$Letters.add(I)I -/
def F_T_add (x1 : Int32) (h : MH) : Option (Int32 × MH) := ck (mm_in (h.1 29 1) 96) (hw (mm_hset h.1 30 (Int32.toNatClampNeg (h.1 29 1)) x1, h.2) (fun h1 => hw (mm_hset h1.1 29 1 ((h1.1 29 1) + (I 1)), h1.2) (fun h2 => some (h2.1 29 1, h2))))
theorem A_T_add {x1 : Int32} {h h' : MH} {v : Int32} (hF : F_T_add x1 h = some (v, h')) : Ex 1 25 [.inr (.inl (some 29)), .inl x1] h (some (.inl v), h') := by
  unfold F_T_add at hF
  refine ex_of (d := 0) rfl rfl ?_
  refine g_aload_n (q := 1) rfl rfl rfl ?_
  refine g_getR (q := 4) rfl (fun _ => rfl) rfl ?_
  refine g_aload_n (q := 5) rfl rfl rfl ?_
  refine g_getI (q := 8) rfl (fun _ => rfl) rfl ?_
  refine g_iload_n (q := 9) rfl rfl rfl ?_
  obtain ⟨hi, hF⟩ := ck_I hF
  refine g_iastore (q := 10) rfl rfl rfl hi rfl ?_
  obtain ⟨h1, e_h1, hF⟩ := hw_I hF
  rw [← e_h1]
  refine g_aload_n (q := 11) rfl rfl rfl ?_
  refine g_dup (q := 12) rfl rfl rfl ?_
  refine g_getI (q := 15) rfl (fun _ => rfl) rfl ?_
  refine g_iconst (q := 16) rfl rfl ?_
  refine g_iadd (q := 17) rfl rfl ?_
  refine g_putI (q := 20) rfl (fun _ => rfl) rfl ?_
  obtain ⟨h2, e_h2, hF⟩ := hw_I hF
  rw [← e_h2]
  refine g_aload_n (q := 21) rfl rfl rfl ?_
  refine g_getI (q := 24) rfl (fun _ => rfl) rfl ?_
  injection hF with hF
  injection hF with hv hh
  subst hv
  subst hh
  exact g_iret rfl
/-- BothCorners.feed(I)I -/
def F_C_feed (x1 : Int32) (h : MH) : Option (Int32 × MH) := if 0 ≤ x1 then if (I 255) < x1 then bd (F_C_refuse (I (-6)) h) (fun (r2, h1) => some (r2, h1)) else if (h.1 29 1) < (I 96) then bd (F_T_add x1 h) (fun (r4, h3) => some (r4, h3)) else bd (F_C_refuse (I (-6)) h) (fun (r6, h5) => some (r6, h5)) else bd (F_C_refuse (I (-4)) h) (fun (r10, h9) => some (r10, h9))
theorem A_C_feed {x1 : Int32} {h h' : MH} {v : Int32} (hF : F_C_feed x1 h = some (v, h')) : Ex 2 61 [.inr (.inl (some 0)), .inl x1] h (some (.inl v), h') := by
  unfold F_C_feed at hF
  refine ex_of (d := 1) rfl rfl ?_
  refine g_iload_n (q := 1) rfl rfl rfl ?_
  by_cases c11 : 0 ≤ x1
  · rw [if_pos c11] at hF
    refine g_ifT rfl (decide_eq_true c11) ?_
    refine g_iload_n (q := 12) rfl rfl rfl ?_
    refine g_sipush (q := 15) rfl (by decide +kernel) rfl ?_
    by_cases c8 : (I 255) < x1
    · rw [if_pos c8] at hF
      refine g_icmpT rfl (decide_eq_true c8) ?_
      refine g_aload_n (q := 31) rfl rfl rfl ?_
      refine g_bipush (q := 33) rfl (by decide +kernel) rfl ?_
      obtain ⟨⟨r2, h1⟩, hC, hF⟩ := bd_I hF
      dsimp only at hF
      refine g_ci2 (q := 36) rfl rfl (fun _ => rfl) rfl (A_C_refuse hC) (by decide +kernel) rfl ?_
      injection hF with hF
      injection hF with hv hh
      subst hv
      subst hh
      exact g_iret rfl
    · rw [if_neg c8] at hF
      refine g_icmpF (q := 18) rfl (decide_eq_false c8) rfl ?_
      refine g_aload_n (q := 19) rfl rfl rfl ?_
      refine g_getR (q := 22) rfl (fun _ => rfl) rfl ?_
      refine g_getI (q := 25) rfl (fun _ => rfl) rfl ?_
      refine g_bipush (q := 27) rfl (by decide +kernel) rfl ?_
      by_cases c7 : (h.1 29 1) < (I 96)
      · rw [if_pos c7] at hF
        refine g_icmpT rfl (decide_eq_true c7) ?_
        refine g_aload_n (q := 38) rfl rfl rfl ?_
        refine g_getR (q := 41) rfl (fun _ => rfl) rfl ?_
        refine g_iload_n (q := 42) rfl rfl rfl ?_
        obtain ⟨⟨r4, h3⟩, hC, hF⟩ := bd_I hF
        dsimp only at hF
        refine g_ci2 (q := 45) rfl rfl (fun _ => rfl) rfl (A_T_add hC) (by decide +kernel) rfl ?_
        injection hF with hF
        injection hF with hv hh
        subst hv
        subst hh
        exact g_iret rfl
      · rw [if_neg c7] at hF
        refine g_icmpF (q := 30) rfl (decide_eq_false c7) rfl ?_
        refine g_aload_n (q := 31) rfl rfl rfl ?_
        refine g_bipush (q := 33) rfl (by decide +kernel) rfl ?_
        obtain ⟨⟨r6, h5⟩, hC, hF⟩ := bd_I hF
        dsimp only at hF
        refine g_ci2 (q := 36) rfl rfl (fun _ => rfl) rfl (A_C_refuse hC) (by decide +kernel) rfl ?_
        injection hF with hF
        injection hF with hv hh
        subst hv
        subst hh
        exact g_iret rfl
  · rw [if_neg c11] at hF
    refine g_ifF (q := 4) rfl (decide_eq_false c11) rfl ?_
    refine g_aload_n (q := 5) rfl rfl rfl ?_
    refine g_bipush (q := 7) rfl (by decide +kernel) rfl ?_
    obtain ⟨⟨r10, h9⟩, hC, hF⟩ := bd_I hF
    dsimp only at hF
    refine g_ci2 (q := 10) rfl rfl (fun _ => rfl) rfl (A_C_refuse hC) (by decide +kernel) rfl ?_
    injection hF with hF
    injection hF with hv hh
    subst hv
    subst hh
    exact g_iret rfl
/-- BothCorners$Letters.mostDigits(I)I -/
def F_T_mostDigits (x0 : Int32) (h : MH) : Option (Int32 × MH) := if x0 = I 98 then some (I 8, h) else if x0 = I 112 then some (I 3, h) else if x0 = I 116 then some (I 9, h) else if x0 = I 119 then some (I 2, h) else some (I 0, h)
theorem A_T_mostDigits {x0 : Int32} {h h' : MH} {v : Int32} (hF : F_T_mostDigits x0 h = some (v, h')) : Ex 1 27 [.inl x0] h (some (.inl v), h') := by
  unfold F_T_mostDigits at hF
  refine ex_of (d := 0) rfl rfl ?_
  refine g_iload_n (q := 1) rfl rfl rfl ?_
  by_cases c1 : x0 = I 98
  · rw [if_pos c1] at hF
    refine g_lsw (off := 43) (t := 44) rfl (by rw [c1]; decide +kernel) (by decide) ?_
    refine g_bipush (q := 46) rfl (by decide +kernel) rfl ?_
    injection hF with hF
    injection hF with hv hh
    subst hv
    subst hh
    exact g_iret rfl
  rw [if_neg c1] at hF
  by_cases c2 : x0 = I 112
  · rw [if_pos c2] at hF
    refine g_lsw (off := 46) (t := 47) rfl (by rw [c2]; decide +kernel) (by decide) ?_
    refine g_iconst (q := 48) rfl rfl ?_
    injection hF with hF
    injection hF with hv hh
    subst hv
    subst hh
    exact g_iret rfl
  rw [if_neg c2] at hF
  by_cases c3 : x0 = I 116
  · rw [if_pos c3] at hF
    refine g_lsw (off := 50) (t := 51) rfl (by rw [c3]; decide +kernel) (by decide) ?_
    refine g_bipush (q := 53) rfl (by decide +kernel) rfl ?_
    injection hF with hF
    injection hF with hv hh
    subst hv
    subst hh
    exact g_iret rfl
  rw [if_neg c3] at hF
  by_cases c4 : x0 = I 119
  · rw [if_pos c4] at hF
    refine g_lsw (off := 48) (t := 49) rfl (by rw [c4]; decide +kernel) (by decide) ?_
    refine g_iconst (q := 50) rfl rfl ?_
    injection hF with hF
    injection hF with hv hh
    subst hv
    subst hh
    exact g_iret rfl
  rw [if_neg c4] at hF
  refine g_lsw (off := 53) (t := 54) rfl ((by refine mm_lswS c1 (by decide) ?_; refine mm_lswS c2 (by decide) ?_; refine mm_lswS c3 (by decide) ?_; refine mm_lswS c4 (by decide) ?_; rfl)) (by decide) ?_
  refine g_iconst (q := 55) rfl rfl ?_
  injection hF with hF
  injection hF with hv hh
  subst hv
  subst hh
  exact g_iret rfl
def L_T_faultPlace_9 : Nat → Int32 → Int32 → Int32 → Int32 → MH → Option ((Int32 × MH) ⊕ (Int32 × MH))
  | 0, _, _, _, _, _ => none
  | n + 1, x1, x2, x3, x4, h => if (h.1 29 1) ≤ x4 then some (.inr (x1, h)) else ck (mm_in x4 96) (if ¬ x1 = 0 then if (h.1 30 (Int32.toNatClampNeg x4)) < (I 48) then if ¬ (h.1 30 (Int32.toNatClampNeg x4)) = (I 59) then some (.inl (x4, h)) else if 0 < x2 then some (.inl (x4, h)) else L_T_faultPlace_9 n (I 0) x2 x3 (x4 + I 1) h else if (I 57) < (h.1 30 (Int32.toNatClampNeg x4)) then if ¬ (h.1 30 (Int32.toNatClampNeg x4)) = (I 59) then some (.inl (x4, h)) else if 0 < x2 then some (.inl (x4, h)) else L_T_faultPlace_9 n (I 0) x2 x3 (x4 + I 1) h else if x3 ≤ 0 then if ¬ (h.1 30 (Int32.toNatClampNeg x4)) = (I 59) then some (.inl (x4, h)) else if 0 < x2 then some (.inl (x4, h)) else L_T_faultPlace_9 n (I 0) x2 x3 (x4 + I 1) h else L_T_faultPlace_9 n x1 (x2 + I (-1)) (x3 + I (-1)) (x4 + I 1) h else bd (F_T_mostDigits (h.1 30 (Int32.toNatClampNeg x4)) h) (fun (r11, h10) => iw (if ¬ (h.1 30 (Int32.toNatClampNeg x4)) = (I 116) then r11 else I 1) (fun v12 => if ¬ r11 = 0 then L_T_faultPlace_9 n (I 1) v12 r11 (x4 + I 1) h10 else some (.inl (x4, h10)))))
/-- BothCorners$Letters.faultPlace()I -/
def F_T_faultPlace (h : MH) : Option (Int32 × MH) := be (L_T_faultPlace_9 5000 (I 0) (I 0) (I 0) (I 0) h) (fun u20 => some u20) (fun (y18, h19) => if ¬ y18 = 0 then some (h19.1 29 1, h19) else if ¬ (h19.1 29 1) = 0 then some (I (-1), h19) else some (h19.1 29 1, h19))
theorem A_L_T_faultPlace_9 {r : MRs} : ∀ (n : Nat) (x1 : Int32) (x2 : Int32) (x3 : Int32) (x4 : Int32) (h : MH) (x : (Int32 × MH) ⊕ (Int32 × MH)), L_T_faultPlace_9 n x1 x2 x3 x4 h = some x → (∀ (u : Int32) (h' : MH), x = .inl (u, h') → r = (some (.inl u), h')) → (∀ (e1 : Int32) (h' : MH), x = .inr (e1, h') → Go 1 26 114 (mm_lf [(0, .inr (.inl (some 29))), (1, .inl e1)]) [] h' r) → Go 1 26 9 (mm_lf [(0, .inr (.inl (some 29))), (1, .inl x1), (2, .inl x2), (3, .inl x3), (4, .inl x4)]) [] h r
  | 0, _, _, _, _, _, _, hF, _, _ => by cases hF
  | n + 1, x1, x2, x3, x4, h, x, hF, KR, KX => by
    have ih := fun a1 a2 a3 a4 => A_L_T_faultPlace_9 (r := r) n a1 a2 a3 a4 
    unfold L_T_faultPlace_9 at hF
    refine g_iload (q := 11) rfl rfl rfl ?_
    refine g_aload_n (q := 12) rfl rfl rfl ?_
    refine g_getI (q := 15) rfl (fun _ => rfl) rfl ?_
    by_cases c17 : (h.1 29 1) ≤ x4
    · rw [if_pos c17] at hF
      refine g_icmpT rfl (decide_eq_true c17) ?_
      injection hF with hF
      subst hF
      exact go_sub (mm_subc rfl (mm_subc rfl mm_sub0)) (KX _ _ rfl)
    · rw [if_neg c17] at hF
      refine g_icmpF (q := 18) rfl (decide_eq_false c17) rfl ?_
      refine g_aload_n (q := 19) rfl rfl rfl ?_
      refine g_getR (q := 22) rfl (fun _ => rfl) rfl ?_
      refine g_iload (q := 24) rfl rfl rfl ?_
      obtain ⟨hi, hF⟩ := ck_I hF
      refine g_iaload (q := 25) rfl rfl rfl hi rfl ?_
      refine g_istore (q := 27) rfl rfl ?_
      refine g_iload_n (q := 28) rfl rfl rfl ?_
      by_cases c16 : ¬ x1 = 0
      · rw [if_pos c16] at hF
        refine g_ifT rfl (decide_eq_true c16) ?_
        refine g_iload (q := 64) rfl rfl rfl ?_
        refine g_bipush (q := 66) rfl (by decide +kernel) rfl ?_
        by_cases c9 : (h.1 30 (Int32.toNatClampNeg x4)) < (I 48)
        · rw [if_pos c9] at hF
          refine g_icmpT rfl (decide_eq_true c9) ?_
          refine g_iload (q := 91) rfl rfl rfl ?_
          refine g_bipush (q := 93) rfl (by decide +kernel) rfl ?_
          by_cases c2 : ¬ (h.1 30 (Int32.toNatClampNeg x4)) = (I 59)
          · rw [if_pos c2] at hF
            refine g_icmpT rfl (decide_eq_true c2) ?_
            refine g_iload (q := 107) rfl rfl rfl ?_
            injection hF with hF
            subst hF
            rw [KR _ _ rfl]
            exact g_iret rfl
          · rw [if_neg c2] at hF
            refine g_icmpF (q := 96) rfl (decide_eq_false c2) rfl ?_
            refine g_iload_n (q := 97) rfl rfl rfl ?_
            by_cases c1 : 0 < x2
            · rw [if_pos c1] at hF
              refine g_ifT rfl (decide_eq_true c1) ?_
              refine g_iload (q := 107) rfl rfl rfl ?_
              injection hF with hF
              subst hF
              rw [KR _ _ rfl]
              exact g_iret rfl
            · rw [if_neg c1] at hF
              refine g_ifF (q := 100) rfl (decide_eq_false c1) rfl ?_
              refine g_iconst (q := 101) rfl rfl ?_
              refine g_istore_n (q := 102) rfl rfl ?_
              refine g_goto rfl ?_
              refine g_iinc (q := 111) rfl rfl rfl ?_
              refine g_goto rfl ?_
              refine go_sub (lo' := mm_lf [(0, .inr (.inl (some 29))), (1, .inl (I 0)), (2, .inl x2), (3, .inl x3), (4, .inl (x4 + I 1))]) (mm_subc rfl (mm_subc rfl (mm_subc rfl (mm_subc rfl (mm_subc rfl mm_sub0))))) ?_
              exact ih _ _ _ _ _ _ hF KR KX
        · rw [if_neg c9] at hF
          refine g_icmpF (q := 69) rfl (decide_eq_false c9) rfl ?_
          refine g_iload (q := 71) rfl rfl rfl ?_
          refine g_bipush (q := 73) rfl (by decide +kernel) rfl ?_
          by_cases c8 : (I 57) < (h.1 30 (Int32.toNatClampNeg x4))
          · rw [if_pos c8] at hF
            refine g_icmpT rfl (decide_eq_true c8) ?_
            refine g_iload (q := 91) rfl rfl rfl ?_
            refine g_bipush (q := 93) rfl (by decide +kernel) rfl ?_
            by_cases c4 : ¬ (h.1 30 (Int32.toNatClampNeg x4)) = (I 59)
            · rw [if_pos c4] at hF
              refine g_icmpT rfl (decide_eq_true c4) ?_
              refine g_iload (q := 107) rfl rfl rfl ?_
              injection hF with hF
              subst hF
              rw [KR _ _ rfl]
              exact g_iret rfl
            · rw [if_neg c4] at hF
              refine g_icmpF (q := 96) rfl (decide_eq_false c4) rfl ?_
              refine g_iload_n (q := 97) rfl rfl rfl ?_
              by_cases c3 : 0 < x2
              · rw [if_pos c3] at hF
                refine g_ifT rfl (decide_eq_true c3) ?_
                refine g_iload (q := 107) rfl rfl rfl ?_
                injection hF with hF
                subst hF
                rw [KR _ _ rfl]
                exact g_iret rfl
              · rw [if_neg c3] at hF
                refine g_ifF (q := 100) rfl (decide_eq_false c3) rfl ?_
                refine g_iconst (q := 101) rfl rfl ?_
                refine g_istore_n (q := 102) rfl rfl ?_
                refine g_goto rfl ?_
                refine g_iinc (q := 111) rfl rfl rfl ?_
                refine g_goto rfl ?_
                refine go_sub (lo' := mm_lf [(0, .inr (.inl (some 29))), (1, .inl (I 0)), (2, .inl x2), (3, .inl x3), (4, .inl (x4 + I 1))]) (mm_subc rfl (mm_subc rfl (mm_subc rfl (mm_subc rfl (mm_subc rfl mm_sub0))))) ?_
                exact ih _ _ _ _ _ _ hF KR KX
          · rw [if_neg c8] at hF
            refine g_icmpF (q := 76) rfl (decide_eq_false c8) rfl ?_
            refine g_iload_n (q := 77) rfl rfl rfl ?_
            by_cases c7 : x3 ≤ 0
            · rw [if_pos c7] at hF
              refine g_ifT rfl (decide_eq_true c7) ?_
              refine g_iload (q := 91) rfl rfl rfl ?_
              refine g_bipush (q := 93) rfl (by decide +kernel) rfl ?_
              by_cases c6 : ¬ (h.1 30 (Int32.toNatClampNeg x4)) = (I 59)
              · rw [if_pos c6] at hF
                refine g_icmpT rfl (decide_eq_true c6) ?_
                refine g_iload (q := 107) rfl rfl rfl ?_
                injection hF with hF
                subst hF
                rw [KR _ _ rfl]
                exact g_iret rfl
              · rw [if_neg c6] at hF
                refine g_icmpF (q := 96) rfl (decide_eq_false c6) rfl ?_
                refine g_iload_n (q := 97) rfl rfl rfl ?_
                by_cases c5 : 0 < x2
                · rw [if_pos c5] at hF
                  refine g_ifT rfl (decide_eq_true c5) ?_
                  refine g_iload (q := 107) rfl rfl rfl ?_
                  injection hF with hF
                  subst hF
                  rw [KR _ _ rfl]
                  exact g_iret rfl
                · rw [if_neg c5] at hF
                  refine g_ifF (q := 100) rfl (decide_eq_false c5) rfl ?_
                  refine g_iconst (q := 101) rfl rfl ?_
                  refine g_istore_n (q := 102) rfl rfl ?_
                  refine g_goto rfl ?_
                  refine g_iinc (q := 111) rfl rfl rfl ?_
                  refine g_goto rfl ?_
                  refine go_sub (lo' := mm_lf [(0, .inr (.inl (some 29))), (1, .inl (I 0)), (2, .inl x2), (3, .inl x3), (4, .inl (x4 + I 1))]) (mm_subc rfl (mm_subc rfl (mm_subc rfl (mm_subc rfl (mm_subc rfl mm_sub0))))) ?_
                  exact ih _ _ _ _ _ _ hF KR KX
            · rw [if_neg c7] at hF
              refine g_ifF (q := 80) rfl (decide_eq_false c7) rfl ?_
              refine g_iinc (q := 83) rfl rfl rfl ?_
              refine g_iinc (q := 86) rfl rfl rfl ?_
              refine g_goto rfl ?_
              refine g_iinc (q := 111) rfl rfl rfl ?_
              refine g_goto rfl ?_
              refine go_sub (lo' := mm_lf [(0, .inr (.inl (some 29))), (1, .inl x1), (2, .inl (x2 + I (-1))), (3, .inl (x3 + I (-1))), (4, .inl (x4 + I 1))]) (mm_subc rfl (mm_subc rfl (mm_subc rfl (mm_subc rfl (mm_subc rfl mm_sub0))))) ?_
              exact ih _ _ _ _ _ _ hF KR KX
      · rw [if_neg c16] at hF
        refine g_ifF (q := 31) rfl (decide_eq_false c16) rfl ?_
        refine g_iload (q := 33) rfl rfl rfl ?_
        obtain ⟨⟨r11, h10⟩, hC, hF⟩ := bd_I hF
        dsimp only at hF
        refine g_ci1 (q := 36) rfl rfl (fun _ => rfl) rfl (A_T_mostDigits hC) (by decide +kernel) rfl ?_
        refine g_istore_n (q := 37) rfl rfl ?_
        refine g_iload (q := 39) rfl rfl rfl ?_
        refine g_bipush (q := 41) rfl (by decide +kernel) rfl ?_
        obtain ⟨v12, e_v12, hF⟩ := iw_I hF
        suffices K13 : Go 1 26 49 (mm_lf [(0, .inr (.inl (some 29))), (3, .inl r11), (4, .inl x4)]) [.inl v12] h10 r by
          clear hF
          by_cases c15 : ¬ (h.1 30 (Int32.toNatClampNeg x4)) = (I 116)
          · simp only [if_pos c15] at e_v12
            subst e_v12
            refine g_icmpT rfl (decide_eq_true c15) ?_
            refine g_iload_n (q := 49) rfl rfl rfl ?_
            exact go_sub (mm_subc rfl (mm_subc rfl (mm_subc rfl mm_sub0))) K13
          · simp only [if_neg c15] at e_v12
            subst e_v12
            refine g_icmpF (q := 44) rfl (decide_eq_false c15) rfl ?_
            refine g_iconst (q := 45) rfl rfl ?_
            refine g_goto rfl ?_
            exact go_sub (mm_subc rfl (mm_subc rfl (mm_subc rfl mm_sub0))) K13
        clear e_v12
        refine g_istore_n (q := 50) rfl rfl ?_
        refine g_iload_n (q := 51) rfl rfl rfl ?_
        by_cases c14 : ¬ r11 = 0
        · rw [if_pos c14] at hF
          refine g_ifT rfl (decide_eq_true c14) ?_
          refine g_iconst (q := 58) rfl rfl ?_
          refine g_istore_n (q := 59) rfl rfl ?_
          refine g_goto rfl ?_
          refine g_iinc (q := 111) rfl rfl rfl ?_
          refine g_goto rfl ?_
          refine go_sub (lo' := mm_lf [(0, .inr (.inl (some 29))), (1, .inl (I 1)), (2, .inl v12), (3, .inl r11), (4, .inl (x4 + I 1))]) (mm_subc rfl (mm_subc rfl (mm_subc rfl (mm_subc rfl (mm_subc rfl mm_sub0))))) ?_
          exact ih _ _ _ _ _ _ hF KR KX
        · rw [if_neg c14] at hF
          refine g_ifF (q := 54) rfl (decide_eq_false c14) rfl ?_
          refine g_iload (q := 56) rfl rfl rfl ?_
          injection hF with hF
          subst hF
          rw [KR _ _ rfl]
          exact g_iret rfl
theorem A_T_faultPlace {h h' : MH} {v : Int32} (hF : F_T_faultPlace h = some (v, h')) : Ex 2 26 [.inr (.inl (some 29))] h (some (.inl v), h') := by
  unfold F_T_faultPlace at hF
  refine ex_of (d := 1) rfl rfl ?_
  refine g_iconst (q := 1) rfl rfl ?_
  refine g_istore_n (q := 2) rfl rfl ?_
  refine g_iconst (q := 3) rfl rfl ?_
  refine g_istore_n (q := 4) rfl rfl ?_
  refine g_iconst (q := 5) rfl rfl ?_
  refine g_istore_n (q := 6) rfl rfl ?_
  refine g_iconst (q := 7) rfl rfl ?_
  refine g_istore (q := 9) rfl rfl ?_
  refine go_sub (lo' := mm_lf [(0, .inr (.inl (some 29))), (1, .inl (I 0)), (2, .inl (I 0)), (3, .inl (I 0)), (4, .inl (I 0))]) (mm_subc rfl (mm_subc rfl (mm_subc rfl (mm_subc rfl (mm_subc rfl mm_sub0))))) ?_
  rcases be_I hF with ⟨u, hC, hF⟩ | ⟨⟨y18, h19⟩, hC, hF⟩
  · refine A_L_T_faultPlace_9 5000 _ _ _ _ _ _ hC ?_ ?_
    · intro u2 h2 e2
      cases e2
      injection hF with hF
      injection hF with hv hh
      subst hv
      subst hh
      rfl
    · intro _ _ e2
      cases e2
  dsimp only at hF
  refine A_L_T_faultPlace_9 5000 _ _ _ _ _ _ hC ?_ ?_
  · intro u2 h2 e2
    cases e2
  intro _ _ e2
  cases e2
  refine g_iload_n (q := 115) rfl rfl rfl ?_
  by_cases c22 : ¬ y18 = 0
  · rw [if_pos c22] at hF
    refine g_ifT rfl (decide_eq_true c22) ?_
    refine g_aload_n (q := 126) rfl rfl rfl ?_
    refine g_getI (q := 129) rfl (fun _ => rfl) rfl ?_
    refine g_goto rfl ?_
    injection hF with hF
    injection hF with hv hh
    subst hv
    subst hh
    exact g_iret rfl
  · rw [if_neg c22] at hF
    refine g_ifF (q := 118) rfl (decide_eq_false c22) rfl ?_
    refine g_aload_n (q := 119) rfl rfl rfl ?_
    refine g_getI (q := 122) rfl (fun _ => rfl) rfl ?_
    by_cases c21 : ¬ (h19.1 29 1) = 0
    · rw [if_pos c21] at hF
      refine g_ifT rfl (decide_eq_true c21) ?_
      refine g_iconst (q := 133) rfl rfl ?_
      injection hF with hF
      injection hF with hv hh
      subst hv
      subst hh
      exact g_iret rfl
    · rw [if_neg c21] at hF
      refine g_ifF (q := 125) rfl (decide_eq_false c21) rfl ?_
      refine g_aload_n (q := 126) rfl rfl rfl ?_
      refine g_getI (q := 129) rfl (fun _ => rfl) rfl ?_
      refine g_goto rfl ?_
      injection hF with hF
      injection hF with hv hh
      subst hv
      subst hh
      exact g_iret rfl
/-- BothCorners$House.copyFrom(LBothCorners$House;)V -/
def F_H_copyFrom (h : MH) : Option (MH) := hw (mm_hcpy h.1 9 23 (Int32.toNatClampNeg (I 0)) (Int32.toNatClampNeg (I 0)) (Int32.toNatClampNeg (I 6)), h.2) (fun h1 => hw (mm_hcpy h1.1 10 24 (Int32.toNatClampNeg (I 0)) (Int32.toNatClampNeg (I 0)) (Int32.toNatClampNeg (I 6)), h1.2) (fun h2 => hw (mm_hcpy h2.1 11 25 (Int32.toNatClampNeg (I 0)) (Int32.toNatClampNeg (I 0)) (Int32.toNatClampNeg (I 4)), h2.2) (fun h3 => hw (mm_hcpy h3.1 12 26 (Int32.toNatClampNeg (I 0)) (Int32.toNatClampNeg (I 0)) (Int32.toNatClampNeg (I 4)), h3.2) (fun h4 => hw (mm_hcpy h4.1 13 27 (Int32.toNatClampNeg (I 0)) (Int32.toNatClampNeg (I 0)) (Int32.toNatClampNeg (I 6)), h4.2) (fun h5 => hw (mm_hcpy h5.1 14 28 (Int32.toNatClampNeg (I 0)) (Int32.toNatClampNeg (I 0)) (Int32.toNatClampNeg (I 6)), h5.2) (fun h6 => hw (mm_hset h6.1 22 7 (h6.1 8 7), h6.2) (fun h7 => hw (mm_hset h7.1 22 8 (h7.1 8 8), h7.2) (fun h8 => hw (mm_hset h8.1 22 9 (h8.1 8 9), h8.2) (fun h9 => hw (mm_hset h9.1 22 10 (h9.1 8 10), h9.2) (fun h10 => some h10))))))))))
theorem A_H_copyFrom {h h' : MH} (hF : F_H_copyFrom h = some h') : Ex 1 7 [.inr (.inl (some 22)), .inr (.inl (some 8))] h (none, h') := by
  unfold F_H_copyFrom at hF
  refine ex_of (d := 0) rfl rfl ?_
  refine g_aload_n (q := 1) rfl rfl rfl ?_
  refine g_getR (q := 4) rfl (fun _ => rfl) rfl ?_
  refine g_iconst (q := 5) rfl rfl ?_
  refine g_aload_n (q := 6) rfl rfl rfl ?_
  refine g_getR (q := 9) rfl (fun _ => rfl) rfl ?_
  refine g_iconst (q := 10) rfl rfl ?_
  refine g_bipush (q := 12) rfl (by decide +kernel) rfl ?_
  refine g_copy (q := 15) rfl rfl rfl (by decide +kernel) rfl ?_
  obtain ⟨h1, e_h1, hF⟩ := hw_I hF
  rw [← e_h1]
  refine g_aload_n (q := 16) rfl rfl rfl ?_
  refine g_getR (q := 19) rfl (fun _ => rfl) rfl ?_
  refine g_iconst (q := 20) rfl rfl ?_
  refine g_aload_n (q := 21) rfl rfl rfl ?_
  refine g_getR (q := 24) rfl (fun _ => rfl) rfl ?_
  refine g_iconst (q := 25) rfl rfl ?_
  refine g_bipush (q := 27) rfl (by decide +kernel) rfl ?_
  refine g_copy (q := 30) rfl rfl rfl (by decide +kernel) rfl ?_
  obtain ⟨h2, e_h2, hF⟩ := hw_I hF
  rw [← e_h2]
  refine g_aload_n (q := 31) rfl rfl rfl ?_
  refine g_getR (q := 34) rfl (fun _ => rfl) rfl ?_
  refine g_iconst (q := 35) rfl rfl ?_
  refine g_aload_n (q := 36) rfl rfl rfl ?_
  refine g_getR (q := 39) rfl (fun _ => rfl) rfl ?_
  refine g_iconst (q := 40) rfl rfl ?_
  refine g_iconst (q := 41) rfl rfl ?_
  refine g_copy (q := 44) rfl rfl rfl (by decide +kernel) rfl ?_
  obtain ⟨h3, e_h3, hF⟩ := hw_I hF
  rw [← e_h3]
  refine g_aload_n (q := 45) rfl rfl rfl ?_
  refine g_getR (q := 48) rfl (fun _ => rfl) rfl ?_
  refine g_iconst (q := 49) rfl rfl ?_
  refine g_aload_n (q := 50) rfl rfl rfl ?_
  refine g_getR (q := 53) rfl (fun _ => rfl) rfl ?_
  refine g_iconst (q := 54) rfl rfl ?_
  refine g_iconst (q := 55) rfl rfl ?_
  refine g_copy (q := 58) rfl rfl rfl (by decide +kernel) rfl ?_
  obtain ⟨h4, e_h4, hF⟩ := hw_I hF
  rw [← e_h4]
  refine g_aload_n (q := 59) rfl rfl rfl ?_
  refine g_getR (q := 62) rfl (fun _ => rfl) rfl ?_
  refine g_iconst (q := 63) rfl rfl ?_
  refine g_aload_n (q := 64) rfl rfl rfl ?_
  refine g_getR (q := 67) rfl (fun _ => rfl) rfl ?_
  refine g_iconst (q := 68) rfl rfl ?_
  refine g_bipush (q := 70) rfl (by decide +kernel) rfl ?_
  refine g_copy (q := 73) rfl rfl rfl (by decide +kernel) rfl ?_
  obtain ⟨h5, e_h5, hF⟩ := hw_I hF
  rw [← e_h5]
  refine g_aload_n (q := 74) rfl rfl rfl ?_
  refine g_getR (q := 77) rfl (fun _ => rfl) rfl ?_
  refine g_iconst (q := 78) rfl rfl ?_
  refine g_aload_n (q := 79) rfl rfl rfl ?_
  refine g_getR (q := 82) rfl (fun _ => rfl) rfl ?_
  refine g_iconst (q := 83) rfl rfl ?_
  refine g_bipush (q := 85) rfl (by decide +kernel) rfl ?_
  refine g_copy (q := 88) rfl rfl rfl (by decide +kernel) rfl ?_
  obtain ⟨h6, e_h6, hF⟩ := hw_I hF
  rw [← e_h6]
  refine g_aload_n (q := 89) rfl rfl rfl ?_
  refine g_aload_n (q := 90) rfl rfl rfl ?_
  refine g_getI (q := 93) rfl (fun _ => rfl) rfl ?_
  refine g_putI (q := 96) rfl (fun _ => rfl) rfl ?_
  obtain ⟨h7, e_h7, hF⟩ := hw_I hF
  rw [← e_h7]
  refine g_aload_n (q := 97) rfl rfl rfl ?_
  refine g_aload_n (q := 98) rfl rfl rfl ?_
  refine g_getI (q := 101) rfl (fun _ => rfl) rfl ?_
  refine g_putI (q := 104) rfl (fun _ => rfl) rfl ?_
  obtain ⟨h8, e_h8, hF⟩ := hw_I hF
  rw [← e_h8]
  refine g_aload_n (q := 105) rfl rfl rfl ?_
  refine g_aload_n (q := 106) rfl rfl rfl ?_
  refine g_getI (q := 109) rfl (fun _ => rfl) rfl ?_
  refine g_putI (q := 112) rfl (fun _ => rfl) rfl ?_
  obtain ⟨h9, e_h9, hF⟩ := hw_I hF
  rw [← e_h9]
  refine g_aload_n (q := 113) rfl rfl rfl ?_
  refine g_aload_n (q := 114) rfl rfl rfl ?_
  refine g_getI (q := 117) rfl (fun _ => rfl) rfl ?_
  refine g_putI (q := 120) rfl (fun _ => rfl) rfl ?_
  obtain ⟨h10, e_h10, hF⟩ := hw_I hF
  rw [← e_h10]
  injection hF with hF
  subst hF
  exact g_vret rfl
def L_T_number_5 (x2 : Int32) : Nat → Int32 → Int32 → MH → Option (Int32 × MH)
  | 0, _, _, _ => none
  | n + 1, x3, x4, h => if x2 ≤ x4 then some (x3, h) else if (h.1 29 1) ≤ x4 then some (x3, h) else ck (mm_in x4 96) (iw ((((I 10) * x3) + (h.1 30 (Int32.toNatClampNeg x4))) - (I 48)) (fun v1 => L_T_number_5 x2 n v1 (x4 + I 1) h))
/-- BothCorners$Letters.number(II)I -/
def F_T_number (x1 : Int32) (x2 : Int32) (h : MH) : Option (Int32 × MH) := bd (L_T_number_5 x2 5000 (I 0) x1 h) (fun (y4, h5) => some (y4, h5))
theorem A_L_T_number_5 {x2 : Int32} {r : MRs} : ∀ (n : Nat) (x3 : Int32) (x4 : Int32) (h : MH) (x : Int32 × MH), L_T_number_5 x2 n x3 x4 h = some x → (True) → (∀ (e3 : Int32) (h' : MH), x = (e3, h') → Go 0 32 42 (mm_lf [(3, .inl e3)]) [] h' r) → Go 0 32 5 (mm_lf [(0, .inr (.inl (some 29))), (2, .inl x2), (3, .inl x3), (4, .inl x4)]) [] h r
  | 0, _, _, _, _, hF, _, _ => by cases hF
  | n + 1, x3, x4, h, x, hF, KR, KX => by
    have ih := fun a3 a4 => A_L_T_number_5 (x2 := x2) (r := r) n a3 a4 
    unfold L_T_number_5 at hF
    refine g_iload (q := 7) rfl rfl rfl ?_
    refine g_iload_n (q := 8) rfl rfl rfl ?_
    by_cases c3 : x2 ≤ x4
    · rw [if_pos c3] at hF
      refine g_icmpT rfl (decide_eq_true c3) ?_
      injection hF with hF
      subst hF
      exact go_sub (mm_subc rfl mm_sub0) (KX _ _ rfl)
    · rw [if_neg c3] at hF
      refine g_icmpF (q := 11) rfl (decide_eq_false c3) rfl ?_
      refine g_iload (q := 13) rfl rfl rfl ?_
      refine g_aload_n (q := 14) rfl rfl rfl ?_
      refine g_getI (q := 17) rfl (fun _ => rfl) rfl ?_
      by_cases c2 : (h.1 29 1) ≤ x4
      · rw [if_pos c2] at hF
        refine g_icmpT rfl (decide_eq_true c2) ?_
        injection hF with hF
        subst hF
        exact go_sub (mm_subc rfl mm_sub0) (KX _ _ rfl)
      · rw [if_neg c2] at hF
        refine g_icmpF (q := 20) rfl (decide_eq_false c2) rfl ?_
        refine g_bipush (q := 22) rfl (by decide +kernel) rfl ?_
        refine g_iload_n (q := 23) rfl rfl rfl ?_
        refine g_imul (q := 24) rfl rfl ?_
        refine g_aload_n (q := 25) rfl rfl rfl ?_
        refine g_getR (q := 28) rfl (fun _ => rfl) rfl ?_
        refine g_iload (q := 30) rfl rfl rfl ?_
        obtain ⟨hi, hF⟩ := ck_I hF
        refine g_iaload (q := 31) rfl rfl rfl hi rfl ?_
        refine g_iadd (q := 32) rfl rfl ?_
        refine g_bipush (q := 34) rfl (by decide +kernel) rfl ?_
        refine g_isub (q := 35) rfl rfl ?_
        refine g_istore_n (q := 36) rfl rfl ?_
        obtain ⟨v1, e_v1, hF⟩ := iw_I hF
        rw [← e_v1]
        refine g_iinc (q := 39) rfl rfl rfl ?_
        refine g_goto rfl ?_
        refine go_sub (lo' := mm_lf [(0, .inr (.inl (some 29))), (2, .inl x2), (3, .inl v1), (4, .inl (x4 + I 1))]) (mm_subc rfl (mm_subc rfl (mm_subc rfl (mm_subc rfl mm_sub0)))) ?_
        exact ih _ _ _ _ hF KR KX
theorem A_T_number {x1 : Int32} {x2 : Int32} {h h' : MH} {v : Int32} (hF : F_T_number x1 x2 h = some (v, h')) : Ex 1 32 [.inr (.inl (some 29)), .inl x1, .inl x2] h (some (.inl v), h') := by
  unfold F_T_number at hF
  refine ex_of (d := 0) rfl rfl ?_
  refine g_iconst (q := 1) rfl rfl ?_
  refine g_istore_n (q := 2) rfl rfl ?_
  refine g_iload_n (q := 3) rfl rfl rfl ?_
  refine g_istore (q := 5) rfl rfl ?_
  refine go_sub (lo' := mm_lf [(0, .inr (.inl (some 29))), (2, .inl x2), (3, .inl (I 0)), (4, .inl x1)]) (mm_subc rfl (mm_subc rfl (mm_subc rfl (mm_subc rfl mm_sub0)))) ?_
  obtain ⟨⟨y4, h5⟩, hC, hF⟩ := bd_I hF
  dsimp only at hF
  refine A_L_T_number_5 5000 _ _ _ _ hC trivial ?_
  intro _ _ e2
  cases e2
  refine g_iload_n (q := 43) rfl rfl rfl ?_
  injection hF with hF
  injection hF with hv hh
  subst hv
  subst hh
  exact g_iret rfl
/-- BothCorners.lengthOf(I)I -/
def F_C_lengthOf (x0 : Int32) (h : MH) : Option (Int32 × MH) := some (x0 / (I 100), h)
theorem A_C_lengthOf {x0 : Int32} {h h' : MH} {v : Int32} (hF : F_C_lengthOf x0 h = some (v, h')) : Ex 1 143 [.inl x0] h (some (.inl v), h') := by
  unfold F_C_lengthOf at hF
  refine ex_of (d := 0) rfl rfl ?_
  refine g_iload_n (q := 1) rfl rfl rfl ?_
  refine g_bipush (q := 3) rfl (by decide +kernel) rfl ?_
  refine g_idiv (q := 4) rfl (by decide +kernel) rfl ?_
  injection hF with hF
  injection hF with hv hh
  subst hv
  subst hh
  exact g_iret rfl
/-- BothCorners.breadthOf(I)I -/
def F_C_breadthOf (x0 : Int32) (h : MH) : Option (Int32 × MH) := some (irem x0 (I 100), h)
theorem A_C_breadthOf {x0 : Int32} {h h' : MH} {v : Int32} (hF : F_C_breadthOf x0 h = some (v, h')) : Ex 1 144 [.inl x0] h (some (.inl v), h') := by
  unfold F_C_breadthOf at hF
  refine ex_of (d := 0) rfl rfl ?_
  refine g_iload_n (q := 1) rfl rfl rfl ?_
  refine g_bipush (q := 3) rfl (by decide +kernel) rfl ?_
  refine g_irem (q := 4) rfl (by decide +kernel) rfl ?_
  injection hF with hF
  injection hF with hv hh
  subst hv
  subst hh
  exact g_iret rfl
/-- BothCorners.tooSmall(I)Z -/
def F_C_tooSmall (x0 : Int32) (h : MH) : Option (Int32 × MH) := bd (F_C_lengthOf x0 h) (fun (r2, h1) => if r2 < (I 1) then some (I 1, h1) else bd (F_C_breadthOf x0 h1) (fun (r4, h3) => iw (if (I 1) ≤ r4 then I 0 else I 1) (fun v5 => cd (v5 &&& 1 = v5) (some (v5, h3)))))
theorem A_C_tooSmall {x0 : Int32} {h h' : MH} {v : Int32} (hF : F_C_tooSmall x0 h = some (v, h')) : Ex 2 146 [.inl x0] h (some (.inl v), h') := by
  unfold F_C_tooSmall at hF
  refine ex_of (d := 1) rfl rfl ?_
  refine g_iload_n (q := 1) rfl rfl rfl ?_
  obtain ⟨⟨r2, h1⟩, hC, hF⟩ := bd_I hF
  dsimp only at hF
  refine g_ci1 (q := 4) rfl rfl (fun _ => rfl) rfl (A_C_lengthOf hC) (by decide +kernel) rfl ?_
  refine g_iconst (q := 5) rfl rfl ?_
  by_cases c8 : r2 < (I 1)
  · rw [if_pos c8] at hF
    refine g_icmpT rfl (decide_eq_true c8) ?_
    refine g_iconst (q := 17) rfl rfl ?_
    refine g_goto rfl ?_
    injection hF with hF
    injection hF with hv hh
    subst hv
    subst hh
    exact g_zret rfl (by decide +kernel)
  · rw [if_neg c8] at hF
    refine g_icmpF (q := 8) rfl (decide_eq_false c8) rfl ?_
    refine g_iload_n (q := 9) rfl rfl rfl ?_
    obtain ⟨⟨r4, h3⟩, hC, hF⟩ := bd_I hF
    dsimp only at hF
    refine g_ci1 (q := 12) rfl rfl (fun _ => rfl) rfl (A_C_breadthOf hC) (by decide +kernel) rfl ?_
    refine g_iconst (q := 13) rfl rfl ?_
    obtain ⟨v5, e_v5, hF⟩ := iw_I hF
    suffices K6 : Go 1 146 21 (mm_lf []) [.inl v5] h3 (some (.inl v), h') by
      clear hF
      by_cases c7 : (I 1) ≤ r4
      · simp only [if_pos c7] at e_v5
        subst e_v5
        refine g_icmpT rfl (decide_eq_true c7) ?_
        refine g_iconst (q := 21) rfl rfl ?_
        exact go_sub mm_sub0 K6
      · simp only [if_neg c7] at e_v5
        subst e_v5
        refine g_icmpF (q := 16) rfl (decide_eq_false c7) rfl ?_
        refine g_iconst (q := 17) rfl rfl ?_
        refine g_goto rfl ?_
        exact go_sub mm_sub0 K6
    clear e_v5
    obtain ⟨hz, hF⟩ := cd_I hF
    injection hF with hF
    injection hF with hv hh
    subst hv
    subst hh
    exact g_zret rfl hz
/-- BothCorners.tooLarge(I)Z -/
def F_C_tooLarge (x0 : Int32) (h : MH) : Option (Int32 × MH) := bd (F_C_lengthOf x0 h) (fun (r2, h1) => if (I 24) < r2 then some (I 1, h1) else bd (F_C_breadthOf x0 h1) (fun (r4, h3) => iw (if r4 ≤ (I 24) then I 0 else I 1) (fun v5 => cd (v5 &&& 1 = v5) (some (v5, h3)))))
theorem A_C_tooLarge {x0 : Int32} {h h' : MH} {v : Int32} (hF : F_C_tooLarge x0 h = some (v, h')) : Ex 2 147 [.inl x0] h (some (.inl v), h') := by
  unfold F_C_tooLarge at hF
  refine ex_of (d := 1) rfl rfl ?_
  refine g_iload_n (q := 1) rfl rfl rfl ?_
  obtain ⟨⟨r2, h1⟩, hC, hF⟩ := bd_I hF
  dsimp only at hF
  refine g_ci1 (q := 4) rfl rfl (fun _ => rfl) rfl (A_C_lengthOf hC) (by decide +kernel) rfl ?_
  refine g_bipush (q := 6) rfl (by decide +kernel) rfl ?_
  by_cases c8 : (I 24) < r2
  · rw [if_pos c8] at hF
    refine g_icmpT rfl (decide_eq_true c8) ?_
    refine g_iconst (q := 19) rfl rfl ?_
    refine g_goto rfl ?_
    injection hF with hF
    injection hF with hv hh
    subst hv
    subst hh
    exact g_zret rfl (by decide +kernel)
  · rw [if_neg c8] at hF
    refine g_icmpF (q := 9) rfl (decide_eq_false c8) rfl ?_
    refine g_iload_n (q := 10) rfl rfl rfl ?_
    obtain ⟨⟨r4, h3⟩, hC, hF⟩ := bd_I hF
    dsimp only at hF
    refine g_ci1 (q := 13) rfl rfl (fun _ => rfl) rfl (A_C_breadthOf hC) (by decide +kernel) rfl ?_
    refine g_bipush (q := 15) rfl (by decide +kernel) rfl ?_
    obtain ⟨v5, e_v5, hF⟩ := iw_I hF
    suffices K6 : Go 1 147 23 (mm_lf []) [.inl v5] h3 (some (.inl v), h') by
      clear hF
      by_cases c7 : r4 ≤ (I 24)
      · simp only [if_pos c7] at e_v5
        subst e_v5
        refine g_icmpT rfl (decide_eq_true c7) ?_
        refine g_iconst (q := 23) rfl rfl ?_
        exact go_sub mm_sub0 K6
      · simp only [if_neg c7] at e_v5
        subst e_v5
        refine g_icmpF (q := 18) rfl (decide_eq_false c7) rfl ?_
        refine g_iconst (q := 19) rfl rfl ?_
        refine g_goto rfl ?_
        exact go_sub mm_sub0 K6
    clear e_v5
    obtain ⟨hz, hF⟩ := cd_I hF
    injection hF with hF
    injection hF with hv hh
    subst hv
    subst hh
    exact g_zret rfl hz
/-- BothCorners$House.addBed(II)I -/
def F_H_addBed (x1 : Int32) (x2 : Int32) (h : MH) : Option (Int32 × MH) := bd (F_C_tooSmall x1 h) (fun (r2, h1) => if ¬ r2 = 0 then some (I (-4), h1) else bd (F_C_tooSmall x2 h1) (fun (r4, h3) => if r4 = 0 then bd (F_C_tooLarge x1 h3) (fun (r6, h5) => if ¬ r6 = 0 then some (I (-6), h5) else bd (F_C_tooLarge x2 h5) (fun (r8, h7) => if ¬ r8 = 0 then some (I (-6), h7) else if (h7.1 22 7) < (I 6) then ck (mm_in (h7.1 22 7) 6) (hw (mm_hset h7.1 23 (Int32.toNatClampNeg (h7.1 22 7)) x1, h7.2) (fun h9 => ck (mm_in (h9.1 22 7) 6) (hw (mm_hset h9.1 24 (Int32.toNatClampNeg (h9.1 22 7)) x2, h9.2) (fun h10 => hw (mm_hset h10.1 22 7 ((h10.1 22 7) + (I 1)), h10.2) (fun h11 => some ((h11.1 22 7) - (I 1), h11)))))) else some (I (-6), h7))) else some (I (-4), h3)))
theorem A_H_addBed {x1 : Int32} {x2 : Int32} {h h' : MH} {v : Int32} (hF : F_H_addBed x1 x2 h = some (v, h')) : Ex 3 8 [.inr (.inl (some 22)), .inl x1, .inl x2] h (some (.inl v), h') := by
  unfold F_H_addBed at hF
  refine ex_of (d := 2) rfl rfl ?_
  refine g_iload_n (q := 1) rfl rfl rfl ?_
  obtain ⟨⟨r2, h1⟩, hC, hF⟩ := bd_I hF
  dsimp only at hF
  refine g_ci1 (q := 4) rfl rfl (fun _ => rfl) rfl (A_C_tooSmall hC) (by decide +kernel) rfl ?_
  by_cases c16 : ¬ r2 = 0
  · rw [if_pos c16] at hF
    refine g_ifT rfl (decide_eq_true c16) ?_
    refine g_bipush (q := 16) rfl (by decide +kernel) rfl ?_
    injection hF with hF
    injection hF with hv hh
    subst hv
    subst hh
    exact g_iret rfl
  · rw [if_neg c16] at hF
    refine g_ifF (q := 7) rfl (decide_eq_false c16) rfl ?_
    refine g_iload_n (q := 8) rfl rfl rfl ?_
    obtain ⟨⟨r4, h3⟩, hC, hF⟩ := bd_I hF
    dsimp only at hF
    refine g_ci1 (q := 11) rfl rfl (fun _ => rfl) rfl (A_C_tooSmall hC) (by decide +kernel) rfl ?_
    by_cases c15 : r4 = 0
    · rw [if_pos c15] at hF
      refine g_ifT rfl (decide_eq_true c15) ?_
      refine g_iload_n (q := 18) rfl rfl rfl ?_
      obtain ⟨⟨r6, h5⟩, hC, hF⟩ := bd_I hF
      dsimp only at hF
      refine g_ci1 (q := 21) rfl rfl (fun _ => rfl) rfl (A_C_tooLarge hC) (by decide +kernel) rfl ?_
      by_cases c14 : ¬ r6 = 0
      · rw [if_pos c14] at hF
        refine g_ifT rfl (decide_eq_true c14) ?_
        refine g_bipush (q := 42) rfl (by decide +kernel) rfl ?_
        injection hF with hF
        injection hF with hv hh
        subst hv
        subst hh
        exact g_iret rfl
      · rw [if_neg c14] at hF
        refine g_ifF (q := 24) rfl (decide_eq_false c14) rfl ?_
        refine g_iload_n (q := 25) rfl rfl rfl ?_
        obtain ⟨⟨r8, h7⟩, hC, hF⟩ := bd_I hF
        dsimp only at hF
        refine g_ci1 (q := 28) rfl rfl (fun _ => rfl) rfl (A_C_tooLarge hC) (by decide +kernel) rfl ?_
        by_cases c13 : ¬ r8 = 0
        · rw [if_pos c13] at hF
          refine g_ifT rfl (decide_eq_true c13) ?_
          refine g_bipush (q := 42) rfl (by decide +kernel) rfl ?_
          injection hF with hF
          injection hF with hv hh
          subst hv
          subst hh
          exact g_iret rfl
        · rw [if_neg c13] at hF
          refine g_ifF (q := 31) rfl (decide_eq_false c13) rfl ?_
          refine g_aload_n (q := 32) rfl rfl rfl ?_
          refine g_getI (q := 35) rfl (fun _ => rfl) rfl ?_
          refine g_bipush (q := 37) rfl (by decide +kernel) rfl ?_
          by_cases c12 : (h7.1 22 7) < (I 6)
          · rw [if_pos c12] at hF
            refine g_icmpT rfl (decide_eq_true c12) ?_
            refine g_aload_n (q := 44) rfl rfl rfl ?_
            refine g_getR (q := 47) rfl (fun _ => rfl) rfl ?_
            refine g_aload_n (q := 48) rfl rfl rfl ?_
            refine g_getI (q := 51) rfl (fun _ => rfl) rfl ?_
            refine g_iload_n (q := 52) rfl rfl rfl ?_
            obtain ⟨hi, hF⟩ := ck_I hF
            refine g_iastore (q := 53) rfl rfl rfl hi rfl ?_
            obtain ⟨h9, e_h9, hF⟩ := hw_I hF
            rw [← e_h9]
            refine g_aload_n (q := 54) rfl rfl rfl ?_
            refine g_getR (q := 57) rfl (fun _ => rfl) rfl ?_
            refine g_aload_n (q := 58) rfl rfl rfl ?_
            refine g_getI (q := 61) rfl (fun _ => rfl) rfl ?_
            refine g_iload_n (q := 62) rfl rfl rfl ?_
            obtain ⟨hi, hF⟩ := ck_I hF
            refine g_iastore (q := 63) rfl rfl rfl hi rfl ?_
            obtain ⟨h10, e_h10, hF⟩ := hw_I hF
            rw [← e_h10]
            refine g_aload_n (q := 64) rfl rfl rfl ?_
            refine g_dup (q := 65) rfl rfl rfl ?_
            refine g_getI (q := 68) rfl (fun _ => rfl) rfl ?_
            refine g_iconst (q := 69) rfl rfl ?_
            refine g_iadd (q := 70) rfl rfl ?_
            refine g_putI (q := 73) rfl (fun _ => rfl) rfl ?_
            obtain ⟨h11, e_h11, hF⟩ := hw_I hF
            rw [← e_h11]
            refine g_aload_n (q := 74) rfl rfl rfl ?_
            refine g_getI (q := 77) rfl (fun _ => rfl) rfl ?_
            refine g_iconst (q := 78) rfl rfl ?_
            refine g_isub (q := 79) rfl rfl ?_
            injection hF with hF
            injection hF with hv hh
            subst hv
            subst hh
            exact g_iret rfl
          · rw [if_neg c12] at hF
            refine g_icmpF (q := 40) rfl (decide_eq_false c12) rfl ?_
            refine g_bipush (q := 42) rfl (by decide +kernel) rfl ?_
            injection hF with hF
            injection hF with hv hh
            subst hv
            subst hh
            exact g_iret rfl
    · rw [if_neg c15] at hF
      refine g_ifF (q := 14) rfl (decide_eq_false c15) rfl ?_
      refine g_bipush (q := 16) rfl (by decide +kernel) rfl ?_
      injection hF with hF
      injection hF with hv hh
      subst hv
      subst hh
      exact g_iret rfl
/-- BothCorners$House.addPerson(II)I -/
def F_H_addPerson (x1 : Int32) (x2 : Int32) (h : MH) : Option (Int32 × MH) := if x1 < (I 1) then some (I (-4), h) else if 0 ≤ x2 then if (I 12) < x1 then some (I (-6), h) else if (I 9) < x2 then some (I (-6), h) else if (h.1 22 8) < (I 4) then ck (mm_in (h.1 22 8) 4) (hw (mm_hset h.1 25 (Int32.toNatClampNeg (h.1 22 8)) x1, h.2) (fun h1 => ck (mm_in (h1.1 22 8) 4) (hw (mm_hset h1.1 26 (Int32.toNatClampNeg (h1.1 22 8)) x2, h1.2) (fun h2 => hw (mm_hset h2.1 22 8 ((h2.1 22 8) + (I 1)), h2.2) (fun h3 => some ((h3.1 22 8) - (I 1), h3)))))) else some (I (-6), h) else some (I (-4), h)
theorem A_H_addPerson {x1 : Int32} {x2 : Int32} {h h' : MH} {v : Int32} (hF : F_H_addPerson x1 x2 h = some (v, h')) : Ex 1 9 [.inr (.inl (some 22)), .inl x1, .inl x2] h (some (.inl v), h') := by
  unfold F_H_addPerson at hF
  refine ex_of (d := 0) rfl rfl ?_
  refine g_iload_n (q := 1) rfl rfl rfl ?_
  refine g_iconst (q := 2) rfl rfl ?_
  by_cases c8 : x1 < (I 1)
  · rw [if_pos c8] at hF
    refine g_icmpT rfl (decide_eq_true c8) ?_
    refine g_bipush (q := 11) rfl (by decide +kernel) rfl ?_
    injection hF with hF
    injection hF with hv hh
    subst hv
    subst hh
    exact g_iret rfl
  · rw [if_neg c8] at hF
    refine g_icmpF (q := 5) rfl (decide_eq_false c8) rfl ?_
    refine g_iload_n (q := 6) rfl rfl rfl ?_
    by_cases c7 : 0 ≤ x2
    · rw [if_pos c7] at hF
      refine g_ifT rfl (decide_eq_true c7) ?_
      refine g_iload_n (q := 13) rfl rfl rfl ?_
      refine g_bipush (q := 15) rfl (by decide +kernel) rfl ?_
      by_cases c6 : (I 12) < x1
      · rw [if_pos c6] at hF
        refine g_icmpT rfl (decide_eq_true c6) ?_
        refine g_bipush (q := 34) rfl (by decide +kernel) rfl ?_
        injection hF with hF
        injection hF with hv hh
        subst hv
        subst hh
        exact g_iret rfl
      · rw [if_neg c6] at hF
        refine g_icmpF (q := 18) rfl (decide_eq_false c6) rfl ?_
        refine g_iload_n (q := 19) rfl rfl rfl ?_
        refine g_bipush (q := 21) rfl (by decide +kernel) rfl ?_
        by_cases c5 : (I 9) < x2
        · rw [if_pos c5] at hF
          refine g_icmpT rfl (decide_eq_true c5) ?_
          refine g_bipush (q := 34) rfl (by decide +kernel) rfl ?_
          injection hF with hF
          injection hF with hv hh
          subst hv
          subst hh
          exact g_iret rfl
        · rw [if_neg c5] at hF
          refine g_icmpF (q := 24) rfl (decide_eq_false c5) rfl ?_
          refine g_aload_n (q := 25) rfl rfl rfl ?_
          refine g_getI (q := 28) rfl (fun _ => rfl) rfl ?_
          refine g_iconst (q := 29) rfl rfl ?_
          by_cases c4 : (h.1 22 8) < (I 4)
          · rw [if_pos c4] at hF
            refine g_icmpT rfl (decide_eq_true c4) ?_
            refine g_aload_n (q := 36) rfl rfl rfl ?_
            refine g_getR (q := 39) rfl (fun _ => rfl) rfl ?_
            refine g_aload_n (q := 40) rfl rfl rfl ?_
            refine g_getI (q := 43) rfl (fun _ => rfl) rfl ?_
            refine g_iload_n (q := 44) rfl rfl rfl ?_
            obtain ⟨hi, hF⟩ := ck_I hF
            refine g_iastore (q := 45) rfl rfl rfl hi rfl ?_
            obtain ⟨h1, e_h1, hF⟩ := hw_I hF
            rw [← e_h1]
            refine g_aload_n (q := 46) rfl rfl rfl ?_
            refine g_getR (q := 49) rfl (fun _ => rfl) rfl ?_
            refine g_aload_n (q := 50) rfl rfl rfl ?_
            refine g_getI (q := 53) rfl (fun _ => rfl) rfl ?_
            refine g_iload_n (q := 54) rfl rfl rfl ?_
            obtain ⟨hi, hF⟩ := ck_I hF
            refine g_iastore (q := 55) rfl rfl rfl hi rfl ?_
            obtain ⟨h2, e_h2, hF⟩ := hw_I hF
            rw [← e_h2]
            refine g_aload_n (q := 56) rfl rfl rfl ?_
            refine g_dup (q := 57) rfl rfl rfl ?_
            refine g_getI (q := 60) rfl (fun _ => rfl) rfl ?_
            refine g_iconst (q := 61) rfl rfl ?_
            refine g_iadd (q := 62) rfl rfl ?_
            refine g_putI (q := 65) rfl (fun _ => rfl) rfl ?_
            obtain ⟨h3, e_h3, hF⟩ := hw_I hF
            rw [← e_h3]
            refine g_aload_n (q := 66) rfl rfl rfl ?_
            refine g_getI (q := 69) rfl (fun _ => rfl) rfl ?_
            refine g_iconst (q := 70) rfl rfl ?_
            refine g_isub (q := 71) rfl rfl ?_
            injection hF with hF
            injection hF with hv hh
            subst hv
            subst hh
            exact g_iret rfl
          · rw [if_neg c4] at hF
            refine g_icmpF (q := 32) rfl (decide_eq_false c4) rfl ?_
            refine g_bipush (q := 34) rfl (by decide +kernel) rfl ?_
            injection hF with hF
            injection hF with hv hh
            subst hv
            subst hh
            exact g_iret rfl
    · rw [if_neg c7] at hF
      refine g_ifF (q := 9) rfl (decide_eq_false c7) rfl ?_
      refine g_bipush (q := 11) rfl (by decide +kernel) rfl ?_
      injection hF with hF
      injection hF with hv hh
      subst hv
      subst hh
      exact g_iret rfl
/-- BothCorners.otherThan(II)Z -/
def F_C_otherThan (x0 : Int32) (x1 : Int32) (h : MH) : Option (Int32 × MH) := iw (if x0 < 0 then I 1 else (if x0 ≤ x1 then I 0 else I 1)) (fun v1 => cd (v1 &&& 1 = v1) (some (v1, h)))
theorem A_C_otherThan {x0 : Int32} {x1 : Int32} {h h' : MH} {v : Int32} (hF : F_C_otherThan x0 x1 h = some (v, h')) : Ex 1 128 [.inl x0, .inl x1] h (some (.inl v), h') := by
  unfold F_C_otherThan at hF
  refine ex_of (d := 0) rfl rfl ?_
  refine g_iload_n (q := 1) rfl rfl rfl ?_
  obtain ⟨v1, e_v1, hF⟩ := iw_I hF
  suffices K2 : Go 0 128 14 (mm_lf []) [.inl v1] h (some (.inl v), h') by
    clear hF
    by_cases c3 : x0 < 0
    · simp only [if_pos c3] at e_v1
      subst e_v1
      refine g_ifT rfl (decide_eq_true c3) ?_
      refine g_iconst (q := 10) rfl rfl ?_
      refine g_goto rfl ?_
      exact go_sub mm_sub0 K2
    · simp only [if_neg c3] at e_v1
      refine g_ifF (q := 4) rfl (decide_eq_false c3) rfl ?_
      refine g_iload_n (q := 5) rfl rfl rfl ?_
      refine g_iload_n (q := 6) rfl rfl rfl ?_
      by_cases c4 : x0 ≤ x1
      · simp only [if_pos c4] at e_v1
        subst e_v1
        refine g_icmpT rfl (decide_eq_true c4) ?_
        refine g_iconst (q := 14) rfl rfl ?_
        exact go_sub mm_sub0 K2
      · simp only [if_neg c4] at e_v1
        subst e_v1
        refine g_icmpF (q := 9) rfl (decide_eq_false c4) rfl ?_
        refine g_iconst (q := 10) rfl rfl ?_
        refine g_goto rfl ?_
        exact go_sub mm_sub0 K2
  clear e_v1
  obtain ⟨hz, hF⟩ := cd_I hF
  injection hF with hF
  injection hF with hv hh
  subst hv
  subst hh
  exact g_zret rfl hz
/-- BothCorners$House.addWay(II)I -/
def F_H_addWay (x1 : Int32) (x2 : Int32) (h : MH) : Option (Int32 × MH) := bd (F_C_otherThan x1 (I 5) h) (fun (r2, h1) => if r2 = 0 then if 0 ≤ x2 then if (I 9) < x2 then some (I (-6), h1) else if (h1.1 22 9) < (I 6) then ck (mm_in (h1.1 22 9) 6) (hw (mm_hset h1.1 27 (Int32.toNatClampNeg (h1.1 22 9)) x1, h1.2) (fun h3 => ck (mm_in (h3.1 22 9) 6) (hw (mm_hset h3.1 28 (Int32.toNatClampNeg (h3.1 22 9)) x2, h3.2) (fun h4 => hw (mm_hset h4.1 22 9 ((h4.1 22 9) + (I 1)), h4.2) (fun h5 => some ((h5.1 22 9) - (I 1), h5)))))) else some (I (-6), h1) else some (I (-4), h1) else some (I (-2), h1))
theorem A_H_addWay {x1 : Int32} {x2 : Int32} {h h' : MH} {v : Int32} (hF : F_H_addWay x1 x2 h = some (v, h')) : Ex 2 10 [.inr (.inl (some 22)), .inl x1, .inl x2] h (some (.inl v), h') := by
  unfold F_H_addWay at hF
  refine ex_of (d := 1) rfl rfl ?_
  refine g_iload_n (q := 1) rfl rfl rfl ?_
  refine g_iconst (q := 2) rfl rfl ?_
  obtain ⟨⟨r2, h1⟩, hC, hF⟩ := bd_I hF
  dsimp only at hF
  refine g_ci2 (q := 5) rfl rfl (fun _ => rfl) rfl (A_C_otherThan hC) (by decide +kernel) rfl ?_
  by_cases c9 : r2 = 0
  · rw [if_pos c9] at hF
    refine g_ifT rfl (decide_eq_true c9) ?_
    refine g_iload_n (q := 12) rfl rfl rfl ?_
    by_cases c8 : 0 ≤ x2
    · rw [if_pos c8] at hF
      refine g_ifT rfl (decide_eq_true c8) ?_
      refine g_iload_n (q := 19) rfl rfl rfl ?_
      refine g_bipush (q := 21) rfl (by decide +kernel) rfl ?_
      by_cases c7 : (I 9) < x2
      · rw [if_pos c7] at hF
        refine g_icmpT rfl (decide_eq_true c7) ?_
        refine g_bipush (q := 35) rfl (by decide +kernel) rfl ?_
        injection hF with hF
        injection hF with hv hh
        subst hv
        subst hh
        exact g_iret rfl
      · rw [if_neg c7] at hF
        refine g_icmpF (q := 24) rfl (decide_eq_false c7) rfl ?_
        refine g_aload_n (q := 25) rfl rfl rfl ?_
        refine g_getI (q := 28) rfl (fun _ => rfl) rfl ?_
        refine g_bipush (q := 30) rfl (by decide +kernel) rfl ?_
        by_cases c6 : (h1.1 22 9) < (I 6)
        · rw [if_pos c6] at hF
          refine g_icmpT rfl (decide_eq_true c6) ?_
          refine g_aload_n (q := 37) rfl rfl rfl ?_
          refine g_getR (q := 40) rfl (fun _ => rfl) rfl ?_
          refine g_aload_n (q := 41) rfl rfl rfl ?_
          refine g_getI (q := 44) rfl (fun _ => rfl) rfl ?_
          refine g_iload_n (q := 45) rfl rfl rfl ?_
          obtain ⟨hi, hF⟩ := ck_I hF
          refine g_iastore (q := 46) rfl rfl rfl hi rfl ?_
          obtain ⟨h3, e_h3, hF⟩ := hw_I hF
          rw [← e_h3]
          refine g_aload_n (q := 47) rfl rfl rfl ?_
          refine g_getR (q := 50) rfl (fun _ => rfl) rfl ?_
          refine g_aload_n (q := 51) rfl rfl rfl ?_
          refine g_getI (q := 54) rfl (fun _ => rfl) rfl ?_
          refine g_iload_n (q := 55) rfl rfl rfl ?_
          obtain ⟨hi, hF⟩ := ck_I hF
          refine g_iastore (q := 56) rfl rfl rfl hi rfl ?_
          obtain ⟨h4, e_h4, hF⟩ := hw_I hF
          rw [← e_h4]
          refine g_aload_n (q := 57) rfl rfl rfl ?_
          refine g_dup (q := 58) rfl rfl rfl ?_
          refine g_getI (q := 61) rfl (fun _ => rfl) rfl ?_
          refine g_iconst (q := 62) rfl rfl ?_
          refine g_iadd (q := 63) rfl rfl ?_
          refine g_putI (q := 66) rfl (fun _ => rfl) rfl ?_
          obtain ⟨h5, e_h5, hF⟩ := hw_I hF
          rw [← e_h5]
          refine g_aload_n (q := 67) rfl rfl rfl ?_
          refine g_getI (q := 70) rfl (fun _ => rfl) rfl ?_
          refine g_iconst (q := 71) rfl rfl ?_
          refine g_isub (q := 72) rfl rfl ?_
          injection hF with hF
          injection hF with hv hh
          subst hv
          subst hh
          exact g_iret rfl
        · rw [if_neg c6] at hF
          refine g_icmpF (q := 33) rfl (decide_eq_false c6) rfl ?_
          refine g_bipush (q := 35) rfl (by decide +kernel) rfl ?_
          injection hF with hF
          injection hF with hv hh
          subst hv
          subst hh
          exact g_iret rfl
    · rw [if_neg c8] at hF
      refine g_ifF (q := 15) rfl (decide_eq_false c8) rfl ?_
      refine g_bipush (q := 17) rfl (by decide +kernel) rfl ?_
      injection hF with hF
      injection hF with hv hh
      subst hv
      subst hh
      exact g_iret rfl
  · rw [if_neg c9] at hF
    refine g_ifF (q := 8) rfl (decide_eq_false c9) rfl ?_
    refine g_bipush (q := 10) rfl (by decide +kernel) rfl ?_
    injection hF with hF
    injection hF with hv hh
    subst hv
    subst hh
    exact g_iret rfl
/-- BothCorners.noTurn(I)Z -/
def F_C_noTurn (x0 : Int32) (h : MH) : Option (Int32 × MH) := iw (if x0 < 0 then I 1 else (if x0 < (I 4) then I 0 else I 1)) (fun v1 => cd (v1 &&& 1 = v1) (some (v1, h)))
theorem A_C_noTurn {x0 : Int32} {h h' : MH} {v : Int32} (hF : F_C_noTurn x0 h = some (v, h')) : Ex 1 127 [.inl x0] h (some (.inl v), h') := by
  unfold F_C_noTurn at hF
  refine ex_of (d := 0) rfl rfl ?_
  refine g_iload_n (q := 1) rfl rfl rfl ?_
  obtain ⟨v1, e_v1, hF⟩ := iw_I hF
  suffices K2 : Go 0 127 14 (mm_lf []) [.inl v1] h (some (.inl v), h') by
    clear hF
    by_cases c3 : x0 < 0
    · simp only [if_pos c3] at e_v1
      subst e_v1
      refine g_ifT rfl (decide_eq_true c3) ?_
      refine g_iconst (q := 10) rfl rfl ?_
      refine g_goto rfl ?_
      exact go_sub mm_sub0 K2
    · simp only [if_neg c3] at e_v1
      refine g_ifF (q := 4) rfl (decide_eq_false c3) rfl ?_
      refine g_iload_n (q := 5) rfl rfl rfl ?_
      refine g_iconst (q := 6) rfl rfl ?_
      by_cases c4 : x0 < (I 4)
      · simp only [if_pos c4] at e_v1
        subst e_v1
        refine g_icmpT rfl (decide_eq_true c4) ?_
        refine g_iconst (q := 14) rfl rfl ?_
        exact go_sub mm_sub0 K2
      · simp only [if_neg c4] at e_v1
        subst e_v1
        refine g_icmpF (q := 9) rfl (decide_eq_false c4) rfl ?_
        refine g_iconst (q := 10) rfl rfl ?_
        refine g_goto rfl ?_
        exact go_sub mm_sub0 K2
  clear e_v1
  obtain ⟨hz, hF⟩ := cd_I hF
  injection hF with hF
  injection hF with hv hh
  subst hv
  subst hh
  exact g_zret rfl hz
/-- BothCorners$Lies.cornerAt(II)I -/
def F_L_cornerAt (x0 : Int32) (x1 : Int32) (h : MH) : Option (Int32 × MH) := some ((x0 >>> (((I 2) * x1) &&& 31)) &&& (I 3), h)
theorem A_L_cornerAt {x0 : Int32} {x1 : Int32} {h h' : MH} {v : Int32} (hF : F_L_cornerAt x0 x1 h = some (v, h')) : Ex 1 33 [.inl x0, .inl x1] h (some (.inl v), h') := by
  unfold F_L_cornerAt at hF
  refine ex_of (d := 0) rfl rfl ?_
  refine g_iload_n (q := 1) rfl rfl rfl ?_
  refine g_iconst (q := 2) rfl rfl ?_
  refine g_iload_n (q := 3) rfl rfl rfl ?_
  refine g_imul (q := 4) rfl rfl ?_
  refine g_ishr (q := 5) rfl rfl ?_
  refine g_iconst (q := 6) rfl rfl ?_
  refine g_iand (q := 7) rfl rfl ?_
  injection hF with hF
  injection hF with hv hh
  subst hv
  subst hh
  exact g_iret rfl
def L_L_turned_17 (x0 : Int32) (x1 : Int32) : Nat → Int32 → Int32 → MH → Option (Int32 × MH)
  | 0, _, _, _ => none
  | n + 1, x2, x3, h => if (I 4) ≤ x3 then some (x2, h) else ck (mm_in (((I 4) * x1) + x3) 16) (bd (F_L_cornerAt x0 (Int32.ofInt (mm_fr.getD (Int32.toNatClampNeg (((I 4) * x1) + x3)) 0)) h) (fun (r4, h3) => L_L_turned_17 x0 x1 n (x2 ||| (r4 <<< (((I 2) * x3) &&& 31))) (x3 + I 1) h3))
/-- BothCorners$Lies.turned(II)I -/
def F_L_turned (x0 : Int32) (x1 : Int32) (h : MH) : Option (Int32 × MH) := bd (F_C_noTurn x1 h) (fun (r2, h1) => if r2 = 0 then bd (L_L_turned_17 x0 x1 5000 (x0 &&& (I 256)) (I 0) h1) (fun (y6, h7) => iw (if ¬ x1 = (I 3) then y6 else y6 ^^^ (I 256)) (fun v8 => some (v8, h7))) else some (x0, h1))
theorem A_L_L_turned_17 {x0 : Int32} {x1 : Int32} {r : MRs} : ∀ (n : Nat) (x2 : Int32) (x3 : Int32) (h : MH) (x : Int32 × MH), L_L_turned_17 x0 x1 n x2 x3 h = some x → (True) → (∀ (e2 : Int32) (h' : MH), x = (e2, h') → Go 1 38 48 (mm_lf [(1, .inl x1), (2, .inl e2)]) [] h' r) → Go 1 38 17 (mm_lf [(0, .inl x0), (1, .inl x1), (2, .inl x2), (3, .inl x3)]) [] h r
  | 0, _, _, _, _, hF, _, _ => by cases hF
  | n + 1, x2, x3, h, x, hF, KR, KX => by
    have ih := fun a2 a3 => A_L_L_turned_17 (x0 := x0) (x1 := x1) (r := r) n a2 a3 
    unfold L_L_turned_17 at hF
    refine g_iload_n (q := 18) rfl rfl rfl ?_
    refine g_iconst (q := 19) rfl rfl ?_
    by_cases c5 : (I 4) ≤ x3
    · rw [if_pos c5] at hF
      refine g_icmpT rfl (decide_eq_true c5) ?_
      injection hF with hF
      subst hF
      exact go_sub (mm_subc rfl (mm_subc rfl mm_sub0)) (KX _ _ rfl)
    · rw [if_neg c5] at hF
      refine g_icmpF (q := 22) rfl (decide_eq_false c5) rfl ?_
      refine g_iload_n (q := 23) rfl rfl rfl ?_
      refine g_iload_n (q := 24) rfl rfl rfl ?_
      refine g_getstatic (q := 27) rfl rfl ?_
      refine g_iconst (q := 28) rfl rfl ?_
      refine g_iload_n (q := 29) rfl rfl rfl ?_
      refine g_imul (q := 30) rfl rfl ?_
      refine g_iload_n (q := 31) rfl rfl rfl ?_
      refine g_iadd (q := 32) rfl rfl ?_
      obtain ⟨hi, hF⟩ := ck_I hF
      refine g_tload (q := 33) rfl rfl rfl hi rfl ?_
      obtain ⟨⟨r4, h3⟩, hC, hF⟩ := bd_I hF
      dsimp only at hF
      refine g_ci2 (q := 36) rfl rfl (fun _ => rfl) rfl (A_L_cornerAt hC) (by decide +kernel) rfl ?_
      refine g_iconst (q := 37) rfl rfl ?_
      refine g_iload_n (q := 38) rfl rfl rfl ?_
      refine g_imul (q := 39) rfl rfl ?_
      refine g_ishl (q := 40) rfl rfl ?_
      refine g_ior (q := 41) rfl rfl ?_
      refine g_istore_n (q := 42) rfl rfl ?_
      refine g_iinc (q := 45) rfl rfl rfl ?_
      refine g_goto rfl ?_
      refine go_sub (lo' := mm_lf [(0, .inl x0), (1, .inl x1), (2, .inl (x2 ||| (r4 <<< (((I 2) * x3) &&& 31)))), (3, .inl (x3 + I 1))]) (mm_subc rfl (mm_subc rfl (mm_subc rfl (mm_subc rfl mm_sub0)))) ?_
      exact ih _ _ _ _ hF KR KX
theorem A_L_turned {x0 : Int32} {x1 : Int32} {h h' : MH} {v : Int32} (hF : F_L_turned x0 x1 h = some (v, h')) : Ex 2 38 [.inl x0, .inl x1] h (some (.inl v), h') := by
  unfold F_L_turned at hF
  refine ex_of (d := 1) rfl rfl ?_
  refine g_iload_n (q := 1) rfl rfl rfl ?_
  obtain ⟨⟨r2, h1⟩, hC, hF⟩ := bd_I hF
  dsimp only at hF
  refine g_ci1 (q := 4) rfl rfl (fun _ => rfl) rfl (A_C_noTurn hC) (by decide +kernel) rfl ?_
  by_cases c11 : r2 = 0
  · rw [if_pos c11] at hF
    refine g_ifT rfl (decide_eq_true c11) ?_
    refine g_iload_n (q := 10) rfl rfl rfl ?_
    refine g_sipush (q := 13) rfl (by decide +kernel) rfl ?_
    refine g_iand (q := 14) rfl rfl ?_
    refine g_istore_n (q := 15) rfl rfl ?_
    refine g_iconst (q := 16) rfl rfl ?_
    refine g_istore_n (q := 17) rfl rfl ?_
    refine go_sub (lo' := mm_lf [(0, .inl x0), (1, .inl x1), (2, .inl (x0 &&& (I 256))), (3, .inl (I 0))]) (mm_subc rfl (mm_subc rfl (mm_subc rfl (mm_subc rfl mm_sub0)))) ?_
    obtain ⟨⟨y6, h7⟩, hC, hF⟩ := bd_I hF
    dsimp only at hF
    refine A_L_L_turned_17 5000 _ _ _ _ hC trivial ?_
    intro _ _ e2
    cases e2
    refine g_iload_n (q := 49) rfl rfl rfl ?_
    refine g_iconst (q := 50) rfl rfl ?_
    obtain ⟨v8, e_v8, hF⟩ := iw_I hF
    suffices K9 : Go 1 38 62 (mm_lf []) [.inl v8] h7 (some (.inl v), h') by
      clear hF
      by_cases c10 : ¬ x1 = (I 3)
      · simp only [if_pos c10] at e_v8
        subst e_v8
        refine g_icmpT rfl (decide_eq_true c10) ?_
        refine g_iload_n (q := 62) rfl rfl rfl ?_
        exact go_sub mm_sub0 K9
      · simp only [if_neg c10] at e_v8
        subst e_v8
        refine g_icmpF (q := 53) rfl (decide_eq_false c10) rfl ?_
        refine g_iload_n (q := 54) rfl rfl rfl ?_
        refine g_sipush (q := 57) rfl (by decide +kernel) rfl ?_
        refine g_ixor (q := 58) rfl rfl ?_
        refine g_goto rfl ?_
        exact go_sub mm_sub0 K9
    clear e_v8
    injection hF with hF
    injection hF with hv hh
    subst hv
    subst hh
    exact g_iret rfl
  · rw [if_neg c11] at hF
    refine g_ifF (q := 7) rfl (decide_eq_false c11) rfl ?_
    refine g_iload_n (q := 8) rfl rfl rfl ?_
    injection hF with hF
    injection hF with hv hh
    subst hv
    subst hh
    exact g_iret rfl
def L_T_tellTurns_3 (x2 : Int32) : Nat → Int32 → MH → Option ((Int32 × MH) ⊕ (MH))
  | 0, _, _ => none
  | n + 1, x4, h => if x2 ≤ x4 then some (.inr (h)) else bd (F_T_number x4 (x4 + (I 1)) h) (fun (r2, h1) => bd (F_C_noTurn r2 h1) (fun (r4, h3) => if r4 = 0 then bd (F_L_turned (h3.1 22 10) r2 h3) (fun (r6, h5) => hw (mm_hset h5.1 22 10 r6, h5.2) (fun h7 => L_T_tellTurns_3 x2 n (x4 + I 1) h7)) else some (.inl (I 0, h3))))
/-- BothCorners$Letters.tellTurns(IILBothCorners$House;)Z -/
def F_T_tellTurns (x1 : Int32) (x2 : Int32) (h : MH) : Option (Int32 × MH) := be (L_T_tellTurns_3 x2 5000 x1 h) (fun u11 => some u11) (fun h10 => some (I 1, h10))
theorem A_L_T_tellTurns_3 {x2 : Int32} {r : MRs} : ∀ (n : Nat) (x4 : Int32) (h : MH) (x : (Int32 × MH) ⊕ (MH)), L_T_tellTurns_3 x2 n x4 h = some x → (∀ (u : Int32) (h' : MH), x = .inl (u, h') → r = (some (.inl u), h')) → (∀ (h' : MH), x = .inr (h') → Go 2 31 50 (mm_lf []) [] h' r) → Go 2 31 3 (mm_lf [(0, .inr (.inl (some 29))), (2, .inl x2), (3, .inr (.inl (some 22))), (4, .inl x4)]) [] h r
  | 0, _, _, _, hF, _, _ => by cases hF
  | n + 1, x4, h, x, hF, KR, KX => by
    have ih := fun a4 => A_L_T_tellTurns_3 (x2 := x2) (r := r) n a4 
    unfold L_T_tellTurns_3 at hF
    refine g_iload (q := 5) rfl rfl rfl ?_
    refine g_iload_n (q := 6) rfl rfl rfl ?_
    by_cases c9 : x2 ≤ x4
    · rw [if_pos c9] at hF
      refine g_icmpT rfl (decide_eq_true c9) ?_
      injection hF with hF
      subst hF
      exact go_sub mm_sub0 (KX  _ rfl)
    · rw [if_neg c9] at hF
      refine g_icmpF (q := 9) rfl (decide_eq_false c9) rfl ?_
      refine g_aload_n (q := 10) rfl rfl rfl ?_
      refine g_iload (q := 12) rfl rfl rfl ?_
      refine g_iload (q := 14) rfl rfl rfl ?_
      refine g_iconst (q := 15) rfl rfl ?_
      refine g_iadd (q := 16) rfl rfl ?_
      obtain ⟨⟨r2, h1⟩, hC, hF⟩ := bd_I hF
      dsimp only at hF
      refine g_ci3 (q := 19) rfl rfl (fun _ => rfl) rfl (A_T_number hC) (by decide +kernel) rfl ?_
      refine g_istore (q := 21) rfl rfl ?_
      refine g_iload (q := 23) rfl rfl rfl ?_
      obtain ⟨⟨r4, h3⟩, hC, hF⟩ := bd_I hF
      dsimp only at hF
      refine g_ci1 (q := 26) rfl rfl (fun _ => rfl) rfl (A_C_noTurn hC) (by decide +kernel) rfl ?_
      by_cases c8 : r4 = 0
      · rw [if_pos c8] at hF
        refine g_ifT rfl (decide_eq_true c8) ?_
        refine g_aload_n (q := 32) rfl rfl rfl ?_
        refine g_aload_n (q := 33) rfl rfl rfl ?_
        refine g_getI (q := 36) rfl (fun _ => rfl) rfl ?_
        refine g_iload (q := 38) rfl rfl rfl ?_
        obtain ⟨⟨r6, h5⟩, hC, hF⟩ := bd_I hF
        dsimp only at hF
        refine g_ci2 (q := 41) rfl rfl (fun _ => rfl) rfl (A_L_turned hC) (by decide +kernel) rfl ?_
        refine g_putI (q := 44) rfl (fun _ => rfl) rfl ?_
        obtain ⟨h7, e_h7, hF⟩ := hw_I hF
        rw [← e_h7]
        refine g_iinc (q := 47) rfl rfl rfl ?_
        refine g_goto rfl ?_
        refine go_sub (lo' := mm_lf [(0, .inr (.inl (some 29))), (2, .inl x2), (3, .inr (.inl (some 22))), (4, .inl (x4 + I 1))]) (mm_subc rfl (mm_subc rfl (mm_subc rfl (mm_subc rfl mm_sub0)))) ?_
        exact ih _ _ _ hF KR KX
      · rw [if_neg c8] at hF
        refine g_ifF (q := 29) rfl (decide_eq_false c8) rfl ?_
        refine g_iconst (q := 30) rfl rfl ?_
        injection hF with hF
        subst hF
        rw [KR _ _ rfl]
        exact g_zret rfl (by decide +kernel)
theorem A_T_tellTurns {x1 : Int32} {x2 : Int32} {h h' : MH} {v : Int32} (hF : F_T_tellTurns x1 x2 h = some (v, h')) : Ex 3 31 [.inr (.inl (some 29)), .inl x1, .inl x2, .inr (.inl (some 22))] h (some (.inl v), h') := by
  unfold F_T_tellTurns at hF
  refine ex_of (d := 2) rfl rfl ?_
  refine g_iload_n (q := 1) rfl rfl rfl ?_
  refine g_istore (q := 3) rfl rfl ?_
  refine go_sub (lo' := mm_lf [(0, .inr (.inl (some 29))), (2, .inl x2), (3, .inr (.inl (some 22))), (4, .inl x1)]) (mm_subc rfl (mm_subc rfl (mm_subc rfl (mm_subc rfl mm_sub0)))) ?_
  rcases be_I hF with ⟨u, hC, hF⟩ | ⟨h10, hC, hF⟩
  · refine A_L_T_tellTurns_3 5000 _ _ _ hC ?_ ?_
    · intro u2 h2 e2
      cases e2
      injection hF with hF
      injection hF with hv hh
      subst hv
      subst hh
      rfl
    · intro _ e2
      cases e2
  refine A_L_T_tellTurns_3 5000 _ _ _ hC ?_ ?_
  · intro u2 h2 e2
    cases e2
  intro _ e2
  cases e2
  refine g_iconst (q := 51) rfl rfl ?_
  injection hF with hF
  injection hF with hv hh
  subst hv
  subst hh
  exact g_zret rfl (by decide +kernel)
