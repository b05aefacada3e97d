-- decompiled by wip/whole/dec.py: what a method does (F_), and that the mini machine does it (A_)
def L_M_foldsByOrder_4 (x1 : Int32) : Nat → Int32 → Int32 → MH → Option (Int32 × MH)
  | 0, _, _, _ => none
  | n + 1, x2, x3, h => if (h.1 55 0) ≤ x3 then some (x2, h) else ck (mm_in x3 6) (ck (mm_in x1 6) (ck (mm_in x1 6) (bd (F_M_foldsIn x3 (h.1 72 (Int32.toNatClampNeg x3)) (h.1 59 (Int32.toNatClampNeg x1)) (h.1 60 (Int32.toNatClampNeg x1)) h) (fun (r2, h1) => L_M_foldsByOrder_4 x1 n (x2 + r2) (x3 + I 1) h1))))
/-- BothCornersModel.foldsByOrder(I)I -/
def F_M_foldsByOrder (x1 : Int32) (h : MH) : Option (Int32 × MH) := bd (L_M_foldsByOrder_4 x1 5000 (I 0) (I 0) h) (fun (y4, h5) => some (y4, h5))
theorem A_L_M_foldsByOrder_4 {x1 : Int32} {r : MRs} : ∀ (n : Nat) (x2 : Int32) (x3 : Int32) (h : MH) (x : Int32 × MH), L_M_foldsByOrder_4 x1 n x2 x3 h = some x → (True) → (∀ (e2 : Int32) (h' : MH), x = (e2, h') → Go 2 221 44 (mm_lf [(2, .inl e2)]) [] h' r) → Go 2 221 4 (mm_lf [(0, .inr (.inl (some 55))), (1, .inl x1), (2, .inl x2), (3, .inl x3)]) [] h r
  | 0, _, _, _, _, hF, _, _ => by cases hF
  | n + 1, x2, x3, h, x, hF, KR, KX => by
    have ih := fun a2 a3 => A_L_M_foldsByOrder_4 (x1 := x1) (r := r) n a2 a3 
    unfold L_M_foldsByOrder_4 at hF
    refine g_iload_n (q := 5) rfl rfl rfl ?_
    refine g_aload_n (q := 6) rfl rfl rfl ?_
    refine g_getI (q := 9) rfl (fun _ => rfl) rfl ?_
    by_cases c3 : (h.1 55 0) ≤ x3
    · rw [if_pos c3] at hF
      refine g_icmpT rfl (decide_eq_true c3) ?_
      injection hF with hF
      subst hF
      exact go_sub (mm_subc rfl mm_sub0) (KX _ _ rfl)
    · rw [if_neg c3] at hF
      refine g_icmpF (q := 12) rfl (decide_eq_false c3) rfl ?_
      refine g_iload_n (q := 13) rfl rfl rfl ?_
      refine g_aload_n (q := 14) rfl rfl rfl ?_
      refine g_iload_n (q := 15) rfl rfl rfl ?_
      refine g_aload_n (q := 16) rfl rfl rfl ?_
      refine g_getR (q := 19) rfl (fun _ => rfl) rfl ?_
      refine g_iload_n (q := 20) rfl rfl rfl ?_
      obtain ⟨hi, hF⟩ := ck_I hF
      refine g_iaload (q := 21) rfl rfl rfl hi rfl ?_
      refine g_aload_n (q := 22) rfl rfl rfl ?_
      refine g_getR (q := 25) rfl (fun _ => rfl) rfl ?_
      refine g_iload_n (q := 26) rfl rfl rfl ?_
      obtain ⟨hi, hF⟩ := ck_I hF
      refine g_iaload (q := 27) rfl rfl rfl hi rfl ?_
      refine g_aload_n (q := 28) rfl rfl rfl ?_
      refine g_getR (q := 31) rfl (fun _ => rfl) rfl ?_
      refine g_iload_n (q := 32) rfl rfl rfl ?_
      obtain ⟨hi, hF⟩ := ck_I hF
      refine g_iaload (q := 33) rfl rfl rfl hi rfl ?_
      obtain ⟨⟨r2, h1⟩, hC, hF⟩ := bd_I hF
      dsimp only at hF
      refine g_ci5 (q := 36) rfl rfl (fun _ => rfl) rfl (A_M_foldsIn hC) (by decide +kernel) rfl ?_
      refine g_iadd (q := 37) rfl rfl ?_
      refine g_istore_n (q := 38) rfl rfl ?_
      refine g_iinc (q := 41) rfl rfl rfl ?_
      refine g_goto rfl ?_
      refine go_sub (lo' := mm_lf [(0, .inr (.inl (some 55))), (1, .inl x1), (2, .inl (x2 + r2)), (3, .inl (x3 + I 1))]) (mm_subc rfl (mm_subc rfl (mm_subc rfl (mm_subc rfl mm_sub0)))) ?_
      exact ih _ _ _ _ hF KR KX
theorem A_M_foldsByOrder {x1 : Int32} {h h' : MH} {v : Int32} (hF : F_M_foldsByOrder x1 h = some (v, h')) : Ex 3 221 [.inr (.inl (some 55)), .inl x1] h (some (.inl v), h') := by
  unfold F_M_foldsByOrder at hF
  refine ex_of (d := 2) rfl rfl ?_
  refine g_iconst (q := 1) rfl rfl ?_
  refine g_istore_n (q := 2) rfl rfl ?_
  refine g_iconst (q := 3) rfl rfl ?_
  refine g_istore_n (q := 4) rfl rfl ?_
  refine go_sub (lo' := mm_lf [(0, .inr (.inl (some 55))), (1, .inl x1), (2, .inl (I 0)), (3, .inl (I 0))]) (mm_subc rfl (mm_subc rfl (mm_subc rfl (mm_subc rfl mm_sub0)))) ?_
  obtain ⟨⟨y4, h5⟩, hC, hF⟩ := bd_I hF
  dsimp only at hF
  refine A_L_M_foldsByOrder_4 5000 _ _ _ _ hC trivial ?_
  intro _ _ e2
  cases e2
  refine g_iload_n (q := 45) rfl rfl rfl ?_
  injection hF with hF
  injection hF with hv hh
  subst hv
  subst hh
  exact g_iret rfl
def L_M_covers_57 (x1 : Int32) (x2 : Int32) (x6 : Int32) : Nat → Int32 → Int32 → Int32 → MH → Option (Int32 × Int32 × MH)
  | 0, _, _, _, _ => none
  | n + 1, x4, x5, x7, h => if x6 ≤ x7 then some (x4, x5, h) else bd (F_M_layOrder x7 (h.1 55 0) h) (fun h8 => bd (F_M_foldsByOrder x1 h8) (fun (r10, h9) => iw (if x5 < 0 then x7 else (if x5 ≤ r10 then x4 else x7)) (fun v11 => iw (if x5 < 0 then r10 else (if x5 ≤ r10 then x5 else r10)) (fun v13 => L_M_covers_57 x1 x2 x6 n v11 v13 (x7 + I 1) h9))))
/-- BothCornersModel.covers(II)I -/
def F_M_covers (x1 : Int32) (x2 : Int32) (h : MH) : Option (Int32 × MH) := hw (mm_hset h.1 55 10 (I 0), h.2) (fun h1 => bd (F_M_isWay x1 h1) (fun (r3, h2) => iw (if ¬ r3 = 0 then (if (I (-1)) ≤ x2 then I 0 else I (-4)) else I (-1)) (fun v4 => if 0 ≤ v4 then bd (F_M_ordersOf (h2.1 55 0) h2) (fun (r7, h6) => bd (L_M_covers_57 x1 x2 r7 5000 (I 0) (I (-1)) (I 0) h6) (fun (y20, y21, h22) => if 0 ≤ x2 then bd (F_M_layOrder y20 (h22.1 55 0) h22) (fun h23 => if (h23.1 55 0) ≤ x2 then some (I (-9), h23) else ck (mm_in x2 6) (some (h23.1 72 (Int32.toNatClampNeg x2), h23))) else some (y21, h22))) else bd (F_M_refuse v4 h2) (fun (r27, h26) => some (r27, h26)))))
theorem A_L_M_covers_57 {x1 : Int32} {x2 : Int32} {x6 : Int32} {r : MRs} : ∀ (n : Nat) (x4 : Int32) (x5 : Int32) (x7 : Int32) (h : MH) (x : Int32 × Int32 × MH), L_M_covers_57 x1 x2 x6 n x4 x5 x7 h = some x → (True) → (∀ (e4 : Int32) (e5 : Int32) (h' : MH), x = (e4, e5, h') → Go 3 222 129 (mm_lf [(0, .inr (.inl (some 55))), (2, .inl x2), (4, .inl e4), (5, .inl e5)]) [] h' r) → Go 3 222 57 (mm_lf [(0, .inr (.inl (some 55))), (1, .inl x1), (2, .inl x2), (4, .inl x4), (5, .inl x5), (6, .inl x6), (7, .inl x7)]) [] h r
  | 0, _, _, _, _, _, hF, _, _ => by cases hF
  | n + 1, x4, x5, x7, h, x, hF, KR, KX => by
    have ih := fun a4 a5 a7 => A_L_M_covers_57 (x1 := x1) (x2 := x2) (x6 := x6) (r := r) n a4 a5 a7 
    unfold L_M_covers_57 at hF
    refine g_iload (q := 59) rfl rfl rfl ?_
    refine g_iload (q := 61) rfl rfl rfl ?_
    by_cases c19 : x6 ≤ x7
    · rw [if_pos c19] at hF
      refine g_icmpT rfl (decide_eq_true c19) ?_
      injection hF with hF
      subst hF
      exact go_sub (mm_subc rfl (mm_subc rfl (mm_subc rfl (mm_subc rfl mm_sub0)))) (KX _ _ _ rfl)
    · rw [if_neg c19] at hF
      refine g_icmpF (q := 64) rfl (decide_eq_false c19) rfl ?_
      refine g_aload_n (q := 65) rfl rfl rfl ?_
      refine g_iload (q := 67) rfl rfl rfl ?_
      refine g_aload_n (q := 68) rfl rfl rfl ?_
      refine g_getI (q := 71) rfl (fun _ => rfl) rfl ?_
      obtain ⟨h8, hC, hF⟩ := bd_I hF
      refine g_cv3 (q := 74) rfl rfl (fun _ => rfl) rfl (A_M_layOrder hC) (by decide +kernel) rfl ?_
      refine g_aload_n (q := 75) rfl rfl rfl ?_
      refine g_iload_n (q := 76) rfl rfl rfl ?_
      obtain ⟨⟨r10, h9⟩, hC, hF⟩ := bd_I hF
      dsimp only at hF
      refine g_ci2 (q := 79) rfl rfl (fun _ => rfl) rfl (A_M_foldsByOrder hC) (by decide +kernel) rfl ?_
      refine g_istore (q := 81) rfl rfl ?_
      refine g_iload (q := 83) rfl rfl rfl ?_
      obtain ⟨v11, e_v11, hF⟩ := iw_I hF
      suffices K12 : Go 3 222 100 (mm_lf [(0, .inr (.inl (some 55))), (1, .inl x1), (2, .inl x2), (5, .inl x5), (6, .inl x6), (7, .inl x7), (8, .inl r10)]) [.inl v11] h9 r by
        clear hF
        by_cases c17 : x5 < 0
        · simp only [if_pos c17] at e_v11
          subst e_v11
          refine g_ifT rfl (decide_eq_true c17) ?_
          refine g_iload (q := 95) rfl rfl rfl ?_
          refine g_goto rfl ?_
          exact go_sub (mm_subc rfl (mm_subc rfl (mm_subc rfl (mm_subc rfl (mm_subc rfl (mm_subc rfl (mm_subc rfl mm_sub0))))))) K12
        · simp only [if_neg c17] at e_v11
          refine g_ifF (q := 86) rfl (decide_eq_false c17) rfl ?_
          refine g_iload (q := 88) rfl rfl rfl ?_
          refine g_iload (q := 90) rfl rfl rfl ?_
          by_cases c18 : x5 ≤ r10
          · simp only [if_pos c18] at e_v11
            subst e_v11
            refine g_icmpT rfl (decide_eq_true c18) ?_
            refine g_iload (q := 100) rfl rfl rfl ?_
            exact go_sub (mm_subc rfl (mm_subc rfl (mm_subc rfl (mm_subc rfl (mm_subc rfl (mm_subc rfl (mm_subc rfl mm_sub0))))))) K12
          · simp only [if_neg c18] at e_v11
            subst e_v11
            refine g_icmpF (q := 93) rfl (decide_eq_false c18) rfl ?_
            refine g_iload (q := 95) rfl rfl rfl ?_
            refine g_goto rfl ?_
            exact go_sub (mm_subc rfl (mm_subc rfl (mm_subc rfl (mm_subc rfl (mm_subc rfl (mm_subc rfl (mm_subc rfl mm_sub0))))))) K12
      clear e_v11
      refine g_istore (q := 102) rfl rfl ?_
      refine g_iload (q := 104) rfl rfl rfl ?_
      obtain ⟨v13, e_v13, hF⟩ := iw_I hF
      suffices K14 : Go 3 222 121 (mm_lf [(0, .inr (.inl (some 55))), (1, .inl x1), (2, .inl x2), (4, .inl v11), (6, .inl x6), (7, .inl x7)]) [.inl v13] h9 r by
        clear hF
        by_cases c15 : x5 < 0
        · simp only [if_pos c15] at e_v13
          subst e_v13
          refine g_ifT rfl (decide_eq_true c15) ?_
          refine g_iload (q := 116) rfl rfl rfl ?_
          refine g_goto rfl ?_
          exact go_sub (mm_subc rfl (mm_subc rfl (mm_subc rfl (mm_subc rfl (mm_subc rfl (mm_subc rfl mm_sub0)))))) K14
        · simp only [if_neg c15] at e_v13
          refine g_ifF (q := 107) rfl (decide_eq_false c15) rfl ?_
          refine g_iload (q := 109) rfl rfl rfl ?_
          refine g_iload (q := 111) rfl rfl rfl ?_
          by_cases c16 : x5 ≤ r10
          · simp only [if_pos c16] at e_v13
            subst e_v13
            refine g_icmpT rfl (decide_eq_true c16) ?_
            refine g_iload (q := 121) rfl rfl rfl ?_
            exact go_sub (mm_subc rfl (mm_subc rfl (mm_subc rfl (mm_subc rfl (mm_subc rfl (mm_subc rfl mm_sub0)))))) K14
          · simp only [if_neg c16] at e_v13
            subst e_v13
            refine g_icmpF (q := 114) rfl (decide_eq_false c16) rfl ?_
            refine g_iload (q := 116) rfl rfl rfl ?_
            refine g_goto rfl ?_
            exact go_sub (mm_subc rfl (mm_subc rfl (mm_subc rfl (mm_subc rfl (mm_subc rfl (mm_subc rfl mm_sub0)))))) K14
      clear e_v13
      refine g_istore (q := 123) rfl rfl ?_
      refine g_iinc (q := 126) rfl rfl rfl ?_
      refine g_goto rfl ?_
      refine go_sub (lo' := mm_lf [(0, .inr (.inl (some 55))), (1, .inl x1), (2, .inl x2), (4, .inl v11), (5, .inl v13), (6, .inl x6), (7, .inl (x7 + I 1))]) (mm_subc rfl (mm_subc rfl (mm_subc rfl (mm_subc rfl (mm_subc rfl (mm_subc rfl (mm_subc rfl mm_sub0))))))) ?_
      exact ih _ _ _ _ _ hF KR KX
theorem A_M_covers {x1 : Int32} {x2 : Int32} {h h' : MH} {v : Int32} (hF : F_M_covers x1 x2 h = some (v, h')) : Ex 4 222 [.inr (.inl (some 55)), .inl x1, .inl x2] h (some (.inl v), h') := by
  unfold F_M_covers at hF
  refine ex_of (d := 3) rfl rfl ?_
  refine g_aload_n (q := 1) rfl rfl rfl ?_
  refine g_iconst (q := 2) rfl rfl ?_
  refine g_putI (q := 5) rfl (fun _ => rfl) rfl ?_
  obtain ⟨h1, e_h1, hF⟩ := hw_I hF
  rw [← e_h1]
  refine g_aload_n (q := 6) rfl rfl rfl ?_
  refine g_iload_n (q := 7) rfl rfl rfl ?_
  obtain ⟨⟨r3, h2⟩, hC, hF⟩ := bd_I hF
  dsimp only at hF
  refine g_ci2 (q := 10) rfl rfl (fun _ => rfl) rfl (A_M_isWay hC) (by decide +kernel) rfl ?_
  obtain ⟨v4, e_v4, hF⟩ := iw_I hF
  suffices K5 : Go 3 222 28 (mm_lf [(0, .inr (.inl (some 55))), (1, .inl x1), (2, .inl x2)]) [.inl v4] h2 (some (.inl v), h') by
    clear hF
    by_cases c29 : ¬ r3 = 0
    · simp only [if_pos c29] at e_v4
      refine g_ifT rfl (decide_eq_true c29) ?_
      refine g_iload_n (q := 18) rfl rfl rfl ?_
      refine g_iconst (q := 19) rfl rfl ?_
      by_cases c30 : (I (-1)) ≤ x2
      · simp only [if_pos c30] at e_v4
        subst e_v4
        refine g_icmpT rfl (decide_eq_true c30) ?_
        refine g_iconst (q := 28) rfl rfl ?_
        exact go_sub (mm_subc rfl (mm_subc rfl (mm_subc rfl mm_sub0))) K5
      · simp only [if_neg c30] at e_v4
        subst e_v4
        refine g_icmpF (q := 22) rfl (decide_eq_false c30) rfl ?_
        refine g_bipush (q := 24) rfl (by decide +kernel) rfl ?_
        refine g_goto rfl ?_
        exact go_sub (mm_subc rfl (mm_subc rfl (mm_subc rfl mm_sub0))) K5
    · simp only [if_neg c29] at e_v4
      subst e_v4
      refine g_ifF (q := 13) rfl (decide_eq_false c29) rfl ?_
      refine g_iconst (q := 14) rfl rfl ?_
      refine g_goto rfl ?_
      exact go_sub (mm_subc rfl (mm_subc rfl (mm_subc rfl mm_sub0))) K5
  clear e_v4
  refine g_istore_n (q := 29) rfl rfl ?_
  refine g_iload_n (q := 30) rfl rfl rfl ?_
  by_cases c28 : 0 ≤ v4
  · rw [if_pos c28] at hF
    refine g_ifT rfl (decide_eq_true c28) ?_
    refine g_iconst (q := 40) rfl rfl ?_
    refine g_istore (q := 42) rfl rfl ?_
    refine g_iconst (q := 43) rfl rfl ?_
    refine g_istore (q := 45) rfl rfl ?_
    refine g_aload_n (q := 46) rfl rfl rfl ?_
    refine g_getI (q := 49) rfl (fun _ => rfl) rfl ?_
    obtain ⟨⟨r7, h6⟩, hC, hF⟩ := bd_I hF
    dsimp only at hF
    refine g_ci1 (q := 52) rfl rfl (fun _ => rfl) rfl (A_M_ordersOf hC) (by decide +kernel) rfl ?_
    refine g_istore (q := 54) rfl rfl ?_
    refine g_iconst (q := 55) rfl rfl ?_
    refine g_istore (q := 57) rfl rfl ?_
    refine go_sub (lo' := mm_lf [(0, .inr (.inl (some 55))), (1, .inl x1), (2, .inl x2), (4, .inl (I 0)), (5, .inl (I (-1))), (6, .inl r7), (7, .inl (I 0))]) (mm_subc rfl (mm_subc rfl (mm_subc rfl (mm_subc rfl (mm_subc rfl (mm_subc rfl (mm_subc rfl mm_sub0))))))) ?_
    obtain ⟨⟨y20, y21, h22⟩, hC, hF⟩ := bd_I hF
    dsimp only at hF
    refine A_L_M_covers_57 5000 _ _ _ _ _ hC trivial ?_
    intro _ _ _ e2
    cases e2
    refine g_iload_n (q := 130) rfl rfl rfl ?_
    by_cases c25 : 0 ≤ x2
    · rw [if_pos c25] at hF
      refine g_ifT rfl (decide_eq_true c25) ?_
      refine g_aload_n (q := 137) rfl rfl rfl ?_
      refine g_iload (q := 139) rfl rfl rfl ?_
      refine g_aload_n (q := 140) rfl rfl rfl ?_
      refine g_getI (q := 143) rfl (fun _ => rfl) rfl ?_
      obtain ⟨h23, hC, hF⟩ := bd_I hF
      refine g_cv3 (q := 146) rfl rfl (fun _ => rfl) rfl (A_M_layOrder hC) (by decide +kernel) rfl ?_
      refine g_iload_n (q := 147) rfl rfl rfl ?_
      refine g_aload_n (q := 148) rfl rfl rfl ?_
      refine g_getI (q := 151) rfl (fun _ => rfl) rfl ?_
      by_cases c24 : (h23.1 55 0) ≤ x2
      · rw [if_pos c24] at hF
        refine g_icmpT rfl (decide_eq_true c24) ?_
        refine g_bipush (q := 165) rfl (by decide +kernel) rfl ?_
        injection hF with hF
        injection hF with hv hh
        subst hv
        subst hh
        exact g_iret rfl
      · rw [if_neg c24] at hF
        refine g_icmpF (q := 154) rfl (decide_eq_false c24) rfl ?_
        refine g_aload_n (q := 155) rfl rfl rfl ?_
        refine g_getR (q := 158) rfl (fun _ => rfl) rfl ?_
        refine g_iload_n (q := 159) rfl rfl rfl ?_
        obtain ⟨hi, hF⟩ := ck_I hF
        refine g_iaload (q := 160) rfl rfl rfl hi rfl ?_
        refine g_goto rfl ?_
        injection hF with hF
        injection hF with hv hh
        subst hv
        subst hh
        exact g_iret rfl
    · rw [if_neg c25] at hF
      refine g_ifF (q := 133) rfl (decide_eq_false c25) rfl ?_
      refine g_iload (q := 135) rfl rfl rfl ?_
      injection hF with hF
      injection hF with hv hh
      subst hv
      subst hh
      exact g_iret rfl
  · rw [if_neg c28] at hF
    refine g_ifF (q := 33) rfl (decide_eq_false c28) rfl ?_
    refine g_aload_n (q := 34) rfl rfl rfl ?_
    refine g_iload_n (q := 35) rfl rfl rfl ?_
    obtain ⟨⟨r27, h26⟩, hC, hF⟩ := bd_I hF
    dsimp only at hF
    refine g_ci2 (q := 38) rfl rfl (fun _ => rfl) rfl (A_M_refuse hC) (by decide +kernel) rfl ?_
    injection hF with hF
    injection hF with hv hh
    subst hv
    subst hh
    exact g_iret rfl
/-- BothCornersModel.bestTimeOf(II)I -/
def F_M_bestTimeOf (x1 : Int32) (x2 : Int32) (h : MH) : Option (Int32 × MH) := bd (F_M_bestWayOf x1 x2 h) (fun (r2, h1) => bd (F_M_timeOf x1 r2 x2 h1) (fun (r4, h3) => some (r4, h3)))
theorem A_M_bestTimeOf {x1 : Int32} {x2 : Int32} {h h' : MH} {v : Int32} (hF : F_M_bestTimeOf x1 x2 h = some (v, h')) : Ex 6 173 [.inr (.inl (some 55)), .inl x1, .inl x2] h (some (.inl v), h') := by
  unfold F_M_bestTimeOf at hF
  refine ex_of (d := 5) rfl rfl ?_
  refine g_aload_n (q := 1) rfl rfl rfl ?_
  refine g_iload_n (q := 2) rfl rfl rfl ?_
  refine g_aload_n (q := 3) rfl rfl rfl ?_
  refine g_iload_n (q := 4) rfl rfl rfl ?_
  refine g_iload_n (q := 5) rfl rfl rfl ?_
  obtain ⟨⟨r2, h1⟩, hC, hF⟩ := bd_I hF
  dsimp only at hF
  refine g_ci3 (q := 8) rfl rfl (fun _ => rfl) rfl (A_M_bestWayOf hC) (by decide +kernel) rfl ?_
  refine g_iload_n (q := 9) rfl rfl rfl ?_
  obtain ⟨⟨r4, h3⟩, hC, hF⟩ := bd_I hF
  dsimp only at hF
  refine g_ci4 (q := 12) rfl rfl (fun _ => rfl) rfl (A_M_timeOf hC) (by decide +kernel) rfl ?_
  injection hF with hF
  injection hF with hv hh
  subst hv
  subst hh
  exact g_iret rfl
def L_M_greatestBy_4 (x2 : Int32) : Nat → Int32 → MH → Option (MH)
  | 0, _, _ => none
  | n + 1, x3, h => if (I 4) ≤ x3 then some (h) else ck (mm_in x3 4) (hw (mm_hset h.1 73 (Int32.toNatClampNeg x3) (I 0), h.2) (fun h1 => L_M_greatestBy_4 x2 n (x3 + I 1) h1))
def L_M_greatestBy_29 : Nat → Int32 → Int32 → MH → Option (MH)
  | 0, _, _, _ => none
  | n + 1, x2, x3, h => if x3 < 0 then some (h) else cd (¬ (h.1 55 2) = 0) (ck (mm_in (irem x2 (h.1 55 2)) 4) (cd (¬ (h.1 55 2) = 0) (bd (F_M_bestTimeOf x3 (irem x2 (h.1 55 2)) h) (fun (r5, h4) => ck (mm_in (irem x2 (h.1 55 2)) 4) (hw (mm_hset h4.1 73 (Int32.toNatClampNeg (irem x2 (h.1 55 2))) ((h.1 73 (Int32.toNatClampNeg (irem x2 (h.1 55 2)))) + r5), h4.2) (fun h6 => cd (¬ (h6.1 55 2) = 0) (L_M_greatestBy_29 n (x2 / (h6.1 55 2)) (x3 + I (-1)) h6)))))))
def L_M_greatestBy_76 : Nat → Int32 → Int32 → MH → Option (Int32 × MH)
  | 0, _, _, _ => none
  | n + 1, x3, x4, h => if (h.1 55 2) ≤ x4 then some (x3, h) else ck (mm_in x4 4) (if (h.1 73 (Int32.toNatClampNeg x4)) ≤ x3 then L_M_greatestBy_76 n x3 (x4 + I 1) h else ck (mm_in x4 4) (L_M_greatestBy_76 n (h.1 73 (Int32.toNatClampNeg x4)) (x4 + I 1) h))
/-- BothCornersModel.greatestBy(I)I -/
def F_M_greatestBy (x1 : Int32) (h : MH) : Option (Int32 × MH) := bd (L_M_greatestBy_4 x1 5000 (I 0) h) (fun h3 => bd (L_M_greatestBy_29 5000 x1 ((h3.1 55 0) - (I 1)) h3) (fun h8 => bd (L_M_greatestBy_76 5000 (I 0) (I 0) h8) (fun (y11, h12) => some (y11, h12))))
theorem A_L_M_greatestBy_4 {x2 : Int32} {r : MRs} : ∀ (n : Nat) (x3 : Int32) (h : MH) (x : MH), L_M_greatestBy_4 x2 n x3 h = some x → (True) → (∀ (h' : MH), x = (h') → Go 6 223 22 (mm_lf [(0, .inr (.inl (some 55))), (2, .inl x2)]) [] h' r) → Go 6 223 4 (mm_lf [(0, .inr (.inl (some 55))), (2, .inl x2), (3, .inl x3)]) [] h r
  | 0, _, _, _, hF, _, _ => by cases hF
  | n + 1, x3, h, x, hF, KR, KX => by
    have ih := fun a3 => A_L_M_greatestBy_4 (x2 := x2) (r := r) n a3 
    unfold L_M_greatestBy_4 at hF
    refine g_iload_n (q := 5) rfl rfl rfl ?_
    refine g_iconst (q := 6) rfl rfl ?_
    by_cases c2 : (I 4) ≤ x3
    · rw [if_pos c2] at hF
      refine g_icmpT rfl (decide_eq_true c2) ?_
      injection hF with hF
      subst hF
      exact go_sub (mm_subc rfl (mm_subc rfl mm_sub0)) (KX  _ rfl)
    · rw [if_neg c2] at hF
      refine g_icmpF (q := 9) rfl (decide_eq_false c2) rfl ?_
      refine g_aload_n (q := 10) rfl rfl rfl ?_
      refine g_getR (q := 13) rfl (fun _ => rfl) rfl ?_
      refine g_iload_n (q := 14) rfl rfl rfl ?_
      refine g_iconst (q := 15) rfl rfl ?_
      obtain ⟨hi, hF⟩ := ck_I hF
      refine g_iastore (q := 16) rfl rfl rfl hi rfl ?_
      obtain ⟨h1, e_h1, hF⟩ := hw_I hF
      rw [← e_h1]
      refine g_iinc (q := 19) rfl rfl rfl ?_
      refine g_goto rfl ?_
      refine go_sub (lo' := mm_lf [(0, .inr (.inl (some 55))), (2, .inl x2), (3, .inl (x3 + I 1))]) (mm_subc rfl (mm_subc rfl (mm_subc rfl mm_sub0))) ?_
      exact ih _ _ _ hF KR KX
theorem A_L_M_greatestBy_29 {r : MRs} : ∀ (n : Nat) (x2 : Int32) (x3 : Int32) (h : MH) (x : MH), L_M_greatestBy_29 n x2 x3 h = some x → (True) → (∀ (h' : MH), x = (h') → Go 6 223 71 (mm_lf [(0, .inr (.inl (some 55)))]) [] h' r) → Go 6 223 29 (mm_lf [(0, .inr (.inl (some 55))), (2, .inl x2), (3, .inl x3)]) [] h r
  | 0, _, _, _, _, hF, _, _ => by cases hF
  | n + 1, x2, x3, h, x, hF, KR, KX => by
    have ih := fun a2 a3 => A_L_M_greatestBy_29 (r := r) n a2 a3 
    unfold L_M_greatestBy_29 at hF
    refine g_iload_n (q := 30) rfl rfl rfl ?_
    by_cases c7 : x3 < 0
    · rw [if_pos c7] at hF
      refine g_ifT rfl (decide_eq_true c7) ?_
      injection hF with hF
      subst hF
      exact go_sub (mm_subc rfl mm_sub0) (KX  _ rfl)
    · rw [if_neg c7] at hF
      refine g_ifF (q := 33) rfl (decide_eq_false c7) rfl ?_
      refine g_aload_n (q := 34) rfl rfl rfl ?_
      refine g_getR (q := 37) rfl (fun _ => rfl) rfl ?_
      refine g_iload_n (q := 38) rfl rfl rfl ?_
      refine g_aload_n (q := 39) rfl rfl rfl ?_
      refine g_getI (q := 42) rfl (fun _ => rfl) rfl ?_
      obtain ⟨hne, hF⟩ := cd_I hF
      refine g_irem (q := 43) rfl hne rfl ?_
      refine g_dup2 (q := 44) rfl rfl rfl ?_
      obtain ⟨hi, hF⟩ := ck_I hF
      refine g_iaload (q := 45) rfl rfl rfl hi rfl ?_
      refine g_aload_n (q := 46) rfl rfl rfl ?_
      refine g_iload_n (q := 47) rfl rfl rfl ?_
      refine g_iload_n (q := 48) rfl rfl rfl ?_
      refine g_aload_n (q := 49) rfl rfl rfl ?_
      refine g_getI (q := 52) rfl (fun _ => rfl) rfl ?_
      obtain ⟨hne, hF⟩ := cd_I hF
      refine g_irem (q := 53) rfl hne rfl ?_
      obtain ⟨⟨r5, h4⟩, hC, hF⟩ := bd_I hF
      dsimp only at hF
      refine g_ci3 (q := 56) rfl rfl (fun _ => rfl) rfl (A_M_bestTimeOf hC) (by decide +kernel) rfl ?_
      refine g_iadd (q := 57) rfl rfl ?_
      obtain ⟨hi, hF⟩ := ck_I hF
      refine g_iastore (q := 58) rfl rfl rfl hi rfl ?_
      obtain ⟨h6, e_h6, hF⟩ := hw_I hF
      rw [← e_h6]
      refine g_iload_n (q := 59) rfl rfl rfl ?_
      refine g_aload_n (q := 60) rfl rfl rfl ?_
      refine g_getI (q := 63) rfl (fun _ => rfl) rfl ?_
      obtain ⟨hne, hF⟩ := cd_I hF
      refine g_idiv (q := 64) rfl hne rfl ?_
      refine g_istore_n (q := 65) rfl rfl ?_
      refine g_iinc (q := 68) rfl rfl rfl ?_
      refine g_goto rfl ?_
      refine go_sub (lo' := mm_lf [(0, .inr (.inl (some 55))), (2, .inl (x2 / (h6.1 55 2))), (3, .inl (x3 + I (-1)))]) (mm_subc rfl (mm_subc rfl (mm_subc rfl mm_sub0))) ?_
      exact ih _ _ _ _ hF KR KX
theorem A_L_M_greatestBy_76 {r : MRs} : ∀ (n : Nat) (x3 : Int32) (x4 : Int32) (h : MH) (x : Int32 × MH), L_M_greatestBy_76 n x3 x4 h = some x → (True) → (∀ (e3 : Int32) (h' : MH), x = (e3, h') → Go 6 223 114 (mm_lf [(3, .inl e3)]) [] h' r) → Go 6 223 76 (mm_lf [(0, .inr (.inl (some 55))), (3, .inl x3), (4, .inl x4)]) [] h r
  | 0, _, _, _, _, hF, _, _ => by cases hF
  | n + 1, x3, x4, h, x, hF, KR, KX => by
    have ih := fun a3 a4 => A_L_M_greatestBy_76 (r := r) n a3 a4 
    unfold L_M_greatestBy_76 at hF
    refine g_iload (q := 78) rfl rfl rfl ?_
    refine g_aload_n (q := 79) rfl rfl rfl ?_
    refine g_getI (q := 82) rfl (fun _ => rfl) rfl ?_
    by_cases c10 : (h.1 55 2) ≤ x4
    · rw [if_pos c10] at hF
      refine g_icmpT rfl (decide_eq_true c10) ?_
      injection hF with hF
      subst hF
      exact go_sub (mm_subc rfl mm_sub0) (KX _ _ rfl)
    · rw [if_neg c10] at hF
      refine g_icmpF (q := 85) rfl (decide_eq_false c10) rfl ?_
      refine g_aload_n (q := 86) rfl rfl rfl ?_
      refine g_getR (q := 89) rfl (fun _ => rfl) rfl ?_
      refine g_iload (q := 91) rfl rfl rfl ?_
      obtain ⟨hi, hF⟩ := ck_I hF
      refine g_iaload (q := 92) rfl rfl rfl hi rfl ?_
      refine g_iload_n (q := 93) rfl rfl rfl ?_
      by_cases c9 : (h.1 73 (Int32.toNatClampNeg x4)) ≤ x3
      · rw [if_pos c9] at hF
        refine g_icmpT rfl (decide_eq_true c9) ?_
        refine g_iload_n (q := 107) rfl rfl rfl ?_
        refine g_istore_n (q := 108) rfl rfl ?_
        refine g_iinc (q := 111) rfl rfl rfl ?_
        refine g_goto rfl ?_
        refine go_sub (lo' := mm_lf [(0, .inr (.inl (some 55))), (3, .inl x3), (4, .inl (x4 + I 1))]) (mm_subc rfl (mm_subc rfl (mm_subc rfl mm_sub0))) ?_
        exact ih _ _ _ _ hF KR KX
      · rw [if_neg c9] at hF
        refine g_icmpF (q := 96) rfl (decide_eq_false c9) rfl ?_
        refine g_aload_n (q := 97) rfl rfl rfl ?_
        refine g_getR (q := 100) rfl (fun _ => rfl) rfl ?_
        refine g_iload (q := 102) rfl rfl rfl ?_
        obtain ⟨hi, hF⟩ := ck_I hF
        refine g_iaload (q := 103) rfl rfl rfl hi rfl ?_
        refine g_goto rfl ?_
        refine g_istore_n (q := 108) rfl rfl ?_
        refine g_iinc (q := 111) rfl rfl rfl ?_
        refine g_goto rfl ?_
        refine go_sub (lo' := mm_lf [(0, .inr (.inl (some 55))), (3, .inl (h.1 73 (Int32.toNatClampNeg x4))), (4, .inl (x4 + I 1))]) (mm_subc rfl (mm_subc rfl (mm_subc rfl mm_sub0))) ?_
        exact ih _ _ _ _ hF KR KX
theorem A_M_greatestBy {x1 : Int32} {h h' : MH} {v : Int32} (hF : F_M_greatestBy x1 h = some (v, h')) : Ex 7 223 [.inr (.inl (some 55)), .inl x1] h (some (.inl v), h') := by
  unfold F_M_greatestBy at hF
  refine ex_of (d := 6) rfl rfl ?_
  refine g_iload_n (q := 1) rfl rfl rfl ?_
  refine g_istore_n (q := 2) rfl rfl ?_
  refine g_iconst (q := 3) rfl rfl ?_
  refine g_istore_n (q := 4) rfl rfl ?_
  refine go_sub (lo' := mm_lf [(0, .inr (.inl (some 55))), (2, .inl x1), (3, .inl (I 0))]) (mm_subc rfl (mm_subc rfl (mm_subc rfl mm_sub0))) ?_
  obtain ⟨h3, hC, hF⟩ := bd_I hF
  refine A_L_M_greatestBy_4 5000 _ _ _ hC trivial ?_
  intro _ e2
  cases e2
  refine g_aload_n (q := 23) rfl rfl rfl ?_
  refine g_getI (q := 26) rfl (fun _ => rfl) rfl ?_
  refine g_iconst (q := 27) rfl rfl ?_
  refine g_isub (q := 28) rfl rfl ?_
  refine g_istore_n (q := 29) rfl rfl ?_
  refine go_sub (lo' := mm_lf [(0, .inr (.inl (some 55))), (2, .inl x1), (3, .inl ((h3.1 55 0) - (I 1)))]) (mm_subc rfl (mm_subc rfl (mm_subc rfl mm_sub0))) ?_
  obtain ⟨h8, hC, hF⟩ := bd_I hF
  refine A_L_M_greatestBy_29 5000 _ _ _ _ hC trivial ?_
  intro _ e2
  cases e2
  refine g_iconst (q := 72) rfl rfl ?_
  refine g_istore_n (q := 73) rfl rfl ?_
  refine g_iconst (q := 74) rfl rfl ?_
  refine g_istore (q := 76) rfl rfl ?_
  refine go_sub (lo' := mm_lf [(0, .inr (.inl (some 55))), (3, .inl (I 0)), (4, .inl (I 0))]) (mm_subc rfl (mm_subc rfl (mm_subc rfl mm_sub0))) ?_
  obtain ⟨⟨y11, h12⟩, hC, hF⟩ := bd_I hF
  dsimp only at hF
  refine A_L_M_greatestBy_76 5000 _ _ _ _ hC trivial ?_
  intro _ _ e2
  cases e2
  refine g_iload_n (q := 115) rfl rfl rfl ?_
  injection hF with hF
  injection hF with hv hh
  subst hv
  subst hh
  exact g_iret rfl
def L_M_who_51 (x1 : Int32) : Nat → Int32 → Int32 → MH → Option (Int32 × MH)
  | 0, _, _, _ => none
  | n + 1, x3, x4, h => if (h.1 55 0) ≤ x4 then some (x3, h) else L_M_who_51 x1 n (x3 * (h.1 55 2)) (x4 + I 1) h
def L_M_who_86 (x1 : Int32) (x3 : Int32) : Nat → Int32 → Int32 → Int32 → MH → Option (Int32 × Int32 × MH)
  | 0, _, _, _, _ => none
  | n + 1, x4, x5, x6, h => if x3 ≤ x6 then some (x4, x5, h) else bd (F_M_greatestBy x6 h) (fun (r11, h10) => iw (if x5 ≤ r11 then x4 else x6) (fun v12 => iw (if x5 ≤ r11 then x5 else r11) (fun v14 => L_M_who_86 x1 x3 n v12 v14 (x6 + I 1) h10)))
def L_M_who_157 (x1 : Int32) : Nat → Int32 → Int32 → MH → Option (Int32 × MH)
  | 0, _, _, _ => none
  | n + 1, x6, x7, h => if x7 ≤ x1 then some (x6, h) else cd (¬ (h.1 55 2) = 0) (L_M_who_157 x1 n (x6 / (h.1 55 2)) (x7 + I (-1)) h)
/-- BothCornersModel.who(I)I -/
def F_M_who (x1 : Int32) (h : MH) : Option (Int32 × MH) := hw (mm_hset h.1 55 10 (I 0), h.2) (fun h1 => kw (fun (z2 : Int32) (h3 : MH) => if 0 ≤ z2 then bd (L_M_who_51 x1 5000 (I 1) (I 0) h3) (fun (y6, h7) => bd (F_M_greatestBy (I 0) h7) (fun (r9, h8) => bd (L_M_who_86 x1 y6 5000 (I 0) r9 (I 1) h8) (fun (y19, y20, h21) => if 0 ≤ x1 then bd (L_M_who_157 x1 5000 y19 ((h21.1 55 0) - (I 1)) h21) (fun (y23, h24) => if (h24.1 55 0) ≤ x1 then some (I (-9), h24) else cd (¬ (h24.1 55 2) = 0) (some (irem y23 (h24.1 55 2), h24))) else some (y20, h21)))) else bd (F_M_refuse z2 h3) (fun (r28, h27) => some (r28, h27))) (fun k4 => if (I (-1)) ≤ x1 then if (h1.1 55 2) = 0 then k4 (I (-3)) h1 else if ¬ (h1.1 55 5) = 0 then k4 (I 0) h1 else k4 (I (-3)) h1 else k4 (I (-4)) h1))
theorem A_L_M_who_51 {x1 : Int32} {r : MRs} : ∀ (n : Nat) (x3 : Int32) (x4 : Int32) (h : MH) (x : Int32 × MH), L_M_who_51 x1 n x3 x4 h = some x → (True) → (∀ (e3 : Int32) (h' : MH), x = (e3, h') → Go 7 224 73 (mm_lf [(0, .inr (.inl (some 55))), (1, .inl x1), (3, .inl e3)]) [] h' r) → Go 7 224 51 (mm_lf [(0, .inr (.inl (some 55))), (1, .inl x1), (3, .inl x3), (4, .inl x4)]) [] h r
  | 0, _, _, _, _, hF, _, _ => by cases hF
  | n + 1, x3, x4, h, x, hF, KR, KX => by
    have ih := fun a3 a4 => A_L_M_who_51 (x1 := x1) (r := r) n a3 a4 
    unfold L_M_who_51 at hF
    refine g_iload (q := 53) rfl rfl rfl ?_
    refine g_aload_n (q := 54) rfl rfl rfl ?_
    refine g_getI (q := 57) rfl (fun _ => rfl) rfl ?_
    by_cases c5 : (h.1 55 0) ≤ x4
    · rw [if_pos c5] at hF
      refine g_icmpT rfl (decide_eq_true c5) ?_
      injection hF with hF
      subst hF
      exact go_sub (mm_subc rfl (mm_subc rfl (mm_subc rfl mm_sub0))) (KX _ _ rfl)
    · rw [if_neg c5] at hF
      refine g_icmpF (q := 60) rfl (decide_eq_false c5) rfl ?_
      refine g_iload_n (q := 61) rfl rfl rfl ?_
      refine g_aload_n (q := 62) rfl rfl rfl ?_
      refine g_getI (q := 65) rfl (fun _ => rfl) rfl ?_
      refine g_imul (q := 66) rfl rfl ?_
      refine g_istore_n (q := 67) rfl rfl ?_
      refine g_iinc (q := 70) rfl rfl rfl ?_
      refine g_goto rfl ?_
      refine go_sub (lo' := mm_lf [(0, .inr (.inl (some 55))), (1, .inl x1), (3, .inl (x3 * (h.1 55 2))), (4, .inl (x4 + I 1))]) (mm_subc rfl (mm_subc rfl (mm_subc rfl (mm_subc rfl mm_sub0)))) ?_
      exact ih _ _ _ _ hF KR KX
theorem A_L_M_who_86 {x1 : Int32} {x3 : Int32} {r : MRs} : ∀ (n : Nat) (x4 : Int32) (x5 : Int32) (x6 : Int32) (h : MH) (x : Int32 × Int32 × MH), L_M_who_86 x1 x3 n x4 x5 x6 h = some x → (True) → (∀ (e4 : Int32) (e5 : Int32) (h' : MH), x = (e4, e5, h') → Go 7 224 138 (mm_lf [(0, .inr (.inl (some 55))), (1, .inl x1), (4, .inl e4), (5, .inl e5)]) [] h' r) → Go 7 224 86 (mm_lf [(0, .inr (.inl (some 55))), (1, .inl x1), (3, .inl x3), (4, .inl x4), (5, .inl x5), (6, .inl x6)]) [] h r
  | 0, _, _, _, _, _, hF, _, _ => by cases hF
  | n + 1, x4, x5, x6, h, x, hF, KR, KX => by
    have ih := fun a4 a5 a6 => A_L_M_who_86 (x1 := x1) (x3 := x3) (r := r) n a4 a5 a6 
    unfold L_M_who_86 at hF
    refine g_iload (q := 88) rfl rfl rfl ?_
    refine g_iload_n (q := 89) rfl rfl rfl ?_
    by_cases c18 : x3 ≤ x6
    · rw [if_pos c18] at hF
      refine g_icmpT rfl (decide_eq_true c18) ?_
      injection hF with hF
      subst hF
      exact go_sub (mm_subc rfl (mm_subc rfl (mm_subc rfl (mm_subc rfl mm_sub0)))) (KX _ _ _ rfl)
    · rw [if_neg c18] at hF
      refine g_icmpF (q := 92) rfl (decide_eq_false c18) rfl ?_
      refine g_aload_n (q := 93) rfl rfl rfl ?_
      refine g_iload (q := 95) rfl rfl rfl ?_
      obtain ⟨⟨r11, h10⟩, hC, hF⟩ := bd_I hF
      dsimp only at hF
      refine g_ci2 (q := 98) rfl rfl (fun _ => rfl) rfl (A_M_greatestBy hC) (by decide +kernel) rfl ?_
      refine g_istore (q := 100) rfl rfl ?_
      refine g_iload (q := 102) rfl rfl rfl ?_
      refine g_iload (q := 104) rfl rfl rfl ?_
      obtain ⟨v12, e_v12, hF⟩ := iw_I hF
      suffices K13 : Go 7 224 114 (mm_lf [(0, .inr (.inl (some 55))), (1, .inl x1), (3, .inl x3), (5, .inl x5), (6, .inl x6), (7, .inl r11)]) [.inl v12] h10 r by
        clear hF
        by_cases c17 : x5 ≤ r11
        · simp only [if_pos c17] at e_v12
          subst e_v12
          refine g_icmpT rfl (decide_eq_true c17) ?_
          refine g_iload (q := 114) rfl rfl rfl ?_
          exact go_sub (mm_subc rfl (mm_subc rfl (mm_subc rfl (mm_subc rfl (mm_subc rfl (mm_subc rfl mm_sub0)))))) K13
        · simp only [if_neg c17] at e_v12
          subst e_v12
          refine g_icmpF (q := 107) rfl (decide_eq_false c17) rfl ?_
          refine g_iload (q := 109) rfl rfl rfl ?_
          refine g_goto rfl ?_
          exact go_sub (mm_subc rfl (mm_subc rfl (mm_subc rfl (mm_subc rfl (mm_subc rfl (mm_subc rfl mm_sub0)))))) K13
      clear e_v12
      refine g_istore (q := 116) rfl rfl ?_
      refine g_iload (q := 118) rfl rfl rfl ?_
      refine g_iload (q := 120) rfl rfl rfl ?_
      obtain ⟨v14, e_v14, hF⟩ := iw_I hF
      suffices K15 : Go 7 224 130 (mm_lf [(0, .inr (.inl (some 55))), (1, .inl x1), (3, .inl x3), (4, .inl v12), (6, .inl x6)]) [.inl v14] h10 r by
        clear hF
        by_cases c16 : x5 ≤ r11
        · simp only [if_pos c16] at e_v14
          subst e_v14
          refine g_icmpT rfl (decide_eq_true c16) ?_
          refine g_iload (q := 130) rfl rfl rfl ?_
          exact go_sub (mm_subc rfl (mm_subc rfl (mm_subc rfl (mm_subc rfl (mm_subc rfl mm_sub0))))) K15
        · simp only [if_neg c16] at e_v14
          subst e_v14
          refine g_icmpF (q := 123) rfl (decide_eq_false c16) rfl ?_
          refine g_iload (q := 125) rfl rfl rfl ?_
          refine g_goto rfl ?_
          exact go_sub (mm_subc rfl (mm_subc rfl (mm_subc rfl (mm_subc rfl (mm_subc rfl mm_sub0))))) K15
      clear e_v14
      refine g_istore (q := 132) rfl rfl ?_
      refine g_iinc (q := 135) rfl rfl rfl ?_
      refine g_goto rfl ?_
      refine go_sub (lo' := mm_lf [(0, .inr (.inl (some 55))), (1, .inl x1), (3, .inl x3), (4, .inl v12), (5, .inl v14), (6, .inl (x6 + I 1))]) (mm_subc rfl (mm_subc rfl (mm_subc rfl (mm_subc rfl (mm_subc rfl (mm_subc rfl mm_sub0)))))) ?_
      exact ih _ _ _ _ _ hF KR KX
theorem A_L_M_who_157 {x1 : Int32} {r : MRs} : ∀ (n : Nat) (x6 : Int32) (x7 : Int32) (h : MH) (x : Int32 × MH), L_M_who_157 x1 n x6 x7 h = some x → (True) → (∀ (e6 : Int32) (h' : MH), x = (e6, h') → Go 7 224 178 (mm_lf [(0, .inr (.inl (some 55))), (1, .inl x1), (6, .inl e6)]) [] h' r) → Go 7 224 157 (mm_lf [(0, .inr (.inl (some 55))), (1, .inl x1), (6, .inl x6), (7, .inl x7)]) [] h r
  | 0, _, _, _, _, hF, _, _ => by cases hF
  | n + 1, x6, x7, h, x, hF, KR, KX => by
    have ih := fun a6 a7 => A_L_M_who_157 (x1 := x1) (r := r) n a6 a7 
    unfold L_M_who_157 at hF
    refine g_iload (q := 159) rfl rfl rfl ?_
    refine g_iload_n (q := 160) rfl rfl rfl ?_
    by_cases c22 : x7 ≤ x1
    · rw [if_pos c22] at hF
      refine g_icmpT rfl (decide_eq_true c22) ?_
      injection hF with hF
      subst hF
      exact go_sub (mm_subc rfl (mm_subc rfl (mm_subc rfl mm_sub0))) (KX _ _ rfl)
    · rw [if_neg c22] at hF
      refine g_icmpF (q := 163) rfl (decide_eq_false c22) rfl ?_
      refine g_iload (q := 165) rfl rfl rfl ?_
      refine g_aload_n (q := 166) rfl rfl rfl ?_
      refine g_getI (q := 169) rfl (fun _ => rfl) rfl ?_
      obtain ⟨hne, hF⟩ := cd_I hF
      refine g_idiv (q := 170) rfl hne rfl ?_
      refine g_istore (q := 172) rfl rfl ?_
      refine g_iinc (q := 175) rfl rfl rfl ?_
      refine g_goto rfl ?_
      refine go_sub (lo' := mm_lf [(0, .inr (.inl (some 55))), (1, .inl x1), (6, .inl (x6 / (h.1 55 2))), (7, .inl (x7 + I (-1)))]) (mm_subc rfl (mm_subc rfl (mm_subc rfl (mm_subc rfl mm_sub0)))) ?_
      exact ih _ _ _ _ hF KR KX
theorem A_M_who {x1 : Int32} {h h' : MH} {v : Int32} (hF : F_M_who x1 h = some (v, h')) : Ex 8 224 [.inr (.inl (some 55)), .inl x1] h (some (.inl v), h') := by
  unfold F_M_who at hF
  refine ex_of (d := 7) rfl rfl ?_
  refine g_aload_n (q := 1) rfl rfl rfl ?_
  refine g_iconst (q := 2) rfl rfl ?_
  refine g_putI (q := 5) rfl (fun _ => rfl) rfl ?_
  obtain ⟨h1, e_h1, hF⟩ := hw_I hF
  rw [← e_h1]
  refine g_iload_n (q := 6) rfl rfl rfl ?_
  refine g_iconst (q := 7) rfl rfl ?_
  obtain ⟨k4, e_k4, hF⟩ := kw_I hF
  have K30 : ∀ (z2 : Int32) (h3 : MH), k4 z2 h3 = some (v, h') → Go 7 224 35 (mm_lf [(0, .inr (.inl (some 55))), (1, .inl x1)]) [.inl z2] h3 (some (.inl v), h') := by
    intro z2 h3 hF
    rw [e_k4] at hF
    dsimp only at hF
    refine g_istore_n (q := 36) rfl rfl ?_
    refine g_iload_n (q := 37) rfl rfl rfl ?_
    by_cases c29 : 0 ≤ z2
    · rw [if_pos c29] at hF
      refine g_ifT rfl (decide_eq_true c29) ?_
      refine g_iconst (q := 47) rfl rfl ?_
      refine g_istore_n (q := 48) rfl rfl ?_
      refine g_iconst (q := 49) rfl rfl ?_
      refine g_istore (q := 51) rfl rfl ?_
      refine go_sub (lo' := mm_lf [(0, .inr (.inl (some 55))), (1, .inl x1), (3, .inl (I 1)), (4, .inl (I 0))]) (mm_subc rfl (mm_subc rfl (mm_subc rfl (mm_subc rfl mm_sub0)))) ?_
      obtain ⟨⟨y6, h7⟩, hC, hF⟩ := bd_I hF
      dsimp only at hF
      refine A_L_M_who_51 5000 _ _ _ _ hC trivial ?_
      intro _ _ e2
      cases e2
      refine g_iconst (q := 74) rfl rfl ?_
      refine g_istore (q := 76) rfl rfl ?_
      refine g_aload_n (q := 77) rfl rfl rfl ?_
      refine g_iconst (q := 78) rfl rfl ?_
      obtain ⟨⟨r9, h8⟩, hC, hF⟩ := bd_I hF
      dsimp only at hF
      refine g_ci2 (q := 81) rfl rfl (fun _ => rfl) rfl (A_M_greatestBy hC) (by decide +kernel) rfl ?_
      refine g_istore (q := 83) rfl rfl ?_
      refine g_iconst (q := 84) rfl rfl ?_
      refine g_istore (q := 86) rfl rfl ?_
      refine go_sub (lo' := mm_lf [(0, .inr (.inl (some 55))), (1, .inl x1), (3, .inl y6), (4, .inl (I 0)), (5, .inl r9), (6, .inl (I 1))]) (mm_subc rfl (mm_subc rfl (mm_subc rfl (mm_subc rfl (mm_subc rfl (mm_subc rfl mm_sub0)))))) ?_
      obtain ⟨⟨y19, y20, h21⟩, hC, hF⟩ := bd_I hF
      dsimp only at hF
      refine A_L_M_who_86 5000 _ _ _ _ _ hC trivial ?_
      intro _ _ _ e2
      cases e2
      refine g_iload_n (q := 139) rfl rfl rfl ?_
      by_cases c26 : 0 ≤ x1
      · rw [if_pos c26] at hF
        refine g_ifT rfl (decide_eq_true c26) ?_
        refine g_iload (q := 147) rfl rfl rfl ?_
        refine g_istore (q := 149) rfl rfl ?_
        refine g_aload_n (q := 150) rfl rfl rfl ?_
        refine g_getI (q := 153) rfl (fun _ => rfl) rfl ?_
        refine g_iconst (q := 154) rfl rfl ?_
        refine g_isub (q := 155) rfl rfl ?_
        refine g_istore (q := 157) rfl rfl ?_
        refine go_sub (lo' := mm_lf [(0, .inr (.inl (some 55))), (1, .inl x1), (6, .inl y19), (7, .inl ((h21.1 55 0) - (I 1)))]) (mm_subc rfl (mm_subc rfl (mm_subc rfl (mm_subc rfl mm_sub0)))) ?_
        obtain ⟨⟨y23, h24⟩, hC, hF⟩ := bd_I hF
        dsimp only at hF
        refine A_L_M_who_157 5000 _ _ _ _ hC trivial ?_
        intro _ _ e2
        cases e2
        refine g_iload_n (q := 179) rfl rfl rfl ?_
        refine g_aload_n (q := 180) rfl rfl rfl ?_
        refine g_getI (q := 183) rfl (fun _ => rfl) rfl ?_
        by_cases c25 : (h24.1 55 0) ≤ x1
        · rw [if_pos c25] at hF
          refine g_icmpT rfl (decide_eq_true c25) ?_
          refine g_bipush (q := 198) rfl (by decide +kernel) rfl ?_
          injection hF with hF
          injection hF with hv hh
          subst hv
          subst hh
          exact g_iret rfl
        · rw [if_neg c25] at hF
          refine g_icmpF (q := 186) rfl (decide_eq_false c25) rfl ?_
          refine g_iload (q := 188) rfl rfl rfl ?_
          refine g_aload_n (q := 189) rfl rfl rfl ?_
          refine g_getI (q := 192) rfl (fun _ => rfl) rfl ?_
          obtain ⟨hne, hF⟩ := cd_I hF
          refine g_irem (q := 193) rfl hne rfl ?_
          refine g_goto rfl ?_
          injection hF with hF
          injection hF with hv hh
          subst hv
          subst hh
          exact g_iret rfl
      · rw [if_neg c26] at hF
        refine g_ifF (q := 142) rfl (decide_eq_false c26) rfl ?_
        refine g_iload (q := 144) rfl rfl rfl ?_
        injection hF with hF
        injection hF with hv hh
        subst hv
        subst hh
        exact g_iret rfl
    · rw [if_neg c29] at hF
      refine g_ifF (q := 40) rfl (decide_eq_false c29) rfl ?_
      refine g_aload_n (q := 41) rfl rfl rfl ?_
      refine g_iload_n (q := 42) rfl rfl rfl ?_
      obtain ⟨⟨r28, h27⟩, hC, hF⟩ := bd_I hF
      dsimp only at hF
      refine g_ci2 (q := 45) rfl rfl (fun _ => rfl) rfl (A_M_refuse hC) (by decide +kernel) rfl ?_
      injection hF with hF
      injection hF with hv hh
      subst hv
      subst hh
      exact g_iret rfl
  clear e_k4
  by_cases c33 : (I (-1)) ≤ x1
  · rw [if_pos c33] at hF
    refine g_icmpT rfl (decide_eq_true c33) ?_
    refine g_aload_n (q := 16) rfl rfl rfl ?_
    refine g_getI (q := 19) rfl (fun _ => rfl) rfl ?_
    by_cases c32 : (h1.1 55 2) = 0
    · rw [if_pos c32] at hF
      refine g_ifT rfl (decide_eq_true c32) ?_
      refine g_bipush (q := 31) rfl (by decide +kernel) rfl ?_
      refine g_goto rfl ?_
      exact go_sub (mm_subc rfl (mm_subc rfl mm_sub0)) (K30 _ _ hF)
    · rw [if_neg c32] at hF
      refine g_ifF (q := 22) rfl (decide_eq_false c32) rfl ?_
      refine g_aload_n (q := 23) rfl rfl rfl ?_
      refine g_getI (q := 26) rfl (fun _ => rfl) rfl ?_
      by_cases c31 : ¬ (h1.1 55 5) = 0
      · rw [if_pos c31] at hF
        refine g_ifT rfl (decide_eq_true c31) ?_
        refine g_iconst (q := 35) rfl rfl ?_
        exact go_sub (mm_subc rfl (mm_subc rfl mm_sub0)) (K30 _ _ hF)
      · rw [if_neg c31] at hF
        refine g_ifF (q := 29) rfl (decide_eq_false c31) rfl ?_
        refine g_bipush (q := 31) rfl (by decide +kernel) rfl ?_
        refine g_goto rfl ?_
        exact go_sub (mm_subc rfl (mm_subc rfl mm_sub0)) (K30 _ _ hF)
  · rw [if_neg c33] at hF
    refine g_icmpF (q := 10) rfl (decide_eq_false c33) rfl ?_
    refine g_bipush (q := 12) rfl (by decide +kernel) rfl ?_
    refine g_goto rfl ?_
    exact go_sub (mm_subc rfl (mm_subc rfl mm_sub0)) (K30 _ _ hF)
def L_M_learnedBy_5 (x1 : Int32) (x2 : Int32) : Nat → Int32 → Int32 → MH → Option (Int32 × MH)
  | 0, _, _, _ => none
  | n + 1, x3, x4, h => if (h.1 55 0) ≤ x4 then some (x3, h) else ck (mm_in x4 6) (ck (mm_in x1 6) (ck (mm_in x1 6) (ck (mm_in x2 4) (ck (mm_in x2 4) (bd (F_M_atMost ((h.1 58 (Int32.toNatClampNeg x2)) + x4) (I 9) h) (fun (r2, h1) => bd (F_M_timeBy (h.1 72 (Int32.toNatClampNeg x4)) (h.1 59 (Int32.toNatClampNeg x1)) (h.1 60 (Int32.toNatClampNeg x1)) (h.1 57 (Int32.toNatClampNeg x2)) r2 h1) (fun (r4, h3) => L_M_learnedBy_5 x1 x2 n (x3 + r4) (x4 + I 1) h3)))))))
/-- BothCornersModel.learnedBy(II)I -/
def F_M_learnedBy (x1 : Int32) (x2 : Int32) (h : MH) : Option (Int32 × MH) := bd (L_M_learnedBy_5 x1 x2 5000 (I 0) (I 0) h) (fun (y6, h7) => some (y6, h7))
theorem A_L_M_learnedBy_5 {x1 : Int32} {x2 : Int32} {r : MRs} : ∀ (n : Nat) (x3 : Int32) (x4 : Int32) (h : MH) (x : Int32 × MH), L_M_learnedBy_5 x1 x2 n x3 x4 h = some x → (True) → (∀ (e3 : Int32) (h' : MH), x = (e3, h') → Go 3 225 66 (mm_lf [(3, .inl e3)]) [] h' r) → Go 3 225 5 (mm_lf [(0, .inr (.inl (some 55))), (1, .inl x1), (2, .inl x2), (3, .inl x3), (4, .inl x4)]) [] h r
  | 0, _, _, _, _, hF, _, _ => by cases hF
  | n + 1, x3, x4, h, x, hF, KR, KX => by
    have ih := fun a3 a4 => A_L_M_learnedBy_5 (x1 := x1) (x2 := x2) (r := r) n a3 a4 
    unfold L_M_learnedBy_5 at hF
    refine g_iload (q := 7) rfl rfl rfl ?_
    refine g_aload_n (q := 8) rfl rfl rfl ?_
    refine g_getI (q := 11) rfl (fun _ => rfl) rfl ?_
    by_cases c5 : (h.1 55 0) ≤ x4
    · rw [if_pos c5] at hF
      refine g_icmpT rfl (decide_eq_true c5) ?_
      injection hF with hF
      subst hF
      exact go_sub (mm_subc rfl mm_sub0) (KX _ _ rfl)
    · rw [if_neg c5] at hF
      refine g_icmpF (q := 14) rfl (decide_eq_false c5) rfl ?_
      refine g_iload_n (q := 15) rfl rfl rfl ?_
      refine g_aload_n (q := 16) rfl rfl rfl ?_
      refine g_aload_n (q := 17) rfl rfl rfl ?_
      refine g_getR (q := 20) rfl (fun _ => rfl) rfl ?_
      refine g_iload (q := 22) rfl rfl rfl ?_
      obtain ⟨hi, hF⟩ := ck_I hF
      refine g_iaload (q := 23) rfl rfl rfl hi rfl ?_
      refine g_aload_n (q := 24) rfl rfl rfl ?_
      refine g_getR (q := 27) rfl (fun _ => rfl) rfl ?_
      refine g_iload_n (q := 28) rfl rfl rfl ?_
      obtain ⟨hi, hF⟩ := ck_I hF
      refine g_iaload (q := 29) rfl rfl rfl hi rfl ?_
      refine g_aload_n (q := 30) rfl rfl rfl ?_
      refine g_getR (q := 33) rfl (fun _ => rfl) rfl ?_
      refine g_iload_n (q := 34) rfl rfl rfl ?_
      obtain ⟨hi, hF⟩ := ck_I hF
      refine g_iaload (q := 35) rfl rfl rfl hi rfl ?_
      refine g_aload_n (q := 36) rfl rfl rfl ?_
      refine g_getR (q := 39) rfl (fun _ => rfl) rfl ?_
      refine g_iload_n (q := 40) rfl rfl rfl ?_
      obtain ⟨hi, hF⟩ := ck_I hF
      refine g_iaload (q := 41) rfl rfl rfl hi rfl ?_
      refine g_aload_n (q := 42) rfl rfl rfl ?_
      refine g_getR (q := 45) rfl (fun _ => rfl) rfl ?_
      refine g_iload_n (q := 46) rfl rfl rfl ?_
      obtain ⟨hi, hF⟩ := ck_I hF
      refine g_iaload (q := 47) rfl rfl rfl hi rfl ?_
      refine g_iload (q := 49) rfl rfl rfl ?_
      refine g_iadd (q := 50) rfl rfl ?_
      refine g_bipush (q := 52) rfl (by decide +kernel) rfl ?_
      obtain ⟨⟨r2, h1⟩, hC, hF⟩ := bd_I hF
      dsimp only at hF
      refine g_ci2 (q := 55) rfl rfl (fun _ => rfl) rfl (A_M_atMost hC) (by decide +kernel) rfl ?_
      obtain ⟨⟨r4, h3⟩, hC, hF⟩ := bd_I hF
      dsimp only at hF
      refine g_ci6 (q := 58) rfl rfl (fun _ => rfl) rfl (A_M_timeBy hC) (by decide +kernel) rfl ?_
      refine g_iadd (q := 59) rfl rfl ?_
      refine g_istore_n (q := 60) rfl rfl ?_
      refine g_iinc (q := 63) rfl rfl rfl ?_
      refine g_goto rfl ?_
      refine go_sub (lo' := mm_lf [(0, .inr (.inl (some 55))), (1, .inl x1), (2, .inl x2), (3, .inl (x3 + r4)), (4, .inl (x4 + I 1))]) (mm_subc rfl (mm_subc rfl (mm_subc rfl (mm_subc rfl (mm_subc rfl mm_sub0))))) ?_
      exact ih _ _ _ _ hF KR KX
theorem A_M_learnedBy {x1 : Int32} {x2 : Int32} {h h' : MH} {v : Int32} (hF : F_M_learnedBy x1 x2 h = some (v, h')) : Ex 4 225 [.inr (.inl (some 55)), .inl x1, .inl x2] h (some (.inl v), h') := by
  unfold F_M_learnedBy at hF
  refine ex_of (d := 3) rfl rfl ?_
  refine g_iconst (q := 1) rfl rfl ?_
  refine g_istore_n (q := 2) rfl rfl ?_
  refine g_iconst (q := 3) rfl rfl ?_
  refine g_istore (q := 5) rfl rfl ?_
  refine go_sub (lo' := mm_lf [(0, .inr (.inl (some 55))), (1, .inl x1), (2, .inl x2), (3, .inl (I 0)), (4, .inl (I 0))]) (mm_subc rfl (mm_subc rfl (mm_subc rfl (mm_subc rfl (mm_subc rfl mm_sub0))))) ?_
  obtain ⟨⟨y6, h7⟩, hC, hF⟩ := bd_I hF
  dsimp only at hF
  refine A_L_M_learnedBy_5 5000 _ _ _ _ hC trivial ?_
  intro _ _ e2
  cases e2
  refine g_iload_n (q := 67) rfl rfl rfl ?_
  injection hF with hF
  injection hF with hv hh
  subst hv
  subst hh
  exact g_iret rfl
/-- BothCornersModel.learned(II)I -/
def F_M_learned (x1 : Int32) (x2 : Int32) (h : MH) : Option (Int32 × MH) := hw (mm_hset h.1 55 10 (I 0), h.2) (fun h1 => bd (F_M_isWay x1 h1) (fun (r3, h2) => if r3 = 0 then bd (F_M_refuse (I (-1)) h2) (fun (r5, h4) => some (r5, h4)) else bd (F_M_isOne x2 h2) (fun (r7, h6) => if ¬ r7 = 0 then bd (F_M_layOrder (I 0) (h6.1 55 0) h6) (fun h8 => bd (F_M_learnedBy x1 x2 h8) (fun (r10, h9) => some (r10, h9))) else bd (F_M_refuse (I (-1)) h6) (fun (r12, h11) => some (r12, h11)))))
theorem A_M_learned {x1 : Int32} {x2 : Int32} {h h' : MH} {v : Int32} (hF : F_M_learned x1 x2 h = some (v, h')) : Ex 5 226 [.inr (.inl (some 55)), .inl x1, .inl x2] h (some (.inl v), h') := by
  unfold F_M_learned at hF
  refine ex_of (d := 4) rfl rfl ?_
  refine g_aload_n (q := 1) rfl rfl rfl ?_
  refine g_iconst (q := 2) rfl rfl ?_
  refine g_putI (q := 5) rfl (fun _ => rfl) rfl ?_
  obtain ⟨h1, e_h1, hF⟩ := hw_I hF
  rw [← e_h1]
  refine g_aload_n (q := 6) rfl rfl rfl ?_
  refine g_iload_n (q := 7) rfl rfl rfl ?_
  obtain ⟨⟨r3, h2⟩, hC, hF⟩ := bd_I hF
  dsimp only at hF
  refine g_ci2 (q := 10) rfl rfl (fun _ => rfl) rfl (A_M_isWay hC) (by decide +kernel) rfl ?_
  by_cases c14 : r3 = 0
  · rw [if_pos c14] at hF
    refine g_ifT rfl (decide_eq_true c14) ?_
    refine g_aload_n (q := 22) rfl rfl rfl ?_
    refine g_iconst (q := 23) rfl rfl ?_
    obtain ⟨⟨r5, h4⟩, hC, hF⟩ := bd_I hF
    dsimp only at hF
    refine g_ci2 (q := 26) rfl rfl (fun _ => rfl) rfl (A_M_refuse hC) (by decide +kernel) rfl ?_
    injection hF with hF
    injection hF with hv hh
    subst hv
    subst hh
    exact g_iret rfl
  · rw [if_neg c14] at hF
    refine g_ifF (q := 13) rfl (decide_eq_false c14) rfl ?_
    refine g_aload_n (q := 14) rfl rfl rfl ?_
    refine g_iload_n (q := 15) rfl rfl rfl ?_
    obtain ⟨⟨r7, h6⟩, hC, hF⟩ := bd_I hF
    dsimp only at hF
    refine g_ci2 (q := 18) rfl rfl (fun _ => rfl) rfl (A_M_isOne hC) (by decide +kernel) rfl ?_
    by_cases c13 : ¬ r7 = 0
    · rw [if_pos c13] at hF
      refine g_ifT rfl (decide_eq_true c13) ?_
      refine g_aload_n (q := 28) rfl rfl rfl ?_
      refine g_iconst (q := 29) rfl rfl ?_
      refine g_aload_n (q := 30) rfl rfl rfl ?_
      refine g_getI (q := 33) rfl (fun _ => rfl) rfl ?_
      obtain ⟨h8, hC, hF⟩ := bd_I hF
      refine g_cv3 (q := 36) rfl rfl (fun _ => rfl) rfl (A_M_layOrder hC) (by decide +kernel) rfl ?_
      refine g_aload_n (q := 37) rfl rfl rfl ?_
      refine g_iload_n (q := 38) rfl rfl rfl ?_
      refine g_iload_n (q := 39) rfl rfl rfl ?_
      obtain ⟨⟨r10, h9⟩, hC, hF⟩ := bd_I hF
      dsimp only at hF
      refine g_ci3 (q := 42) rfl rfl (fun _ => rfl) rfl (A_M_learnedBy hC) (by decide +kernel) rfl ?_
      injection hF with hF
      injection hF with hv hh
      subst hv
      subst hh
      exact g_iret rfl
    · rw [if_neg c13] at hF
      refine g_ifF (q := 21) rfl (decide_eq_false c13) rfl ?_
      refine g_aload_n (q := 22) rfl rfl rfl ?_
      refine g_iconst (q := 23) rfl rfl ?_
      obtain ⟨⟨r12, h11⟩, hC, hF⟩ := bd_I hF
      dsimp only at hF
      refine g_ci2 (q := 26) rfl rfl (fun _ => rfl) rfl (A_M_refuse hC) (by decide +kernel) rfl ?_
      injection hF with hF
      injection hF with hv hh
      subst hv
      subst hh
      exact g_iret rfl
def L_M_order_68 (x1 : Int32) (x2 : Int32) (x3 : Int32) (x7 : Int32) : Nat → Int32 → Int32 → Int32 → MH → Option (Int32 × Int32 × MH)
  | 0, _, _, _, _ => none
  | n + 1, x5, x6, x8, h => if x7 ≤ x8 then some (x5, x6, h) else bd (F_M_layOrder x8 (h.1 55 0) h) (fun h9 => bd (F_M_learnedBy x1 x2 h9) (fun (r11, h10) => iw (if x6 < 0 then x8 else (if x6 ≤ r11 then x5 else x8)) (fun v12 => iw (if x6 < 0 then r11 else (if x6 ≤ r11 then x6 else r11)) (fun v14 => L_M_order_68 x1 x2 x3 x7 n v12 v14 (x8 + I 1) h10))))
/-- BothCornersModel.order(III)I -/
def F_M_order (x1 : Int32) (x2 : Int32) (x3 : Int32) (h : MH) : Option (Int32 × MH) := hw (mm_hset h.1 55 10 (I 0), h.2) (fun h1 => bd (F_M_isWay x1 h1) (fun (r3, h2) => kw (fun (z4 : Int32) (h5 : MH) => if 0 ≤ z4 then bd (F_M_ordersOf (h5.1 55 0) h5) (fun (r8, h7) => bd (L_M_order_68 x1 x2 x3 r8 5000 (I 0) (I (-1)) (I 0) h7) (fun (y21, y22, h23) => if 0 ≤ x3 then bd (F_M_layOrder y21 (h23.1 55 0) h23) (fun h24 => if (h24.1 55 0) ≤ x3 then some (I (-9), h24) else ck (mm_in x3 6) (some (h24.1 72 (Int32.toNatClampNeg x3), h24))) else some (y22, h23))) else bd (F_M_refuse z4 h5) (fun (r28, h27) => some (r28, h27))) (fun k6 => if r3 = 0 then k6 (I (-1)) h2 else bd (F_M_isOne x2 h2) (fun (r32, h31) => if ¬ r32 = 0 then if (I (-1)) ≤ x3 then k6 (I 0) h31 else k6 (I (-4)) h31 else k6 (I (-1)) h31))))
theorem A_L_M_order_68 {x1 : Int32} {x2 : Int32} {x3 : Int32} {x7 : Int32} {r : MRs} : ∀ (n : Nat) (x5 : Int32) (x6 : Int32) (x8 : Int32) (h : MH) (x : Int32 × Int32 × MH), L_M_order_68 x1 x2 x3 x7 n x5 x6 x8 h = some x → (True) → (∀ (e5 : Int32) (e6 : Int32) (h' : MH), x = (e5, e6, h') → Go 4 227 141 (mm_lf [(0, .inr (.inl (some 55))), (3, .inl x3), (5, .inl e5), (6, .inl e6)]) [] h' r) → Go 4 227 68 (mm_lf [(0, .inr (.inl (some 55))), (1, .inl x1), (2, .inl x2), (3, .inl x3), (5, .inl x5), (6, .inl x6), (7, .inl x7), (8, .inl x8)]) [] h r
  | 0, _, _, _, _, _, hF, _, _ => by cases hF
  | n + 1, x5, x6, x8, h, x, hF, KR, KX => by
    have ih := fun a5 a6 a8 => A_L_M_order_68 (x1 := x1) (x2 := x2) (x3 := x3) (x7 := x7) (r := r) n a5 a6 a8 
    unfold L_M_order_68 at hF
    refine g_iload (q := 70) rfl rfl rfl ?_
    refine g_iload (q := 72) rfl rfl rfl ?_
    by_cases c20 : x7 ≤ x8
    · rw [if_pos c20] at hF
      refine g_icmpT rfl (decide_eq_true c20) ?_
      injection hF with hF
      subst hF
      exact go_sub (mm_subc rfl (mm_subc rfl (mm_subc rfl (mm_subc rfl mm_sub0)))) (KX _ _ _ rfl)
    · rw [if_neg c20] at hF
      refine g_icmpF (q := 75) rfl (decide_eq_false c20) rfl ?_
      refine g_aload_n (q := 76) rfl rfl rfl ?_
      refine g_iload (q := 78) rfl rfl rfl ?_
      refine g_aload_n (q := 79) rfl rfl rfl ?_
      refine g_getI (q := 82) rfl (fun _ => rfl) rfl ?_
      obtain ⟨h9, hC, hF⟩ := bd_I hF
      refine g_cv3 (q := 85) rfl rfl (fun _ => rfl) rfl (A_M_layOrder hC) (by decide +kernel) rfl ?_
      refine g_aload_n (q := 86) rfl rfl rfl ?_
      refine g_iload_n (q := 87) rfl rfl rfl ?_
      refine g_iload_n (q := 88) rfl rfl rfl ?_
      obtain ⟨⟨r11, h10⟩, hC, hF⟩ := bd_I hF
      dsimp only at hF
      refine g_ci3 (q := 91) rfl rfl (fun _ => rfl) rfl (A_M_learnedBy hC) (by decide +kernel) rfl ?_
      refine g_istore (q := 93) rfl rfl ?_
      refine g_iload (q := 95) rfl rfl rfl ?_
      obtain ⟨v12, e_v12, hF⟩ := iw_I hF
      suffices K13 : Go 4 227 112 (mm_lf [(0, .inr (.inl (some 55))), (1, .inl x1), (2, .inl x2), (3, .inl x3), (6, .inl x6), (7, .inl x7), (8, .inl x8), (9, .inl r11)]) [.inl v12] h10 r by
        clear hF
        by_cases c18 : x6 < 0
        · simp only [if_pos c18] at e_v12
          subst e_v12
          refine g_ifT rfl (decide_eq_true c18) ?_
          refine g_iload (q := 107) rfl rfl rfl ?_
          refine g_goto rfl ?_
          exact go_sub (mm_subc rfl (mm_subc rfl (mm_subc rfl (mm_subc rfl (mm_subc rfl (mm_subc rfl (mm_subc rfl (mm_subc rfl mm_sub0)))))))) K13
        · simp only [if_neg c18] at e_v12
          refine g_ifF (q := 98) rfl (decide_eq_false c18) rfl ?_
          refine g_iload (q := 100) rfl rfl rfl ?_
          refine g_iload (q := 102) rfl rfl rfl ?_
          by_cases c19 : x6 ≤ r11
          · simp only [if_pos c19] at e_v12
            subst e_v12
            refine g_icmpT rfl (decide_eq_true c19) ?_
            refine g_iload (q := 112) rfl rfl rfl ?_
            exact go_sub (mm_subc rfl (mm_subc rfl (mm_subc rfl (mm_subc rfl (mm_subc rfl (mm_subc rfl (mm_subc rfl (mm_subc rfl mm_sub0)))))))) K13
          · simp only [if_neg c19] at e_v12
            subst e_v12
            refine g_icmpF (q := 105) rfl (decide_eq_false c19) rfl ?_
            refine g_iload (q := 107) rfl rfl rfl ?_
            refine g_goto rfl ?_
            exact go_sub (mm_subc rfl (mm_subc rfl (mm_subc rfl (mm_subc rfl (mm_subc rfl (mm_subc rfl (mm_subc rfl (mm_subc rfl mm_sub0)))))))) K13
      clear e_v12
      refine g_istore (q := 114) rfl rfl ?_
      refine g_iload (q := 116) rfl rfl rfl ?_
      obtain ⟨v14, e_v14, hF⟩ := iw_I hF
      suffices K15 : Go 4 227 133 (mm_lf [(0, .inr (.inl (some 55))), (1, .inl x1), (2, .inl x2), (3, .inl x3), (5, .inl v12), (7, .inl x7), (8, .inl x8)]) [.inl v14] h10 r by
        clear hF
        by_cases c16 : x6 < 0
        · simp only [if_pos c16] at e_v14
          subst e_v14
          refine g_ifT rfl (decide_eq_true c16) ?_
          refine g_iload (q := 128) rfl rfl rfl ?_
          refine g_goto rfl ?_
          exact go_sub (mm_subc rfl (mm_subc rfl (mm_subc rfl (mm_subc rfl (mm_subc rfl (mm_subc rfl (mm_subc rfl mm_sub0))))))) K15
        · simp only [if_neg c16] at e_v14
          refine g_ifF (q := 119) rfl (decide_eq_false c16) rfl ?_
          refine g_iload (q := 121) rfl rfl rfl ?_
          refine g_iload (q := 123) rfl rfl rfl ?_
          by_cases c17 : x6 ≤ r11
          · simp only [if_pos c17] at e_v14
            subst e_v14
            refine g_icmpT rfl (decide_eq_true c17) ?_
            refine g_iload (q := 133) rfl rfl rfl ?_
            exact go_sub (mm_subc rfl (mm_subc rfl (mm_subc rfl (mm_subc rfl (mm_subc rfl (mm_subc rfl (mm_subc rfl mm_sub0))))))) K15
          · simp only [if_neg c17] at e_v14
            subst e_v14
            refine g_icmpF (q := 126) rfl (decide_eq_false c17) rfl ?_
            refine g_iload (q := 128) rfl rfl rfl ?_
            refine g_goto rfl ?_
            exact go_sub (mm_subc rfl (mm_subc rfl (mm_subc rfl (mm_subc rfl (mm_subc rfl (mm_subc rfl (mm_subc rfl mm_sub0))))))) K15
      clear e_v14
      refine g_istore (q := 135) rfl rfl ?_
      refine g_iinc (q := 138) rfl rfl rfl ?_
      refine g_goto rfl ?_
      refine go_sub (lo' := mm_lf [(0, .inr (.inl (some 55))), (1, .inl x1), (2, .inl x2), (3, .inl x3), (5, .inl v12), (6, .inl v14), (7, .inl x7), (8, .inl (x8 + I 1))]) (mm_subc rfl (mm_subc rfl (mm_subc rfl (mm_subc rfl (mm_subc rfl (mm_subc rfl (mm_subc rfl (mm_subc rfl mm_sub0)))))))) ?_
      exact ih _ _ _ _ _ hF KR KX
theorem A_M_order {x1 : Int32} {x2 : Int32} {x3 : Int32} {h h' : MH} {v : Int32} (hF : F_M_order x1 x2 x3 h = some (v, h')) : Ex 5 227 [.inr (.inl (some 55)), .inl x1, .inl x2, .inl x3] h (some (.inl v), h') := by
  unfold F_M_order at hF
  refine ex_of (d := 4) rfl rfl ?_
  refine g_aload_n (q := 1) rfl rfl rfl ?_
  refine g_iconst (q := 2) rfl rfl ?_
  refine g_putI (q := 5) rfl (fun _ => rfl) rfl ?_
  obtain ⟨h1, e_h1, hF⟩ := hw_I hF
  rw [← e_h1]
  refine g_aload_n (q := 6) rfl rfl rfl ?_
  refine g_iload_n (q := 7) rfl rfl rfl ?_
  obtain ⟨⟨r3, h2⟩, hC, hF⟩ := bd_I hF
  dsimp only at hF
  refine g_ci2 (q := 10) rfl rfl (fun _ => rfl) rfl (A_M_isWay hC) (by decide +kernel) rfl ?_
  obtain ⟨k6, e_k6, hF⟩ := kw_I hF
  have K30 : ∀ (z4 : Int32) (h5 : MH), k6 z4 h5 = some (v, h') → Go 4 227 36 (mm_lf [(0, .inr (.inl (some 55))), (1, .inl x1), (2, .inl x2), (3, .inl x3)]) [.inl z4] h5 (some (.inl v), h') := by
    intro z4 h5 hF
    rw [e_k6] at hF
    dsimp only at hF
    refine g_istore (q := 38) rfl rfl ?_
    refine g_iload (q := 40) rfl rfl rfl ?_
    by_cases c29 : 0 ≤ z4
    · rw [if_pos c29] at hF
      refine g_ifT rfl (decide_eq_true c29) ?_
      refine g_iconst (q := 51) rfl rfl ?_
      refine g_istore (q := 53) rfl rfl ?_
      refine g_iconst (q := 54) rfl rfl ?_
      refine g_istore (q := 56) rfl rfl ?_
      refine g_aload_n (q := 57) rfl rfl rfl ?_
      refine g_getI (q := 60) rfl (fun _ => rfl) rfl ?_
      obtain ⟨⟨r8, h7⟩, hC, hF⟩ := bd_I hF
      dsimp only at hF
      refine g_ci1 (q := 63) rfl rfl (fun _ => rfl) rfl (A_M_ordersOf hC) (by decide +kernel) rfl ?_
      refine g_istore (q := 65) rfl rfl ?_
      refine g_iconst (q := 66) rfl rfl ?_
      refine g_istore (q := 68) rfl rfl ?_
      refine go_sub (lo' := mm_lf [(0, .inr (.inl (some 55))), (1, .inl x1), (2, .inl x2), (3, .inl x3), (5, .inl (I 0)), (6, .inl (I (-1))), (7, .inl r8), (8, .inl (I 0))]) (mm_subc rfl (mm_subc rfl (mm_subc rfl (mm_subc rfl (mm_subc rfl (mm_subc rfl (mm_subc rfl (mm_subc rfl mm_sub0)))))))) ?_
      obtain ⟨⟨y21, y22, h23⟩, hC, hF⟩ := bd_I hF
      dsimp only at hF
      refine A_L_M_order_68 5000 _ _ _ _ _ hC trivial ?_
      intro _ _ _ e2
      cases e2
      refine g_iload_n (q := 142) rfl rfl rfl ?_
      by_cases c26 : 0 ≤ x3
      · rw [if_pos c26] at hF
        refine g_ifT rfl (decide_eq_true c26) ?_
        refine g_aload_n (q := 149) rfl rfl rfl ?_
        refine g_iload (q := 151) rfl rfl rfl ?_
        refine g_aload_n (q := 152) rfl rfl rfl ?_
        refine g_getI (q := 155) rfl (fun _ => rfl) rfl ?_
        obtain ⟨h24, hC, hF⟩ := bd_I hF
        refine g_cv3 (q := 158) rfl rfl (fun _ => rfl) rfl (A_M_layOrder hC) (by decide +kernel) rfl ?_
        refine g_iload_n (q := 159) rfl rfl rfl ?_
        refine g_aload_n (q := 160) rfl rfl rfl ?_
        refine g_getI (q := 163) rfl (fun _ => rfl) rfl ?_
        by_cases c25 : (h24.1 55 0) ≤ x3
        · rw [if_pos c25] at hF
          refine g_icmpT rfl (decide_eq_true c25) ?_
          refine g_bipush (q := 177) rfl (by decide +kernel) rfl ?_
          injection hF with hF
          injection hF with hv hh
          subst hv
          subst hh
          exact g_iret rfl
        · rw [if_neg c25] at hF
          refine g_icmpF (q := 166) rfl (decide_eq_false c25) rfl ?_
          refine g_aload_n (q := 167) rfl rfl rfl ?_
          refine g_getR (q := 170) rfl (fun _ => rfl) rfl ?_
          refine g_iload_n (q := 171) rfl rfl rfl ?_
          obtain ⟨hi, hF⟩ := ck_I hF
          refine g_iaload (q := 172) rfl rfl rfl hi rfl ?_
          refine g_goto rfl ?_
          injection hF with hF
          injection hF with hv hh
          subst hv
          subst hh
          exact g_iret rfl
      · rw [if_neg c26] at hF
        refine g_ifF (q := 145) rfl (decide_eq_false c26) rfl ?_
        refine g_iload (q := 147) rfl rfl rfl ?_
        injection hF with hF
        injection hF with hv hh
        subst hv
        subst hh
        exact g_iret rfl
    · rw [if_neg c29] at hF
      refine g_ifF (q := 43) rfl (decide_eq_false c29) rfl ?_
      refine g_aload_n (q := 44) rfl rfl rfl ?_
      refine g_iload (q := 46) rfl rfl rfl ?_
      obtain ⟨⟨r28, h27⟩, hC, hF⟩ := bd_I hF
      dsimp only at hF
      refine g_ci2 (q := 49) rfl rfl (fun _ => rfl) rfl (A_M_refuse hC) (by decide +kernel) rfl ?_
      injection hF with hF
      injection hF with hv hh
      subst hv
      subst hh
      exact g_iret rfl
  clear e_k6
  by_cases c35 : r3 = 0
  · rw [if_pos c35] at hF
    refine g_ifT rfl (decide_eq_true c35) ?_
    refine g_iconst (q := 22) rfl rfl ?_
    refine g_goto rfl ?_
    exact go_sub (mm_subc rfl (mm_subc rfl (mm_subc rfl (mm_subc rfl mm_sub0)))) (K30 _ _ hF)
  · rw [if_neg c35] at hF
    refine g_ifF (q := 13) rfl (decide_eq_false c35) rfl ?_
    refine g_aload_n (q := 14) rfl rfl rfl ?_
    refine g_iload_n (q := 15) rfl rfl rfl ?_
    obtain ⟨⟨r32, h31⟩, hC, hF⟩ := bd_I hF
    dsimp only at hF
    refine g_ci2 (q := 18) rfl rfl (fun _ => rfl) rfl (A_M_isOne hC) (by decide +kernel) rfl ?_
    by_cases c34 : ¬ r32 = 0
    · rw [if_pos c34] at hF
      refine g_ifT rfl (decide_eq_true c34) ?_
      refine g_iload_n (q := 26) rfl rfl rfl ?_
      refine g_iconst (q := 27) rfl rfl ?_
      by_cases c33 : (I (-1)) ≤ x3
      · rw [if_pos c33] at hF
        refine g_icmpT rfl (decide_eq_true c33) ?_
        refine g_iconst (q := 36) rfl rfl ?_
        exact go_sub (mm_subc rfl (mm_subc rfl (mm_subc rfl (mm_subc rfl mm_sub0)))) (K30 _ _ hF)
      · rw [if_neg c33] at hF
        refine g_icmpF (q := 30) rfl (decide_eq_false c33) rfl ?_
        refine g_bipush (q := 32) rfl (by decide +kernel) rfl ?_
        refine g_goto rfl ?_
        exact go_sub (mm_subc rfl (mm_subc rfl (mm_subc rfl (mm_subc rfl mm_sub0)))) (K30 _ _ hF)
    · rw [if_neg c34] at hF
      refine g_ifF (q := 21) rfl (decide_eq_false c34) rfl ?_
      refine g_iconst (q := 22) rfl rfl ?_
      refine g_goto rfl ?_
      exact go_sub (mm_subc rfl (mm_subc rfl (mm_subc rfl (mm_subc rfl mm_sub0)))) (K30 _ _ hF)
