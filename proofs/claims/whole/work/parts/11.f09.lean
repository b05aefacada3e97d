-- decompiled by wip/whole/dec.py: what a method does (F_), and that the mini machine does it (A_)
/-- BothCorners$Search.soonestFlow(I)V -/
def F_S_soonestFlow (x1 : Int32) (h : MH) : Option (MH) := bd (F_S_begin x1 h) (fun h1 => bd (F_S_tryFlows 12 (I 0) (I 0) (I 0) (I 0) h1) (fun h2 => some h2))
theorem A_S_soonestFlow {x1 : Int32} {h h' : MH} (hF : F_S_soonestFlow x1 h = some h') : Ex 17 48 [.inr (.inl (some 40)), .inl x1] h (none, h') := by
  unfold F_S_soonestFlow at hF
  refine ex_of (d := 16) rfl rfl ?_
  refine g_aload_n (q := 1) rfl rfl rfl ?_
  refine g_iload_n (q := 2) rfl rfl rfl ?_
  obtain ⟨h1, hC, hF⟩ := bd_I hF
  refine g_cv2 (q := 5) rfl rfl (fun _ => rfl) rfl (A_S_begin hC) (by decide +kernel) rfl ?_
  refine g_aload_n (q := 6) rfl rfl rfl ?_
  refine g_iconst (q := 7) rfl rfl ?_
  refine g_iconst (q := 8) rfl rfl ?_
  refine g_iconst (q := 9) rfl rfl ?_
  refine g_iconst (q := 10) rfl rfl ?_
  obtain ⟨h2, hC, hF⟩ := bd_I hF
  refine g_cv5 (q := 13) rfl rfl (fun _ => rfl) rfl (A_S_tryFlows (n := 12) hC) (by decide +kernel) rfl ?_
  injection hF with hF
  subst hF
  exact g_vret rfl
def L_C_flow_39 (x1 : Int32) (x2 : Int32) (x3 : Int32) (x4 : Int32) : Nat → Int32 → MH → Option (MH)
  | 0, _, _ => none
  | n + 1, x5, h => if (h.1 8 7) ≤ x5 then some (h) else bd (F_H_secondsBy x5 x1 x2 h) (fun (r8, h7) => ck (mm_in x5 6) (hw (mm_hset h7.1 48 (Int32.toNatClampNeg x5) r8, h7.2) (fun h9 => bd (F_H_shakesBy x5 x1 x3 h9) (fun (r11, h10) => ck (mm_in x5 6) (hw (mm_hset h10.1 49 (Int32.toNatClampNeg x5) ((I 3) * r11), h10.2) (fun h12 => L_C_flow_39 x1 x2 x3 x4 n (x5 + I 1) h12))))))
/-- BothCorners.flow(IIII)I -/
def F_C_flow (x1 : Int32) (x2 : Int32) (x3 : Int32) (x4 : Int32) (h : MH) : Option (Int32 × MH) := bd (F_C_noWay x1 h) (fun (r2, h1) => if ¬ r2 = 0 then bd (F_C_refuse (I (-1)) h1) (fun (r4, h3) => some (r4, h3)) else bd (F_C_noTwoPeople x2 x3 h1) (fun (r6, h5) => if r6 = 0 then if (I (-1)) ≤ x4 then bd (L_C_flow_39 x1 x2 x3 x4 5000 (I 0) h5) (fun h14 => bd (F_S_soonestFlow (h14.1 8 7) h14) (fun h15 => bd (F_S_answer x4 h15) (fun (r17, h16) => some (r17, h16)))) else bd (F_C_refuse (I (-4)) h5) (fun (r19, h18) => some (r19, h18)) else bd (F_C_refuse (I (-1)) h5) (fun (r22, h21) => some (r22, h21))))
theorem A_L_C_flow_39 {x1 : Int32} {x2 : Int32} {x3 : Int32} {x4 : Int32} {r : MRs} : ∀ (n : Nat) (x5 : Int32) (h : MH) (x : MH), L_C_flow_39 x1 x2 x3 x4 n x5 h = some x → (True) → (∀ (h' : MH), x = (h') → Go 17 88 101 (mm_lf [(0, .inr (.inl (some 0))), (4, .inl x4)]) [] h' r) → Go 17 88 39 (mm_lf [(0, .inr (.inl (some 0))), (1, .inl x1), (2, .inl x2), (3, .inl x3), (4, .inl x4), (5, .inl x5)]) [] h r
  | 0, _, _, _, hF, _, _ => by cases hF
  | n + 1, x5, h, x, hF, KR, KX => by
    have ih := fun a5 => A_L_C_flow_39 (x1 := x1) (x2 := x2) (x3 := x3) (x4 := x4) (r := r) n a5 
    unfold L_C_flow_39 at hF
    refine g_iload (q := 41) rfl rfl rfl ?_
    refine g_aload_n (q := 42) rfl rfl rfl ?_
    refine g_getR (q := 45) rfl (fun _ => rfl) rfl ?_
    refine g_getI (q := 48) rfl (fun _ => rfl) rfl ?_
    by_cases c13 : (h.1 8 7) ≤ x5
    · rw [if_pos c13] at hF
      refine g_icmpT rfl (decide_eq_true c13) ?_
      injection hF with hF
      subst hF
      exact go_sub (mm_subc rfl (mm_subc rfl mm_sub0)) (KX  _ rfl)
    · rw [if_neg c13] at hF
      refine g_icmpF (q := 51) rfl (decide_eq_false c13) rfl ?_
      refine g_aload_n (q := 52) rfl rfl rfl ?_
      refine g_getR (q := 55) rfl (fun _ => rfl) rfl ?_
      refine g_getR (q := 58) rfl (fun _ => rfl) rfl ?_
      refine g_iload (q := 60) rfl rfl rfl ?_
      refine g_aload_n (q := 61) rfl rfl rfl ?_
      refine g_getR (q := 64) rfl (fun _ => rfl) rfl ?_
      refine g_iload (q := 66) rfl rfl rfl ?_
      refine g_iload_n (q := 67) rfl rfl rfl ?_
      refine g_iload_n (q := 68) rfl rfl rfl ?_
      obtain ⟨⟨r8, h7⟩, hC, hF⟩ := bd_I hF
      dsimp only at hF
      refine g_ci4 (q := 71) rfl rfl (fun _ => rfl) rfl (A_H_secondsBy hC) (by decide +kernel) rfl ?_
      obtain ⟨hi, hF⟩ := ck_I hF
      refine g_iastore (q := 72) rfl rfl rfl hi rfl ?_
      obtain ⟨h9, e_h9, hF⟩ := hw_I hF
      rw [← e_h9]
      refine g_aload_n (q := 73) rfl rfl rfl ?_
      refine g_getR (q := 76) rfl (fun _ => rfl) rfl ?_
      refine g_getR (q := 79) rfl (fun _ => rfl) rfl ?_
      refine g_iload (q := 81) rfl rfl rfl ?_
      refine g_iconst (q := 82) rfl rfl ?_
      refine g_aload_n (q := 83) rfl rfl rfl ?_
      refine g_getR (q := 86) rfl (fun _ => rfl) rfl ?_
      refine g_iload (q := 88) rfl rfl rfl ?_
      refine g_iload_n (q := 89) rfl rfl rfl ?_
      refine g_iload_n (q := 90) rfl rfl rfl ?_
      obtain ⟨⟨r11, h10⟩, hC, hF⟩ := bd_I hF
      dsimp only at hF
      refine g_ci4 (q := 93) rfl rfl (fun _ => rfl) rfl (A_H_shakesBy hC) (by decide +kernel) rfl ?_
      refine g_imul (q := 94) rfl rfl ?_
      obtain ⟨hi, hF⟩ := ck_I hF
      refine g_iastore (q := 95) rfl rfl rfl hi rfl ?_
      obtain ⟨h12, e_h12, hF⟩ := hw_I hF
      rw [← e_h12]
      refine g_iinc (q := 98) rfl rfl rfl ?_
      refine g_goto rfl ?_
      refine go_sub (lo' := mm_lf [(0, .inr (.inl (some 0))), (1, .inl x1), (2, .inl x2), (3, .inl x3), (4, .inl x4), (5, .inl (x5 + I 1))]) (mm_subc rfl (mm_subc rfl (mm_subc rfl (mm_subc rfl (mm_subc rfl (mm_subc rfl mm_sub0)))))) ?_
      exact ih _ _ _ hF KR KX
theorem A_C_flow {x1 : Int32} {x2 : Int32} {x3 : Int32} {x4 : Int32} {h h' : MH} {v : Int32} (hF : F_C_flow x1 x2 x3 x4 h = some (v, h')) : Ex 18 88 [.inr (.inl (some 0)), .inl x1, .inl x2, .inl x3, .inl x4] h (some (.inl v), h') := by
  unfold F_C_flow at hF
  refine ex_of (d := 17) rfl rfl ?_
  refine g_aload_n (q := 1) rfl rfl rfl ?_
  refine g_iload_n (q := 2) rfl rfl rfl ?_
  obtain ⟨⟨r2, h1⟩, hC, hF⟩ := bd_I hF
  dsimp only at hF
  refine g_ci2 (q := 5) rfl rfl (fun _ => rfl) rfl (A_C_noWay hC) (by decide +kernel) rfl ?_
  by_cases c24 : ¬ r2 = 0
  · rw [if_pos c24] at hF
    refine g_ifT rfl (decide_eq_true c24) ?_
    refine g_aload_n (q := 18) rfl rfl rfl ?_
    refine g_iconst (q := 19) rfl rfl ?_
    obtain ⟨⟨r4, h3⟩, hC, hF⟩ := bd_I hF
    dsimp only at hF
    refine g_ci2 (q := 22) rfl rfl (fun _ => rfl) rfl (A_C_refuse hC) (by decide +kernel) rfl ?_
    injection hF with hF
    injection hF with hv hh
    subst hv
    subst hh
    exact g_iret rfl
  · rw [if_neg c24] at hF
    refine g_ifF (q := 8) rfl (decide_eq_false c24) rfl ?_
    refine g_aload_n (q := 9) rfl rfl rfl ?_
    refine g_iload_n (q := 10) rfl rfl rfl ?_
    refine g_iload_n (q := 11) rfl rfl rfl ?_
    obtain ⟨⟨r6, h5⟩, hC, hF⟩ := bd_I hF
    dsimp only at hF
    refine g_ci3 (q := 14) rfl rfl (fun _ => rfl) rfl (A_C_noTwoPeople hC) (by decide +kernel) rfl ?_
    by_cases c23 : r6 = 0
    · rw [if_pos c23] at hF
      refine g_ifT rfl (decide_eq_true c23) ?_
      refine g_iload (q := 25) rfl rfl rfl ?_
      refine g_iconst (q := 26) rfl rfl ?_
      by_cases c20 : (I (-1)) ≤ x4
      · rw [if_pos c20] at hF
        refine g_icmpT rfl (decide_eq_true c20) ?_
        refine g_iconst (q := 37) rfl rfl ?_
        refine g_istore (q := 39) rfl rfl ?_
        refine go_sub (lo' := mm_lf [(0, .inr (.inl (some 0))), (1, .inl x1), (2, .inl x2), (3, .inl x3), (4, .inl x4), (5, .inl (I 0))]) (mm_subc rfl (mm_subc rfl (mm_subc rfl (mm_subc rfl (mm_subc rfl (mm_subc rfl mm_sub0)))))) ?_
        obtain ⟨h14, hC, hF⟩ := bd_I hF
        refine A_L_C_flow_39 5000 _ _ _ hC trivial ?_
        intro _ e2
        cases e2
        refine g_aload_n (q := 102) rfl rfl rfl ?_
        refine g_getR (q := 105) rfl (fun _ => rfl) rfl ?_
        refine g_aload_n (q := 106) rfl rfl rfl ?_
        refine g_getR (q := 109) rfl (fun _ => rfl) rfl ?_
        refine g_getI (q := 112) rfl (fun _ => rfl) rfl ?_
        obtain ⟨h15, hC, hF⟩ := bd_I hF
        refine g_cv2 (q := 115) rfl rfl (fun _ => rfl) rfl (A_S_soonestFlow hC) (by decide +kernel) rfl ?_
        refine g_aload_n (q := 116) rfl rfl rfl ?_
        refine g_getR (q := 119) rfl (fun _ => rfl) rfl ?_
        refine g_iload (q := 121) rfl rfl rfl ?_
        obtain ⟨⟨r17, h16⟩, hC, hF⟩ := bd_I hF
        dsimp only at hF
        refine g_ci2 (q := 124) rfl rfl (fun _ => rfl) rfl (A_S_answer hC) (by decide +kernel) rfl ?_
        injection hF with hF
        injection hF with hv hh
        subst hv
        subst hh
        exact g_iret rfl
      · rw [if_neg c20] at hF
        refine g_icmpF (q := 29) rfl (decide_eq_false c20) rfl ?_
        refine g_aload_n (q := 30) rfl rfl rfl ?_
        refine g_bipush (q := 32) rfl (by decide +kernel) rfl ?_
        obtain ⟨⟨r19, h18⟩, hC, hF⟩ := bd_I hF
        dsimp only at hF
        refine g_ci2 (q := 35) rfl rfl (fun _ => rfl) rfl (A_C_refuse hC) (by decide +kernel) rfl ?_
        injection hF with hF
        injection hF with hv hh
        subst hv
        subst hh
        exact g_iret rfl
    · rw [if_neg c23] at hF
      refine g_ifF (q := 17) rfl (decide_eq_false c23) rfl ?_
      refine g_aload_n (q := 18) rfl rfl rfl ?_
      refine g_iconst (q := 19) rfl rfl ?_
      obtain ⟨⟨r22, h21⟩, hC, hF⟩ := bd_I hF
      dsimp only at hF
      refine g_ci2 (q := 22) rfl rfl (fun _ => rfl) rfl (A_C_refuse hC) (by decide +kernel) rfl ?_
      injection hF with hF
      injection hF with hv hh
      subst hv
      subst hh
      exact g_iret rfl
def L_C_twins_35 (x1 : Int32) (x3 : Int32) : Nat → Int32 → Int32 → MH → Option (Int32 × MH)
  | 0, _, _, _ => none
  | n + 1, x2, x4, h => if (h.1 8 7) ≤ x4 then some (x2, h) else ck (mm_in x3 6) (ck (mm_in x4 6) (iw (if ¬ (h.1 10 (Int32.toNatClampNeg x3)) = (h.1 10 (Int32.toNatClampNeg x4)) then I 0 else I 1) (fun v3 => if v3 = 0 then L_C_twins_35 x1 x3 n x2 (x4 + I 1) h else if x1 = 0 then L_C_twins_35 x1 x3 n (x2 + I 1) (x4 + I 1) h else ck (mm_in x3 6) (ck (mm_in x4 6) (iw (if ¬ (h.1 9 (Int32.toNatClampNeg x3)) = (h.1 9 (Int32.toNatClampNeg x4)) then x2 else x2 + I 1) (fun v5 => L_C_twins_35 x1 x3 n v5 (x4 + I 1) h))))))
def L_C_twins_19 (x1 : Int32) : Nat → Int32 → Int32 → MH → Option (Int32 × MH)
  | 0, _, _, _ => none
  | n + 1, x2, x3, h => if (h.1 8 7) ≤ x3 then some (x2, h) else bd (L_C_twins_35 x1 x3 5000 x2 (x3 + (I 1)) h) (fun (y12, h13) => L_C_twins_19 x1 n y12 (x3 + I 1) h13)
/-- BothCorners.twins(I)I -/
def F_C_twins (x1 : Int32) (h : MH) : Option (Int32 × MH) := bd (F_C_otherThan x1 (I 1) h) (fun (r2, h1) => if r2 = 0 then bd (L_C_twins_19 x1 5000 (I 0) (I 0) h1) (fun (y15, h16) => some (y15, h16)) else bd (F_C_refuse (I (-2)) h1) (fun (r18, h17) => some (r18, h17)))
theorem A_L_C_twins_35 {x1 : Int32} {x3 : Int32} {r : MRs} : ∀ (n : Nat) (x2 : Int32) (x4 : Int32) (h : MH) (x : Int32 × MH), L_C_twins_35 x1 x3 n x2 x4 h = some x → (True) → (∀ (e2 : Int32) (h' : MH), x = (e2, h') → Go 1 93 116 (mm_lf [(0, .inr (.inl (some 0))), (1, .inl x1), (2, .inl e2), (3, .inl x3)]) [] h' r) → Go 1 93 35 (mm_lf [(0, .inr (.inl (some 0))), (1, .inl x1), (2, .inl x2), (3, .inl x3), (4, .inl x4)]) [] h r
  | 0, _, _, _, _, hF, _, _ => by cases hF
  | n + 1, x2, x4, h, x, hF, KR, KX => by
    have ih := fun a2 a4 => A_L_C_twins_35 (x1 := x1) (x3 := x3) (r := r) n a2 a4 
    unfold L_C_twins_35 at hF
    refine g_iload (q := 37) rfl rfl rfl ?_
    refine g_aload_n (q := 38) rfl rfl rfl ?_
    refine g_getR (q := 41) rfl (fun _ => rfl) rfl ?_
    refine g_getI (q := 44) rfl (fun _ => rfl) rfl ?_
    by_cases c11 : (h.1 8 7) ≤ x4
    · rw [if_pos c11] at hF
      refine g_icmpT rfl (decide_eq_true c11) ?_
      injection hF with hF
      subst hF
      exact go_sub (mm_subc rfl (mm_subc rfl (mm_subc rfl (mm_subc rfl mm_sub0)))) (KX _ _ rfl)
    · rw [if_neg c11] at hF
      refine g_icmpF (q := 47) rfl (decide_eq_false c11) rfl ?_
      refine g_aload_n (q := 48) rfl rfl rfl ?_
      refine g_getR (q := 51) rfl (fun _ => rfl) rfl ?_
      refine g_getR (q := 54) rfl (fun _ => rfl) rfl ?_
      refine g_iload_n (q := 55) rfl rfl rfl ?_
      obtain ⟨hi, hF⟩ := ck_I hF
      refine g_iaload (q := 56) rfl rfl rfl hi rfl ?_
      refine g_aload_n (q := 57) rfl rfl rfl ?_
      refine g_getR (q := 60) rfl (fun _ => rfl) rfl ?_
      refine g_getR (q := 63) rfl (fun _ => rfl) rfl ?_
      refine g_iload (q := 65) rfl rfl rfl ?_
      obtain ⟨hi, hF⟩ := ck_I hF
      refine g_iaload (q := 66) rfl rfl rfl hi rfl ?_
      obtain ⟨v3, e_v3, hF⟩ := iw_I hF
      suffices K4 : Go 1 93 74 (mm_lf [(0, .inr (.inl (some 0))), (1, .inl x1), (2, .inl x2), (3, .inl x3), (4, .inl x4)]) [.inl v3] h r by
        clear hF
        by_cases c10 : ¬ (h.1 10 (Int32.toNatClampNeg x3)) = (h.1 10 (Int32.toNatClampNeg x4))
        · simp only [if_pos c10] at e_v3
          subst e_v3
          refine g_icmpT rfl (decide_eq_true c10) ?_
          refine g_iconst (q := 74) rfl rfl ?_
          exact go_sub (mm_subc rfl (mm_subc rfl (mm_subc rfl (mm_subc rfl (mm_subc rfl mm_sub0))))) K4
        · simp only [if_neg c10] at e_v3
          subst e_v3
          refine g_icmpF (q := 69) rfl (decide_eq_false c10) rfl ?_
          refine g_iconst (q := 70) rfl rfl ?_
          refine g_goto rfl ?_
          exact go_sub (mm_subc rfl (mm_subc rfl (mm_subc rfl (mm_subc rfl (mm_subc rfl mm_sub0))))) K4
      clear e_v3
      refine g_istore (q := 76) rfl rfl ?_
      refine g_iload (q := 78) rfl rfl rfl ?_
      by_cases c9 : v3 = 0
      · rw [if_pos c9] at hF
        refine g_ifT rfl (decide_eq_true c9) ?_
        refine g_iinc (q := 113) rfl rfl rfl ?_
        refine g_goto rfl ?_
        refine go_sub (lo' := mm_lf [(0, .inr (.inl (some 0))), (1, .inl x1), (2, .inl x2), (3, .inl x3), (4, .inl (x4 + I 1))]) (mm_subc rfl (mm_subc rfl (mm_subc rfl (mm_subc rfl (mm_subc rfl mm_sub0))))) ?_
        exact ih _ _ _ _ hF KR KX
      · rw [if_neg c9] at hF
        refine g_ifF (q := 81) rfl (decide_eq_false c9) rfl ?_
        refine g_iload_n (q := 82) rfl rfl rfl ?_
        by_cases c8 : x1 = 0
        · rw [if_pos c8] at hF
          refine g_ifT rfl (decide_eq_true c8) ?_
          refine g_iinc (q := 110) rfl rfl rfl ?_
          refine g_iinc (q := 113) rfl rfl rfl ?_
          refine g_goto rfl ?_
          refine go_sub (lo' := mm_lf [(0, .inr (.inl (some 0))), (1, .inl x1), (2, .inl (x2 + I 1)), (3, .inl x3), (4, .inl (x4 + I 1))]) (mm_subc rfl (mm_subc rfl (mm_subc rfl (mm_subc rfl (mm_subc rfl mm_sub0))))) ?_
          exact ih _ _ _ _ hF KR KX
        · rw [if_neg c8] at hF
          refine g_ifF (q := 85) rfl (decide_eq_false c8) rfl ?_
          refine g_aload_n (q := 86) rfl rfl rfl ?_
          refine g_getR (q := 89) rfl (fun _ => rfl) rfl ?_
          refine g_getR (q := 92) rfl (fun _ => rfl) rfl ?_
          refine g_iload_n (q := 93) rfl rfl rfl ?_
          obtain ⟨hi, hF⟩ := ck_I hF
          refine g_iaload (q := 94) rfl rfl rfl hi rfl ?_
          refine g_aload_n (q := 95) rfl rfl rfl ?_
          refine g_getR (q := 98) rfl (fun _ => rfl) rfl ?_
          refine g_getR (q := 101) rfl (fun _ => rfl) rfl ?_
          refine g_iload (q := 103) rfl rfl rfl ?_
          obtain ⟨hi, hF⟩ := ck_I hF
          refine g_iaload (q := 104) rfl rfl rfl hi rfl ?_
          obtain ⟨v5, e_v5, hF⟩ := iw_I hF
          suffices K6 : Go 1 93 110 (mm_lf [(0, .inr (.inl (some 0))), (1, .inl x1), (2, .inl v5), (3, .inl x3), (4, .inl x4)]) [] h r by
            clear hF
            by_cases c7 : ¬ (h.1 9 (Int32.toNatClampNeg x3)) = (h.1 9 (Int32.toNatClampNeg x4))
            · simp only [if_pos c7] at e_v5
              subst e_v5
              refine g_icmpT rfl (decide_eq_true c7) ?_
              exact go_sub (mm_subc rfl (mm_subc rfl (mm_subc rfl (mm_subc rfl (mm_subc rfl mm_sub0))))) K6
            · simp only [if_neg c7] at e_v5
              subst e_v5
              refine g_icmpF (q := 107) rfl (decide_eq_false c7) rfl ?_
              refine g_iinc (q := 110) rfl rfl rfl ?_
              exact go_sub (mm_subc rfl (mm_subc rfl (mm_subc rfl (mm_subc rfl (mm_subc rfl mm_sub0))))) K6
          clear e_v5
          refine g_iinc (q := 113) rfl rfl rfl ?_
          refine g_goto rfl ?_
          refine go_sub (lo' := mm_lf [(0, .inr (.inl (some 0))), (1, .inl x1), (2, .inl v5), (3, .inl x3), (4, .inl (x4 + I 1))]) (mm_subc rfl (mm_subc rfl (mm_subc rfl (mm_subc rfl (mm_subc rfl mm_sub0))))) ?_
          exact ih _ _ _ _ hF KR KX
theorem A_L_C_twins_19 {x1 : Int32} {r : MRs} : ∀ (n : Nat) (x2 : Int32) (x3 : Int32) (h : MH) (x : Int32 × MH), L_C_twins_19 x1 n x2 x3 h = some x → (True) → (∀ (e2 : Int32) (h' : MH), x = (e2, h') → Go 1 93 122 (mm_lf [(2, .inl e2)]) [] h' r) → Go 1 93 19 (mm_lf [(0, .inr (.inl (some 0))), (1, .inl x1), (2, .inl x2), (3, .inl x3)]) [] h r
  | 0, _, _, _, _, hF, _, _ => by cases hF
  | n + 1, x2, x3, h, x, hF, KR, KX => by
    have ih := fun a2 a3 => A_L_C_twins_19 (x1 := x1) (r := r) n a2 a3 
    unfold L_C_twins_19 at hF
    refine g_iload_n (q := 20) rfl rfl rfl ?_
    refine g_aload_n (q := 21) rfl rfl rfl ?_
    refine g_getR (q := 24) rfl (fun _ => rfl) rfl ?_
    refine g_getI (q := 27) rfl (fun _ => rfl) rfl ?_
    by_cases c14 : (h.1 8 7) ≤ x3
    · rw [if_pos c14] at hF
      refine g_icmpT rfl (decide_eq_true c14) ?_
      injection hF with hF
      subst hF
      exact go_sub (mm_subc rfl mm_sub0) (KX _ _ rfl)
    · rw [if_neg c14] at hF
      refine g_icmpF (q := 30) rfl (decide_eq_false c14) rfl ?_
      refine g_iload_n (q := 31) rfl rfl rfl ?_
      refine g_iconst (q := 32) rfl rfl ?_
      refine g_iadd (q := 33) rfl rfl ?_
      refine g_istore (q := 35) rfl rfl ?_
      refine go_sub (lo' := mm_lf [(0, .inr (.inl (some 0))), (1, .inl x1), (2, .inl x2), (3, .inl x3), (4, .inl (x3 + (I 1)))]) (mm_subc rfl (mm_subc rfl (mm_subc rfl (mm_subc rfl (mm_subc rfl mm_sub0))))) ?_
      obtain ⟨⟨y12, h13⟩, hC, hF⟩ := bd_I hF
      dsimp only at hF
      refine A_L_C_twins_35 5000 _ _ _ _ hC trivial ?_
      intro _ _ e2
      cases e2
      refine g_iinc (q := 119) rfl rfl rfl ?_
      refine g_goto rfl ?_
      refine go_sub (lo' := mm_lf [(0, .inr (.inl (some 0))), (1, .inl x1), (2, .inl y12), (3, .inl (x3 + I 1))]) (mm_subc rfl (mm_subc rfl (mm_subc rfl (mm_subc rfl mm_sub0)))) ?_
      exact ih _ _ _ _ hF KR KX
theorem A_C_twins {x1 : Int32} {h h' : MH} {v : Int32} (hF : F_C_twins x1 h = some (v, h')) : Ex 2 93 [.inr (.inl (some 0)), .inl x1] h (some (.inl v), h') := by
  unfold F_C_twins at hF
  refine ex_of (d := 1) rfl rfl ?_
  refine g_iload_n (q := 1) rfl rfl rfl ?_
  refine g_iconst (q := 2) rfl rfl ?_
  obtain ⟨⟨r2, h1⟩, hC, hF⟩ := bd_I hF
  dsimp only at hF
  refine g_ci2 (q := 5) rfl rfl (fun _ => rfl) rfl (A_C_otherThan hC) (by decide +kernel) rfl ?_
  by_cases c19 : r2 = 0
  · rw [if_pos c19] at hF
    refine g_ifT rfl (decide_eq_true c19) ?_
    refine g_iconst (q := 16) rfl rfl ?_
    refine g_istore_n (q := 17) rfl rfl ?_
    refine g_iconst (q := 18) rfl rfl ?_
    refine g_istore_n (q := 19) rfl rfl ?_
    refine go_sub (lo' := mm_lf [(0, .inr (.inl (some 0))), (1, .inl x1), (2, .inl (I 0)), (3, .inl (I 0))]) (mm_subc rfl (mm_subc rfl (mm_subc rfl (mm_subc rfl mm_sub0)))) ?_
    obtain ⟨⟨y15, h16⟩, hC, hF⟩ := bd_I hF
    dsimp only at hF
    refine A_L_C_twins_19 5000 _ _ _ _ hC trivial ?_
    intro _ _ e2
    cases e2
    refine g_iload_n (q := 123) rfl rfl rfl ?_
    injection hF with hF
    injection hF with hv hh
    subst hv
    subst hh
    exact g_iret rfl
  · rw [if_neg c19] at hF
    refine g_ifF (q := 8) rfl (decide_eq_false c19) rfl ?_
    refine g_aload_n (q := 9) rfl rfl rfl ?_
    refine g_bipush (q := 11) rfl (by decide +kernel) rfl ?_
    obtain ⟨⟨r18, h17⟩, hC, hF⟩ := bd_I hF
    dsimp only at hF
    refine g_ci2 (q := 14) rfl rfl (fun _ => rfl) rfl (A_C_refuse hC) (by decide +kernel) rfl ?_
    injection hF with hF
    injection hF with hv hh
    subst hv
    subst hh
    exact g_iret rfl
def L_C_range_39 (x1 : Int32) : Nat → Int32 → Int32 → Int32 → MH → Option (Int32 × Int32 × MH)
  | 0, _, _, _, _ => none
  | n + 1, x2, x3, x4, h => if (h.1 8 7) ≤ x4 then some (x2, x3, h) else bd (F_H_bestTime x4 x1 h) (fun (r4, h3) => iw (if r4 < x2 then r4 else x2) (fun v5 => iw (if x3 < r4 then r4 else x3) (fun v6 => L_C_range_39 x1 n v5 v6 (x4 + I 1) h3)))
/-- BothCorners.range(I)I -/
def F_C_range (x1 : Int32) (h : MH) : Option (Int32 × MH) := bd (F_C_noOne x1 h) (fun (r2, h1) => if r2 = 0 then if ¬ (h1.1 8 9) = 0 then bd (L_C_range_39 x1 5000 (I 1000000000) (I 0) (I 0) h1) (fun (y8, y9, h10) => iw (if ¬ (h10.1 8 7) = 0 then y9 - y8 else I 0) (fun v11 => some (v11, h10))) else bd (F_C_refuse (I (-3)) h1) (fun (r15, h14) => some (r15, h14)) else bd (F_C_refuse (I (-1)) h1) (fun (r18, h17) => some (r18, h17)))
theorem A_L_C_range_39 {x1 : Int32} {r : MRs} : ∀ (n : Nat) (x2 : Int32) (x3 : Int32) (x4 : Int32) (h : MH) (x : Int32 × Int32 × MH), L_C_range_39 x1 n x2 x3 x4 h = some x → (True) → (∀ (e2 : Int32) (e3 : Int32) (h' : MH), x = (e2, e3, h') → Go 5 101 83 (mm_lf [(0, .inr (.inl (some 0))), (2, .inl e2), (3, .inl e3)]) [] h' r) → Go 5 101 39 (mm_lf [(0, .inr (.inl (some 0))), (1, .inl x1), (2, .inl x2), (3, .inl x3), (4, .inl x4)]) [] h r
  | 0, _, _, _, _, _, hF, _, _ => by cases hF
  | n + 1, x2, x3, x4, h, x, hF, KR, KX => by
    have ih := fun a2 a3 a4 => A_L_C_range_39 (x1 := x1) (r := r) n a2 a3 a4 
    unfold L_C_range_39 at hF
    refine g_iload (q := 41) rfl rfl rfl ?_
    refine g_aload_n (q := 42) rfl rfl rfl ?_
    refine g_getR (q := 45) rfl (fun _ => rfl) rfl ?_
    refine g_getI (q := 48) rfl (fun _ => rfl) rfl ?_
    by_cases c7 : (h.1 8 7) ≤ x4
    · rw [if_pos c7] at hF
      refine g_icmpT rfl (decide_eq_true c7) ?_
      injection hF with hF
      subst hF
      exact go_sub (mm_subc rfl (mm_subc rfl (mm_subc rfl mm_sub0))) (KX _ _ _ rfl)
    · rw [if_neg c7] at hF
      refine g_icmpF (q := 51) rfl (decide_eq_false c7) rfl ?_
      refine g_aload_n (q := 52) rfl rfl rfl ?_
      refine g_getR (q := 55) rfl (fun _ => rfl) rfl ?_
      refine g_iload (q := 57) rfl rfl rfl ?_
      refine g_iload_n (q := 58) rfl rfl rfl ?_
      obtain ⟨⟨r4, h3⟩, hC, hF⟩ := bd_I hF
      dsimp only at hF
      refine g_ci3 (q := 61) rfl rfl (fun _ => rfl) rfl (A_H_bestTime hC) (by decide +kernel) rfl ?_
      refine g_istore (q := 63) rfl rfl ?_
      refine g_iload_n (q := 64) rfl rfl rfl ?_
      refine g_iload (q := 66) rfl rfl rfl ?_
      refine g_min (q := 69) rfl rfl rfl ?_
      obtain ⟨v5, e_v5, hF⟩ := iw_I hF
      rw [← e_v5]
      refine g_istore_n (q := 70) rfl rfl ?_
      refine g_iload_n (q := 71) rfl rfl rfl ?_
      refine g_iload (q := 73) rfl rfl rfl ?_
      refine g_max (q := 76) rfl rfl rfl ?_
      obtain ⟨v6, e_v6, hF⟩ := iw_I hF
      rw [← e_v6]
      refine g_istore_n (q := 77) rfl rfl ?_
      refine g_iinc (q := 80) rfl rfl rfl ?_
      refine g_goto rfl ?_
      refine go_sub (lo' := mm_lf [(0, .inr (.inl (some 0))), (1, .inl x1), (2, .inl v5), (3, .inl v6), (4, .inl (x4 + I 1))]) (mm_subc rfl (mm_subc rfl (mm_subc rfl (mm_subc rfl (mm_subc rfl mm_sub0))))) ?_
      exact ih _ _ _ _ _ hF KR KX
theorem A_C_range {x1 : Int32} {h h' : MH} {v : Int32} (hF : F_C_range x1 h = some (v, h')) : Ex 6 101 [.inr (.inl (some 0)), .inl x1] h (some (.inl v), h') := by
  unfold F_C_range at hF
  refine ex_of (d := 5) rfl rfl ?_
  refine g_aload_n (q := 1) rfl rfl rfl ?_
  refine g_iload_n (q := 2) rfl rfl rfl ?_
  obtain ⟨⟨r2, h1⟩, hC, hF⟩ := bd_I hF
  dsimp only at hF
  refine g_ci2 (q := 5) rfl rfl (fun _ => rfl) rfl (A_C_noOne hC) (by decide +kernel) rfl ?_
  by_cases c19 : r2 = 0
  · rw [if_pos c19] at hF
    refine g_ifT rfl (decide_eq_true c19) ?_
    refine g_aload_n (q := 15) rfl rfl rfl ?_
    refine g_getR (q := 18) rfl (fun _ => rfl) rfl ?_
    refine g_getI (q := 21) rfl (fun _ => rfl) rfl ?_
    by_cases c16 : ¬ (h1.1 8 9) = 0
    · rw [if_pos c16] at hF
      refine g_ifT rfl (decide_eq_true c16) ?_
      refine g_ldc (q := 33) rfl rfl ?_
      refine g_istore_n (q := 34) rfl rfl ?_
      refine g_iconst (q := 35) rfl rfl ?_
      refine g_istore_n (q := 36) rfl rfl ?_
      refine g_iconst (q := 37) rfl rfl ?_
      refine g_istore (q := 39) rfl rfl ?_
      refine go_sub (lo' := mm_lf [(0, .inr (.inl (some 0))), (1, .inl x1), (2, .inl (I 1000000000)), (3, .inl (I 0)), (4, .inl (I 0))]) (mm_subc rfl (mm_subc rfl (mm_subc rfl (mm_subc rfl (mm_subc rfl mm_sub0))))) ?_
      obtain ⟨⟨y8, y9, h10⟩, hC, hF⟩ := bd_I hF
      dsimp only at hF
      refine A_L_C_range_39 5000 _ _ _ _ _ hC trivial ?_
      intro _ _ _ e2
      cases e2
      refine g_aload_n (q := 84) rfl rfl rfl ?_
      refine g_getR (q := 87) rfl (fun _ => rfl) rfl ?_
      refine g_getI (q := 90) rfl (fun _ => rfl) rfl ?_
      obtain ⟨v11, e_v11, hF⟩ := iw_I hF
      suffices K12 : Go 5 101 100 (mm_lf []) [.inl v11] h10 (some (.inl v), h') by
        clear hF
        by_cases c13 : ¬ (h10.1 8 7) = 0
        · simp only [if_pos c13] at e_v11
          subst e_v11
          refine g_ifT rfl (decide_eq_true c13) ?_
          refine g_iload_n (q := 98) rfl rfl rfl ?_
          refine g_iload_n (q := 99) rfl rfl rfl ?_
          refine g_isub (q := 100) rfl rfl ?_
          exact go_sub mm_sub0 K12
        · simp only [if_neg c13] at e_v11
          subst e_v11
          refine g_ifF (q := 93) rfl (decide_eq_false c13) rfl ?_
          refine g_iconst (q := 94) rfl rfl ?_
          refine g_goto rfl ?_
          exact go_sub mm_sub0 K12
      clear e_v11
      injection hF with hF
      injection hF with hv hh
      subst hv
      subst hh
      exact g_iret rfl
    · rw [if_neg c16] at hF
      refine g_ifF (q := 24) rfl (decide_eq_false c16) rfl ?_
      refine g_aload_n (q := 25) rfl rfl rfl ?_
      refine g_bipush (q := 27) rfl (by decide +kernel) rfl ?_
      obtain ⟨⟨r15, h14⟩, hC, hF⟩ := bd_I hF
      dsimp only at hF
      refine g_ci2 (q := 30) rfl rfl (fun _ => rfl) rfl (A_C_refuse hC) (by decide +kernel) rfl ?_
      injection hF with hF
      injection hF with hv hh
      subst hv
      subst hh
      exact g_iret rfl
  · rw [if_neg c19] at hF
    refine g_ifF (q := 8) rfl (decide_eq_false c19) rfl ?_
    refine g_aload_n (q := 9) rfl rfl rfl ?_
    refine g_iconst (q := 10) rfl rfl ?_
    obtain ⟨⟨r18, h17⟩, hC, hF⟩ := bd_I hF
    dsimp only at hF
    refine g_ci2 (q := 13) rfl rfl (fun _ => rfl) rfl (A_C_refuse hC) (by decide +kernel) rfl ?_
    injection hF with hF
    injection hF with hv hh
    subst hv
    subst hh
    exact g_iret rfl
/-- BothCorners.row(I)I -/
def F_C_row (x1 : Int32) (h : MH) : Option (Int32 × MH) := if 0 ≤ x1 then if (I 99) < x1 then bd (F_C_refuse (I (-6)) h) (fun (r2, h1) => some (r2, h1)) else if (h.1 0 9) < (I 12) then ck (mm_in (h.1 0 9) 12) (hw (mm_hset h.1 53 (Int32.toNatClampNeg (h.1 0 9)) x1, h.2) (fun h3 => hw (mm_hset h3.1 0 9 ((h3.1 0 9) + (I 1)), h3.2) (fun h4 => some (h4.1 0 9, h4)))) else bd (F_C_refuse (I (-6)) h) (fun (r6, h5) => some (r6, h5)) else bd (F_C_refuse (I (-4)) h) (fun (r10, h9) => some (r10, h9))
theorem A_C_row {x1 : Int32} {h h' : MH} {v : Int32} (hF : F_C_row x1 h = some (v, h')) : Ex 2 110 [.inr (.inl (some 0)), .inl x1] h (some (.inl v), h') := by
  unfold F_C_row at hF
  refine ex_of (d := 1) rfl rfl ?_
  refine g_iload_n (q := 1) rfl rfl rfl ?_
  by_cases c11 : 0 ≤ x1
  · rw [if_pos c11] at hF
    refine g_ifT rfl (decide_eq_true c11) ?_
    refine g_iload_n (q := 12) rfl rfl rfl ?_
    refine g_bipush (q := 14) rfl (by decide +kernel) rfl ?_
    by_cases c8 : (I 99) < x1
    · rw [if_pos c8] at hF
      refine g_icmpT rfl (decide_eq_true c8) ?_
      refine g_aload_n (q := 27) rfl rfl rfl ?_
      refine g_bipush (q := 29) rfl (by decide +kernel) rfl ?_
      obtain ⟨⟨r2, h1⟩, hC, hF⟩ := bd_I hF
      dsimp only at hF
      refine g_ci2 (q := 32) rfl rfl (fun _ => rfl) rfl (A_C_refuse hC) (by decide +kernel) rfl ?_
      injection hF with hF
      injection hF with hv hh
      subst hv
      subst hh
      exact g_iret rfl
    · rw [if_neg c8] at hF
      refine g_icmpF (q := 17) rfl (decide_eq_false c8) rfl ?_
      refine g_aload_n (q := 18) rfl rfl rfl ?_
      refine g_getI (q := 21) rfl (fun _ => rfl) rfl ?_
      refine g_bipush (q := 23) rfl (by decide +kernel) rfl ?_
      by_cases c7 : (h.1 0 9) < (I 12)
      · rw [if_pos c7] at hF
        refine g_icmpT rfl (decide_eq_true c7) ?_
        refine g_aload_n (q := 34) rfl rfl rfl ?_
        refine g_getR (q := 37) rfl (fun _ => rfl) rfl ?_
        refine g_aload_n (q := 38) rfl rfl rfl ?_
        refine g_getI (q := 41) rfl (fun _ => rfl) rfl ?_
        refine g_iload_n (q := 42) rfl rfl rfl ?_
        obtain ⟨hi, hF⟩ := ck_I hF
        refine g_iastore (q := 43) rfl rfl rfl hi rfl ?_
        obtain ⟨h3, e_h3, hF⟩ := hw_I hF
        rw [← e_h3]
        refine g_aload_n (q := 44) rfl rfl rfl ?_
        refine g_dup (q := 45) rfl rfl rfl ?_
        refine g_getI (q := 48) rfl (fun _ => rfl) rfl ?_
        refine g_iconst (q := 49) rfl rfl ?_
        refine g_iadd (q := 50) rfl rfl ?_
        refine g_putI (q := 53) rfl (fun _ => rfl) rfl ?_
        obtain ⟨h4, e_h4, hF⟩ := hw_I hF
        rw [← e_h4]
        refine g_aload_n (q := 54) rfl rfl rfl ?_
        refine g_getI (q := 57) rfl (fun _ => rfl) rfl ?_
        injection hF with hF
        injection hF with hv hh
        subst hv
        subst hh
        exact g_iret rfl
      · rw [if_neg c7] at hF
        refine g_icmpF (q := 26) rfl (decide_eq_false c7) rfl ?_
        refine g_aload_n (q := 27) rfl rfl rfl ?_
        refine g_bipush (q := 29) rfl (by decide +kernel) rfl ?_
        obtain ⟨⟨r6, h5⟩, hC, hF⟩ := bd_I hF
        dsimp only at hF
        refine g_ci2 (q := 32) rfl rfl (fun _ => rfl) rfl (A_C_refuse hC) (by decide +kernel) rfl ?_
        injection hF with hF
        injection hF with hv hh
        subst hv
        subst hh
        exact g_iret rfl
  · rw [if_neg c11] at hF
    refine g_ifF (q := 4) rfl (decide_eq_false c11) rfl ?_
    refine g_aload_n (q := 5) rfl rfl rfl ?_
    refine g_bipush (q := 7) rfl (by decide +kernel) rfl ?_
    obtain ⟨⟨r10, h9⟩, hC, hF⟩ := bd_I hF
    dsimp only at hF
    refine g_ci2 (q := 10) rfl rfl (fun _ => rfl) rfl (A_C_refuse hC) (by decide +kernel) rfl ?_
    injection hF with hF
    injection hF with hv hh
    subst hv
    subst hh
    exact g_iret rfl
def L_C_judge_28 (x1 : Int32) (x2 : Int32) : Nat → Int32 → Int32 → MH → Option (Int32 × MH)
  | 0, _, _, _ => none
  | n + 1, x3, x4, h => if (h.1 0 9) ≤ x4 then some (x3, h) else if ¬ x3 = (I (-9)) then some (x3, h) else if (h.1 8 7) ≤ x4 then L_C_judge_28 x1 x2 n x4 (x4 + I 1) h else bd (F_H_timeBy x4 x1 x2 h) (fun (r8, h7) => iw (if r8 < (I 99) then r8 else I 99) (fun v9 => ck (mm_in x4 12) (iw (if v9 = (h7.1 53 (Int32.toNatClampNeg x4)) then x3 else x4) (fun v10 => L_C_judge_28 x1 x2 n v10 (x4 + I 1) h7))))
/-- BothCorners.judge(II)I -/
def F_C_judge (x1 : Int32) (x2 : Int32) (h : MH) : Option (Int32 × MH) := bd (F_C_noWay x1 h) (fun (r2, h1) => if ¬ r2 = 0 then bd (F_C_refuse (I (-1)) h1) (fun (r4, h3) => some (r4, h3)) else bd (F_C_noOne x2 h1) (fun (r6, h5) => if r6 = 0 then bd (L_C_judge_28 x1 x2 5000 (I (-9)) (I 0) h5) (fun (y16, h17) => hw (mm_hset h17.1 0 9 (I 0), h17.2) (fun h18 => some (y16, h18))) else bd (F_C_refuse (I (-1)) h5) (fun (r20, h19) => some (r20, h19))))
theorem A_L_C_judge_28 {x1 : Int32} {x2 : Int32} {r : MRs} : ∀ (n : Nat) (x3 : Int32) (x4 : Int32) (h : MH) (x : Int32 × MH), L_C_judge_28 x1 x2 n x3 x4 h = some x → (True) → (∀ (e3 : Int32) (h' : MH), x = (e3, h') → Go 5 114 90 (mm_lf [(0, .inr (.inl (some 0))), (3, .inl e3)]) [] h' r) → Go 5 114 28 (mm_lf [(0, .inr (.inl (some 0))), (1, .inl x1), (2, .inl x2), (3, .inl x3), (4, .inl x4)]) [] h r
  | 0, _, _, _, _, hF, _, _ => by cases hF
  | n + 1, x3, x4, h, x, hF, KR, KX => by
    have ih := fun a3 a4 => A_L_C_judge_28 (x1 := x1) (x2 := x2) (r := r) n a3 a4 
    unfold L_C_judge_28 at hF
    refine g_iload (q := 30) rfl rfl rfl ?_
    refine g_aload_n (q := 31) rfl rfl rfl ?_
    refine g_getI (q := 34) rfl (fun _ => rfl) rfl ?_
    by_cases c15 : (h.1 0 9) ≤ x4
    · rw [if_pos c15] at hF
      refine g_icmpT rfl (decide_eq_true c15) ?_
      injection hF with hF
      subst hF
      exact go_sub (mm_subc rfl (mm_subc rfl mm_sub0)) (KX _ _ rfl)
    · rw [if_neg c15] at hF
      refine g_icmpF (q := 37) rfl (decide_eq_false c15) rfl ?_
      refine g_iload_n (q := 38) rfl rfl rfl ?_
      refine g_bipush (q := 40) rfl (by decide +kernel) rfl ?_
      by_cases c14 : ¬ x3 = (I (-9))
      · rw [if_pos c14] at hF
        refine g_icmpT rfl (decide_eq_true c14) ?_
        injection hF with hF
        subst hF
        exact go_sub (mm_subc rfl (mm_subc rfl mm_sub0)) (KX _ _ rfl)
      · rw [if_neg c14] at hF
        refine g_icmpF (q := 43) rfl (decide_eq_false c14) rfl ?_
        refine g_iload (q := 45) rfl rfl rfl ?_
        refine g_aload_n (q := 46) rfl rfl rfl ?_
        refine g_getR (q := 49) rfl (fun _ => rfl) rfl ?_
        refine g_getI (q := 52) rfl (fun _ => rfl) rfl ?_
        by_cases c13 : (h.1 8 7) ≤ x4
        · rw [if_pos c13] at hF
          refine g_icmpT rfl (decide_eq_true c13) ?_
          refine g_iload (q := 83) rfl rfl rfl ?_
          refine g_istore_n (q := 84) rfl rfl ?_
          refine g_iinc (q := 87) rfl rfl rfl ?_
          refine g_goto rfl ?_
          refine go_sub (lo' := mm_lf [(0, .inr (.inl (some 0))), (1, .inl x1), (2, .inl x2), (3, .inl x4), (4, .inl (x4 + I 1))]) (mm_subc rfl (mm_subc rfl (mm_subc rfl (mm_subc rfl (mm_subc rfl mm_sub0))))) ?_
          exact ih _ _ _ _ hF KR KX
        · rw [if_neg c13] at hF
          refine g_icmpF (q := 55) rfl (decide_eq_false c13) rfl ?_
          refine g_bipush (q := 57) rfl (by decide +kernel) rfl ?_
          refine g_aload_n (q := 58) rfl rfl rfl ?_
          refine g_getR (q := 61) rfl (fun _ => rfl) rfl ?_
          refine g_iload (q := 63) rfl rfl rfl ?_
          refine g_iload_n (q := 64) rfl rfl rfl ?_
          refine g_iload_n (q := 65) rfl rfl rfl ?_
          obtain ⟨⟨r8, h7⟩, hC, hF⟩ := bd_I hF
          dsimp only at hF
          refine g_ci4 (q := 68) rfl rfl (fun _ => rfl) rfl (A_H_timeBy hC) (by decide +kernel) rfl ?_
          refine g_min (q := 71) rfl rfl rfl ?_
          obtain ⟨v9, e_v9, hF⟩ := iw_I hF
          rw [← e_v9]
          refine g_aload_n (q := 72) rfl rfl rfl ?_
          refine g_getR (q := 75) rfl (fun _ => rfl) rfl ?_
          refine g_iload (q := 77) rfl rfl rfl ?_
          obtain ⟨hi, hF⟩ := ck_I hF
          refine g_iaload (q := 78) rfl rfl rfl hi rfl ?_
          obtain ⟨v10, e_v10, hF⟩ := iw_I hF
          suffices K11 : Go 5 114 84 (mm_lf [(0, .inr (.inl (some 0))), (1, .inl x1), (2, .inl x2), (3, .inl v10), (4, .inl x4)]) [] h7 r by
            clear hF
            by_cases c12 : v9 = (h7.1 53 (Int32.toNatClampNeg x4))
            · simp only [if_pos c12] at e_v10
              subst e_v10
              refine g_icmpT rfl (decide_eq_true c12) ?_
              exact go_sub (mm_subc rfl (mm_subc rfl (mm_subc rfl (mm_subc rfl (mm_subc rfl mm_sub0))))) K11
            · simp only [if_neg c12] at e_v10
              subst e_v10
              refine g_icmpF (q := 81) rfl (decide_eq_false c12) rfl ?_
              refine g_iload (q := 83) rfl rfl rfl ?_
              refine g_istore_n (q := 84) rfl rfl ?_
              exact go_sub (mm_subc rfl (mm_subc rfl (mm_subc rfl (mm_subc rfl (mm_subc rfl mm_sub0))))) K11
          clear e_v10
          refine g_iinc (q := 87) rfl rfl rfl ?_
          refine g_goto rfl ?_
          refine go_sub (lo' := mm_lf [(0, .inr (.inl (some 0))), (1, .inl x1), (2, .inl x2), (3, .inl v10), (4, .inl (x4 + I 1))]) (mm_subc rfl (mm_subc rfl (mm_subc rfl (mm_subc rfl (mm_subc rfl mm_sub0))))) ?_
          exact ih _ _ _ _ hF KR KX
theorem A_C_judge {x1 : Int32} {x2 : Int32} {h h' : MH} {v : Int32} (hF : F_C_judge x1 x2 h = some (v, h')) : Ex 6 114 [.inr (.inl (some 0)), .inl x1, .inl x2] h (some (.inl v), h') := by
  unfold F_C_judge at hF
  refine ex_of (d := 5) rfl rfl ?_
  refine g_aload_n (q := 1) rfl rfl rfl ?_
  refine g_iload_n (q := 2) rfl rfl rfl ?_
  obtain ⟨⟨r2, h1⟩, hC, hF⟩ := bd_I hF
  dsimp only at hF
  refine g_ci2 (q := 5) rfl rfl (fun _ => rfl) rfl (A_C_noWay hC) (by decide +kernel) rfl ?_
  by_cases c22 : ¬ r2 = 0
  · rw [if_pos c22] at hF
    refine g_ifT rfl (decide_eq_true c22) ?_
    refine g_aload_n (q := 17) rfl rfl rfl ?_
    refine g_iconst (q := 18) rfl rfl ?_
    obtain ⟨⟨r4, h3⟩, hC, hF⟩ := bd_I hF
    dsimp only at hF
    refine g_ci2 (q := 21) rfl rfl (fun _ => rfl) rfl (A_C_refuse hC) (by decide +kernel) rfl ?_
    injection hF with hF
    injection hF with hv hh
    subst hv
    subst hh
    exact g_iret rfl
  · rw [if_neg c22] at hF
    refine g_ifF (q := 8) rfl (decide_eq_false c22) rfl ?_
    refine g_aload_n (q := 9) rfl rfl rfl ?_
    refine g_iload_n (q := 10) rfl rfl rfl ?_
    obtain ⟨⟨r6, h5⟩, hC, hF⟩ := bd_I hF
    dsimp only at hF
    refine g_ci2 (q := 13) rfl rfl (fun _ => rfl) rfl (A_C_noOne hC) (by decide +kernel) rfl ?_
    by_cases c21 : r6 = 0
    · rw [if_pos c21] at hF
      refine g_ifT rfl (decide_eq_true c21) ?_
      refine g_bipush (q := 24) rfl (by decide +kernel) rfl ?_
      refine g_istore_n (q := 25) rfl rfl ?_
      refine g_iconst (q := 26) rfl rfl ?_
      refine g_istore (q := 28) rfl rfl ?_
      refine go_sub (lo' := mm_lf [(0, .inr (.inl (some 0))), (1, .inl x1), (2, .inl x2), (3, .inl (I (-9))), (4, .inl (I 0))]) (mm_subc rfl (mm_subc rfl (mm_subc rfl (mm_subc rfl (mm_subc rfl mm_sub0))))) ?_
      obtain ⟨⟨y16, h17⟩, hC, hF⟩ := bd_I hF
      dsimp only at hF
      refine A_L_C_judge_28 5000 _ _ _ _ hC trivial ?_
      intro _ _ e2
      cases e2
      refine g_aload_n (q := 91) rfl rfl rfl ?_
      refine g_iconst (q := 92) rfl rfl ?_
      refine g_putI (q := 95) rfl (fun _ => rfl) rfl ?_
      obtain ⟨h18, e_h18, hF⟩ := hw_I hF
      rw [← e_h18]
      refine g_iload_n (q := 96) rfl rfl rfl ?_
      injection hF with hF
      injection hF with hv hh
      subst hv
      subst hh
      exact g_iret rfl
    · rw [if_neg c21] at hF
      refine g_ifF (q := 16) rfl (decide_eq_false c21) rfl ?_
      refine g_aload_n (q := 17) rfl rfl rfl ?_
      refine g_iconst (q := 18) rfl rfl ?_
      obtain ⟨⟨r20, h19⟩, hC, hF⟩ := bd_I hF
      dsimp only at hF
      refine g_ci2 (q := 21) rfl rfl (fun _ => rfl) rfl (A_C_refuse hC) (by decide +kernel) rfl ?_
      injection hF with hF
      injection hF with hv hh
      subst hv
      subst hh
      exact g_iret rfl
/-- BothCorners.clear()I -/
def F_C_clear (h : MH) : Option (Int32 × MH) := hw (mm_hset h.1 0 9 (I 0), h.2) (fun h1 => some (h.1 0 9, h1))
theorem A_C_clear {h h' : MH} {v : Int32} (hF : F_C_clear h = some (v, h')) : Ex 1 111 [.inr (.inl (some 0))] h (some (.inl v), h') := by
  unfold F_C_clear at hF
  refine ex_of (d := 0) rfl rfl ?_
  refine g_aload_n (q := 1) rfl rfl rfl ?_
  refine g_getI (q := 4) rfl (fun _ => rfl) rfl ?_
  refine g_istore_n (q := 5) rfl rfl ?_
  refine g_aload_n (q := 6) rfl rfl rfl ?_
  refine g_iconst (q := 7) rfl rfl ?_
  refine g_putI (q := 10) rfl (fun _ => rfl) rfl ?_
  obtain ⟨h1, e_h1, hF⟩ := hw_I hF
  rw [← e_h1]
  refine g_iload_n (q := 11) rfl rfl rfl ?_
  injection hF with hF
  injection hF with hv hh
  subst hv
  subst hh
  exact g_iret rfl
/-- BothCorners.nextSeed(I)I -/
def F_C_nextSeed (x0 : Int32) (h : MH) : Option (Int32 × MH) := some ((x0 * (I 1103515245)) + (I 12345), h)
theorem A_C_nextSeed {x0 : Int32} {h h' : MH} {v : Int32} (hF : F_C_nextSeed x0 h = some (v, h')) : Ex 1 140 [.inl x0] h (some (.inl v), h') := by
  unfold F_C_nextSeed at hF
  refine ex_of (d := 0) rfl rfl ?_
  refine g_iload_n (q := 1) rfl rfl rfl ?_
  refine g_ldc_w (q := 4) rfl rfl ?_
  refine g_imul (q := 5) rfl rfl ?_
  refine g_sipush (q := 8) rfl (by decide +kernel) rfl ?_
  refine g_iadd (q := 9) rfl rfl ?_
  injection hF with hF
  injection hF with hv hh
  subst hv
  subst hh
  exact g_iret rfl
/-- BothCorners.drawBelow(II)I -/
def F_C_drawBelow (x0 : Int32) (x1 : Int32) (h : MH) : Option (Int32 × MH) := if (I 1) ≤ x1 then cd (¬ x1 = 0) (some (irem ((x0 &&& (I 2147483647)) / (I 65536)) x1, h)) else some (I 0, h)
theorem A_C_drawBelow {x0 : Int32} {x1 : Int32} {h h' : MH} {v : Int32} (hF : F_C_drawBelow x0 x1 h = some (v, h')) : Ex 1 141 [.inl x0, .inl x1] h (some (.inl v), h') := by
  unfold F_C_drawBelow at hF
  refine ex_of (d := 0) rfl rfl ?_
  refine g_iload_n (q := 1) rfl rfl rfl ?_
  refine g_iconst (q := 2) rfl rfl ?_
  by_cases c1 : (I 1) ≤ x1
  · rw [if_pos c1] at hF
    refine g_icmpT rfl (decide_eq_true c1) ?_
    refine g_iload_n (q := 10) rfl rfl rfl ?_
    refine g_ldc_w (q := 13) rfl rfl ?_
    refine g_iand (q := 14) rfl rfl ?_
    refine g_ldc_w (q := 17) rfl rfl ?_
    refine g_idiv (q := 18) rfl (by decide +kernel) rfl ?_
    refine g_iload_n (q := 19) rfl rfl rfl ?_
    obtain ⟨hne, hF⟩ := cd_I hF
    refine g_irem (q := 20) rfl hne rfl ?_
    injection hF with hF
    injection hF with hv hh
    subst hv
    subst hh
    exact g_iret rfl
  · rw [if_neg c1] at hF
    refine g_icmpF (q := 5) rfl (decide_eq_false c1) rfl ?_
    refine g_iconst (q := 6) rfl rfl ?_
    refine g_goto rfl ?_
    injection hF with hF
    injection hF with hv hh
    subst hv
    subst hh
    exact g_iret rfl
def L_C_lots_86 (x1 : Int32) (x3 : Int32) (x4 : Int32) (x5 : Int32) (x7 : Int32) : Nat → Int32 → Int32 → Int32 → MH → Option (Int32 × Int32 × MH)
  | 0, _, _, _, _ => none
  | n + 1, x6, x8, x9, h => if (h.1 8 7) ≤ x9 then some (x6, x8, h) else bd (F_C_nextSeed x6 h) (fun (r4, h3) => bd (F_C_drawBelow r4 (h3.1 8 9) h3) (fun (r6, h5) => bd (F_C_nextSeed r4 h5) (fun (r8, h7) => bd (F_C_drawBelow r8 (h7.1 8 8) h7) (fun (r10, h9) => bd (F_H_timeBy x9 r6 r10 h9) (fun (r12, h11) => L_C_lots_86 x1 x3 x4 x5 x7 n r8 (x8 + r12) (x9 + I 1) h11)))))
def L_C_lots_74 (x1 : Int32) (x3 : Int32) : Nat → Int32 → Int32 → Int32 → Int32 → MH → Option (Int32 × Int32 × MH)
  | 0, _, _, _, _, _ => none
  | n + 1, x4, x5, x6, x7, h => if x1 ≤ x7 then some (x4, x5, h) else bd (L_C_lots_86 x1 x3 x4 x5 x7 5000 x6 (I 0) (I 0) h) (fun (y14, y15, h16) => iw (if x5 < y15 then y15 else x5) (fun v17 => L_C_lots_74 x1 x3 n (x4 + y15) v17 y14 (x7 + I 1) h16))
/-- BothCorners.lots(III)I -/
def F_C_lots (x1 : Int32) (x2 : Int32) (x3 : Int32) (h : MH) : Option (Int32 × MH) := if (I 1) ≤ x1 then if x1 ≤ (I 20) then bd (F_C_otherThan x3 (I 1) h) (fun (r2, h1) => if r2 = 0 then if (h1.1 8 9) = 0 then some (I 0, h1) else if ¬ (h1.1 8 8) = 0 then bd (L_C_lots_74 x1 x3 5000 (I 0) (I 0) x2 (I 0) h1) (fun (y19, y20, h21) => iw (if ¬ x3 = 0 then y20 else y19) (fun v22 => some (v22, h21))) else some (I 0, h1) else bd (F_C_refuse (I (-2)) h1) (fun (r28, h27) => some (r28, h27))) else bd (F_C_refuse (I (-6)) h) (fun (r31, h30) => some (r31, h30)) else bd (F_C_refuse (I (-4)) h) (fun (r34, h33) => some (r34, h33))
theorem A_L_C_lots_86 {x1 : Int32} {x3 : Int32} {x4 : Int32} {x5 : Int32} {x7 : Int32} {r : MRs} : ∀ (n : Nat) (x6 : Int32) (x8 : Int32) (x9 : Int32) (h : MH) (x : Int32 × Int32 × MH), L_C_lots_86 x1 x3 x4 x5 x7 n x6 x8 x9 h = some x → (True) → (∀ (e6 : Int32) (e8 : Int32) (h' : MH), x = (e6, e8, h') → Go 5 115 160 (mm_lf [(0, .inr (.inl (some 0))), (1, .inl x1), (3, .inl x3), (4, .inl x4), (5, .inl x5), (6, .inl e6), (7, .inl x7), (8, .inl e8)]) [] h' r) → Go 5 115 86 (mm_lf [(0, .inr (.inl (some 0))), (1, .inl x1), (3, .inl x3), (4, .inl x4), (5, .inl x5), (6, .inl x6), (7, .inl x7), (8, .inl x8), (9, .inl x9)]) [] h r
  | 0, _, _, _, _, _, hF, _, _ => by cases hF
  | n + 1, x6, x8, x9, h, x, hF, KR, KX => by
    have ih := fun a6 a8 a9 => A_L_C_lots_86 (x1 := x1) (x3 := x3) (x4 := x4) (x5 := x5) (x7 := x7) (r := r) n a6 a8 a9 
    unfold L_C_lots_86 at hF
    refine g_iload (q := 88) rfl rfl rfl ?_
    refine g_aload_n (q := 89) rfl rfl rfl ?_
    refine g_getR (q := 92) rfl (fun _ => rfl) rfl ?_
    refine g_getI (q := 95) rfl (fun _ => rfl) rfl ?_
    by_cases c13 : (h.1 8 7) ≤ x9
    · rw [if_pos c13] at hF
      refine g_icmpT rfl (decide_eq_true c13) ?_
      injection hF with hF
      subst hF
      exact go_sub (mm_subc rfl (mm_subc rfl (mm_subc rfl (mm_subc rfl (mm_subc rfl (mm_subc rfl (mm_subc rfl (mm_subc rfl mm_sub0)))))))) (KX _ _ _ rfl)
    · rw [if_neg c13] at hF
      refine g_icmpF (q := 98) rfl (decide_eq_false c13) rfl ?_
      refine g_iload (q := 100) rfl rfl rfl ?_
      obtain ⟨⟨r4, h3⟩, hC, hF⟩ := bd_I hF
      dsimp only at hF
      refine g_ci1 (q := 103) rfl rfl (fun _ => rfl) rfl (A_C_nextSeed hC) (by decide +kernel) rfl ?_
      refine g_istore (q := 105) rfl rfl ?_
      refine g_iload (q := 107) rfl rfl rfl ?_
      refine g_aload_n (q := 108) rfl rfl rfl ?_
      refine g_getR (q := 111) rfl (fun _ => rfl) rfl ?_
      refine g_getI (q := 114) rfl (fun _ => rfl) rfl ?_
      obtain ⟨⟨r6, h5⟩, hC, hF⟩ := bd_I hF
      dsimp only at hF
      refine g_ci2 (q := 117) rfl rfl (fun _ => rfl) rfl (A_C_drawBelow hC) (by decide +kernel) rfl ?_
      refine g_istore (q := 119) rfl rfl ?_
      refine g_iload (q := 121) rfl rfl rfl ?_
      obtain ⟨⟨r8, h7⟩, hC, hF⟩ := bd_I hF
      dsimp only at hF
      refine g_ci1 (q := 124) rfl rfl (fun _ => rfl) rfl (A_C_nextSeed hC) (by decide +kernel) rfl ?_
      refine g_istore (q := 126) rfl rfl ?_
      refine g_iload (q := 128) rfl rfl rfl ?_
      refine g_aload_n (q := 129) rfl rfl rfl ?_
      refine g_getR (q := 132) rfl (fun _ => rfl) rfl ?_
      refine g_iload (q := 134) rfl rfl rfl ?_
      refine g_iload (q := 136) rfl rfl rfl ?_
      refine g_iload (q := 138) rfl rfl rfl ?_
      refine g_aload_n (q := 139) rfl rfl rfl ?_
      refine g_getR (q := 142) rfl (fun _ => rfl) rfl ?_
      refine g_getI (q := 145) rfl (fun _ => rfl) rfl ?_
      obtain ⟨⟨r10, h9⟩, hC, hF⟩ := bd_I hF
      dsimp only at hF
      refine g_ci2 (q := 148) rfl rfl (fun _ => rfl) rfl (A_C_drawBelow hC) (by decide +kernel) rfl ?_
      obtain ⟨⟨r12, h11⟩, hC, hF⟩ := bd_I hF
      dsimp only at hF
      refine g_ci4 (q := 151) rfl rfl (fun _ => rfl) rfl (A_H_timeBy hC) (by decide +kernel) rfl ?_
      refine g_iadd (q := 152) rfl rfl ?_
      refine g_istore (q := 154) rfl rfl ?_
      refine g_iinc (q := 157) rfl rfl rfl ?_
      refine g_goto rfl ?_
      refine go_sub (lo' := mm_lf [(0, .inr (.inl (some 0))), (1, .inl x1), (3, .inl x3), (4, .inl x4), (5, .inl x5), (6, .inl r8), (7, .inl x7), (8, .inl (x8 + r12)), (9, .inl (x9 + I 1))]) (mm_subc rfl (mm_subc rfl (mm_subc rfl (mm_subc rfl (mm_subc rfl (mm_subc rfl (mm_subc rfl (mm_subc rfl (mm_subc rfl mm_sub0))))))))) ?_
      exact ih _ _ _ _ _ hF KR KX
theorem A_L_C_lots_74 {x1 : Int32} {x3 : Int32} {r : MRs} : ∀ (n : Nat) (x4 : Int32) (x5 : Int32) (x6 : Int32) (x7 : Int32) (h : MH) (x : Int32 × Int32 × MH), L_C_lots_74 x1 x3 n x4 x5 x6 x7 h = some x → (True) → (∀ (e4 : Int32) (e5 : Int32) (h' : MH), x = (e4, e5, h') → Go 5 115 182 (mm_lf [(3, .inl x3), (4, .inl e4), (5, .inl e5)]) [] h' r) → Go 5 115 74 (mm_lf [(0, .inr (.inl (some 0))), (1, .inl x1), (3, .inl x3), (4, .inl x4), (5, .inl x5), (6, .inl x6), (7, .inl x7)]) [] h r
  | 0, _, _, _, _, _, _, hF, _, _ => by cases hF
  | n + 1, x4, x5, x6, x7, h, x, hF, KR, KX => by
    have ih := fun a4 a5 a6 a7 => A_L_C_lots_74 (x1 := x1) (x3 := x3) (r := r) n a4 a5 a6 a7 
    unfold L_C_lots_74 at hF
    refine g_iload (q := 76) rfl rfl rfl ?_
    refine g_iload_n (q := 77) rfl rfl rfl ?_
    by_cases c18 : x1 ≤ x7
    · rw [if_pos c18] at hF
      refine g_icmpT rfl (decide_eq_true c18) ?_
      injection hF with hF
      subst hF
      exact go_sub (mm_subc rfl (mm_subc rfl (mm_subc rfl mm_sub0))) (KX _ _ _ rfl)
    · rw [if_neg c18] at hF
      refine g_icmpF (q := 80) rfl (decide_eq_false c18) rfl ?_
      refine g_iconst (q := 81) rfl rfl ?_
      refine g_istore (q := 83) rfl rfl ?_
      refine g_iconst (q := 84) rfl rfl ?_
      refine g_istore (q := 86) rfl rfl ?_
      refine go_sub (lo' := mm_lf [(0, .inr (.inl (some 0))), (1, .inl x1), (3, .inl x3), (4, .inl x4), (5, .inl x5), (6, .inl x6), (7, .inl x7), (8, .inl (I 0)), (9, .inl (I 0))]) (mm_subc rfl (mm_subc rfl (mm_subc rfl (mm_subc rfl (mm_subc rfl (mm_subc rfl (mm_subc rfl (mm_subc rfl (mm_subc rfl mm_sub0))))))))) ?_
      obtain ⟨⟨y14, y15, h16⟩, hC, hF⟩ := bd_I hF
      dsimp only at hF
      refine A_L_C_lots_86 5000 _ _ _ _ _ hC trivial ?_
      intro _ _ _ e2
      cases e2
      refine g_iload (q := 162) rfl rfl rfl ?_
      refine g_iload (q := 164) rfl rfl rfl ?_
      refine g_iadd (q := 165) rfl rfl ?_
      refine g_istore (q := 167) rfl rfl ?_
      refine g_iload (q := 169) rfl rfl rfl ?_
      refine g_iload (q := 171) rfl rfl rfl ?_
      refine g_max (q := 174) rfl rfl rfl ?_
      obtain ⟨v17, e_v17, hF⟩ := iw_I hF
      rw [← e_v17]
      refine g_istore (q := 176) rfl rfl ?_
      refine g_iinc (q := 179) rfl rfl rfl ?_
      refine g_goto rfl ?_
      refine go_sub (lo' := mm_lf [(0, .inr (.inl (some 0))), (1, .inl x1), (3, .inl x3), (4, .inl (x4 + y15)), (5, .inl v17), (6, .inl y14), (7, .inl (x7 + I 1))]) (mm_subc rfl (mm_subc rfl (mm_subc rfl (mm_subc rfl (mm_subc rfl (mm_subc rfl (mm_subc rfl mm_sub0))))))) ?_
      exact ih _ _ _ _ _ _ hF KR KX
theorem A_C_lots {x1 : Int32} {x2 : Int32} {x3 : Int32} {h h' : MH} {v : Int32} (hF : F_C_lots x1 x2 x3 h = some (v, h')) : Ex 6 115 [.inr (.inl (some 0)), .inl x1, .inl x2, .inl x3] h (some (.inl v), h') := by
  unfold F_C_lots at hF
  refine ex_of (d := 5) rfl rfl ?_
  refine g_iload_n (q := 1) rfl rfl rfl ?_
  refine g_iconst (q := 2) rfl rfl ?_
  by_cases c35 : (I 1) ≤ x1
  · rw [if_pos c35] at hF
    refine g_icmpT rfl (decide_eq_true c35) ?_
    refine g_iload_n (q := 13) rfl rfl rfl ?_
    refine g_bipush (q := 15) rfl (by decide +kernel) rfl ?_
    by_cases c32 : x1 ≤ (I 20)
    · rw [if_pos c32] at hF
      refine g_icmpT rfl (decide_eq_true c32) ?_
      refine g_iload_n (q := 26) rfl rfl rfl ?_
      refine g_iconst (q := 27) rfl rfl ?_
      obtain ⟨⟨r2, h1⟩, hC, hF⟩ := bd_I hF
      dsimp only at hF
      refine g_ci2 (q := 30) rfl rfl (fun _ => rfl) rfl (A_C_otherThan hC) (by decide +kernel) rfl ?_
      by_cases c29 : r2 = 0
      · rw [if_pos c29] at hF
        refine g_ifT rfl (decide_eq_true c29) ?_
        refine g_aload_n (q := 41) rfl rfl rfl ?_
        refine g_getR (q := 44) rfl (fun _ => rfl) rfl ?_
        refine g_getI (q := 47) rfl (fun _ => rfl) rfl ?_
        by_cases c26 : (h1.1 8 9) = 0
        · rw [if_pos c26] at hF
          refine g_ifT rfl (decide_eq_true c26) ?_
          refine g_iconst (q := 61) rfl rfl ?_
          injection hF with hF
          injection hF with hv hh
          subst hv
          subst hh
          exact g_iret rfl
        · rw [if_neg c26] at hF
          refine g_ifF (q := 50) rfl (decide_eq_false c26) rfl ?_
          refine g_aload_n (q := 51) rfl rfl rfl ?_
          refine g_getR (q := 54) rfl (fun _ => rfl) rfl ?_
          refine g_getI (q := 57) rfl (fun _ => rfl) rfl ?_
          by_cases c25 : ¬ (h1.1 8 8) = 0
          · rw [if_pos c25] at hF
            refine g_ifT rfl (decide_eq_true c25) ?_
            refine g_iconst (q := 63) rfl rfl ?_
            refine g_istore (q := 65) rfl rfl ?_
            refine g_iconst (q := 66) rfl rfl ?_
            refine g_istore (q := 68) rfl rfl ?_
            refine g_iload_n (q := 69) rfl rfl rfl ?_
            refine g_istore (q := 71) rfl rfl ?_
            refine g_iconst (q := 72) rfl rfl ?_
            refine g_istore (q := 74) rfl rfl ?_
            refine go_sub (lo' := mm_lf [(0, .inr (.inl (some 0))), (1, .inl x1), (3, .inl x3), (4, .inl (I 0)), (5, .inl (I 0)), (6, .inl x2), (7, .inl (I 0))]) (mm_subc rfl (mm_subc rfl (mm_subc rfl (mm_subc rfl (mm_subc rfl (mm_subc rfl (mm_subc rfl mm_sub0))))))) ?_
            obtain ⟨⟨y19, y20, h21⟩, hC, hF⟩ := bd_I hF
            dsimp only at hF
            refine A_L_C_lots_74 5000 _ _ _ _ _ _ hC trivial ?_
            intro _ _ _ e2
            cases e2
            refine g_iload_n (q := 183) rfl rfl rfl ?_
            obtain ⟨v22, e_v22, hF⟩ := iw_I hF
            suffices K23 : Go 5 115 193 (mm_lf []) [.inl v22] h21 (some (.inl v), h') by
              clear hF
              by_cases c24 : ¬ x3 = 0
              · simp only [if_pos c24] at e_v22
                subst e_v22
                refine g_ifT rfl (decide_eq_true c24) ?_
                refine g_iload (q := 193) rfl rfl rfl ?_
                exact go_sub mm_sub0 K23
              · simp only [if_neg c24] at e_v22
                subst e_v22
                refine g_ifF (q := 186) rfl (decide_eq_false c24) rfl ?_
                refine g_iload (q := 188) rfl rfl rfl ?_
                refine g_goto rfl ?_
                exact go_sub mm_sub0 K23
            clear e_v22
            injection hF with hF
            injection hF with hv hh
            subst hv
            subst hh
            exact g_iret rfl
          · rw [if_neg c25] at hF
            refine g_ifF (q := 60) rfl (decide_eq_false c25) rfl ?_
            refine g_iconst (q := 61) rfl rfl ?_
            injection hF with hF
            injection hF with hv hh
            subst hv
            subst hh
            exact g_iret rfl
      · rw [if_neg c29] at hF
        refine g_ifF (q := 33) rfl (decide_eq_false c29) rfl ?_
        refine g_aload_n (q := 34) rfl rfl rfl ?_
        refine g_bipush (q := 36) rfl (by decide +kernel) rfl ?_
        obtain ⟨⟨r28, h27⟩, hC, hF⟩ := bd_I hF
        dsimp only at hF
        refine g_ci2 (q := 39) rfl rfl (fun _ => rfl) rfl (A_C_refuse hC) (by decide +kernel) rfl ?_
        injection hF with hF
        injection hF with hv hh
        subst hv
        subst hh
        exact g_iret rfl
    · rw [if_neg c32] at hF
      refine g_icmpF (q := 18) rfl (decide_eq_false c32) rfl ?_
      refine g_aload_n (q := 19) rfl rfl rfl ?_
      refine g_bipush (q := 21) rfl (by decide +kernel) rfl ?_
      obtain ⟨⟨r31, h30⟩, hC, hF⟩ := bd_I hF
      dsimp only at hF
      refine g_ci2 (q := 24) rfl rfl (fun _ => rfl) rfl (A_C_refuse hC) (by decide +kernel) rfl ?_
      injection hF with hF
      injection hF with hv hh
      subst hv
      subst hh
      exact g_iret rfl
  · rw [if_neg c35] at hF
    refine g_icmpF (q := 5) rfl (decide_eq_false c35) rfl ?_
    refine g_aload_n (q := 6) rfl rfl rfl ?_
    refine g_bipush (q := 8) rfl (by decide +kernel) rfl ?_
    obtain ⟨⟨r34, h33⟩, hC, hF⟩ := bd_I hF
    dsimp only at hF
    refine g_ci2 (q := 11) rfl rfl (fun _ => rfl) rfl (A_C_refuse hC) (by decide +kernel) rfl ?_
    injection hF with hF
    injection hF with hv hh
    subst hv
    subst hh
    exact g_iret rfl
/-- BothCorners$House.copyFrom(LBothCorners$House;)V -/
def F_H_copyFrom_3 (h : MH) : Option (MH) := hw (mm_hcpy h.1 9 16 (Int32.toNatClampNeg (I 0)) (Int32.toNatClampNeg (I 0)) (Int32.toNatClampNeg (I 6)), h.2) (fun h1 => hw (mm_hcpy h1.1 10 17 (Int32.toNatClampNeg (I 0)) (Int32.toNatClampNeg (I 0)) (Int32.toNatClampNeg (I 6)), h1.2) (fun h2 => hw (mm_hcpy h2.1 11 18 (Int32.toNatClampNeg (I 0)) (Int32.toNatClampNeg (I 0)) (Int32.toNatClampNeg (I 4)), h2.2) (fun h3 => hw (mm_hcpy h3.1 12 19 (Int32.toNatClampNeg (I 0)) (Int32.toNatClampNeg (I 0)) (Int32.toNatClampNeg (I 4)), h3.2) (fun h4 => hw (mm_hcpy h4.1 13 20 (Int32.toNatClampNeg (I 0)) (Int32.toNatClampNeg (I 0)) (Int32.toNatClampNeg (I 6)), h4.2) (fun h5 => hw (mm_hcpy h5.1 14 21 (Int32.toNatClampNeg (I 0)) (Int32.toNatClampNeg (I 0)) (Int32.toNatClampNeg (I 6)), h5.2) (fun h6 => hw (mm_hset h6.1 15 7 (h6.1 8 7), h6.2) (fun h7 => hw (mm_hset h7.1 15 8 (h7.1 8 8), h7.2) (fun h8 => hw (mm_hset h8.1 15 9 (h8.1 8 9), h8.2) (fun h9 => hw (mm_hset h9.1 15 10 (h9.1 8 10), h9.2) (fun h10 => some h10))))))))))
theorem A_H_copyFrom_3 {h h' : MH} (hF : F_H_copyFrom_3 h = some h') : Ex 1 7 [.inr (.inl (some 15)), .inr (.inl (some 8))] h (none, h') := by
  unfold F_H_copyFrom_3 at hF
  refine ex_of (d := 0) rfl rfl ?_
  refine g_aload_n (q := 1) rfl rfl rfl ?_
  refine g_getR (q := 4) rfl (fun _ => rfl) rfl ?_
  refine g_iconst (q := 5) rfl rfl ?_
  refine g_aload_n (q := 6) rfl rfl rfl ?_
  refine g_getR (q := 9) rfl (fun _ => rfl) rfl ?_
  refine g_iconst (q := 10) rfl rfl ?_
  refine g_bipush (q := 12) rfl (by decide +kernel) rfl ?_
  refine g_copy (q := 15) rfl rfl rfl (by decide +kernel) rfl ?_
  obtain ⟨h1, e_h1, hF⟩ := hw_I hF
  rw [← e_h1]
  refine g_aload_n (q := 16) rfl rfl rfl ?_
  refine g_getR (q := 19) rfl (fun _ => rfl) rfl ?_
  refine g_iconst (q := 20) rfl rfl ?_
  refine g_aload_n (q := 21) rfl rfl rfl ?_
  refine g_getR (q := 24) rfl (fun _ => rfl) rfl ?_
  refine g_iconst (q := 25) rfl rfl ?_
  refine g_bipush (q := 27) rfl (by decide +kernel) rfl ?_
  refine g_copy (q := 30) rfl rfl rfl (by decide +kernel) rfl ?_
  obtain ⟨h2, e_h2, hF⟩ := hw_I hF
  rw [← e_h2]
  refine g_aload_n (q := 31) rfl rfl rfl ?_
  refine g_getR (q := 34) rfl (fun _ => rfl) rfl ?_
  refine g_iconst (q := 35) rfl rfl ?_
  refine g_aload_n (q := 36) rfl rfl rfl ?_
  refine g_getR (q := 39) rfl (fun _ => rfl) rfl ?_
  refine g_iconst (q := 40) rfl rfl ?_
  refine g_iconst (q := 41) rfl rfl ?_
  refine g_copy (q := 44) rfl rfl rfl (by decide +kernel) rfl ?_
  obtain ⟨h3, e_h3, hF⟩ := hw_I hF
  rw [← e_h3]
  refine g_aload_n (q := 45) rfl rfl rfl ?_
  refine g_getR (q := 48) rfl (fun _ => rfl) rfl ?_
  refine g_iconst (q := 49) rfl rfl ?_
  refine g_aload_n (q := 50) rfl rfl rfl ?_
  refine g_getR (q := 53) rfl (fun _ => rfl) rfl ?_
  refine g_iconst (q := 54) rfl rfl ?_
  refine g_iconst (q := 55) rfl rfl ?_
  refine g_copy (q := 58) rfl rfl rfl (by decide +kernel) rfl ?_
  obtain ⟨h4, e_h4, hF⟩ := hw_I hF
  rw [← e_h4]
  refine g_aload_n (q := 59) rfl rfl rfl ?_
  refine g_getR (q := 62) rfl (fun _ => rfl) rfl ?_
  refine g_iconst (q := 63) rfl rfl ?_
  refine g_aload_n (q := 64) rfl rfl rfl ?_
  refine g_getR (q := 67) rfl (fun _ => rfl) rfl ?_
  refine g_iconst (q := 68) rfl rfl ?_
  refine g_bipush (q := 70) rfl (by decide +kernel) rfl ?_
  refine g_copy (q := 73) rfl rfl rfl (by decide +kernel) rfl ?_
  obtain ⟨h5, e_h5, hF⟩ := hw_I hF
  rw [← e_h5]
  refine g_aload_n (q := 74) rfl rfl rfl ?_
  refine g_getR (q := 77) rfl (fun _ => rfl) rfl ?_
  refine g_iconst (q := 78) rfl rfl ?_
  refine g_aload_n (q := 79) rfl rfl rfl ?_
  refine g_getR (q := 82) rfl (fun _ => rfl) rfl ?_
  refine g_iconst (q := 83) rfl rfl ?_
  refine g_bipush (q := 85) rfl (by decide +kernel) rfl ?_
  refine g_copy (q := 88) rfl rfl rfl (by decide +kernel) rfl ?_
  obtain ⟨h6, e_h6, hF⟩ := hw_I hF
  rw [← e_h6]
  refine g_aload_n (q := 89) rfl rfl rfl ?_
  refine g_aload_n (q := 90) rfl rfl rfl ?_
  refine g_getI (q := 93) rfl (fun _ => rfl) rfl ?_
  refine g_putI (q := 96) rfl (fun _ => rfl) rfl ?_
  obtain ⟨h7, e_h7, hF⟩ := hw_I hF
  rw [← e_h7]
  refine g_aload_n (q := 97) rfl rfl rfl ?_
  refine g_aload_n (q := 98) rfl rfl rfl ?_
  refine g_getI (q := 101) rfl (fun _ => rfl) rfl ?_
  refine g_putI (q := 104) rfl (fun _ => rfl) rfl ?_
  obtain ⟨h8, e_h8, hF⟩ := hw_I hF
  rw [← e_h8]
  refine g_aload_n (q := 105) rfl rfl rfl ?_
  refine g_aload_n (q := 106) rfl rfl rfl ?_
  refine g_getI (q := 109) rfl (fun _ => rfl) rfl ?_
  refine g_putI (q := 112) rfl (fun _ => rfl) rfl ?_
  obtain ⟨h9, e_h9, hF⟩ := hw_I hF
  rw [← e_h9]
  refine g_aload_n (q := 113) rfl rfl rfl ?_
  refine g_aload_n (q := 114) rfl rfl rfl ?_
  refine g_getI (q := 117) rfl (fun _ => rfl) rfl ?_
  refine g_putI (q := 120) rfl (fun _ => rfl) rfl ?_
  obtain ⟨h10, e_h10, hF⟩ := hw_I hF
  rw [← e_h10]
  injection hF with hF
  subst hF
  exact g_vret rfl
/-- BothCorners.image()I -/
def F_C_image (h : MH) : Option (Int32 × MH) := bd (F_H_copyFrom_3 h) (fun h1 => hw (mm_hset h1.1 0 10 (I 1), h1.2) (fun h2 => some (h2.1 8 7, h2)))
theorem A_C_image {h h' : MH} {v : Int32} (hF : F_C_image h = some (v, h')) : Ex 2 116 [.inr (.inl (some 0))] h (some (.inl v), h') := by
  unfold F_C_image at hF
  refine ex_of (d := 1) rfl rfl ?_
  refine g_aload_n (q := 1) rfl rfl rfl ?_
  refine g_getR (q := 4) rfl (fun _ => rfl) rfl ?_
  refine g_aload_n (q := 5) rfl rfl rfl ?_
  refine g_getR (q := 8) rfl (fun _ => rfl) rfl ?_
  obtain ⟨h1, hC, hF⟩ := bd_I hF
  refine g_cv2 (q := 11) rfl rfl (fun _ => rfl) rfl (A_H_copyFrom_3 hC) (by decide +kernel) rfl ?_
  refine g_aload_n (q := 12) rfl rfl rfl ?_
  refine g_iconst (q := 13) rfl rfl ?_
  refine g_putZ (q := 16) rfl (fun _ => rfl) (by decide +kernel) rfl ?_
  obtain ⟨h2, e_h2, hF⟩ := hw_I hF
  rw [← e_h2]
  refine g_aload_n (q := 17) rfl rfl rfl ?_
  refine g_getR (q := 20) rfl (fun _ => rfl) rfl ?_
  refine g_getI (q := 23) rfl (fun _ => rfl) rfl ?_
  injection hF with hF
  injection hF with hv hh
  subst hv
  subst hh
  exact g_iret rfl
