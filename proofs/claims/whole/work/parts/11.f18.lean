-- decompiled by wip/whole/dec.py: what a method does (F_), and that the mini machine does it (A_)
def L_M_worst_24 (x1 : Int32) : Nat → Int32 → Int32 → MH → Option (Int32 × MH)
  | 0, _, _, _ => none
  | n + 1, x2, x3, h => if (h.1 55 0) ≤ x3 then some (x2, h) else if (h.1 55 5) ≤ 0 then some (x2, h) else if x2 < 0 then L_M_worst_24 x1 n x3 (x3 + I 1) h else bd (F_M_bestTimeOf x3 x1 h) (fun (r5, h4) => bd (F_M_bestTimeOf x2 x1 h4) (fun (r7, h6) => iw (if r5 ≤ r7 then x2 else x3) (fun v8 => L_M_worst_24 x1 n v8 (x3 + I 1) h6)))
/-- BothCornersModel.worst(I)I -/
def F_M_worst (x1 : Int32) (h : MH) : Option (Int32 × MH) := hw (mm_hset h.1 55 10 (I 0), h.2) (fun h1 => bd (F_M_isOne x1 h1) (fun (r3, h2) => if ¬ r3 = 0 then bd (L_M_worst_24 x1 5000 (I (-9)) (I 0) h2) (fun (y14, h15) => some (y14, h15)) else bd (F_M_refuse (I (-1)) h2) (fun (r17, h16) => some (r17, h16))))
theorem A_L_M_worst_24 {x1 : Int32} {r : MRs} : ∀ (n : Nat) (x2 : Int32) (x3 : Int32) (h : MH) (x : Int32 × MH), L_M_worst_24 x1 n x2 x3 h = some x → (True) → (∀ (e2 : Int32) (h' : MH), x = (e2, h') → Go 6 245 70 (mm_lf [(2, .inl e2)]) [] h' r) → Go 6 245 24 (mm_lf [(0, .inr (.inl (some 55))), (1, .inl x1), (2, .inl x2), (3, .inl x3)]) [] h r
  | 0, _, _, _, _, hF, _, _ => by cases hF
  | n + 1, x2, x3, h, x, hF, KR, KX => by
    have ih := fun a2 a3 => A_L_M_worst_24 (x1 := x1) (r := r) n a2 a3 
    unfold L_M_worst_24 at hF
    refine g_iload_n (q := 25) rfl rfl rfl ?_
    refine g_aload_n (q := 26) rfl rfl rfl ?_
    refine g_getI (q := 29) rfl (fun _ => rfl) rfl ?_
    by_cases c13 : (h.1 55 0) ≤ x3
    · rw [if_pos c13] at hF
      refine g_icmpT rfl (decide_eq_true c13) ?_
      injection hF with hF
      subst hF
      exact go_sub (mm_subc rfl mm_sub0) (KX _ _ rfl)
    · rw [if_neg c13] at hF
      refine g_icmpF (q := 32) rfl (decide_eq_false c13) rfl ?_
      refine g_aload_n (q := 33) rfl rfl rfl ?_
      refine g_getI (q := 36) rfl (fun _ => rfl) rfl ?_
      by_cases c12 : (h.1 55 5) ≤ 0
      · rw [if_pos c12] at hF
        refine g_ifT rfl (decide_eq_true c12) ?_
        injection hF with hF
        subst hF
        exact go_sub (mm_subc rfl mm_sub0) (KX _ _ rfl)
      · rw [if_neg c12] at hF
        refine g_ifF (q := 39) rfl (decide_eq_false c12) rfl ?_
        refine g_iload_n (q := 40) rfl rfl rfl ?_
        by_cases c11 : x2 < 0
        · rw [if_pos c11] at hF
          refine g_ifT rfl (decide_eq_true c11) ?_
          refine g_iload_n (q := 59) rfl rfl rfl ?_
          refine g_goto rfl ?_
          refine g_istore_n (q := 64) rfl rfl ?_
          refine g_iinc (q := 67) rfl rfl rfl ?_
          refine g_goto rfl ?_
          refine go_sub (lo' := mm_lf [(0, .inr (.inl (some 55))), (1, .inl x1), (2, .inl x3), (3, .inl (x3 + I 1))]) (mm_subc rfl (mm_subc rfl (mm_subc rfl (mm_subc rfl mm_sub0)))) ?_
          exact ih _ _ _ _ hF KR KX
        · rw [if_neg c11] at hF
          refine g_ifF (q := 43) rfl (decide_eq_false c11) rfl ?_
          refine g_aload_n (q := 44) rfl rfl rfl ?_
          refine g_iload_n (q := 45) rfl rfl rfl ?_
          refine g_iload_n (q := 46) rfl rfl rfl ?_
          obtain ⟨⟨r5, h4⟩, hC, hF⟩ := bd_I hF
          dsimp only at hF
          refine g_ci3 (q := 49) rfl rfl (fun _ => rfl) rfl (A_M_bestTimeOf hC) (by decide +kernel) rfl ?_
          refine g_aload_n (q := 50) rfl rfl rfl ?_
          refine g_iload_n (q := 51) rfl rfl rfl ?_
          refine g_iload_n (q := 52) rfl rfl rfl ?_
          obtain ⟨⟨r7, h6⟩, hC, hF⟩ := bd_I hF
          dsimp only at hF
          refine g_ci3 (q := 55) rfl rfl (fun _ => rfl) rfl (A_M_bestTimeOf hC) (by decide +kernel) rfl ?_
          obtain ⟨v8, e_v8, hF⟩ := iw_I hF
          suffices K9 : Go 6 245 63 (mm_lf [(0, .inr (.inl (some 55))), (1, .inl x1), (3, .inl x3)]) [.inl v8] h6 r by
            clear hF
            by_cases c10 : r5 ≤ r7
            · simp only [if_pos c10] at e_v8
              subst e_v8
              refine g_icmpT rfl (decide_eq_true c10) ?_
              refine g_iload_n (q := 63) rfl rfl rfl ?_
              exact go_sub (mm_subc rfl (mm_subc rfl (mm_subc rfl mm_sub0))) K9
            · simp only [if_neg c10] at e_v8
              subst e_v8
              refine g_icmpF (q := 58) rfl (decide_eq_false c10) rfl ?_
              refine g_iload_n (q := 59) rfl rfl rfl ?_
              refine g_goto rfl ?_
              exact go_sub (mm_subc rfl (mm_subc rfl (mm_subc rfl mm_sub0))) K9
          clear e_v8
          refine g_istore_n (q := 64) rfl rfl ?_
          refine g_iinc (q := 67) rfl rfl rfl ?_
          refine g_goto rfl ?_
          refine go_sub (lo' := mm_lf [(0, .inr (.inl (some 55))), (1, .inl x1), (2, .inl v8), (3, .inl (x3 + I 1))]) (mm_subc rfl (mm_subc rfl (mm_subc rfl (mm_subc rfl mm_sub0)))) ?_
          exact ih _ _ _ _ hF KR KX
theorem A_M_worst {x1 : Int32} {h h' : MH} {v : Int32} (hF : F_M_worst x1 h = some (v, h')) : Ex 7 245 [.inr (.inl (some 55)), .inl x1] h (some (.inl v), h') := by
  unfold F_M_worst at hF
  refine ex_of (d := 6) rfl rfl ?_
  refine g_aload_n (q := 1) rfl rfl rfl ?_
  refine g_iconst (q := 2) rfl rfl ?_
  refine g_putI (q := 5) rfl (fun _ => rfl) rfl ?_
  obtain ⟨h1, e_h1, hF⟩ := hw_I hF
  rw [← e_h1]
  refine g_aload_n (q := 6) rfl rfl rfl ?_
  refine g_iload_n (q := 7) rfl rfl rfl ?_
  obtain ⟨⟨r3, h2⟩, hC, hF⟩ := bd_I hF
  dsimp only at hF
  refine g_ci2 (q := 10) rfl rfl (fun _ => rfl) rfl (A_M_isOne hC) (by decide +kernel) rfl ?_
  by_cases c18 : ¬ r3 = 0
  · rw [if_pos c18] at hF
    refine g_ifT rfl (decide_eq_true c18) ?_
    refine g_bipush (q := 21) rfl (by decide +kernel) rfl ?_
    refine g_istore_n (q := 22) rfl rfl ?_
    refine g_iconst (q := 23) rfl rfl ?_
    refine g_istore_n (q := 24) rfl rfl ?_
    refine go_sub (lo' := mm_lf [(0, .inr (.inl (some 55))), (1, .inl x1), (2, .inl (I (-9))), (3, .inl (I 0))]) (mm_subc rfl (mm_subc rfl (mm_subc rfl (mm_subc rfl mm_sub0)))) ?_
    obtain ⟨⟨y14, h15⟩, hC, hF⟩ := bd_I hF
    dsimp only at hF
    refine A_L_M_worst_24 5000 _ _ _ _ hC trivial ?_
    intro _ _ e2
    cases e2
    refine g_iload_n (q := 71) rfl rfl rfl ?_
    injection hF with hF
    injection hF with hv hh
    subst hv
    subst hh
    exact g_iret rfl
  · rw [if_neg c18] at hF
    refine g_ifF (q := 13) rfl (decide_eq_false c18) rfl ?_
    refine g_aload_n (q := 14) rfl rfl rfl ?_
    refine g_iconst (q := 15) rfl rfl ?_
    obtain ⟨⟨r17, h16⟩, hC, hF⟩ := bd_I hF
    dsimp only at hF
    refine g_ci2 (q := 18) rfl rfl (fun _ => rfl) rfl (A_M_refuse hC) (by decide +kernel) rfl ?_
    injection hF with hF
    injection hF with hv hh
    subst hv
    subst hh
    exact g_iret rfl
def L_M_swap_55 (x1 : Int32) (x4 : Int32) : Nat → Int32 → Int32 → Int32 → MH → Option (Int32 × Int32 × MH)
  | 0, _, _, _, _ => none
  | n + 1, x2, x3, x5, h => if (h.1 55 0) ≤ x5 then some (x2, x3, h) else bd (F_M_layOrder (I 0) (h.1 55 0) h) (fun h7 => ck (mm_in x4 6) (hw (mm_hset h7.1 72 (Int32.toNatClampNeg x4) x5, h7.2) (fun h8 => ck (mm_in x5 6) (hw (mm_hset h8.1 72 (Int32.toNatClampNeg x5) x4, h8.2) (fun h9 => bd (F_M_foldsByOrder x1 h9) (fun (r11, h10) => iw (if x2 ≤ r11 then x3 else ((I 10) * x4) + x5) (fun v12 => iw (if x2 ≤ r11 then x2 else r11) (fun v14 => L_M_swap_55 x1 x4 n v14 v12 (x5 + I 1) h10))))))))
def L_M_swap_40 (x1 : Int32) : Nat → Int32 → Int32 → Int32 → MH → Option (Int32 × MH)
  | 0, _, _, _, _ => none
  | n + 1, x2, x3, x4, h => if (h.1 55 0) ≤ x4 then some (x3, h) else bd (L_M_swap_55 x1 x4 5000 x2 x3 (x4 + (I 1)) h) (fun (y19, y20, h21) => L_M_swap_40 x1 n y19 y20 (x4 + I 1) h21)
/-- BothCornersModel.swap(I)I -/
def F_M_swap (x1 : Int32) (h : MH) : Option (Int32 × MH) := hw (mm_hset h.1 55 10 (I 0), h.2) (fun h1 => bd (F_M_isWay x1 h1) (fun (r3, h2) => if ¬ r3 = 0 then bd (F_M_layOrder (I 0) (h2.1 55 0) h2) (fun h4 => bd (F_M_foldsByOrder x1 h4) (fun (r6, h5) => bd (L_M_swap_40 x1 5000 r6 (I (-9)) (I 0) h5) (fun (y23, h24) => some (y23, h24)))) else bd (F_M_refuse (I (-1)) h2) (fun (r26, h25) => some (r26, h25))))
theorem A_L_M_swap_55 {x1 : Int32} {x4 : Int32} {r : MRs} : ∀ (n : Nat) (x2 : Int32) (x3 : Int32) (x5 : Int32) (h : MH) (x : Int32 × Int32 × MH), L_M_swap_55 x1 x4 n x2 x3 x5 h = some x → (True) → (∀ (e2 : Int32) (e3 : Int32) (h' : MH), x = (e2, e3, h') → Go 3 246 136 (mm_lf [(0, .inr (.inl (some 55))), (1, .inl x1), (2, .inl e2), (3, .inl e3), (4, .inl x4)]) [] h' r) → Go 3 246 55 (mm_lf [(0, .inr (.inl (some 55))), (1, .inl x1), (2, .inl x2), (3, .inl x3), (4, .inl x4), (5, .inl x5)]) [] h r
  | 0, _, _, _, _, _, hF, _, _ => by cases hF
  | n + 1, x2, x3, x5, h, x, hF, KR, KX => by
    have ih := fun a2 a3 a5 => A_L_M_swap_55 (x1 := x1) (x4 := x4) (r := r) n a2 a3 a5 
    unfold L_M_swap_55 at hF
    refine g_iload (q := 57) rfl rfl rfl ?_
    refine g_aload_n (q := 58) rfl rfl rfl ?_
    refine g_getI (q := 61) rfl (fun _ => rfl) rfl ?_
    by_cases c18 : (h.1 55 0) ≤ x5
    · rw [if_pos c18] at hF
      refine g_icmpT rfl (decide_eq_true c18) ?_
      injection hF with hF
      subst hF
      exact go_sub (mm_subc rfl (mm_subc rfl (mm_subc rfl (mm_subc rfl (mm_subc rfl mm_sub0))))) (KX _ _ _ rfl)
    · rw [if_neg c18] at hF
      refine g_icmpF (q := 64) rfl (decide_eq_false c18) rfl ?_
      refine g_aload_n (q := 65) rfl rfl rfl ?_
      refine g_iconst (q := 66) rfl rfl ?_
      refine g_aload_n (q := 67) rfl rfl rfl ?_
      refine g_getI (q := 70) rfl (fun _ => rfl) rfl ?_
      obtain ⟨h7, hC, hF⟩ := bd_I hF
      refine g_cv3 (q := 73) rfl rfl (fun _ => rfl) rfl (A_M_layOrder hC) (by decide +kernel) rfl ?_
      refine g_aload_n (q := 74) rfl rfl rfl ?_
      refine g_getR (q := 77) rfl (fun _ => rfl) rfl ?_
      refine g_iload (q := 79) rfl rfl rfl ?_
      refine g_iload (q := 81) rfl rfl rfl ?_
      obtain ⟨hi, hF⟩ := ck_I hF
      refine g_iastore (q := 82) rfl rfl rfl hi rfl ?_
      obtain ⟨h8, e_h8, hF⟩ := hw_I hF
      rw [← e_h8]
      refine g_aload_n (q := 83) rfl rfl rfl ?_
      refine g_getR (q := 86) rfl (fun _ => rfl) rfl ?_
      refine g_iload (q := 88) rfl rfl rfl ?_
      refine g_iload (q := 90) rfl rfl rfl ?_
      obtain ⟨hi, hF⟩ := ck_I hF
      refine g_iastore (q := 91) rfl rfl rfl hi rfl ?_
      obtain ⟨h9, e_h9, hF⟩ := hw_I hF
      rw [← e_h9]
      refine g_aload_n (q := 92) rfl rfl rfl ?_
      refine g_iload_n (q := 93) rfl rfl rfl ?_
      obtain ⟨⟨r11, h10⟩, hC, hF⟩ := bd_I hF
      dsimp only at hF
      refine g_ci2 (q := 96) rfl rfl (fun _ => rfl) rfl (A_M_foldsByOrder hC) (by decide +kernel) rfl ?_
      refine g_istore (q := 98) rfl rfl ?_
      refine g_iload (q := 100) rfl rfl rfl ?_
      refine g_iload_n (q := 101) rfl rfl rfl ?_
      obtain ⟨v12, e_v12, hF⟩ := iw_I hF
      suffices K13 : Go 3 246 116 (mm_lf [(0, .inr (.inl (some 55))), (1, .inl x1), (2, .inl x2), (4, .inl x4), (5, .inl x5), (6, .inl r11)]) [.inl v12] h10 r by
        clear hF
        by_cases c17 : x2 ≤ r11
        · simp only [if_pos c17] at e_v12
          subst e_v12
          refine g_icmpT rfl (decide_eq_true c17) ?_
          refine g_iload_n (q := 116) rfl rfl rfl ?_
          exact go_sub (mm_subc rfl (mm_subc rfl (mm_subc rfl (mm_subc rfl (mm_subc rfl (mm_subc rfl mm_sub0)))))) K13
        · simp only [if_neg c17] at e_v12
          subst e_v12
          refine g_icmpF (q := 104) rfl (decide_eq_false c17) rfl ?_
          refine g_bipush (q := 106) rfl (by decide +kernel) rfl ?_
          refine g_iload (q := 108) rfl rfl rfl ?_
          refine g_imul (q := 109) rfl rfl ?_
          refine g_iload (q := 111) rfl rfl rfl ?_
          refine g_iadd (q := 112) rfl rfl ?_
          refine g_goto rfl ?_
          exact go_sub (mm_subc rfl (mm_subc rfl (mm_subc rfl (mm_subc rfl (mm_subc rfl (mm_subc rfl mm_sub0)))))) K13
      clear e_v12
      refine g_istore_n (q := 117) rfl rfl ?_
      refine g_iload (q := 119) rfl rfl rfl ?_
      refine g_iload_n (q := 120) rfl rfl rfl ?_
      obtain ⟨v14, e_v14, hF⟩ := iw_I hF
      suffices K15 : Go 3 246 129 (mm_lf [(0, .inr (.inl (some 55))), (1, .inl x1), (3, .inl v12), (4, .inl x4), (5, .inl x5)]) [.inl v14] h10 r by
        clear hF
        by_cases c16 : x2 ≤ r11
        · simp only [if_pos c16] at e_v14
          subst e_v14
          refine g_icmpT rfl (decide_eq_true c16) ?_
          refine g_iload_n (q := 129) rfl rfl rfl ?_
          exact go_sub (mm_subc rfl (mm_subc rfl (mm_subc rfl (mm_subc rfl (mm_subc rfl mm_sub0))))) K15
        · simp only [if_neg c16] at e_v14
          subst e_v14
          refine g_icmpF (q := 123) rfl (decide_eq_false c16) rfl ?_
          refine g_iload (q := 125) rfl rfl rfl ?_
          refine g_goto rfl ?_
          exact go_sub (mm_subc rfl (mm_subc rfl (mm_subc rfl (mm_subc rfl (mm_subc rfl mm_sub0))))) K15
      clear e_v14
      refine g_istore_n (q := 130) rfl rfl ?_
      refine g_iinc (q := 133) rfl rfl rfl ?_
      refine g_goto rfl ?_
      refine go_sub (lo' := mm_lf [(0, .inr (.inl (some 55))), (1, .inl x1), (2, .inl v14), (3, .inl v12), (4, .inl x4), (5, .inl (x5 + I 1))]) (mm_subc rfl (mm_subc rfl (mm_subc rfl (mm_subc rfl (mm_subc rfl (mm_subc rfl mm_sub0)))))) ?_
      exact ih _ _ _ _ _ hF KR KX
theorem A_L_M_swap_40 {x1 : Int32} {r : MRs} : ∀ (n : Nat) (x2 : Int32) (x3 : Int32) (x4 : Int32) (h : MH) (x : Int32 × MH), L_M_swap_40 x1 n x2 x3 x4 h = some x → (True) → (∀ (e3 : Int32) (h' : MH), x = (e3, h') → Go 3 246 142 (mm_lf [(3, .inl e3)]) [] h' r) → Go 3 246 40 (mm_lf [(0, .inr (.inl (some 55))), (1, .inl x1), (2, .inl x2), (3, .inl x3), (4, .inl x4)]) [] h r
  | 0, _, _, _, _, _, hF, _, _ => by cases hF
  | n + 1, x2, x3, x4, h, x, hF, KR, KX => by
    have ih := fun a2 a3 a4 => A_L_M_swap_40 (x1 := x1) (r := r) n a2 a3 a4 
    unfold L_M_swap_40 at hF
    refine g_iload (q := 42) rfl rfl rfl ?_
    refine g_aload_n (q := 43) rfl rfl rfl ?_
    refine g_getI (q := 46) rfl (fun _ => rfl) rfl ?_
    by_cases c22 : (h.1 55 0) ≤ x4
    · rw [if_pos c22] at hF
      refine g_icmpT rfl (decide_eq_true c22) ?_
      injection hF with hF
      subst hF
      exact go_sub (mm_subc rfl mm_sub0) (KX _ _ rfl)
    · rw [if_neg c22] at hF
      refine g_icmpF (q := 49) rfl (decide_eq_false c22) rfl ?_
      refine g_iload (q := 51) rfl rfl rfl ?_
      refine g_iconst (q := 52) rfl rfl ?_
      refine g_iadd (q := 53) rfl rfl ?_
      refine g_istore (q := 55) rfl rfl ?_
      refine go_sub (lo' := mm_lf [(0, .inr (.inl (some 55))), (1, .inl x1), (2, .inl x2), (3, .inl x3), (4, .inl x4), (5, .inl (x4 + (I 1)))]) (mm_subc rfl (mm_subc rfl (mm_subc rfl (mm_subc rfl (mm_subc rfl (mm_subc rfl mm_sub0)))))) ?_
      obtain ⟨⟨y19, y20, h21⟩, hC, hF⟩ := bd_I hF
      dsimp only at hF
      refine A_L_M_swap_55 5000 _ _ _ _ _ hC trivial ?_
      intro _ _ _ e2
      cases e2
      refine g_iinc (q := 139) rfl rfl rfl ?_
      refine g_goto rfl ?_
      refine go_sub (lo' := mm_lf [(0, .inr (.inl (some 55))), (1, .inl x1), (2, .inl y19), (3, .inl y20), (4, .inl (x4 + I 1))]) (mm_subc rfl (mm_subc rfl (mm_subc rfl (mm_subc rfl (mm_subc rfl mm_sub0))))) ?_
      exact ih _ _ _ _ _ hF KR KX
theorem A_M_swap {x1 : Int32} {h h' : MH} {v : Int32} (hF : F_M_swap x1 h = some (v, h')) : Ex 4 246 [.inr (.inl (some 55)), .inl x1] h (some (.inl v), h') := by
  unfold F_M_swap at hF
  refine ex_of (d := 3) rfl rfl ?_
  refine g_aload_n (q := 1) rfl rfl rfl ?_
  refine g_iconst (q := 2) rfl rfl ?_
  refine g_putI (q := 5) rfl (fun _ => rfl) rfl ?_
  obtain ⟨h1, e_h1, hF⟩ := hw_I hF
  rw [← e_h1]
  refine g_aload_n (q := 6) rfl rfl rfl ?_
  refine g_iload_n (q := 7) rfl rfl rfl ?_
  obtain ⟨⟨r3, h2⟩, hC, hF⟩ := bd_I hF
  dsimp only at hF
  refine g_ci2 (q := 10) rfl rfl (fun _ => rfl) rfl (A_M_isWay hC) (by decide +kernel) rfl ?_
  by_cases c27 : ¬ r3 = 0
  · rw [if_pos c27] at hF
    refine g_ifT rfl (decide_eq_true c27) ?_
    refine g_aload_n (q := 20) rfl rfl rfl ?_
    refine g_iconst (q := 21) rfl rfl ?_
    refine g_aload_n (q := 22) rfl rfl rfl ?_
    refine g_getI (q := 25) rfl (fun _ => rfl) rfl ?_
    obtain ⟨h4, hC, hF⟩ := bd_I hF
    refine g_cv3 (q := 28) rfl rfl (fun _ => rfl) rfl (A_M_layOrder hC) (by decide +kernel) rfl ?_
    refine g_aload_n (q := 29) rfl rfl rfl ?_
    refine g_iload_n (q := 30) rfl rfl rfl ?_
    obtain ⟨⟨r6, h5⟩, hC, hF⟩ := bd_I hF
    dsimp only at hF
    refine g_ci2 (q := 33) rfl rfl (fun _ => rfl) rfl (A_M_foldsByOrder hC) (by decide +kernel) rfl ?_
    refine g_istore_n (q := 34) rfl rfl ?_
    refine g_bipush (q := 36) rfl (by decide +kernel) rfl ?_
    refine g_istore_n (q := 37) rfl rfl ?_
    refine g_iconst (q := 38) rfl rfl ?_
    refine g_istore (q := 40) rfl rfl ?_
    refine go_sub (lo' := mm_lf [(0, .inr (.inl (some 55))), (1, .inl x1), (2, .inl r6), (3, .inl (I (-9))), (4, .inl (I 0))]) (mm_subc rfl (mm_subc rfl (mm_subc rfl (mm_subc rfl (mm_subc rfl mm_sub0))))) ?_
    obtain ⟨⟨y23, h24⟩, hC, hF⟩ := bd_I hF
    dsimp only at hF
    refine A_L_M_swap_40 5000 _ _ _ _ _ hC trivial ?_
    intro _ _ e2
    cases e2
    refine g_iload_n (q := 143) rfl rfl rfl ?_
    injection hF with hF
    injection hF with hv hh
    subst hv
    subst hh
    exact g_iret rfl
  · rw [if_neg c27] at hF
    refine g_ifF (q := 13) rfl (decide_eq_false c27) rfl ?_
    refine g_aload_n (q := 14) rfl rfl rfl ?_
    refine g_iconst (q := 15) rfl rfl ?_
    obtain ⟨⟨r26, h25⟩, hC, hF⟩ := bd_I hF
    dsimp only at hF
    refine g_ci2 (q := 18) rfl rfl (fun _ => rfl) rfl (A_M_refuse hC) (by decide +kernel) rfl ?_
    injection hF with hF
    injection hF with hv hh
    subst hv
    subst hh
    exact g_iret rfl
def L_M_rather_65 (x1 : Int32) (x2 : Int32) (x3 : Int32) (x4 : Int32) : Nat → Int32 → Int32 → MH → Option (Int32 × MH)
  | 0, _, _, _ => none
  | n + 1, x6, x7, h => if (h.1 55 0) ≤ x7 then some (x6, h) else bd (F_M_timeOf x7 x1 x3 h) (fun (r8, h7) => bd (F_M_timeOf x7 x2 x3 h7) (fun (r10, h9) => iw (if ¬ x4 = 0 then (if ¬ x4 = (I 1) then I 0 else (if ¬ (r8 - r10) = 0 then I 0 else I 1)) else (if (r8 - r10) < 0 then I 1 else (if ¬ x4 = (I 1) then I 0 else (if ¬ (r8 - r10) = 0 then I 0 else I 1)))) (fun v11 => L_M_rather_65 x1 x2 x3 x4 n (x6 + v11) (x7 + I 1) h9)))
/-- BothCornersModel.rather(IIII)I -/
def F_M_rather (x1 : Int32) (x2 : Int32) (x3 : Int32) (x4 : Int32) (h : MH) : Option (Int32 × MH) := hw (mm_hset h.1 55 10 (I 0), h.2) (fun h1 => bd (F_M_isWay x1 h1) (fun (r3, h2) => kw (fun (z4 : Int32) (h5 : MH) => if 0 ≤ z4 then bd (L_M_rather_65 x1 x2 x3 x4 5000 (I 0) (I 0) h5) (fun (y20, h21) => some (y20, h21)) else bd (F_M_refuse z4 h5) (fun (r23, h22) => some (r23, h22))) (fun k6 => if r3 = 0 then k6 (I (-1)) h2 else bd (F_M_isWay x2 h2) (fun (r27, h26) => if r27 = 0 then k6 (I (-1)) h26 else if x1 = x2 then k6 (I (-1)) h26 else bd (F_M_isOne x3 h26) (fun (r29, h28) => if r29 = 0 then k6 (I (-1)) h28 else bd (F_M_wrongBit (I 0) x4 (I 1) h28) (fun (r31, h30) => k6 r31 h30))))))
theorem A_L_M_rather_65 {x1 : Int32} {x2 : Int32} {x3 : Int32} {x4 : Int32} {r : MRs} : ∀ (n : Nat) (x6 : Int32) (x7 : Int32) (h : MH) (x : Int32 × MH), L_M_rather_65 x1 x2 x3 x4 n x6 x7 h = some x → (True) → (∀ (e6 : Int32) (h' : MH), x = (e6, h') → Go 4 247 130 (mm_lf [(6, .inl e6)]) [] h' r) → Go 4 247 65 (mm_lf [(0, .inr (.inl (some 55))), (1, .inl x1), (2, .inl x2), (3, .inl x3), (4, .inl x4), (6, .inl x6), (7, .inl x7)]) [] h r
  | 0, _, _, _, _, hF, _, _ => by cases hF
  | n + 1, x6, x7, h, x, hF, KR, KX => by
    have ih := fun a6 a7 => A_L_M_rather_65 (x1 := x1) (x2 := x2) (x3 := x3) (x4 := x4) (r := r) n a6 a7 
    unfold L_M_rather_65 at hF
    refine g_iload (q := 67) rfl rfl rfl ?_
    refine g_aload_n (q := 68) rfl rfl rfl ?_
    refine g_getI (q := 71) rfl (fun _ => rfl) rfl ?_
    by_cases c19 : (h.1 55 0) ≤ x7
    · rw [if_pos c19] at hF
      refine g_icmpT rfl (decide_eq_true c19) ?_
      injection hF with hF
      subst hF
      exact go_sub (mm_subc rfl mm_sub0) (KX _ _ rfl)
    · rw [if_neg c19] at hF
      refine g_icmpF (q := 74) rfl (decide_eq_false c19) rfl ?_
      refine g_aload_n (q := 75) rfl rfl rfl ?_
      refine g_iload (q := 77) rfl rfl rfl ?_
      refine g_iload_n (q := 78) rfl rfl rfl ?_
      refine g_iload_n (q := 79) rfl rfl rfl ?_
      obtain ⟨⟨r8, h7⟩, hC, hF⟩ := bd_I hF
      dsimp only at hF
      refine g_ci4 (q := 82) rfl rfl (fun _ => rfl) rfl (A_M_timeOf hC) (by decide +kernel) rfl ?_
      refine g_aload_n (q := 83) rfl rfl rfl ?_
      refine g_iload (q := 85) rfl rfl rfl ?_
      refine g_iload_n (q := 86) rfl rfl rfl ?_
      refine g_iload_n (q := 87) rfl rfl rfl ?_
      obtain ⟨⟨r10, h9⟩, hC, hF⟩ := bd_I hF
      dsimp only at hF
      refine g_ci4 (q := 90) rfl rfl (fun _ => rfl) rfl (A_M_timeOf hC) (by decide +kernel) rfl ?_
      refine g_isub (q := 91) rfl rfl ?_
      refine g_istore (q := 93) rfl rfl ?_
      refine g_iload (q := 95) rfl rfl rfl ?_
      refine g_iload (q := 97) rfl rfl rfl ?_
      obtain ⟨v11, e_v11, hF⟩ := iw_I hF
      suffices K12 : Go 4 247 121 (mm_lf [(0, .inr (.inl (some 55))), (1, .inl x1), (2, .inl x2), (3, .inl x3), (4, .inl x4), (7, .inl x7)]) [.inl v11, .inl x6] h9 r by
        clear hF
        by_cases c13 : ¬ x4 = 0
        · simp only [if_pos c13] at e_v11
          refine g_ifT rfl (decide_eq_true c13) ?_
          refine g_iload (q := 107) rfl rfl rfl ?_
          refine g_iconst (q := 108) rfl rfl ?_
          by_cases c14 : ¬ x4 = (I 1)
          · simp only [if_pos c14] at e_v11
            subst e_v11
            refine g_icmpT rfl (decide_eq_true c14) ?_
            refine g_iconst (q := 121) rfl rfl ?_
            exact go_sub (mm_subc rfl (mm_subc rfl (mm_subc rfl (mm_subc rfl (mm_subc rfl (mm_subc rfl mm_sub0)))))) K12
          · simp only [if_neg c14] at e_v11
            refine g_icmpF (q := 111) rfl (decide_eq_false c14) rfl ?_
            refine g_iload (q := 113) rfl rfl rfl ?_
            by_cases c15 : ¬ (r8 - r10) = 0
            · simp only [if_pos c15] at e_v11
              subst e_v11
              refine g_ifT rfl (decide_eq_true c15) ?_
              refine g_iconst (q := 121) rfl rfl ?_
              exact go_sub (mm_subc rfl (mm_subc rfl (mm_subc rfl (mm_subc rfl (mm_subc rfl (mm_subc rfl mm_sub0)))))) K12
            · simp only [if_neg c15] at e_v11
              subst e_v11
              refine g_ifF (q := 116) rfl (decide_eq_false c15) rfl ?_
              refine g_iconst (q := 117) rfl rfl ?_
              refine g_goto rfl ?_
              exact go_sub (mm_subc rfl (mm_subc rfl (mm_subc rfl (mm_subc rfl (mm_subc rfl (mm_subc rfl mm_sub0)))))) K12
        · simp only [if_neg c13] at e_v11
          refine g_ifF (q := 100) rfl (decide_eq_false c13) rfl ?_
          refine g_iload (q := 102) rfl rfl rfl ?_
          by_cases c16 : (r8 - r10) < 0
          · simp only [if_pos c16] at e_v11
            subst e_v11
            refine g_ifT rfl (decide_eq_true c16) ?_
            refine g_iconst (q := 117) rfl rfl ?_
            refine g_goto rfl ?_
            exact go_sub (mm_subc rfl (mm_subc rfl (mm_subc rfl (mm_subc rfl (mm_subc rfl (mm_subc rfl mm_sub0)))))) K12
          · simp only [if_neg c16] at e_v11
            refine g_ifF (q := 105) rfl (decide_eq_false c16) rfl ?_
            refine g_iload (q := 107) rfl rfl rfl ?_
            refine g_iconst (q := 108) rfl rfl ?_
            by_cases c17 : ¬ x4 = (I 1)
            · simp only [if_pos c17] at e_v11
              subst e_v11
              refine g_icmpT rfl (decide_eq_true c17) ?_
              refine g_iconst (q := 121) rfl rfl ?_
              exact go_sub (mm_subc rfl (mm_subc rfl (mm_subc rfl (mm_subc rfl (mm_subc rfl (mm_subc rfl mm_sub0)))))) K12
            · simp only [if_neg c17] at e_v11
              refine g_icmpF (q := 111) rfl (decide_eq_false c17) rfl ?_
              refine g_iload (q := 113) rfl rfl rfl ?_
              by_cases c18 : ¬ (r8 - r10) = 0
              · simp only [if_pos c18] at e_v11
                subst e_v11
                refine g_ifT rfl (decide_eq_true c18) ?_
                refine g_iconst (q := 121) rfl rfl ?_
                exact go_sub (mm_subc rfl (mm_subc rfl (mm_subc rfl (mm_subc rfl (mm_subc rfl (mm_subc rfl mm_sub0)))))) K12
              · simp only [if_neg c18] at e_v11
                subst e_v11
                refine g_ifF (q := 116) rfl (decide_eq_false c18) rfl ?_
                refine g_iconst (q := 117) rfl rfl ?_
                refine g_goto rfl ?_
                exact go_sub (mm_subc rfl (mm_subc rfl (mm_subc rfl (mm_subc rfl (mm_subc rfl (mm_subc rfl mm_sub0)))))) K12
      clear e_v11
      refine g_iadd (q := 122) rfl rfl ?_
      refine g_istore (q := 124) rfl rfl ?_
      refine g_iinc (q := 127) rfl rfl rfl ?_
      refine g_goto rfl ?_
      refine go_sub (lo' := mm_lf [(0, .inr (.inl (some 55))), (1, .inl x1), (2, .inl x2), (3, .inl x3), (4, .inl x4), (6, .inl (x6 + v11)), (7, .inl (x7 + I 1))]) (mm_subc rfl (mm_subc rfl (mm_subc rfl (mm_subc rfl (mm_subc rfl (mm_subc rfl (mm_subc rfl mm_sub0))))))) ?_
      exact ih _ _ _ _ hF KR KX
theorem A_M_rather {x1 : Int32} {x2 : Int32} {x3 : Int32} {x4 : Int32} {h h' : MH} {v : Int32} (hF : F_M_rather x1 x2 x3 x4 h = some (v, h')) : Ex 5 247 [.inr (.inl (some 55)), .inl x1, .inl x2, .inl x3, .inl x4] h (some (.inl v), h') := by
  unfold F_M_rather at hF
  refine ex_of (d := 4) rfl rfl ?_
  refine g_aload_n (q := 1) rfl rfl rfl ?_
  refine g_iconst (q := 2) rfl rfl ?_
  refine g_putI (q := 5) rfl (fun _ => rfl) rfl ?_
  obtain ⟨h1, e_h1, hF⟩ := hw_I hF
  rw [← e_h1]
  refine g_aload_n (q := 6) rfl rfl rfl ?_
  refine g_iload_n (q := 7) rfl rfl rfl ?_
  obtain ⟨⟨r3, h2⟩, hC, hF⟩ := bd_I hF
  dsimp only at hF
  refine g_ci2 (q := 10) rfl rfl (fun _ => rfl) rfl (A_M_isWay hC) (by decide +kernel) rfl ?_
  obtain ⟨k6, e_k6, hF⟩ := kw_I hF
  have K25 : ∀ (z4 : Int32) (h5 : MH), k6 z4 h5 = some (v, h') → Go 4 247 45 (mm_lf [(0, .inr (.inl (some 55))), (1, .inl x1), (2, .inl x2), (3, .inl x3), (4, .inl x4)]) [.inl z4] h5 (some (.inl v), h') := by
    intro z4 h5 hF
    rw [e_k6] at hF
    dsimp only at hF
    refine g_istore (q := 47) rfl rfl ?_
    refine g_iload (q := 49) rfl rfl rfl ?_
    by_cases c24 : 0 ≤ z4
    · rw [if_pos c24] at hF
      refine g_ifT rfl (decide_eq_true c24) ?_
      refine g_iconst (q := 60) rfl rfl ?_
      refine g_istore (q := 62) rfl rfl ?_
      refine g_iconst (q := 63) rfl rfl ?_
      refine g_istore (q := 65) rfl rfl ?_
      refine go_sub (lo' := mm_lf [(0, .inr (.inl (some 55))), (1, .inl x1), (2, .inl x2), (3, .inl x3), (4, .inl x4), (6, .inl (I 0)), (7, .inl (I 0))]) (mm_subc rfl (mm_subc rfl (mm_subc rfl (mm_subc rfl (mm_subc rfl (mm_subc rfl (mm_subc rfl mm_sub0))))))) ?_
      obtain ⟨⟨y20, h21⟩, hC, hF⟩ := bd_I hF
      dsimp only at hF
      refine A_L_M_rather_65 5000 _ _ _ _ hC trivial ?_
      intro _ _ e2
      cases e2
      refine g_iload (q := 132) rfl rfl rfl ?_
      injection hF with hF
      injection hF with hv hh
      subst hv
      subst hh
      exact g_iret rfl
    · rw [if_neg c24] at hF
      refine g_ifF (q := 52) rfl (decide_eq_false c24) rfl ?_
      refine g_aload_n (q := 53) rfl rfl rfl ?_
      refine g_iload (q := 55) rfl rfl rfl ?_
      obtain ⟨⟨r23, h22⟩, hC, hF⟩ := bd_I hF
      dsimp only at hF
      refine g_ci2 (q := 58) rfl rfl (fun _ => rfl) rfl (A_M_refuse hC) (by decide +kernel) rfl ?_
      injection hF with hF
      injection hF with hv hh
      subst hv
      subst hh
      exact g_iret rfl
  clear e_k6
  by_cases c35 : r3 = 0
  · rw [if_pos c35] at hF
    refine g_ifT rfl (decide_eq_true c35) ?_
    refine g_iconst (q := 45) rfl rfl ?_
    exact go_sub (mm_subc rfl (mm_subc rfl (mm_subc rfl (mm_subc rfl (mm_subc rfl mm_sub0))))) (K25 _ _ hF)
  · rw [if_neg c35] at hF
    refine g_ifF (q := 13) rfl (decide_eq_false c35) rfl ?_
    refine g_aload_n (q := 14) rfl rfl rfl ?_
    refine g_iload_n (q := 15) rfl rfl rfl ?_
    obtain ⟨⟨r27, h26⟩, hC, hF⟩ := bd_I hF
    dsimp only at hF
    refine g_ci2 (q := 18) rfl rfl (fun _ => rfl) rfl (A_M_isWay hC) (by decide +kernel) rfl ?_
    by_cases c34 : r27 = 0
    · rw [if_pos c34] at hF
      refine g_ifT rfl (decide_eq_true c34) ?_
      refine g_iconst (q := 45) rfl rfl ?_
      exact go_sub (mm_subc rfl (mm_subc rfl (mm_subc rfl (mm_subc rfl (mm_subc rfl mm_sub0))))) (K25 _ _ hF)
    · rw [if_neg c34] at hF
      refine g_ifF (q := 21) rfl (decide_eq_false c34) rfl ?_
      refine g_iload_n (q := 22) rfl rfl rfl ?_
      refine g_iload_n (q := 23) rfl rfl rfl ?_
      by_cases c33 : x1 = x2
      · rw [if_pos c33] at hF
        refine g_icmpT rfl (decide_eq_true c33) ?_
        refine g_iconst (q := 45) rfl rfl ?_
        exact go_sub (mm_subc rfl (mm_subc rfl (mm_subc rfl (mm_subc rfl (mm_subc rfl mm_sub0))))) (K25 _ _ hF)
      · rw [if_neg c33] at hF
        refine g_icmpF (q := 26) rfl (decide_eq_false c33) rfl ?_
        refine g_aload_n (q := 27) rfl rfl rfl ?_
        refine g_iload_n (q := 28) rfl rfl rfl ?_
        obtain ⟨⟨r29, h28⟩, hC, hF⟩ := bd_I hF
        dsimp only at hF
        refine g_ci2 (q := 31) rfl rfl (fun _ => rfl) rfl (A_M_isOne hC) (by decide +kernel) rfl ?_
        by_cases c32 : r29 = 0
        · rw [if_pos c32] at hF
          refine g_ifT rfl (decide_eq_true c32) ?_
          refine g_iconst (q := 45) rfl rfl ?_
          exact go_sub (mm_subc rfl (mm_subc rfl (mm_subc rfl (mm_subc rfl (mm_subc rfl mm_sub0))))) (K25 _ _ hF)
        · rw [if_neg c32] at hF
          refine g_ifF (q := 34) rfl (decide_eq_false c32) rfl ?_
          refine g_iconst (q := 35) rfl rfl ?_
          refine g_iload (q := 37) rfl rfl rfl ?_
          refine g_iconst (q := 38) rfl rfl ?_
          obtain ⟨⟨r31, h30⟩, hC, hF⟩ := bd_I hF
          dsimp only at hF
          refine g_ci3 (q := 41) rfl rfl (fun _ => rfl) rfl (A_M_wrongBit hC) (by decide +kernel) rfl ?_
          refine g_goto rfl ?_
          exact go_sub (mm_subc rfl (mm_subc rfl (mm_subc rfl (mm_subc rfl (mm_subc rfl mm_sub0))))) (K25 _ _ hF)
def L_M_teacher_69 (x1 : Int32) (x3 : Int32) (x4 : Int32) (x5 : Int32) : Nat → Int32 → Int32 → MH → Option (Int32 × MH)
  | 0, _, _, _ => none
  | n + 1, x6, x7, h => if (h.1 55 0) ≤ x7 then some (x6, h) else bd (F_M_bestTimeOf x7 x5 h) (fun (r8, h7) => L_M_teacher_69 x1 x3 x4 x5 n (x6 + r8) (x7 + I 1) h7)
def L_M_teacher_54 (x1 : Int32) : Nat → Int32 → Int32 → Int32 → MH → Option (Int32 × Int32 × MH)
  | 0, _, _, _, _ => none
  | n + 1, x3, x4, x5, h => if (h.1 55 2) ≤ x5 then some (x3, x4, h) else bd (L_M_teacher_69 x1 x3 x4 x5 5000 (I 0) (I 0) h) (fun (y10, h11) => iw (if x5 = 0 then x5 else (if x4 ≤ y10 then x3 else x5)) (fun v12 => iw (if x5 = 0 then y10 else (if x4 ≤ y10 then x4 else y10)) (fun v14 => L_M_teacher_54 x1 n v12 v14 (x5 + I 1) h11)))
/-- BothCornersModel.teacher(I)I -/
def F_M_teacher (x1 : Int32) (h : MH) : Option (Int32 × MH) := hw (mm_hset h.1 55 10 (I 0), h.2) (fun h1 => bd (F_M_in (Int32.toInt64 x1) (Lg 0) (Lg 1) h1) (fun (r3, h2) => kw (fun (z4 : Int32) (h5 : MH) => if 0 ≤ z4 then bd (L_M_teacher_54 x1 5000 (I (-9)) (I (-9)) (I 0) h5) (fun (y21, y22, h23) => iw (if ¬ x1 = 0 then y22 else y21) (fun v24 => some (v24, h23))) else bd (F_M_refuse z4 h5) (fun (r28, h27) => some (r28, h27))) (fun k6 => if ¬ r3 = 0 then if ¬ (h2.1 55 5) = 0 then k6 (I 0) h2 else k6 (I (-3)) h2 else k6 (I (-2)) h2)))
theorem A_L_M_teacher_69 {x1 : Int32} {x3 : Int32} {x4 : Int32} {x5 : Int32} {r : MRs} : ∀ (n : Nat) (x6 : Int32) (x7 : Int32) (h : MH) (x : Int32 × MH), L_M_teacher_69 x1 x3 x4 x5 n x6 x7 h = some x → (True) → (∀ (e6 : Int32) (h' : MH), x = (e6, h') → Go 6 248 97 (mm_lf [(0, .inr (.inl (some 55))), (1, .inl x1), (3, .inl x3), (4, .inl x4), (5, .inl x5), (6, .inl e6)]) [] h' r) → Go 6 248 69 (mm_lf [(0, .inr (.inl (some 55))), (1, .inl x1), (3, .inl x3), (4, .inl x4), (5, .inl x5), (6, .inl x6), (7, .inl x7)]) [] h r
  | 0, _, _, _, _, hF, _, _ => by cases hF
  | n + 1, x6, x7, h, x, hF, KR, KX => by
    have ih := fun a6 a7 => A_L_M_teacher_69 (x1 := x1) (x3 := x3) (x4 := x4) (x5 := x5) (r := r) n a6 a7 
    unfold L_M_teacher_69 at hF
    refine g_iload (q := 71) rfl rfl rfl ?_
    refine g_aload_n (q := 72) rfl rfl rfl ?_
    refine g_getI (q := 75) rfl (fun _ => rfl) rfl ?_
    by_cases c9 : (h.1 55 0) ≤ x7
    · rw [if_pos c9] at hF
      refine g_icmpT rfl (decide_eq_true c9) ?_
      injection hF with hF
      subst hF
      exact go_sub (mm_subc rfl (mm_subc rfl (mm_subc rfl (mm_subc rfl (mm_subc rfl (mm_subc rfl mm_sub0)))))) (KX _ _ rfl)
    · rw [if_neg c9] at hF
      refine g_icmpF (q := 78) rfl (decide_eq_false c9) rfl ?_
      refine g_iload (q := 80) rfl rfl rfl ?_
      refine g_aload_n (q := 81) rfl rfl rfl ?_
      refine g_iload (q := 83) rfl rfl rfl ?_
      refine g_iload (q := 85) rfl rfl rfl ?_
      obtain ⟨⟨r8, h7⟩, hC, hF⟩ := bd_I hF
      dsimp only at hF
      refine g_ci3 (q := 88) rfl rfl (fun _ => rfl) rfl (A_M_bestTimeOf hC) (by decide +kernel) rfl ?_
      refine g_iadd (q := 89) rfl rfl ?_
      refine g_istore (q := 91) rfl rfl ?_
      refine g_iinc (q := 94) rfl rfl rfl ?_
      refine g_goto rfl ?_
      refine go_sub (lo' := mm_lf [(0, .inr (.inl (some 55))), (1, .inl x1), (3, .inl x3), (4, .inl x4), (5, .inl x5), (6, .inl (x6 + r8)), (7, .inl (x7 + I 1))]) (mm_subc rfl (mm_subc rfl (mm_subc rfl (mm_subc rfl (mm_subc rfl (mm_subc rfl (mm_subc rfl mm_sub0))))))) ?_
      exact ih _ _ _ _ hF KR KX
theorem A_L_M_teacher_54 {x1 : Int32} {r : MRs} : ∀ (n : Nat) (x3 : Int32) (x4 : Int32) (x5 : Int32) (h : MH) (x : Int32 × Int32 × MH), L_M_teacher_54 x1 n x3 x4 x5 h = some x → (True) → (∀ (e3 : Int32) (e4 : Int32) (h' : MH), x = (e3, e4, h') → Go 6 248 143 (mm_lf [(1, .inl x1), (3, .inl e3), (4, .inl e4)]) [] h' r) → Go 6 248 54 (mm_lf [(0, .inr (.inl (some 55))), (1, .inl x1), (3, .inl x3), (4, .inl x4), (5, .inl x5)]) [] h r
  | 0, _, _, _, _, _, hF, _, _ => by cases hF
  | n + 1, x3, x4, x5, h, x, hF, KR, KX => by
    have ih := fun a3 a4 a5 => A_L_M_teacher_54 (x1 := x1) (r := r) n a3 a4 a5 
    unfold L_M_teacher_54 at hF
    refine g_iload (q := 56) rfl rfl rfl ?_
    refine g_aload_n (q := 57) rfl rfl rfl ?_
    refine g_getI (q := 60) rfl (fun _ => rfl) rfl ?_
    by_cases c20 : (h.1 55 2) ≤ x5
    · rw [if_pos c20] at hF
      refine g_icmpT rfl (decide_eq_true c20) ?_
      injection hF with hF
      subst hF
      exact go_sub (mm_subc rfl (mm_subc rfl (mm_subc rfl mm_sub0))) (KX _ _ _ rfl)
    · rw [if_neg c20] at hF
      refine g_icmpF (q := 63) rfl (decide_eq_false c20) rfl ?_
      refine g_iconst (q := 64) rfl rfl ?_
      refine g_istore (q := 66) rfl rfl ?_
      refine g_iconst (q := 67) rfl rfl ?_
      refine g_istore (q := 69) rfl rfl ?_
      refine go_sub (lo' := mm_lf [(0, .inr (.inl (some 55))), (1, .inl x1), (3, .inl x3), (4, .inl x4), (5, .inl x5), (6, .inl (I 0)), (7, .inl (I 0))]) (mm_subc rfl (mm_subc rfl (mm_subc rfl (mm_subc rfl (mm_subc rfl (mm_subc rfl (mm_subc rfl mm_sub0))))))) ?_
      obtain ⟨⟨y10, h11⟩, hC, hF⟩ := bd_I hF
      dsimp only at hF
      refine A_L_M_teacher_69 5000 _ _ _ _ hC trivial ?_
      intro _ _ e2
      cases e2
      refine g_iload (q := 99) rfl rfl rfl ?_
      obtain ⟨v12, e_v12, hF⟩ := iw_I hF
      suffices K13 : Go 6 248 115 (mm_lf [(0, .inr (.inl (some 55))), (1, .inl x1), (4, .inl x4), (5, .inl x5), (6, .inl y10)]) [.inl v12] h11 r by
        clear hF
        by_cases c18 : x5 = 0
        · simp only [if_pos c18] at e_v12
          subst e_v12
          refine g_ifT rfl (decide_eq_true c18) ?_
          refine g_iload (q := 111) rfl rfl rfl ?_
          refine g_goto rfl ?_
          exact go_sub (mm_subc rfl (mm_subc rfl (mm_subc rfl (mm_subc rfl (mm_subc rfl mm_sub0))))) K13
        · simp only [if_neg c18] at e_v12
          refine g_ifF (q := 102) rfl (decide_eq_false c18) rfl ?_
          refine g_iload (q := 104) rfl rfl rfl ?_
          refine g_iload (q := 106) rfl rfl rfl ?_
          by_cases c19 : x4 ≤ y10
          · simp only [if_pos c19] at e_v12
            subst e_v12
            refine g_icmpT rfl (decide_eq_true c19) ?_
            refine g_iload_n (q := 115) rfl rfl rfl ?_
            exact go_sub (mm_subc rfl (mm_subc rfl (mm_subc rfl (mm_subc rfl (mm_subc rfl mm_sub0))))) K13
          · simp only [if_neg c19] at e_v12
            subst e_v12
            refine g_icmpF (q := 109) rfl (decide_eq_false c19) rfl ?_
            refine g_iload (q := 111) rfl rfl rfl ?_
            refine g_goto rfl ?_
            exact go_sub (mm_subc rfl (mm_subc rfl (mm_subc rfl (mm_subc rfl (mm_subc rfl mm_sub0))))) K13
      clear e_v12
      refine g_istore_n (q := 116) rfl rfl ?_
      refine g_iload (q := 118) rfl rfl rfl ?_
      obtain ⟨v14, e_v14, hF⟩ := iw_I hF
      suffices K15 : Go 6 248 135 (mm_lf [(0, .inr (.inl (some 55))), (1, .inl x1), (3, .inl v12), (5, .inl x5)]) [.inl v14] h11 r by
        clear hF
        by_cases c16 : x5 = 0
        · simp only [if_pos c16] at e_v14
          subst e_v14
          refine g_ifT rfl (decide_eq_true c16) ?_
          refine g_iload (q := 130) rfl rfl rfl ?_
          refine g_goto rfl ?_
          exact go_sub (mm_subc rfl (mm_subc rfl (mm_subc rfl (mm_subc rfl mm_sub0)))) K15
        · simp only [if_neg c16] at e_v14
          refine g_ifF (q := 121) rfl (decide_eq_false c16) rfl ?_
          refine g_iload (q := 123) rfl rfl rfl ?_
          refine g_iload (q := 125) rfl rfl rfl ?_
          by_cases c17 : x4 ≤ y10
          · simp only [if_pos c17] at e_v14
            subst e_v14
            refine g_icmpT rfl (decide_eq_true c17) ?_
            refine g_iload (q := 135) rfl rfl rfl ?_
            exact go_sub (mm_subc rfl (mm_subc rfl (mm_subc rfl (mm_subc rfl mm_sub0)))) K15
          · simp only [if_neg c17] at e_v14
            subst e_v14
            refine g_icmpF (q := 128) rfl (decide_eq_false c17) rfl ?_
            refine g_iload (q := 130) rfl rfl rfl ?_
            refine g_goto rfl ?_
            exact go_sub (mm_subc rfl (mm_subc rfl (mm_subc rfl (mm_subc rfl mm_sub0)))) K15
      clear e_v14
      refine g_istore (q := 137) rfl rfl ?_
      refine g_iinc (q := 140) rfl rfl rfl ?_
      refine g_goto rfl ?_
      refine go_sub (lo' := mm_lf [(0, .inr (.inl (some 55))), (1, .inl x1), (3, .inl v12), (4, .inl v14), (5, .inl (x5 + I 1))]) (mm_subc rfl (mm_subc rfl (mm_subc rfl (mm_subc rfl (mm_subc rfl mm_sub0))))) ?_
      exact ih _ _ _ _ _ hF KR KX
theorem A_M_teacher {x1 : Int32} {h h' : MH} {v : Int32} (hF : F_M_teacher x1 h = some (v, h')) : Ex 7 248 [.inr (.inl (some 55)), .inl x1] h (some (.inl v), h') := by
  unfold F_M_teacher at hF
  refine ex_of (d := 6) rfl rfl ?_
  refine g_aload_n (q := 1) rfl rfl rfl ?_
  refine g_iconst (q := 2) rfl rfl ?_
  refine g_putI (q := 5) rfl (fun _ => rfl) rfl ?_
  obtain ⟨h1, e_h1, hF⟩ := hw_I hF
  rw [← e_h1]
  refine g_iload_n (q := 6) rfl rfl rfl ?_
  refine g_i2l (q := 7) rfl rfl ?_
  refine g_lconst (u := 0) (q := 8) rfl (by decide +kernel) rfl ?_
  refine g_lconst (u := 1) (q := 9) rfl (by decide +kernel) rfl ?_
  obtain ⟨⟨r3, h2⟩, hC, hF⟩ := bd_I hF
  dsimp only at hF
  refine g_ci3 (q := 12) rfl rfl (fun _ => rfl) rfl (A_M_in hC) (by decide +kernel) rfl ?_
  obtain ⟨k6, e_k6, hF⟩ := kw_I hF
  have K30 : ∀ (z4 : Int32) (h5 : MH), k6 z4 h5 = some (v, h') → Go 6 248 33 (mm_lf [(0, .inr (.inl (some 55))), (1, .inl x1)]) [.inl z4] h5 (some (.inl v), h') := by
    intro z4 h5 hF
    rw [e_k6] at hF
    dsimp only at hF
    refine g_istore_n (q := 34) rfl rfl ?_
    refine g_iload_n (q := 35) rfl rfl rfl ?_
    by_cases c29 : 0 ≤ z4
    · rw [if_pos c29] at hF
      refine g_ifT rfl (decide_eq_true c29) ?_
      refine g_bipush (q := 46) rfl (by decide +kernel) rfl ?_
      refine g_istore_n (q := 47) rfl rfl ?_
      refine g_bipush (q := 49) rfl (by decide +kernel) rfl ?_
      refine g_istore (q := 51) rfl rfl ?_
      refine g_iconst (q := 52) rfl rfl ?_
      refine g_istore (q := 54) rfl rfl ?_
      refine go_sub (lo' := mm_lf [(0, .inr (.inl (some 55))), (1, .inl x1), (3, .inl (I (-9))), (4, .inl (I (-9))), (5, .inl (I 0))]) (mm_subc rfl (mm_subc rfl (mm_subc rfl (mm_subc rfl (mm_subc rfl mm_sub0))))) ?_
      obtain ⟨⟨y21, y22, h23⟩, hC, hF⟩ := bd_I hF
      dsimp only at hF
      refine A_L_M_teacher_54 5000 _ _ _ _ _ hC trivial ?_
      intro _ _ _ e2
      cases e2
      refine g_iload_n (q := 144) rfl rfl rfl ?_
      obtain ⟨v24, e_v24, hF⟩ := iw_I hF
      suffices K25 : Go 6 248 153 (mm_lf []) [.inl v24] h23 (some (.inl v), h') by
        clear hF
        by_cases c26 : ¬ x1 = 0
        · simp only [if_pos c26] at e_v24
          subst e_v24
          refine g_ifT rfl (decide_eq_true c26) ?_
          refine g_iload (q := 153) rfl rfl rfl ?_
          exact go_sub mm_sub0 K25
        · simp only [if_neg c26] at e_v24
          subst e_v24
          refine g_ifF (q := 147) rfl (decide_eq_false c26) rfl ?_
          refine g_iload_n (q := 148) rfl rfl rfl ?_
          refine g_goto rfl ?_
          exact go_sub mm_sub0 K25
      clear e_v24
      injection hF with hF
      injection hF with hv hh
      subst hv
      subst hh
      exact g_iret rfl
    · rw [if_neg c29] at hF
      refine g_ifF (q := 38) rfl (decide_eq_false c29) rfl ?_
      refine g_aload_n (q := 39) rfl rfl rfl ?_
      refine g_iload_n (q := 40) rfl rfl rfl ?_
      obtain ⟨⟨r28, h27⟩, hC, hF⟩ := bd_I hF
      dsimp only at hF
      refine g_ci2 (q := 43) rfl rfl (fun _ => rfl) rfl (A_M_refuse hC) (by decide +kernel) rfl ?_
      injection hF with hF
      injection hF with hv hh
      subst hv
      subst hh
      exact g_iret rfl
  clear e_k6
  by_cases c32 : ¬ r3 = 0
  · rw [if_pos c32] at hF
    refine g_ifT rfl (decide_eq_true c32) ?_
    refine g_aload_n (q := 21) rfl rfl rfl ?_
    refine g_getI (q := 24) rfl (fun _ => rfl) rfl ?_
    by_cases c31 : ¬ (h2.1 55 5) = 0
    · rw [if_pos c31] at hF
      refine g_ifT rfl (decide_eq_true c31) ?_
      refine g_iconst (q := 33) rfl rfl ?_
      exact go_sub (mm_subc rfl (mm_subc rfl mm_sub0)) (K30 _ _ hF)
    · rw [if_neg c31] at hF
      refine g_ifF (q := 27) rfl (decide_eq_false c31) rfl ?_
      refine g_bipush (q := 29) rfl (by decide +kernel) rfl ?_
      refine g_goto rfl ?_
      exact go_sub (mm_subc rfl (mm_subc rfl mm_sub0)) (K30 _ _ hF)
  · rw [if_neg c32] at hF
    refine g_ifF (q := 15) rfl (decide_eq_false c32) rfl ?_
    refine g_bipush (q := 17) rfl (by decide +kernel) rfl ?_
    refine g_goto rfl ?_
    exact go_sub (mm_subc rfl (mm_subc rfl mm_sub0)) (K30 _ _ hF)
def L_M_line_36 (x1 : Int32) (x2 : Int32) (x3 : Int32) (x4 : Int32) : Nat → Int32 → Int32 → MH → Option (Int32 × MH)
  | 0, _, _, _ => none
  | n + 1, x5, x6, h => if (I 9) < x6 then some (x5, h) else if 0 ≤ x5 then some (x5, h) else ck (mm_in x2 6) (hw (mm_hset h.1 60 (Int32.toNatClampNeg x2) x6, h.2) (fun h4 => bd (F_M_bestWayOf x1 x3 h4) (fun (r6, h5) => iw (if ¬ r6 = x2 then x6 else I (-9)) (fun v7 => L_M_line_36 x1 x2 x3 x4 n v7 (x6 + I 1) h5))))
/-- BothCornersModel.line(III)I -/
def F_M_line (x1 : Int32) (x2 : Int32) (x3 : Int32) (h : MH) : Option (Int32 × MH) := hw (mm_hset h.1 55 10 (I 0), h.2) (fun h1 => bd (F_M_wrongThree x1 x2 x3 h1) (fun (r3, h2) => if 0 ≤ r3 then ck (mm_in x2 6) (bd (L_M_line_36 x1 x2 x3 (h2.1 60 (Int32.toNatClampNeg x2)) 5000 (I (-9)) (I 0) h2) (fun (y12, h13) => ck (mm_in x2 6) (hw (mm_hset h13.1 60 (Int32.toNatClampNeg x2) (h2.1 60 (Int32.toNatClampNeg x2)), h13.2) (fun h14 => some (y12, h14))))) else bd (F_M_refuse (I (-1)) h2) (fun (r16, h15) => some (r16, h15))))
theorem A_L_M_line_36 {x1 : Int32} {x2 : Int32} {x3 : Int32} {x4 : Int32} {r : MRs} : ∀ (n : Nat) (x5 : Int32) (x6 : Int32) (h : MH) (x : Int32 × MH), L_M_line_36 x1 x2 x3 x4 n x5 x6 h = some x → (True) → (∀ (e5 : Int32) (h' : MH), x = (e5, h') → Go 5 249 81 (mm_lf [(0, .inr (.inl (some 55))), (2, .inl x2), (4, .inl x4), (5, .inl e5)]) [] h' r) → Go 5 249 36 (mm_lf [(0, .inr (.inl (some 55))), (1, .inl x1), (2, .inl x2), (3, .inl x3), (4, .inl x4), (5, .inl x5), (6, .inl x6)]) [] h r
  | 0, _, _, _, _, hF, _, _ => by cases hF
  | n + 1, x5, x6, h, x, hF, KR, KX => by
    have ih := fun a5 a6 => A_L_M_line_36 (x1 := x1) (x2 := x2) (x3 := x3) (x4 := x4) (r := r) n a5 a6 
    unfold L_M_line_36 at hF
    refine g_iload (q := 38) rfl rfl rfl ?_
    refine g_bipush (q := 40) rfl (by decide +kernel) rfl ?_
    by_cases c11 : (I 9) < x6
    · rw [if_pos c11] at hF
      refine g_icmpT rfl (decide_eq_true c11) ?_
      injection hF with hF
      subst hF
      exact go_sub (mm_subc rfl (mm_subc rfl (mm_subc rfl (mm_subc rfl mm_sub0)))) (KX _ _ rfl)
    · rw [if_neg c11] at hF
      refine g_icmpF (q := 43) rfl (decide_eq_false c11) rfl ?_
      refine g_iload (q := 45) rfl rfl rfl ?_
      by_cases c10 : 0 ≤ x5
      · rw [if_pos c10] at hF
        refine g_ifT rfl (decide_eq_true c10) ?_
        injection hF with hF
        subst hF
        exact go_sub (mm_subc rfl (mm_subc rfl (mm_subc rfl (mm_subc rfl mm_sub0)))) (KX _ _ rfl)
      · rw [if_neg c10] at hF
        refine g_ifF (q := 48) rfl (decide_eq_false c10) rfl ?_
        refine g_aload_n (q := 49) rfl rfl rfl ?_
        refine g_getR (q := 52) rfl (fun _ => rfl) rfl ?_
        refine g_iload_n (q := 53) rfl rfl rfl ?_
        refine g_iload (q := 55) rfl rfl rfl ?_
        obtain ⟨hi, hF⟩ := ck_I hF
        refine g_iastore (q := 56) rfl rfl rfl hi rfl ?_
        obtain ⟨h4, e_h4, hF⟩ := hw_I hF
        rw [← e_h4]
        refine g_aload_n (q := 57) rfl rfl rfl ?_
        refine g_iload_n (q := 58) rfl rfl rfl ?_
        refine g_iload_n (q := 59) rfl rfl rfl ?_
        obtain ⟨⟨r6, h5⟩, hC, hF⟩ := bd_I hF
        dsimp only at hF
        refine g_ci3 (q := 62) rfl rfl (fun _ => rfl) rfl (A_M_bestWayOf hC) (by decide +kernel) rfl ?_
        refine g_iload_n (q := 63) rfl rfl rfl ?_
        obtain ⟨v7, e_v7, hF⟩ := iw_I hF
        suffices K8 : Go 5 249 73 (mm_lf [(0, .inr (.inl (some 55))), (1, .inl x1), (2, .inl x2), (3, .inl x3), (4, .inl x4), (6, .inl x6)]) [.inl v7] h5 r by
          clear hF
          by_cases c9 : ¬ r6 = x2
          · simp only [if_pos c9] at e_v7
            subst e_v7
            refine g_icmpT rfl (decide_eq_true c9) ?_
            refine g_iload (q := 73) rfl rfl rfl ?_
            exact go_sub (mm_subc rfl (mm_subc rfl (mm_subc rfl (mm_subc rfl (mm_subc rfl (mm_subc rfl mm_sub0)))))) K8
          · simp only [if_neg c9] at e_v7
            subst e_v7
            refine g_icmpF (q := 66) rfl (decide_eq_false c9) rfl ?_
            refine g_bipush (q := 68) rfl (by decide +kernel) rfl ?_
            refine g_goto rfl ?_
            exact go_sub (mm_subc rfl (mm_subc rfl (mm_subc rfl (mm_subc rfl (mm_subc rfl (mm_subc rfl mm_sub0)))))) K8
        clear e_v7
        refine g_istore (q := 75) rfl rfl ?_
        refine g_iinc (q := 78) rfl rfl rfl ?_
        refine g_goto rfl ?_
        refine go_sub (lo' := mm_lf [(0, .inr (.inl (some 55))), (1, .inl x1), (2, .inl x2), (3, .inl x3), (4, .inl x4), (5, .inl v7), (6, .inl (x6 + I 1))]) (mm_subc rfl (mm_subc rfl (mm_subc rfl (mm_subc rfl (mm_subc rfl (mm_subc rfl (mm_subc rfl mm_sub0))))))) ?_
        exact ih _ _ _ _ hF KR KX
theorem A_M_line {x1 : Int32} {x2 : Int32} {x3 : Int32} {h h' : MH} {v : Int32} (hF : F_M_line x1 x2 x3 h = some (v, h')) : Ex 6 249 [.inr (.inl (some 55)), .inl x1, .inl x2, .inl x3] h (some (.inl v), h') := by
  unfold F_M_line at hF
  refine ex_of (d := 5) rfl rfl ?_
  refine g_aload_n (q := 1) rfl rfl rfl ?_
  refine g_iconst (q := 2) rfl rfl ?_
  refine g_putI (q := 5) rfl (fun _ => rfl) rfl ?_
  obtain ⟨h1, e_h1, hF⟩ := hw_I hF
  rw [← e_h1]
  refine g_aload_n (q := 6) rfl rfl rfl ?_
  refine g_iload_n (q := 7) rfl rfl rfl ?_
  refine g_iload_n (q := 8) rfl rfl rfl ?_
  refine g_iload_n (q := 9) rfl rfl rfl ?_
  obtain ⟨⟨r3, h2⟩, hC, hF⟩ := bd_I hF
  dsimp only at hF
  refine g_ci4 (q := 12) rfl rfl (fun _ => rfl) rfl (A_M_wrongThree hC) (by decide +kernel) rfl ?_
  by_cases c17 : 0 ≤ r3
  · rw [if_pos c17] at hF
    refine g_ifT rfl (decide_eq_true c17) ?_
    refine g_aload_n (q := 22) rfl rfl rfl ?_
    refine g_getR (q := 25) rfl (fun _ => rfl) rfl ?_
    refine g_iload_n (q := 26) rfl rfl rfl ?_
    obtain ⟨hi, hF⟩ := ck_I hF
    refine g_iaload (q := 27) rfl rfl rfl hi rfl ?_
    refine g_istore (q := 29) rfl rfl ?_
    refine g_bipush (q := 31) rfl (by decide +kernel) rfl ?_
    refine g_istore (q := 33) rfl rfl ?_
    refine g_iconst (q := 34) rfl rfl ?_
    refine g_istore (q := 36) rfl rfl ?_
    refine go_sub (lo' := mm_lf [(0, .inr (.inl (some 55))), (1, .inl x1), (2, .inl x2), (3, .inl x3), (4, .inl (h2.1 60 (Int32.toNatClampNeg x2))), (5, .inl (I (-9))), (6, .inl (I 0))]) (mm_subc rfl (mm_subc rfl (mm_subc rfl (mm_subc rfl (mm_subc rfl (mm_subc rfl (mm_subc rfl mm_sub0))))))) ?_
    obtain ⟨⟨y12, h13⟩, hC, hF⟩ := bd_I hF
    dsimp only at hF
    refine A_L_M_line_36 5000 _ _ _ _ hC trivial ?_
    intro _ _ e2
    cases e2
    refine g_aload_n (q := 82) rfl rfl rfl ?_
    refine g_getR (q := 85) rfl (fun _ => rfl) rfl ?_
    refine g_iload_n (q := 86) rfl rfl rfl ?_
    refine g_iload (q := 88) rfl rfl rfl ?_
    obtain ⟨hi, hF⟩ := ck_I hF
    refine g_iastore (q := 89) rfl rfl rfl hi rfl ?_
    obtain ⟨h14, e_h14, hF⟩ := hw_I hF
    rw [← e_h14]
    refine g_iload (q := 91) rfl rfl rfl ?_
    injection hF with hF
    injection hF with hv hh
    subst hv
    subst hh
    exact g_iret rfl
  · rw [if_neg c17] at hF
    refine g_ifF (q := 15) rfl (decide_eq_false c17) rfl ?_
    refine g_aload_n (q := 16) rfl rfl rfl ?_
    refine g_iconst (q := 17) rfl rfl ?_
    obtain ⟨⟨r16, h15⟩, hC, hF⟩ := bd_I hF
    dsimp only at hF
    refine g_ci2 (q := 20) rfl rfl (fun _ => rfl) rfl (A_M_refuse hC) (by decide +kernel) rfl ?_
    injection hF with hF
    injection hF with hv hh
    subst hv
    subst hh
    exact g_iret rfl
def L_M_half_32 (x1 : Int32) (x2 : Int32) : Nat → Int32 → Int32 → MH → Option (Int32 × MH)
  | 0, _, _, _ => none
  | n + 1, x3, x4, h => if (h.1 55 0) ≤ x4 then some (x3, h) else bd (F_M_foldsOf x4 x1 h) (fun (r9, h8) => ck (mm_in x2 4) (bd (F_M_fewerBy (h8.1 57 (Int32.toNatClampNeg x2)) h8) (fun (r11, h10) => bd (F_M_shakesFor r9 r11 h10) (fun (r13, h12) => bd (F_M_timeOf x4 x1 x2 h12) (fun (r15, h14) => iw (if ((I 6) * r13) ≤ r15 then I 0 else I 1) (fun v16 => L_M_half_32 x1 x2 n (x3 + v16) (x4 + I 1) h14))))))
/-- BothCornersModel.half(II)I -/
def F_M_half (x1 : Int32) (x2 : Int32) (h : MH) : Option (Int32 × MH) := hw (mm_hset h.1 55 10 (I 0), h.2) (fun h1 => bd (F_M_isWay x1 h1) (fun (r3, h2) => if r3 = 0 then bd (F_M_refuse (I (-1)) h2) (fun (r5, h4) => some (r5, h4)) else bd (F_M_isOne x2 h2) (fun (r7, h6) => if ¬ r7 = 0 then bd (L_M_half_32 x1 x2 5000 (I 0) (I 0) h6) (fun (y20, h21) => some (y20, h21)) else bd (F_M_refuse (I (-1)) h6) (fun (r23, h22) => some (r23, h22)))))
theorem A_L_M_half_32 {x1 : Int32} {x2 : Int32} {r : MRs} : ∀ (n : Nat) (x3 : Int32) (x4 : Int32) (h : MH) (x : Int32 × MH), L_M_half_32 x1 x2 n x3 x4 h = some x → (True) → (∀ (e3 : Int32) (h' : MH), x = (e3, h') → Go 4 250 88 (mm_lf [(3, .inl e3)]) [] h' r) → Go 4 250 32 (mm_lf [(0, .inr (.inl (some 55))), (1, .inl x1), (2, .inl x2), (3, .inl x3), (4, .inl x4)]) [] h r
  | 0, _, _, _, _, hF, _, _ => by cases hF
  | n + 1, x3, x4, h, x, hF, KR, KX => by
    have ih := fun a3 a4 => A_L_M_half_32 (x1 := x1) (x2 := x2) (r := r) n a3 a4 
    unfold L_M_half_32 at hF
    refine g_iload (q := 34) rfl rfl rfl ?_
    refine g_aload_n (q := 35) rfl rfl rfl ?_
    refine g_getI (q := 38) rfl (fun _ => rfl) rfl ?_
    by_cases c19 : (h.1 55 0) ≤ x4
    · rw [if_pos c19] at hF
      refine g_icmpT rfl (decide_eq_true c19) ?_
      injection hF with hF
      subst hF
      exact go_sub (mm_subc rfl mm_sub0) (KX _ _ rfl)
    · rw [if_neg c19] at hF
      refine g_icmpF (q := 41) rfl (decide_eq_false c19) rfl ?_
      refine g_iload_n (q := 42) rfl rfl rfl ?_
      refine g_bipush (q := 44) rfl (by decide +kernel) rfl ?_
      refine g_aload_n (q := 45) rfl rfl rfl ?_
      refine g_iload (q := 47) rfl rfl rfl ?_
      refine g_iload_n (q := 48) rfl rfl rfl ?_
      obtain ⟨⟨r9, h8⟩, hC, hF⟩ := bd_I hF
      dsimp only at hF
      refine g_ci3 (q := 51) rfl rfl (fun _ => rfl) rfl (A_M_foldsOf hC) (by decide +kernel) rfl ?_
      refine g_aload_n (q := 52) rfl rfl rfl ?_
      refine g_getR (q := 55) rfl (fun _ => rfl) rfl ?_
      refine g_iload_n (q := 56) rfl rfl rfl ?_
      obtain ⟨hi, hF⟩ := ck_I hF
      refine g_iaload (q := 57) rfl rfl rfl hi rfl ?_
      obtain ⟨⟨r11, h10⟩, hC, hF⟩ := bd_I hF
      dsimp only at hF
      refine g_ci1 (q := 60) rfl rfl (fun _ => rfl) rfl (A_M_fewerBy hC) (by decide +kernel) rfl ?_
      obtain ⟨⟨r13, h12⟩, hC, hF⟩ := bd_I hF
      dsimp only at hF
      refine g_ci2 (q := 63) rfl rfl (fun _ => rfl) rfl (A_M_shakesFor hC) (by decide +kernel) rfl ?_
      refine g_imul (q := 64) rfl rfl ?_
      refine g_aload_n (q := 65) rfl rfl rfl ?_
      refine g_iload (q := 67) rfl rfl rfl ?_
      refine g_iload_n (q := 68) rfl rfl rfl ?_
      refine g_iload_n (q := 69) rfl rfl rfl ?_
      obtain ⟨⟨r15, h14⟩, hC, hF⟩ := bd_I hF
      dsimp only at hF
      refine g_ci4 (q := 72) rfl rfl (fun _ => rfl) rfl (A_M_timeOf hC) (by decide +kernel) rfl ?_
      obtain ⟨v16, e_v16, hF⟩ := iw_I hF
      suffices K17 : Go 4 250 80 (mm_lf [(0, .inr (.inl (some 55))), (1, .inl x1), (2, .inl x2), (4, .inl x4)]) [.inl v16, .inl x3] h14 r by
        clear hF
        by_cases c18 : ((I 6) * r13) ≤ r15
        · simp only [if_pos c18] at e_v16
          subst e_v16
          refine g_icmpT rfl (decide_eq_true c18) ?_
          refine g_iconst (q := 80) rfl rfl ?_
          exact go_sub (mm_subc rfl (mm_subc rfl (mm_subc rfl (mm_subc rfl mm_sub0)))) K17
        · simp only [if_neg c18] at e_v16
          subst e_v16
          refine g_icmpF (q := 75) rfl (decide_eq_false c18) rfl ?_
          refine g_iconst (q := 76) rfl rfl ?_
          refine g_goto rfl ?_
          exact go_sub (mm_subc rfl (mm_subc rfl (mm_subc rfl (mm_subc rfl mm_sub0)))) K17
      clear e_v16
      refine g_iadd (q := 81) rfl rfl ?_
      refine g_istore_n (q := 82) rfl rfl ?_
      refine g_iinc (q := 85) rfl rfl rfl ?_
      refine g_goto rfl ?_
      refine go_sub (lo' := mm_lf [(0, .inr (.inl (some 55))), (1, .inl x1), (2, .inl x2), (3, .inl (x3 + v16)), (4, .inl (x4 + I 1))]) (mm_subc rfl (mm_subc rfl (mm_subc rfl (mm_subc rfl (mm_subc rfl mm_sub0))))) ?_
      exact ih _ _ _ _ hF KR KX
theorem A_M_half {x1 : Int32} {x2 : Int32} {h h' : MH} {v : Int32} (hF : F_M_half x1 x2 h = some (v, h')) : Ex 5 250 [.inr (.inl (some 55)), .inl x1, .inl x2] h (some (.inl v), h') := by
  unfold F_M_half at hF
  refine ex_of (d := 4) rfl rfl ?_
  refine g_aload_n (q := 1) rfl rfl rfl ?_
  refine g_iconst (q := 2) rfl rfl ?_
  refine g_putI (q := 5) rfl (fun _ => rfl) rfl ?_
  obtain ⟨h1, e_h1, hF⟩ := hw_I hF
  rw [← e_h1]
  refine g_aload_n (q := 6) rfl rfl rfl ?_
  refine g_iload_n (q := 7) rfl rfl rfl ?_
  obtain ⟨⟨r3, h2⟩, hC, hF⟩ := bd_I hF
  dsimp only at hF
  refine g_ci2 (q := 10) rfl rfl (fun _ => rfl) rfl (A_M_isWay hC) (by decide +kernel) rfl ?_
  by_cases c25 : r3 = 0
  · rw [if_pos c25] at hF
    refine g_ifT rfl (decide_eq_true c25) ?_
    refine g_aload_n (q := 22) rfl rfl rfl ?_
    refine g_iconst (q := 23) rfl rfl ?_
    obtain ⟨⟨r5, h4⟩, hC, hF⟩ := bd_I hF
    dsimp only at hF
    refine g_ci2 (q := 26) rfl rfl (fun _ => rfl) rfl (A_M_refuse hC) (by decide +kernel) rfl ?_
    injection hF with hF
    injection hF with hv hh
    subst hv
    subst hh
    exact g_iret rfl
  · rw [if_neg c25] at hF
    refine g_ifF (q := 13) rfl (decide_eq_false c25) rfl ?_
    refine g_aload_n (q := 14) rfl rfl rfl ?_
    refine g_iload_n (q := 15) rfl rfl rfl ?_
    obtain ⟨⟨r7, h6⟩, hC, hF⟩ := bd_I hF
    dsimp only at hF
    refine g_ci2 (q := 18) rfl rfl (fun _ => rfl) rfl (A_M_isOne hC) (by decide +kernel) rfl ?_
    by_cases c24 : ¬ r7 = 0
    · rw [if_pos c24] at hF
      refine g_ifT rfl (decide_eq_true c24) ?_
      refine g_iconst (q := 28) rfl rfl ?_
      refine g_istore_n (q := 29) rfl rfl ?_
      refine g_iconst (q := 30) rfl rfl ?_
      refine g_istore (q := 32) rfl rfl ?_
      refine go_sub (lo' := mm_lf [(0, .inr (.inl (some 55))), (1, .inl x1), (2, .inl x2), (3, .inl (I 0)), (4, .inl (I 0))]) (mm_subc rfl (mm_subc rfl (mm_subc rfl (mm_subc rfl (mm_subc rfl mm_sub0))))) ?_
      obtain ⟨⟨y20, h21⟩, hC, hF⟩ := bd_I hF
      dsimp only at hF
      refine A_L_M_half_32 5000 _ _ _ _ hC trivial ?_
      intro _ _ e2
      cases e2
      refine g_iload_n (q := 89) rfl rfl rfl ?_
      injection hF with hF
      injection hF with hv hh
      subst hv
      subst hh
      exact g_iret rfl
    · rw [if_neg c24] at hF
      refine g_ifF (q := 21) rfl (decide_eq_false c24) rfl ?_
      refine g_aload_n (q := 22) rfl rfl rfl ?_
      refine g_iconst (q := 23) rfl rfl ?_
      obtain ⟨⟨r23, h22⟩, hC, hF⟩ := bd_I hF
      dsimp only at hF
      refine g_ci2 (q := 26) rfl rfl (fun _ => rfl) rfl (A_M_refuse hC) (by decide +kernel) rfl ?_
      injection hF with hF
      injection hF with hv hh
      subst hv
      subst hh
      exact g_iret rfl
def L_M_split_100 (x1 : Int32) (x2 : Int32) (x3 : Int32) (x5 : Int32) (x6 : Int32) (x7 : Int32) : Nat → Int32 → Int32 → Int32 → MH → Option (Int32 × Int32 × MH)
  | 0, _, _, _, _ => none
  | n + 1, x8, x9, x10, h => if (h.1 55 0) ≤ x10 then some (x8, x9, h) else bd (F_M_hasBit x7 x10 h) (fun (r11, h10) => kw (fun (z12 : Int32) (h13 : MH) => bd (F_M_hasBit x7 x10 h13) (fun (r16, h15) => if r16 = 0 then bd (F_M_bestTimeOf x10 x2 h15) (fun (r18, h17) => L_M_split_100 x1 x2 x3 x5 x6 x7 n (x8 + z12) (x9 + r18) (x10 + I 1) h17) else L_M_split_100 x1 x2 x3 x5 x6 x7 n (x8 + z12) (x9 + (I 0)) (x10 + I 1) h15)) (fun k14 => if r11 = 0 then k14 (I 0) h10 else bd (F_M_bestTimeOf x10 x1 h10) (fun (r22, h21) => k14 r22 h21)))
def L_M_split_80 (x1 : Int32) (x2 : Int32) (x3 : Int32) : Nat → Int32 → Int32 → Int32 → MH → Option (Int32 × Int32 × MH)
  | 0, _, _, _, _ => none
  | n + 1, x5, x6, x7, h => if ((I 1) <<< ((h.1 55 0) &&& 31)) ≤ x7 then some (x5, x6, h) else bd (L_M_split_100 x1 x2 x3 x5 x6 x7 5000 (I 0) (I 0) (I 0) h) (fun (y25, y26, h27) => bd (F_M_atLeast y25 y26 h27) (fun (r29, h28) => iw (if x6 < 0 then x7 else (if x6 ≤ r29 then x5 else x7)) (fun v30 => iw (if x6 < 0 then r29 else (if x6 ≤ r29 then x6 else r29)) (fun v32 => L_M_split_80 x1 x2 x3 n v30 v32 (x7 + I 1) h28))))
/-- BothCornersModel.split(III)I -/
def F_M_split (x1 : Int32) (x2 : Int32) (x3 : Int32) (h : MH) : Option (Int32 × MH) := hw (mm_hset h.1 55 10 (I 0), h.2) (fun h1 => bd (F_M_isOne x1 h1) (fun (r3, h2) => kw (fun (z4 : Int32) (h5 : MH) => kw (fun (z7 : Int32) (h8 : MH) => if 0 ≤ z7 then bd (L_M_split_80 x1 x2 x3 5000 (I 0) (I (-1)) (I 0) h8) (fun (y39, y40, h41) => iw (if ¬ x3 = 0 then y39 else y40) (fun v42 => some (v42, h41))) else bd (F_M_refuse z7 h8) (fun (r46, h45) => some (r46, h45))) (fun k9 => if ¬ z4 = 0 then k9 z4 h5 else if ¬ (h5.1 55 5) = 0 then k9 z4 h5 else k9 (I (-3)) h5)) (fun k6 => if r3 = 0 then k6 (I (-1)) h2 else bd (F_M_isOne x2 h2) (fun (r53, h52) => if r53 = 0 then k6 (I (-1)) h52 else if x1 = x2 then k6 (I (-1)) h52 else bd (F_M_wrongBit (I 0) x3 (I 1) h52) (fun (r55, h54) => k6 r55 h54)))))
theorem A_L_M_split_100 {x1 : Int32} {x2 : Int32} {x3 : Int32} {x5 : Int32} {x6 : Int32} {x7 : Int32} {r : MRs} : ∀ (n : Nat) (x8 : Int32) (x9 : Int32) (x10 : Int32) (h : MH) (x : Int32 × Int32 × MH), L_M_split_100 x1 x2 x3 x5 x6 x7 n x8 x9 x10 h = some x → (True) → (∀ (e8 : Int32) (e9 : Int32) (h' : MH), x = (e8, e9, h') → Go 6 251 167 (mm_lf [(0, .inr (.inl (some 55))), (1, .inl x1), (2, .inl x2), (3, .inl x3), (5, .inl x5), (6, .inl x6), (7, .inl x7), (8, .inl e8), (9, .inl e9)]) [] h' r) → Go 6 251 100 (mm_lf [(0, .inr (.inl (some 55))), (1, .inl x1), (2, .inl x2), (3, .inl x3), (5, .inl x5), (6, .inl x6), (7, .inl x7), (8, .inl x8), (9, .inl x9), (10, .inl x10)]) [] h r
  | 0, _, _, _, _, _, hF, _, _ => by cases hF
  | n + 1, x8, x9, x10, h, x, hF, KR, KX => by
    have ih := fun a8 a9 a10 => A_L_M_split_100 (x1 := x1) (x2 := x2) (x3 := x3) (x5 := x5) (x6 := x6) (x7 := x7) (r := r) n a8 a9 a10 
    unfold L_M_split_100 at hF
    refine g_iload (q := 102) rfl rfl rfl ?_
    refine g_aload_n (q := 103) rfl rfl rfl ?_
    refine g_getI (q := 106) rfl (fun _ => rfl) rfl ?_
    by_cases c24 : (h.1 55 0) ≤ x10
    · rw [if_pos c24] at hF
      refine g_icmpT rfl (decide_eq_true c24) ?_
      injection hF with hF
      subst hF
      exact go_sub (mm_subc rfl (mm_subc rfl (mm_subc rfl (mm_subc rfl (mm_subc rfl (mm_subc rfl (mm_subc rfl (mm_subc rfl (mm_subc rfl mm_sub0))))))))) (KX _ _ _ rfl)
    · rw [if_neg c24] at hF
      refine g_icmpF (q := 109) rfl (decide_eq_false c24) rfl ?_
      refine g_iload (q := 111) rfl rfl rfl ?_
      refine g_iload (q := 113) rfl rfl rfl ?_
      refine g_iload (q := 115) rfl rfl rfl ?_
      obtain ⟨⟨r11, h10⟩, hC, hF⟩ := bd_I hF
      dsimp only at hF
      refine g_ci2 (q := 118) rfl rfl (fun _ => rfl) rfl (A_M_hasBit hC) (by decide +kernel) rfl ?_
      obtain ⟨k14, e_k14, hF⟩ := kw_I hF
      have K20 : ∀ (z12 : Int32) (h13 : MH), k14 z12 h13 = some x → Go 6 251 132 (mm_lf [(0, .inr (.inl (some 55))), (1, .inl x1), (2, .inl x2), (3, .inl x3), (5, .inl x5), (6, .inl x6), (7, .inl x7), (9, .inl x9), (10, .inl x10)]) [.inl z12, .inl x8] h13 r := by
        intro z12 h13 hF
        rw [e_k14] at hF
        dsimp only at hF
        refine g_iadd (q := 133) rfl rfl ?_
        refine g_istore (q := 135) rfl rfl ?_
        refine g_iload (q := 137) rfl rfl rfl ?_
        refine g_iload (q := 139) rfl rfl rfl ?_
        refine g_iload (q := 141) rfl rfl rfl ?_
        obtain ⟨⟨r16, h15⟩, hC, hF⟩ := bd_I hF
        dsimp only at hF
        refine g_ci2 (q := 144) rfl rfl (fun _ => rfl) rfl (A_M_hasBit hC) (by decide +kernel) rfl ?_
        by_cases c19 : r16 = 0
        · rw [if_pos c19] at hF
          refine g_ifT rfl (decide_eq_true c19) ?_
          refine g_aload_n (q := 152) rfl rfl rfl ?_
          refine g_iload (q := 154) rfl rfl rfl ?_
          refine g_iload_n (q := 155) rfl rfl rfl ?_
          obtain ⟨⟨r18, h17⟩, hC, hF⟩ := bd_I hF
          dsimp only at hF
          refine g_ci3 (q := 158) rfl rfl (fun _ => rfl) rfl (A_M_bestTimeOf hC) (by decide +kernel) rfl ?_
          refine g_iadd (q := 159) rfl rfl ?_
          refine g_istore (q := 161) rfl rfl ?_
          refine g_iinc (q := 164) rfl rfl rfl ?_
          refine g_goto rfl ?_
          refine go_sub (lo' := mm_lf [(0, .inr (.inl (some 55))), (1, .inl x1), (2, .inl x2), (3, .inl x3), (5, .inl x5), (6, .inl x6), (7, .inl x7), (8, .inl (x8 + z12)), (9, .inl (x9 + r18)), (10, .inl (x10 + I 1))]) (mm_subc rfl (mm_subc rfl (mm_subc rfl (mm_subc rfl (mm_subc rfl (mm_subc rfl (mm_subc rfl (mm_subc rfl (mm_subc rfl (mm_subc rfl mm_sub0)))))))))) ?_
          exact ih _ _ _ _ _ hF KR KX
        · rw [if_neg c19] at hF
          refine g_ifF (q := 147) rfl (decide_eq_false c19) rfl ?_
          refine g_iconst (q := 148) rfl rfl ?_
          refine g_goto rfl ?_
          refine g_iadd (q := 159) rfl rfl ?_
          refine g_istore (q := 161) rfl rfl ?_
          refine g_iinc (q := 164) rfl rfl rfl ?_
          refine g_goto rfl ?_
          refine go_sub (lo' := mm_lf [(0, .inr (.inl (some 55))), (1, .inl x1), (2, .inl x2), (3, .inl x3), (5, .inl x5), (6, .inl x6), (7, .inl x7), (8, .inl (x8 + z12)), (9, .inl (x9 + (I 0))), (10, .inl (x10 + I 1))]) (mm_subc rfl (mm_subc rfl (mm_subc rfl (mm_subc rfl (mm_subc rfl (mm_subc rfl (mm_subc rfl (mm_subc rfl (mm_subc rfl (mm_subc rfl mm_sub0)))))))))) ?_
          exact ih _ _ _ _ _ hF KR KX
      clear e_k14
      by_cases c23 : r11 = 0
      · rw [if_pos c23] at hF
        refine g_ifT rfl (decide_eq_true c23) ?_
        refine g_iconst (q := 132) rfl rfl ?_
        exact go_sub (mm_subc rfl (mm_subc rfl (mm_subc rfl (mm_subc rfl (mm_subc rfl (mm_subc rfl (mm_subc rfl (mm_subc rfl (mm_subc rfl mm_sub0))))))))) (K20 _ _ hF)
      · rw [if_neg c23] at hF
        refine g_ifF (q := 121) rfl (decide_eq_false c23) rfl ?_
        refine g_aload_n (q := 122) rfl rfl rfl ?_
        refine g_iload (q := 124) rfl rfl rfl ?_
        refine g_iload_n (q := 125) rfl rfl rfl ?_
        obtain ⟨⟨r22, h21⟩, hC, hF⟩ := bd_I hF
        dsimp only at hF
        refine g_ci3 (q := 128) rfl rfl (fun _ => rfl) rfl (A_M_bestTimeOf hC) (by decide +kernel) rfl ?_
        refine g_goto rfl ?_
        exact go_sub (mm_subc rfl (mm_subc rfl (mm_subc rfl (mm_subc rfl (mm_subc rfl (mm_subc rfl (mm_subc rfl (mm_subc rfl (mm_subc rfl mm_sub0))))))))) (K20 _ _ hF)
theorem A_L_M_split_80 {x1 : Int32} {x2 : Int32} {x3 : Int32} {r : MRs} : ∀ (n : Nat) (x5 : Int32) (x6 : Int32) (x7 : Int32) (h : MH) (x : Int32 × Int32 × MH), L_M_split_80 x1 x2 x3 n x5 x6 x7 h = some x → (True) → (∀ (e5 : Int32) (e6 : Int32) (h' : MH), x = (e5, e6, h') → Go 6 251 224 (mm_lf [(3, .inl x3), (5, .inl e5), (6, .inl e6)]) [] h' r) → Go 6 251 80 (mm_lf [(0, .inr (.inl (some 55))), (1, .inl x1), (2, .inl x2), (3, .inl x3), (5, .inl x5), (6, .inl x6), (7, .inl x7)]) [] h r
  | 0, _, _, _, _, _, hF, _, _ => by cases hF
  | n + 1, x5, x6, x7, h, x, hF, KR, KX => by
    have ih := fun a5 a6 a7 => A_L_M_split_80 (x1 := x1) (x2 := x2) (x3 := x3) (r := r) n a5 a6 a7 
    unfold L_M_split_80 at hF
    refine g_iload (q := 82) rfl rfl rfl ?_
    refine g_iconst (q := 83) rfl rfl ?_
    refine g_aload_n (q := 84) rfl rfl rfl ?_
    refine g_getI (q := 87) rfl (fun _ => rfl) rfl ?_
    refine g_ishl (q := 88) rfl rfl ?_
    by_cases c38 : ((I 1) <<< ((h.1 55 0) &&& 31)) ≤ x7
    · rw [if_pos c38] at hF
      refine g_icmpT rfl (decide_eq_true c38) ?_
      injection hF with hF
      subst hF
      exact go_sub (mm_subc rfl (mm_subc rfl (mm_subc rfl mm_sub0))) (KX _ _ _ rfl)
    · rw [if_neg c38] at hF
      refine g_icmpF (q := 91) rfl (decide_eq_false c38) rfl ?_
      refine g_iconst (q := 92) rfl rfl ?_
      refine g_istore (q := 94) rfl rfl ?_
      refine g_iconst (q := 95) rfl rfl ?_
      refine g_istore (q := 97) rfl rfl ?_
      refine g_iconst (q := 98) rfl rfl ?_
      refine g_istore (q := 100) rfl rfl ?_
      refine go_sub (lo' := mm_lf [(0, .inr (.inl (some 55))), (1, .inl x1), (2, .inl x2), (3, .inl x3), (5, .inl x5), (6, .inl x6), (7, .inl x7), (8, .inl (I 0)), (9, .inl (I 0)), (10, .inl (I 0))]) (mm_subc rfl (mm_subc rfl (mm_subc rfl (mm_subc rfl (mm_subc rfl (mm_subc rfl (mm_subc rfl (mm_subc rfl (mm_subc rfl (mm_subc rfl mm_sub0)))))))))) ?_
      obtain ⟨⟨y25, y26, h27⟩, hC, hF⟩ := bd_I hF
      dsimp only at hF
      refine A_L_M_split_100 5000 _ _ _ _ _ hC trivial ?_
      intro _ _ _ e2
      cases e2
      refine g_iload (q := 169) rfl rfl rfl ?_
      refine g_iload (q := 171) rfl rfl rfl ?_
      obtain ⟨⟨r29, h28⟩, hC, hF⟩ := bd_I hF
      dsimp only at hF
      refine g_ci2 (q := 174) rfl rfl (fun _ => rfl) rfl (A_M_atLeast hC) (by decide +kernel) rfl ?_
      refine g_istore (q := 176) rfl rfl ?_
      refine g_iload (q := 178) rfl rfl rfl ?_
      obtain ⟨v30, e_v30, hF⟩ := iw_I hF
      suffices K31 : Go 6 251 195 (mm_lf [(0, .inr (.inl (some 55))), (1, .inl x1), (2, .inl x2), (3, .inl x3), (6, .inl x6), (7, .inl x7), (10, .inl r29)]) [.inl v30] h28 r by
        clear hF
        by_cases c36 : x6 < 0
        · simp only [if_pos c36] at e_v30
          subst e_v30
          refine g_ifT rfl (decide_eq_true c36) ?_
          refine g_iload (q := 190) rfl rfl rfl ?_
          refine g_goto rfl ?_
          exact go_sub (mm_subc rfl (mm_subc rfl (mm_subc rfl (mm_subc rfl (mm_subc rfl (mm_subc rfl (mm_subc rfl mm_sub0))))))) K31
        · simp only [if_neg c36] at e_v30
          refine g_ifF (q := 181) rfl (decide_eq_false c36) rfl ?_
          refine g_iload (q := 183) rfl rfl rfl ?_
          refine g_iload (q := 185) rfl rfl rfl ?_
          by_cases c37 : x6 ≤ r29
          · simp only [if_pos c37] at e_v30
            subst e_v30
            refine g_icmpT rfl (decide_eq_true c37) ?_
            refine g_iload (q := 195) rfl rfl rfl ?_
            exact go_sub (mm_subc rfl (mm_subc rfl (mm_subc rfl (mm_subc rfl (mm_subc rfl (mm_subc rfl (mm_subc rfl mm_sub0))))))) K31
          · simp only [if_neg c37] at e_v30
            subst e_v30
            refine g_icmpF (q := 188) rfl (decide_eq_false c37) rfl ?_
            refine g_iload (q := 190) rfl rfl rfl ?_
            refine g_goto rfl ?_
            exact go_sub (mm_subc rfl (mm_subc rfl (mm_subc rfl (mm_subc rfl (mm_subc rfl (mm_subc rfl (mm_subc rfl mm_sub0))))))) K31
      clear e_v30
      refine g_istore (q := 197) rfl rfl ?_
      refine g_iload (q := 199) rfl rfl rfl ?_
      obtain ⟨v32, e_v32, hF⟩ := iw_I hF
      suffices K33 : Go 6 251 216 (mm_lf [(0, .inr (.inl (some 55))), (1, .inl x1), (2, .inl x2), (3, .inl x3), (5, .inl v30), (7, .inl x7)]) [.inl v32] h28 r by
        clear hF
        by_cases c34 : x6 < 0
        · simp only [if_pos c34] at e_v32
          subst e_v32
          refine g_ifT rfl (decide_eq_true c34) ?_
          refine g_iload (q := 211) rfl rfl rfl ?_
          refine g_goto rfl ?_
          exact go_sub (mm_subc rfl (mm_subc rfl (mm_subc rfl (mm_subc rfl (mm_subc rfl (mm_subc rfl mm_sub0)))))) K33
        · simp only [if_neg c34] at e_v32
          refine g_ifF (q := 202) rfl (decide_eq_false c34) rfl ?_
          refine g_iload (q := 204) rfl rfl rfl ?_
          refine g_iload (q := 206) rfl rfl rfl ?_
          by_cases c35 : x6 ≤ r29
          · simp only [if_pos c35] at e_v32
            subst e_v32
            refine g_icmpT rfl (decide_eq_true c35) ?_
            refine g_iload (q := 216) rfl rfl rfl ?_
            exact go_sub (mm_subc rfl (mm_subc rfl (mm_subc rfl (mm_subc rfl (mm_subc rfl (mm_subc rfl mm_sub0)))))) K33
          · simp only [if_neg c35] at e_v32
            subst e_v32
            refine g_icmpF (q := 209) rfl (decide_eq_false c35) rfl ?_
            refine g_iload (q := 211) rfl rfl rfl ?_
            refine g_goto rfl ?_
            exact go_sub (mm_subc rfl (mm_subc rfl (mm_subc rfl (mm_subc rfl (mm_subc rfl (mm_subc rfl mm_sub0)))))) K33
      clear e_v32
      refine g_istore (q := 218) rfl rfl ?_
      refine g_iinc (q := 221) rfl rfl rfl ?_
      refine g_goto rfl ?_
      refine go_sub (lo' := mm_lf [(0, .inr (.inl (some 55))), (1, .inl x1), (2, .inl x2), (3, .inl x3), (5, .inl v30), (6, .inl v32), (7, .inl (x7 + I 1))]) (mm_subc rfl (mm_subc rfl (mm_subc rfl (mm_subc rfl (mm_subc rfl (mm_subc rfl (mm_subc rfl mm_sub0))))))) ?_
      exact ih _ _ _ _ _ hF KR KX
theorem A_M_split {x1 : Int32} {x2 : Int32} {x3 : Int32} {h h' : MH} {v : Int32} (hF : F_M_split x1 x2 x3 h = some (v, h')) : Ex 7 251 [.inr (.inl (some 55)), .inl x1, .inl x2, .inl x3] h (some (.inl v), h') := by
  unfold F_M_split at hF
  refine ex_of (d := 6) rfl rfl ?_
  refine g_aload_n (q := 1) rfl rfl rfl ?_
  refine g_iconst (q := 2) rfl rfl ?_
  refine g_putI (q := 5) rfl (fun _ => rfl) rfl ?_
  obtain ⟨h1, e_h1, hF⟩ := hw_I hF
  rw [← e_h1]
  refine g_aload_n (q := 6) rfl rfl rfl ?_
  refine g_iload_n (q := 7) rfl rfl rfl ?_
  obtain ⟨⟨r3, h2⟩, hC, hF⟩ := bd_I hF
  dsimp only at hF
  refine g_ci2 (q := 10) rfl rfl (fun _ => rfl) rfl (A_M_isOne hC) (by decide +kernel) rfl ?_
  obtain ⟨k6, e_k6, hF⟩ := kw_I hF
  have K51 : ∀ (z4 : Int32) (h5 : MH), k6 z4 h5 = some (v, h') → Go 6 251 36 (mm_lf [(0, .inr (.inl (some 55))), (1, .inl x1), (2, .inl x2), (3, .inl x3)]) [.inl z4] h5 (some (.inl v), h') := by
    intro z4 h5 hF
    rw [e_k6] at hF
    dsimp only at hF
    refine g_istore (q := 38) rfl rfl ?_
    refine g_iload (q := 40) rfl rfl rfl ?_
    obtain ⟨k9, e_k9, hF⟩ := kw_I hF
    have K48 : ∀ (z7 : Int32) (h8 : MH), k9 z7 h8 = some (v, h') → Go 6 251 57 (mm_lf [(0, .inr (.inl (some 55))), (1, .inl x1), (2, .inl x2), (3, .inl x3)]) [.inl z7] h8 (some (.inl v), h') := by
      intro z7 h8 hF
      rw [e_k9] at hF
      dsimp only at hF
      refine g_istore (q := 59) rfl rfl ?_
      refine g_iload (q := 61) rfl rfl rfl ?_
      by_cases c47 : 0 ≤ z7
      · rw [if_pos c47] at hF
        refine g_ifT rfl (decide_eq_true c47) ?_
        refine g_iconst (q := 72) rfl rfl ?_
        refine g_istore (q := 74) rfl rfl ?_
        refine g_iconst (q := 75) rfl rfl ?_
        refine g_istore (q := 77) rfl rfl ?_
        refine g_iconst (q := 78) rfl rfl ?_
        refine g_istore (q := 80) rfl rfl ?_
        refine go_sub (lo' := mm_lf [(0, .inr (.inl (some 55))), (1, .inl x1), (2, .inl x2), (3, .inl x3), (5, .inl (I 0)), (6, .inl (I (-1))), (7, .inl (I 0))]) (mm_subc rfl (mm_subc rfl (mm_subc rfl (mm_subc rfl (mm_subc rfl (mm_subc rfl (mm_subc rfl mm_sub0))))))) ?_
        obtain ⟨⟨y39, y40, h41⟩, hC, hF⟩ := bd_I hF
        dsimp only at hF
        refine A_L_M_split_80 5000 _ _ _ _ _ hC trivial ?_
        intro _ _ _ e2
        cases e2
        refine g_iload_n (q := 225) rfl rfl rfl ?_
        obtain ⟨v42, e_v42, hF⟩ := iw_I hF
        suffices K43 : Go 6 251 235 (mm_lf []) [.inl v42] h41 (some (.inl v), h') by
          clear hF
          by_cases c44 : ¬ x3 = 0
          · simp only [if_pos c44] at e_v42
            subst e_v42
            refine g_ifT rfl (decide_eq_true c44) ?_
            refine g_iload (q := 235) rfl rfl rfl ?_
            exact go_sub mm_sub0 K43
          · simp only [if_neg c44] at e_v42
            subst e_v42
            refine g_ifF (q := 228) rfl (decide_eq_false c44) rfl ?_
            refine g_iload (q := 230) rfl rfl rfl ?_
            refine g_goto rfl ?_
            exact go_sub mm_sub0 K43
        clear e_v42
        injection hF with hF
        injection hF with hv hh
        subst hv
        subst hh
        exact g_iret rfl
      · rw [if_neg c47] at hF
        refine g_ifF (q := 64) rfl (decide_eq_false c47) rfl ?_
        refine g_aload_n (q := 65) rfl rfl rfl ?_
        refine g_iload (q := 67) rfl rfl rfl ?_
        obtain ⟨⟨r46, h45⟩, hC, hF⟩ := bd_I hF
        dsimp only at hF
        refine g_ci2 (q := 70) rfl rfl (fun _ => rfl) rfl (A_M_refuse hC) (by decide +kernel) rfl ?_
        injection hF with hF
        injection hF with hv hh
        subst hv
        subst hh
        exact g_iret rfl
    clear e_k9
    by_cases c50 : ¬ z4 = 0
    · rw [if_pos c50] at hF
      refine g_ifT rfl (decide_eq_true c50) ?_
      refine g_iload (q := 57) rfl rfl rfl ?_
      exact go_sub (mm_subc rfl (mm_subc rfl (mm_subc rfl (mm_subc rfl mm_sub0)))) (K48 _ _ hF)
    · rw [if_neg c50] at hF
      refine g_ifF (q := 43) rfl (decide_eq_false c50) rfl ?_
      refine g_aload_n (q := 44) rfl rfl rfl ?_
      refine g_getI (q := 47) rfl (fun _ => rfl) rfl ?_
      by_cases c49 : ¬ (h5.1 55 5) = 0
      · rw [if_pos c49] at hF
        refine g_ifT rfl (decide_eq_true c49) ?_
        refine g_iload (q := 57) rfl rfl rfl ?_
        exact go_sub (mm_subc rfl (mm_subc rfl (mm_subc rfl (mm_subc rfl mm_sub0)))) (K48 _ _ hF)
      · rw [if_neg c49] at hF
        refine g_ifF (q := 50) rfl (decide_eq_false c49) rfl ?_
        refine g_bipush (q := 52) rfl (by decide +kernel) rfl ?_
        refine g_goto rfl ?_
        exact go_sub (mm_subc rfl (mm_subc rfl (mm_subc rfl (mm_subc rfl mm_sub0)))) (K48 _ _ hF)
  clear e_k6
  by_cases c58 : r3 = 0
  · rw [if_pos c58] at hF
    refine g_ifT rfl (decide_eq_true c58) ?_
    refine g_iconst (q := 36) rfl rfl ?_
    exact go_sub (mm_subc rfl (mm_subc rfl (mm_subc rfl (mm_subc rfl mm_sub0)))) (K51 _ _ hF)
  · rw [if_neg c58] at hF
    refine g_ifF (q := 13) rfl (decide_eq_false c58) rfl ?_
    refine g_aload_n (q := 14) rfl rfl rfl ?_
    refine g_iload_n (q := 15) rfl rfl rfl ?_
    obtain ⟨⟨r53, h52⟩, hC, hF⟩ := bd_I hF
    dsimp only at hF
    refine g_ci2 (q := 18) rfl rfl (fun _ => rfl) rfl (A_M_isOne hC) (by decide +kernel) rfl ?_
    by_cases c57 : r53 = 0
    · rw [if_pos c57] at hF
      refine g_ifT rfl (decide_eq_true c57) ?_
      refine g_iconst (q := 36) rfl rfl ?_
      exact go_sub (mm_subc rfl (mm_subc rfl (mm_subc rfl (mm_subc rfl mm_sub0)))) (K51 _ _ hF)
    · rw [if_neg c57] at hF
      refine g_ifF (q := 21) rfl (decide_eq_false c57) rfl ?_
      refine g_iload_n (q := 22) rfl rfl rfl ?_
      refine g_iload_n (q := 23) rfl rfl rfl ?_
      by_cases c56 : x1 = x2
      · rw [if_pos c56] at hF
        refine g_icmpT rfl (decide_eq_true c56) ?_
        refine g_iconst (q := 36) rfl rfl ?_
        exact go_sub (mm_subc rfl (mm_subc rfl (mm_subc rfl (mm_subc rfl mm_sub0)))) (K51 _ _ hF)
      · rw [if_neg c56] at hF
        refine g_icmpF (q := 26) rfl (decide_eq_false c56) rfl ?_
        refine g_iconst (q := 27) rfl rfl ?_
        refine g_iload_n (q := 28) rfl rfl rfl ?_
        refine g_iconst (q := 29) rfl rfl ?_
        obtain ⟨⟨r55, h54⟩, hC, hF⟩ := bd_I hF
        dsimp only at hF
        refine g_ci3 (q := 32) rfl rfl (fun _ => rfl) rfl (A_M_wrongBit hC) (by decide +kernel) rfl ?_
        refine g_goto rfl ?_
        exact go_sub (mm_subc rfl (mm_subc rfl (mm_subc rfl (mm_subc rfl mm_sub0)))) (K51 _ _ hF)
