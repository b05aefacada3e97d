-- decompiled by wip/whole/dec.py: what a method does (F_), and that the mini machine does it (A_)
def L_C_learned_27 (x1 : Int32) (x2 : Int32) : Nat → Int32 → Int32 → MH → Option (Int32 × MH)
  | 0, _, _, _ => none
  | n + 1, x3, x4, h => if (h.1 8 7) ≤ x4 then some (x3, h) else bd (F_H_timeLearned x4 x1 x2 x4 h) (fun (r8, h7) => L_C_learned_27 x1 x2 n (x3 + r8) (x4 + I 1) h7)
/-- BothCorners.learned(II)I -/
def F_C_learned (x1 : Int32) (x2 : Int32) (h : MH) : Option (Int32 × MH) := bd (F_C_noWay x1 h) (fun (r2, h1) => if ¬ r2 = 0 then bd (F_C_refuse (I (-1)) h1) (fun (r4, h3) => some (r4, h3)) else bd (F_C_noOne x2 h1) (fun (r6, h5) => if r6 = 0 then bd (L_C_learned_27 x1 x2 5000 (I 0) (I 0) h5) (fun (y10, h11) => some (y10, h11)) else bd (F_C_refuse (I (-1)) h5) (fun (r13, h12) => some (r13, h12))))
theorem A_L_C_learned_27 {x1 : Int32} {x2 : Int32} {r : MRs} : ∀ (n : Nat) (x3 : Int32) (x4 : Int32) (h : MH) (x : Int32 × MH), L_C_learned_27 x1 x2 n x3 x4 h = some x → (True) → (∀ (e3 : Int32) (h' : MH), x = (e3, h') → Go 6 86 61 (mm_lf [(3, .inl e3)]) [] h' r) → Go 6 86 27 (mm_lf [(0, .inr (.inl (some 0))), (1, .inl x1), (2, .inl x2), (3, .inl x3), (4, .inl x4)]) [] h r
  | 0, _, _, _, _, hF, _, _ => by cases hF
  | n + 1, x3, x4, h, x, hF, KR, KX => by
    have ih := fun a3 a4 => A_L_C_learned_27 (x1 := x1) (x2 := x2) (r := r) n a3 a4 
    unfold L_C_learned_27 at hF
    refine g_iload (q := 29) rfl rfl rfl ?_
    refine g_aload_n (q := 30) rfl rfl rfl ?_
    refine g_getR (q := 33) rfl (fun _ => rfl) rfl ?_
    refine g_getI (q := 36) rfl (fun _ => rfl) rfl ?_
    by_cases c9 : (h.1 8 7) ≤ x4
    · rw [if_pos c9] at hF
      refine g_icmpT rfl (decide_eq_true c9) ?_
      injection hF with hF
      subst hF
      exact go_sub (mm_subc rfl mm_sub0) (KX _ _ rfl)
    · rw [if_neg c9] at hF
      refine g_icmpF (q := 39) rfl (decide_eq_false c9) rfl ?_
      refine g_iload_n (q := 40) rfl rfl rfl ?_
      refine g_aload_n (q := 41) rfl rfl rfl ?_
      refine g_getR (q := 44) rfl (fun _ => rfl) rfl ?_
      refine g_iload (q := 46) rfl rfl rfl ?_
      refine g_iload_n (q := 47) rfl rfl rfl ?_
      refine g_iload_n (q := 48) rfl rfl rfl ?_
      refine g_iload (q := 50) rfl rfl rfl ?_
      obtain ⟨⟨r8, h7⟩, hC, hF⟩ := bd_I hF
      dsimp only at hF
      refine g_ci5 (q := 53) rfl rfl (fun _ => rfl) rfl (A_H_timeLearned hC) (by decide +kernel) rfl ?_
      refine g_iadd (q := 54) rfl rfl ?_
      refine g_istore_n (q := 55) rfl rfl ?_
      refine g_iinc (q := 58) rfl rfl rfl ?_
      refine g_goto rfl ?_
      refine go_sub (lo' := mm_lf [(0, .inr (.inl (some 0))), (1, .inl x1), (2, .inl x2), (3, .inl (x3 + r8)), (4, .inl (x4 + I 1))]) (mm_subc rfl (mm_subc rfl (mm_subc rfl (mm_subc rfl (mm_subc rfl mm_sub0))))) ?_
      exact ih _ _ _ _ hF KR KX
theorem A_C_learned {x1 : Int32} {x2 : Int32} {h h' : MH} {v : Int32} (hF : F_C_learned x1 x2 h = some (v, h')) : Ex 7 86 [.inr (.inl (some 0)), .inl x1, .inl x2] h (some (.inl v), h') := by
  unfold F_C_learned at hF
  refine ex_of (d := 6) rfl rfl ?_
  refine g_aload_n (q := 1) rfl rfl rfl ?_
  refine g_iload_n (q := 2) rfl rfl rfl ?_
  obtain ⟨⟨r2, h1⟩, hC, hF⟩ := bd_I hF
  dsimp only at hF
  refine g_ci2 (q := 5) rfl rfl (fun _ => rfl) rfl (A_C_noWay hC) (by decide +kernel) rfl ?_
  by_cases c15 : ¬ r2 = 0
  · rw [if_pos c15] at hF
    refine g_ifT rfl (decide_eq_true c15) ?_
    refine g_aload_n (q := 17) rfl rfl rfl ?_
    refine g_iconst (q := 18) rfl rfl ?_
    obtain ⟨⟨r4, h3⟩, hC, hF⟩ := bd_I hF
    dsimp only at hF
    refine g_ci2 (q := 21) rfl rfl (fun _ => rfl) rfl (A_C_refuse hC) (by decide +kernel) rfl ?_
    injection hF with hF
    injection hF with hv hh
    subst hv
    subst hh
    exact g_iret rfl
  · rw [if_neg c15] at hF
    refine g_ifF (q := 8) rfl (decide_eq_false c15) rfl ?_
    refine g_aload_n (q := 9) rfl rfl rfl ?_
    refine g_iload_n (q := 10) rfl rfl rfl ?_
    obtain ⟨⟨r6, h5⟩, hC, hF⟩ := bd_I hF
    dsimp only at hF
    refine g_ci2 (q := 13) rfl rfl (fun _ => rfl) rfl (A_C_noOne hC) (by decide +kernel) rfl ?_
    by_cases c14 : r6 = 0
    · rw [if_pos c14] at hF
      refine g_ifT rfl (decide_eq_true c14) ?_
      refine g_iconst (q := 23) rfl rfl ?_
      refine g_istore_n (q := 24) rfl rfl ?_
      refine g_iconst (q := 25) rfl rfl ?_
      refine g_istore (q := 27) rfl rfl ?_
      refine go_sub (lo' := mm_lf [(0, .inr (.inl (some 0))), (1, .inl x1), (2, .inl x2), (3, .inl (I 0)), (4, .inl (I 0))]) (mm_subc rfl (mm_subc rfl (mm_subc rfl (mm_subc rfl (mm_subc rfl mm_sub0))))) ?_
      obtain ⟨⟨y10, h11⟩, hC, hF⟩ := bd_I hF
      dsimp only at hF
      refine A_L_C_learned_27 5000 _ _ _ _ hC trivial ?_
      intro _ _ e2
      cases e2
      refine g_iload_n (q := 62) rfl rfl rfl ?_
      injection hF with hF
      injection hF with hv hh
      subst hv
      subst hh
      exact g_iret rfl
    · rw [if_neg c14] at hF
      refine g_ifF (q := 16) rfl (decide_eq_false c14) rfl ?_
      refine g_aload_n (q := 17) rfl rfl rfl ?_
      refine g_iconst (q := 18) rfl rfl ?_
      obtain ⟨⟨r13, h12⟩, hC, hF⟩ := bd_I hF
      dsimp only at hF
      refine g_ci2 (q := 21) rfl rfl (fun _ => rfl) rfl (A_C_refuse hC) (by decide +kernel) rfl ?_
      injection hF with hF
      injection hF with hv hh
      subst hv
      subst hh
      exact g_iret rfl
def L_C_order_52 (x1 : Int32) (x2 : Int32) (x3 : Int32) (x4 : Int32) : Nat → Int32 → MH → Option (MH)
  | 0, _, _ => none
  | n + 1, x5, h => if (h.1 8 7) ≤ x5 then some (h) else ck (mm_in x4 6) (bd (F_H_timeLearned x5 x1 x2 x4 h) (fun (r9, h8) => ck (mm_in x5 6) (hw (mm_hset h8.1 (42 + Int32.toNatClampNeg x4) (Int32.toNatClampNeg x5) r9, h8.2) (fun h10 => L_C_order_52 x1 x2 x3 x4 n (x5 + I 1) h10))))
def L_C_order_37 (x1 : Int32) (x2 : Int32) (x3 : Int32) : Nat → Int32 → MH → Option (MH)
  | 0, _, _ => none
  | n + 1, x4, h => if (h.1 8 7) ≤ x4 then some (h) else bd (L_C_order_52 x1 x2 x3 x4 5000 (I 0) h) (fun h12 => L_C_order_37 x1 x2 x3 n (x4 + I 1) h12)
/-- BothCorners.order(III)I -/
def F_C_order (x1 : Int32) (x2 : Int32) (x3 : Int32) (h : MH) : Option (Int32 × MH) := bd (F_C_noWay x1 h) (fun (r2, h1) => if ¬ r2 = 0 then bd (F_C_refuse (I (-1)) h1) (fun (r4, h3) => some (r4, h3)) else bd (F_C_noOne x2 h1) (fun (r6, h5) => if r6 = 0 then if (I (-1)) ≤ x3 then bd (L_C_order_37 x1 x2 x3 5000 (I 0) h5) (fun h14 => bd (F_S_cheapestOrder (h14.1 8 7) h14) (fun h15 => bd (F_S_answer x3 h15) (fun (r17, h16) => some (r17, h16)))) else bd (F_C_refuse (I (-4)) h5) (fun (r19, h18) => some (r19, h18)) else bd (F_C_refuse (I (-1)) h5) (fun (r22, h21) => some (r22, h21))))
theorem A_L_C_order_52 {x1 : Int32} {x2 : Int32} {x3 : Int32} {x4 : Int32} {r : MRs} : ∀ (n : Nat) (x5 : Int32) (h : MH) (x : MH), L_C_order_52 x1 x2 x3 x4 n x5 h = some x → (True) → (∀ (h' : MH), x = (h') → Go 17 87 96 (mm_lf [(0, .inr (.inl (some 0))), (1, .inl x1), (2, .inl x2), (3, .inl x3), (4, .inl x4)]) [] h' r) → Go 17 87 52 (mm_lf [(0, .inr (.inl (some 0))), (1, .inl x1), (2, .inl x2), (3, .inl x3), (4, .inl x4), (5, .inl x5)]) [] h r
  | 0, _, _, _, hF, _, _ => by cases hF
  | n + 1, x5, h, x, hF, KR, KX => by
    have ih := fun a5 => A_L_C_order_52 (x1 := x1) (x2 := x2) (x3 := x3) (x4 := x4) (r := r) n a5 
    unfold L_C_order_52 at hF
    refine g_iload (q := 54) rfl rfl rfl ?_
    refine g_aload_n (q := 55) rfl rfl rfl ?_
    refine g_getR (q := 58) rfl (fun _ => rfl) rfl ?_
    refine g_getI (q := 61) rfl (fun _ => rfl) rfl ?_
    by_cases c11 : (h.1 8 7) ≤ x5
    · rw [if_pos c11] at hF
      refine g_icmpT rfl (decide_eq_true c11) ?_
      injection hF with hF
      subst hF
      exact go_sub (mm_subc rfl (mm_subc rfl (mm_subc rfl (mm_subc rfl (mm_subc rfl mm_sub0))))) (KX  _ rfl)
    · rw [if_neg c11] at hF
      refine g_icmpF (q := 64) rfl (decide_eq_false c11) rfl ?_
      refine g_aload_n (q := 65) rfl rfl rfl ?_
      refine g_getR (q := 68) rfl (fun _ => rfl) rfl ?_
      refine g_getR (q := 71) rfl (fun _ => rfl) rfl ?_
      refine g_iload (q := 73) rfl rfl rfl ?_
      obtain ⟨hi7, hF⟩ := ck_I hF
      refine g_aaload (q := 74) rfl rfl rfl hi7 (mm_c6r hi7) rfl ?_
      refine g_iload (q := 76) rfl rfl rfl ?_
      refine g_aload_n (q := 77) rfl rfl rfl ?_
      refine g_getR (q := 80) rfl (fun _ => rfl) rfl ?_
      refine g_iload (q := 82) rfl rfl rfl ?_
      refine g_iload_n (q := 83) rfl rfl rfl ?_
      refine g_iload_n (q := 84) rfl rfl rfl ?_
      refine g_iload (q := 86) rfl rfl rfl ?_
      obtain ⟨⟨r9, h8⟩, hC, hF⟩ := bd_I hF
      dsimp only at hF
      refine g_ci5 (q := 89) rfl rfl (fun _ => rfl) rfl (A_H_timeLearned hC) (by decide +kernel) rfl ?_
      obtain ⟨hi, hF⟩ := ck_I hF
      refine g_iastore (q := 90) rfl (mm_c6 hi7).1 (mm_c6 hi7).2.2 hi rfl ?_
      obtain ⟨h10, e_h10, hF⟩ := hw_I hF
      rw [← e_h10]
      refine g_iinc (q := 93) rfl rfl rfl ?_
      refine g_goto rfl ?_
      refine go_sub (lo' := mm_lf [(0, .inr (.inl (some 0))), (1, .inl x1), (2, .inl x2), (3, .inl x3), (4, .inl x4), (5, .inl (x5 + I 1))]) (mm_subc rfl (mm_subc rfl (mm_subc rfl (mm_subc rfl (mm_subc rfl (mm_subc rfl mm_sub0)))))) ?_
      exact ih _ _ _ hF KR KX
theorem A_L_C_order_37 {x1 : Int32} {x2 : Int32} {x3 : Int32} {r : MRs} : ∀ (n : Nat) (x4 : Int32) (h : MH) (x : MH), L_C_order_37 x1 x2 x3 n x4 h = some x → (True) → (∀ (h' : MH), x = (h') → Go 17 87 102 (mm_lf [(0, .inr (.inl (some 0))), (3, .inl x3)]) [] h' r) → Go 17 87 37 (mm_lf [(0, .inr (.inl (some 0))), (1, .inl x1), (2, .inl x2), (3, .inl x3), (4, .inl x4)]) [] h r
  | 0, _, _, _, hF, _, _ => by cases hF
  | n + 1, x4, h, x, hF, KR, KX => by
    have ih := fun a4 => A_L_C_order_37 (x1 := x1) (x2 := x2) (x3 := x3) (r := r) n a4 
    unfold L_C_order_37 at hF
    refine g_iload (q := 39) rfl rfl rfl ?_
    refine g_aload_n (q := 40) rfl rfl rfl ?_
    refine g_getR (q := 43) rfl (fun _ => rfl) rfl ?_
    refine g_getI (q := 46) rfl (fun _ => rfl) rfl ?_
    by_cases c13 : (h.1 8 7) ≤ x4
    · rw [if_pos c13] at hF
      refine g_icmpT rfl (decide_eq_true c13) ?_
      injection hF with hF
      subst hF
      exact go_sub (mm_subc rfl (mm_subc rfl mm_sub0)) (KX  _ rfl)
    · rw [if_neg c13] at hF
      refine g_icmpF (q := 49) rfl (decide_eq_false c13) rfl ?_
      refine g_iconst (q := 50) rfl rfl ?_
      refine g_istore (q := 52) rfl rfl ?_
      refine go_sub (lo' := mm_lf [(0, .inr (.inl (some 0))), (1, .inl x1), (2, .inl x2), (3, .inl x3), (4, .inl x4), (5, .inl (I 0))]) (mm_subc rfl (mm_subc rfl (mm_subc rfl (mm_subc rfl (mm_subc rfl (mm_subc rfl mm_sub0)))))) ?_
      obtain ⟨h12, hC, hF⟩ := bd_I hF
      refine A_L_C_order_52 5000 _ _ _ hC trivial ?_
      intro _ e2
      cases e2
      refine g_iinc (q := 99) rfl rfl rfl ?_
      refine g_goto rfl ?_
      refine go_sub (lo' := mm_lf [(0, .inr (.inl (some 0))), (1, .inl x1), (2, .inl x2), (3, .inl x3), (4, .inl (x4 + I 1))]) (mm_subc rfl (mm_subc rfl (mm_subc rfl (mm_subc rfl (mm_subc rfl mm_sub0))))) ?_
      exact ih _ _ _ hF KR KX
theorem A_C_order {x1 : Int32} {x2 : Int32} {x3 : Int32} {h h' : MH} {v : Int32} (hF : F_C_order x1 x2 x3 h = some (v, h')) : Ex 18 87 [.inr (.inl (some 0)), .inl x1, .inl x2, .inl x3] h (some (.inl v), h') := by
  unfold F_C_order at hF
  refine ex_of (d := 17) rfl rfl ?_
  refine g_aload_n (q := 1) rfl rfl rfl ?_
  refine g_iload_n (q := 2) rfl rfl rfl ?_
  obtain ⟨⟨r2, h1⟩, hC, hF⟩ := bd_I hF
  dsimp only at hF
  refine g_ci2 (q := 5) rfl rfl (fun _ => rfl) rfl (A_C_noWay hC) (by decide +kernel) rfl ?_
  by_cases c24 : ¬ r2 = 0
  · rw [if_pos c24] at hF
    refine g_ifT rfl (decide_eq_true c24) ?_
    refine g_aload_n (q := 17) rfl rfl rfl ?_
    refine g_iconst (q := 18) rfl rfl ?_
    obtain ⟨⟨r4, h3⟩, hC, hF⟩ := bd_I hF
    dsimp only at hF
    refine g_ci2 (q := 21) rfl rfl (fun _ => rfl) rfl (A_C_refuse hC) (by decide +kernel) rfl ?_
    injection hF with hF
    injection hF with hv hh
    subst hv
    subst hh
    exact g_iret rfl
  · rw [if_neg c24] at hF
    refine g_ifF (q := 8) rfl (decide_eq_false c24) rfl ?_
    refine g_aload_n (q := 9) rfl rfl rfl ?_
    refine g_iload_n (q := 10) rfl rfl rfl ?_
    obtain ⟨⟨r6, h5⟩, hC, hF⟩ := bd_I hF
    dsimp only at hF
    refine g_ci2 (q := 13) rfl rfl (fun _ => rfl) rfl (A_C_noOne hC) (by decide +kernel) rfl ?_
    by_cases c23 : r6 = 0
    · rw [if_pos c23] at hF
      refine g_ifT rfl (decide_eq_true c23) ?_
      refine g_iload_n (q := 23) rfl rfl rfl ?_
      refine g_iconst (q := 24) rfl rfl ?_
      by_cases c20 : (I (-1)) ≤ x3
      · rw [if_pos c20] at hF
        refine g_icmpT rfl (decide_eq_true c20) ?_
        refine g_iconst (q := 35) rfl rfl ?_
        refine g_istore (q := 37) rfl rfl ?_
        refine go_sub (lo' := mm_lf [(0, .inr (.inl (some 0))), (1, .inl x1), (2, .inl x2), (3, .inl x3), (4, .inl (I 0))]) (mm_subc rfl (mm_subc rfl (mm_subc rfl (mm_subc rfl (mm_subc rfl mm_sub0))))) ?_
        obtain ⟨h14, hC, hF⟩ := bd_I hF
        refine A_L_C_order_37 5000 _ _ _ hC trivial ?_
        intro _ e2
        cases e2
        refine g_aload_n (q := 103) rfl rfl rfl ?_
        refine g_getR (q := 106) rfl (fun _ => rfl) rfl ?_
        refine g_aload_n (q := 107) rfl rfl rfl ?_
        refine g_getR (q := 110) rfl (fun _ => rfl) rfl ?_
        refine g_getI (q := 113) rfl (fun _ => rfl) rfl ?_
        obtain ⟨h15, hC, hF⟩ := bd_I hF
        refine g_cv2 (q := 116) rfl rfl (fun _ => rfl) rfl (A_S_cheapestOrder hC) (by decide +kernel) rfl ?_
        refine g_aload_n (q := 117) rfl rfl rfl ?_
        refine g_getR (q := 120) rfl (fun _ => rfl) rfl ?_
        refine g_iload_n (q := 121) rfl rfl rfl ?_
        obtain ⟨⟨r17, h16⟩, hC, hF⟩ := bd_I hF
        dsimp only at hF
        refine g_ci2 (q := 124) rfl rfl (fun _ => rfl) rfl (A_S_answer hC) (by decide +kernel) rfl ?_
        injection hF with hF
        injection hF with hv hh
        subst hv
        subst hh
        exact g_iret rfl
      · rw [if_neg c20] at hF
        refine g_icmpF (q := 27) rfl (decide_eq_false c20) rfl ?_
        refine g_aload_n (q := 28) rfl rfl rfl ?_
        refine g_bipush (q := 30) rfl (by decide +kernel) rfl ?_
        obtain ⟨⟨r19, h18⟩, hC, hF⟩ := bd_I hF
        dsimp only at hF
        refine g_ci2 (q := 33) rfl rfl (fun _ => rfl) rfl (A_C_refuse hC) (by decide +kernel) rfl ?_
        injection hF with hF
        injection hF with hv hh
        subst hv
        subst hh
        exact g_iret rfl
    · rw [if_neg c23] at hF
      refine g_ifF (q := 16) rfl (decide_eq_false c23) rfl ?_
      refine g_aload_n (q := 17) rfl rfl rfl ?_
      refine g_iconst (q := 18) rfl rfl ?_
      obtain ⟨⟨r22, h21⟩, hC, hF⟩ := bd_I hF
      dsimp only at hF
      refine g_ci2 (q := 21) rfl rfl (fun _ => rfl) rfl (A_C_refuse hC) (by decide +kernel) rfl ?_
      injection hF with hF
      injection hF with hv hh
      subst hv
      subst hh
      exact g_iret rfl
/-- BothCorners.tapes(IIII)I -/
def F_C_tapes (x1 : Int32) (x2 : Int32) (x3 : Int32) (x4 : Int32) (h : MH) : Option (Int32 × MH) := bd (F_C_lacks x1 x2 x3 h) (fun (r2, h1) => if r2 = 0 then if 0 ≤ x4 then if x4 ≤ (I 9999) then ck (mm_in x3 4) (ck (mm_in x3 4) (bd (F_H_timeOf x1 (I 5) (I 0) (h1.1 11 (Int32.toNatClampNeg x3)) (h1.1 12 (Int32.toNatClampNeg x3)) h1) (fun (r4, h3) => bd (F_H_timeBy x1 x2 x3 h3) (fun (r6, h5) => if 0 < (r6 - r4) then cd (¬ (r6 - r4) = 0) (iw (if ((x4 / (r6 - r4)) + (I 1)) ≤ (I 999) then (x4 / (r6 - r4)) + (I 1) else I (-9)) (fun v7 => some (v7, h5))) else some (I (-9), h5))))) else bd (F_C_refuse (I (-6)) h1) (fun (r12, h11) => some (r12, h11)) else bd (F_C_refuse (I (-4)) h1) (fun (r15, h14) => some (r15, h14)) else bd (F_C_refuse (I (-1)) h1) (fun (r18, h17) => some (r18, h17)))
theorem A_C_tapes {x1 : Int32} {x2 : Int32} {x3 : Int32} {x4 : Int32} {h h' : MH} {v : Int32} (hF : F_C_tapes x1 x2 x3 x4 h = some (v, h')) : Ex 6 80 [.inr (.inl (some 0)), .inl x1, .inl x2, .inl x3, .inl x4] h (some (.inl v), h') := by
  unfold F_C_tapes at hF
  refine ex_of (d := 5) rfl rfl ?_
  refine g_aload_n (q := 1) rfl rfl rfl ?_
  refine g_iload_n (q := 2) rfl rfl rfl ?_
  refine g_iload_n (q := 3) rfl rfl rfl ?_
  refine g_iload_n (q := 4) rfl rfl rfl ?_
  obtain ⟨⟨r2, h1⟩, hC, hF⟩ := bd_I hF
  dsimp only at hF
  refine g_ci4 (q := 7) rfl rfl (fun _ => rfl) rfl (A_C_lacks hC) (by decide +kernel) rfl ?_
  by_cases c19 : r2 = 0
  · rw [if_pos c19] at hF
    refine g_ifT rfl (decide_eq_true c19) ?_
    refine g_iload (q := 18) rfl rfl rfl ?_
    by_cases c16 : 0 ≤ x4
    · rw [if_pos c16] at hF
      refine g_ifT rfl (decide_eq_true c16) ?_
      refine g_iload (q := 30) rfl rfl rfl ?_
      refine g_sipush (q := 33) rfl (by decide +kernel) rfl ?_
      by_cases c13 : x4 ≤ (I 9999)
      · rw [if_pos c13] at hF
        refine g_icmpT rfl (decide_eq_true c13) ?_
        refine g_aload_n (q := 44) rfl rfl rfl ?_
        refine g_getR (q := 47) rfl (fun _ => rfl) rfl ?_
        refine g_iload_n (q := 48) rfl rfl rfl ?_
        refine g_iconst (q := 49) rfl rfl ?_
        refine g_iconst (q := 50) rfl rfl ?_
        refine g_aload_n (q := 51) rfl rfl rfl ?_
        refine g_getR (q := 54) rfl (fun _ => rfl) rfl ?_
        refine g_getR (q := 57) rfl (fun _ => rfl) rfl ?_
        refine g_iload_n (q := 58) rfl rfl rfl ?_
        obtain ⟨hi, hF⟩ := ck_I hF
        refine g_iaload (q := 59) rfl rfl rfl hi rfl ?_
        refine g_aload_n (q := 60) rfl rfl rfl ?_
        refine g_getR (q := 63) rfl (fun _ => rfl) rfl ?_
        refine g_getR (q := 66) rfl (fun _ => rfl) rfl ?_
        refine g_iload_n (q := 67) rfl rfl rfl ?_
        obtain ⟨hi, hF⟩ := ck_I hF
        refine g_iaload (q := 68) rfl rfl rfl hi rfl ?_
        obtain ⟨⟨r4, h3⟩, hC, hF⟩ := bd_I hF
        dsimp only at hF
        refine g_ci6 (q := 71) rfl rfl (fun _ => rfl) rfl (A_H_timeOf hC) (by decide +kernel) rfl ?_
        refine g_istore (q := 73) rfl rfl ?_
        refine g_aload_n (q := 74) rfl rfl rfl ?_
        refine g_getR (q := 77) rfl (fun _ => rfl) rfl ?_
        refine g_iload_n (q := 78) rfl rfl rfl ?_
        refine g_iload_n (q := 79) rfl rfl rfl ?_
        refine g_iload_n (q := 80) rfl rfl rfl ?_
        obtain ⟨⟨r6, h5⟩, hC, hF⟩ := bd_I hF
        dsimp only at hF
        refine g_ci4 (q := 83) rfl rfl (fun _ => rfl) rfl (A_H_timeBy hC) (by decide +kernel) rfl ?_
        refine g_iload (q := 85) rfl rfl rfl ?_
        refine g_isub (q := 86) rfl rfl ?_
        refine g_istore (q := 88) rfl rfl ?_
        refine g_iload (q := 90) rfl rfl rfl ?_
        by_cases c10 : 0 < (r6 - r4)
        · rw [if_pos c10] at hF
          refine g_ifT rfl (decide_eq_true c10) ?_
          refine g_iload (q := 98) rfl rfl rfl ?_
          refine g_iload (q := 100) rfl rfl rfl ?_
          obtain ⟨hne, hF⟩ := cd_I hF
          refine g_idiv (q := 101) rfl hne rfl ?_
          refine g_iconst (q := 102) rfl rfl ?_
          refine g_iadd (q := 103) rfl rfl ?_
          refine g_istore (q := 105) rfl rfl ?_
          refine g_iload (q := 107) rfl rfl rfl ?_
          refine g_sipush (q := 110) rfl (by decide +kernel) rfl ?_
          obtain ⟨v7, e_v7, hF⟩ := iw_I hF
          suffices K8 : Go 5 80 120 (mm_lf []) [.inl v7] h5 (some (.inl v), h') by
            clear hF
            by_cases c9 : ((x4 / (r6 - r4)) + (I 1)) ≤ (I 999)
            · simp only [if_pos c9] at e_v7
              subst e_v7
              refine g_icmpT rfl (decide_eq_true c9) ?_
              refine g_iload (q := 120) rfl rfl rfl ?_
              exact go_sub mm_sub0 K8
            · simp only [if_neg c9] at e_v7
              subst e_v7
              refine g_icmpF (q := 113) rfl (decide_eq_false c9) rfl ?_
              refine g_bipush (q := 115) rfl (by decide +kernel) rfl ?_
              refine g_goto rfl ?_
              exact go_sub mm_sub0 K8
          clear e_v7
          injection hF with hF
          injection hF with hv hh
          subst hv
          subst hh
          exact g_iret rfl
        · rw [if_neg c10] at hF
          refine g_ifF (q := 93) rfl (decide_eq_false c10) rfl ?_
          refine g_bipush (q := 95) rfl (by decide +kernel) rfl ?_
          injection hF with hF
          injection hF with hv hh
          subst hv
          subst hh
          exact g_iret rfl
      · rw [if_neg c13] at hF
        refine g_icmpF (q := 36) rfl (decide_eq_false c13) rfl ?_
        refine g_aload_n (q := 37) rfl rfl rfl ?_
        refine g_bipush (q := 39) rfl (by decide +kernel) rfl ?_
        obtain ⟨⟨r12, h11⟩, hC, hF⟩ := bd_I hF
        dsimp only at hF
        refine g_ci2 (q := 42) rfl rfl (fun _ => rfl) rfl (A_C_refuse hC) (by decide +kernel) rfl ?_
        injection hF with hF
        injection hF with hv hh
        subst hv
        subst hh
        exact g_iret rfl
    · rw [if_neg c16] at hF
      refine g_ifF (q := 21) rfl (decide_eq_false c16) rfl ?_
      refine g_aload_n (q := 22) rfl rfl rfl ?_
      refine g_bipush (q := 24) rfl (by decide +kernel) rfl ?_
      obtain ⟨⟨r15, h14⟩, hC, hF⟩ := bd_I hF
      dsimp only at hF
      refine g_ci2 (q := 27) rfl rfl (fun _ => rfl) rfl (A_C_refuse hC) (by decide +kernel) rfl ?_
      injection hF with hF
      injection hF with hv hh
      subst hv
      subst hh
      exact g_iret rfl
  · rw [if_neg c19] at hF
    refine g_ifF (q := 10) rfl (decide_eq_false c19) rfl ?_
    refine g_aload_n (q := 11) rfl rfl rfl ?_
    refine g_iconst (q := 12) rfl rfl ?_
    obtain ⟨⟨r18, h17⟩, hC, hF⟩ := bd_I hF
    dsimp only at hF
    refine g_ci2 (q := 15) rfl rfl (fun _ => rfl) rfl (A_C_refuse hC) (by decide +kernel) rfl ?_
    injection hF with hF
    injection hF with hv hh
    subst hv
    subst hh
    exact g_iret rfl
/-- BothCorners.foldsAsTold(II)Z -/
def F_C_foldsAsTold (x1 : Int32) (x2 : Int32) (h : MH) : Option (Int32 × MH) := ck (mm_in x1 12) (if (h.1 53 (Int32.toNatClampNeg x1)) = (I 99) then some (I 1, h) else bd (F_H_foldsBy x1 x2 h) (fun (r2, h1) => ck (mm_in x1 12) (iw (if ¬ r2 = (h1.1 53 (Int32.toNatClampNeg x1)) then I 0 else I 1) (fun v3 => cd (v3 &&& 1 = v3) (some (v3, h1))))))
theorem A_C_foldsAsTold {x1 : Int32} {x2 : Int32} {h h' : MH} {v : Int32} (hF : F_C_foldsAsTold x1 x2 h = some (v, h')) : Ex 6 136 [.inr (.inl (some 0)), .inl x1, .inl x2] h (some (.inl v), h') := by
  unfold F_C_foldsAsTold at hF
  refine ex_of (d := 5) rfl rfl ?_
  refine g_aload_n (q := 1) rfl rfl rfl ?_
  refine g_getR (q := 4) rfl (fun _ => rfl) rfl ?_
  refine g_iload_n (q := 5) rfl rfl rfl ?_
  obtain ⟨hi, hF⟩ := ck_I hF
  refine g_iaload (q := 6) rfl rfl rfl hi rfl ?_
  refine g_bipush (q := 8) rfl (by decide +kernel) rfl ?_
  by_cases c6 : (h.1 53 (Int32.toNatClampNeg x1)) = (I 99)
  · rw [if_pos c6] at hF
    refine g_icmpT rfl (decide_eq_true c6) ?_
    refine g_iconst (q := 30) rfl rfl ?_
    refine g_goto rfl ?_
    injection hF with hF
    injection hF with hv hh
    subst hv
    subst hh
    exact g_zret rfl (by decide +kernel)
  · rw [if_neg c6] at hF
    refine g_icmpF (q := 11) rfl (decide_eq_false c6) rfl ?_
    refine g_aload_n (q := 12) rfl rfl rfl ?_
    refine g_getR (q := 15) rfl (fun _ => rfl) rfl ?_
    refine g_iload_n (q := 16) rfl rfl rfl ?_
    refine g_iload_n (q := 17) rfl rfl rfl ?_
    obtain ⟨⟨r2, h1⟩, hC, hF⟩ := bd_I hF
    dsimp only at hF
    refine g_ci3 (q := 20) rfl rfl (fun _ => rfl) rfl (A_H_foldsBy hC) (by decide +kernel) rfl ?_
    refine g_aload_n (q := 21) rfl rfl rfl ?_
    refine g_getR (q := 24) rfl (fun _ => rfl) rfl ?_
    refine g_iload_n (q := 25) rfl rfl rfl ?_
    obtain ⟨hi, hF⟩ := ck_I hF
    refine g_iaload (q := 26) rfl rfl rfl hi rfl ?_
    obtain ⟨v3, e_v3, hF⟩ := iw_I hF
    suffices K4 : Go 5 136 34 (mm_lf []) [.inl v3] h1 (some (.inl v), h') by
      clear hF
      by_cases c5 : ¬ r2 = (h1.1 53 (Int32.toNatClampNeg x1))
      · simp only [if_pos c5] at e_v3
        subst e_v3
        refine g_icmpT rfl (decide_eq_true c5) ?_
        refine g_iconst (q := 34) rfl rfl ?_
        exact go_sub mm_sub0 K4
      · simp only [if_neg c5] at e_v3
        subst e_v3
        refine g_icmpF (q := 29) rfl (decide_eq_false c5) rfl ?_
        refine g_iconst (q := 30) rfl rfl ?_
        refine g_goto rfl ?_
        exact go_sub mm_sub0 K4
    clear e_v3
    obtain ⟨hz, hF⟩ := cd_I hF
    injection hF with hF
    injection hF with hv hh
    subst hv
    subst hh
    exact g_zret rfl hz
def L_C_lumpy_41 (x1 : Int32) (x2 : Int32) : Nat → Int32 → Int32 → MH → Option (Int32 × MH)
  | 0, _, _, _ => none
  | n + 1, x3, x4, h => if (h.1 0 9) ≤ x4 then some (x3, h) else if x3 = 0 then L_C_lumpy_41 x1 x2 n (I 0) (x4 + I 1) h else bd (F_C_foldsAsTold x4 x2 h) (fun (r2, h1) => iw (if r2 = 0 then I 0 else I 1) (fun v3 => L_C_lumpy_41 x1 x2 n v3 (x4 + I 1) h1))
def L_C_lumpy_25 : Nat → Int32 → Int32 → MH → Option (Int32 × MH)
  | 0, _, _, _ => none
  | n + 1, x1, x2, h => if (h.1 8 9) ≤ x2 then some (x1, h) else bd (L_C_lumpy_41 x1 x2 5000 (I 1) (I 0) h) (fun (y8, h9) => iw (if y8 = 0 then x1 else x1 ||| ((I 1) <<< (x2 &&& 31))) (fun v10 => L_C_lumpy_25 n v10 (x2 + I 1) h9))
/-- BothCorners.lumpy()I -/
def F_C_lumpy (h : MH) : Option (Int32 × MH) := if (h.1 0 9) ≤ (h.1 8 7) then bd (L_C_lumpy_25 5000 (I 0) (I 0) h) (fun (y14, h15) => some (y14, h15)) else bd (F_C_refuse (I (-3)) h) (fun (r17, h16) => some (r17, h16))
theorem A_L_C_lumpy_41 {x1 : Int32} {x2 : Int32} {r : MRs} : ∀ (n : Nat) (x3 : Int32) (x4 : Int32) (h : MH) (x : Int32 × MH), L_C_lumpy_41 x1 x2 n x3 x4 h = some x → (True) → (∀ (e3 : Int32) (h' : MH), x = (e3, h') → Go 6 112 76 (mm_lf [(0, .inr (.inl (some 0))), (1, .inl x1), (2, .inl x2), (3, .inl e3)]) [] h' r) → Go 6 112 41 (mm_lf [(0, .inr (.inl (some 0))), (1, .inl x1), (2, .inl x2), (3, .inl x3), (4, .inl x4)]) [] h r
  | 0, _, _, _, _, hF, _, _ => by cases hF
  | n + 1, x3, x4, h, x, hF, KR, KX => by
    have ih := fun a3 a4 => A_L_C_lumpy_41 (x1 := x1) (x2 := x2) (r := r) n a3 a4 
    unfold L_C_lumpy_41 at hF
    refine g_iload (q := 43) rfl rfl rfl ?_
    refine g_aload_n (q := 44) rfl rfl rfl ?_
    refine g_getI (q := 47) rfl (fun _ => rfl) rfl ?_
    by_cases c7 : (h.1 0 9) ≤ x4
    · rw [if_pos c7] at hF
      refine g_icmpT rfl (decide_eq_true c7) ?_
      injection hF with hF
      subst hF
      exact go_sub (mm_subc rfl (mm_subc rfl (mm_subc rfl (mm_subc rfl mm_sub0)))) (KX _ _ rfl)
    · rw [if_neg c7] at hF
      refine g_icmpF (q := 50) rfl (decide_eq_false c7) rfl ?_
      refine g_iload_n (q := 51) rfl rfl rfl ?_
      by_cases c6 : x3 = 0
      · rw [if_pos c6] at hF
        refine g_ifT rfl (decide_eq_true c6) ?_
        refine g_iconst (q := 69) rfl rfl ?_
        refine g_istore_n (q := 70) rfl rfl ?_
        refine g_iinc (q := 73) rfl rfl rfl ?_
        refine g_goto rfl ?_
        refine go_sub (lo' := mm_lf [(0, .inr (.inl (some 0))), (1, .inl x1), (2, .inl x2), (3, .inl (I 0)), (4, .inl (x4 + I 1))]) (mm_subc rfl (mm_subc rfl (mm_subc rfl (mm_subc rfl (mm_subc rfl mm_sub0))))) ?_
        exact ih _ _ _ _ hF KR KX
      · rw [if_neg c6] at hF
        refine g_ifF (q := 54) rfl (decide_eq_false c6) rfl ?_
        refine g_aload_n (q := 55) rfl rfl rfl ?_
        refine g_iload (q := 57) rfl rfl rfl ?_
        refine g_iload_n (q := 58) rfl rfl rfl ?_
        obtain ⟨⟨r2, h1⟩, hC, hF⟩ := bd_I hF
        dsimp only at hF
        refine g_ci3 (q := 61) rfl rfl (fun _ => rfl) rfl (A_C_foldsAsTold hC) (by decide +kernel) rfl ?_
        obtain ⟨v3, e_v3, hF⟩ := iw_I hF
        suffices K4 : Go 6 112 69 (mm_lf [(0, .inr (.inl (some 0))), (1, .inl x1), (2, .inl x2), (4, .inl x4)]) [.inl v3] h1 r by
          clear hF
          by_cases c5 : r2 = 0
          · simp only [if_pos c5] at e_v3
            subst e_v3
            refine g_ifT rfl (decide_eq_true c5) ?_
            refine g_iconst (q := 69) rfl rfl ?_
            exact go_sub (mm_subc rfl (mm_subc rfl (mm_subc rfl (mm_subc rfl mm_sub0)))) K4
          · simp only [if_neg c5] at e_v3
            subst e_v3
            refine g_ifF (q := 64) rfl (decide_eq_false c5) rfl ?_
            refine g_iconst (q := 65) rfl rfl ?_
            refine g_goto rfl ?_
            exact go_sub (mm_subc rfl (mm_subc rfl (mm_subc rfl (mm_subc rfl mm_sub0)))) K4
        clear e_v3
        refine g_istore_n (q := 70) rfl rfl ?_
        refine g_iinc (q := 73) rfl rfl rfl ?_
        refine g_goto rfl ?_
        refine go_sub (lo' := mm_lf [(0, .inr (.inl (some 0))), (1, .inl x1), (2, .inl x2), (3, .inl v3), (4, .inl (x4 + I 1))]) (mm_subc rfl (mm_subc rfl (mm_subc rfl (mm_subc rfl (mm_subc rfl mm_sub0))))) ?_
        exact ih _ _ _ _ hF KR KX
theorem A_L_C_lumpy_25 {r : MRs} : ∀ (n : Nat) (x1 : Int32) (x2 : Int32) (h : MH) (x : Int32 × MH), L_C_lumpy_25 n x1 x2 h = some x → (True) → (∀ (e1 : Int32) (h' : MH), x = (e1, h') → Go 6 112 92 (mm_lf [(1, .inl e1)]) [] h' r) → Go 6 112 25 (mm_lf [(0, .inr (.inl (some 0))), (1, .inl x1), (2, .inl x2)]) [] h r
  | 0, _, _, _, _, hF, _, _ => by cases hF
  | n + 1, x1, x2, h, x, hF, KR, KX => by
    have ih := fun a1 a2 => A_L_C_lumpy_25 (r := r) n a1 a2 
    unfold L_C_lumpy_25 at hF
    refine g_iload_n (q := 26) rfl rfl rfl ?_
    refine g_aload_n (q := 27) rfl rfl rfl ?_
    refine g_getR (q := 30) rfl (fun _ => rfl) rfl ?_
    refine g_getI (q := 33) rfl (fun _ => rfl) rfl ?_
    by_cases c13 : (h.1 8 9) ≤ x2
    · rw [if_pos c13] at hF
      refine g_icmpT rfl (decide_eq_true c13) ?_
      injection hF with hF
      subst hF
      exact go_sub (mm_subc rfl mm_sub0) (KX _ _ rfl)
    · rw [if_neg c13] at hF
      refine g_icmpF (q := 36) rfl (decide_eq_false c13) rfl ?_
      refine g_iconst (q := 37) rfl rfl ?_
      refine g_istore_n (q := 38) rfl rfl ?_
      refine g_iconst (q := 39) rfl rfl ?_
      refine g_istore (q := 41) rfl rfl ?_
      refine go_sub (lo' := mm_lf [(0, .inr (.inl (some 0))), (1, .inl x1), (2, .inl x2), (3, .inl (I 1)), (4, .inl (I 0))]) (mm_subc rfl (mm_subc rfl (mm_subc rfl (mm_subc rfl (mm_subc rfl mm_sub0))))) ?_
      obtain ⟨⟨y8, h9⟩, hC, hF⟩ := bd_I hF
      dsimp only at hF
      refine A_L_C_lumpy_41 5000 _ _ _ _ hC trivial ?_
      intro _ _ e2
      cases e2
      refine g_iload_n (q := 77) rfl rfl rfl ?_
      obtain ⟨v10, e_v10, hF⟩ := iw_I hF
      suffices K11 : Go 6 112 86 (mm_lf [(0, .inr (.inl (some 0))), (1, .inl v10), (2, .inl x2)]) [] h9 r by
        clear hF
        by_cases c12 : y8 = 0
        · simp only [if_pos c12] at e_v10
          subst e_v10
          refine g_ifT rfl (decide_eq_true c12) ?_
          exact go_sub (mm_subc rfl (mm_subc rfl (mm_subc rfl mm_sub0))) K11
        · simp only [if_neg c12] at e_v10
          subst e_v10
          refine g_ifF (q := 80) rfl (decide_eq_false c12) rfl ?_
          refine g_iload_n (q := 81) rfl rfl rfl ?_
          refine g_iconst (q := 82) rfl rfl ?_
          refine g_iload_n (q := 83) rfl rfl rfl ?_
          refine g_ishl (q := 84) rfl rfl ?_
          refine g_ior (q := 85) rfl rfl ?_
          refine g_istore_n (q := 86) rfl rfl ?_
          exact go_sub (mm_subc rfl (mm_subc rfl (mm_subc rfl mm_sub0))) K11
      clear e_v10
      refine g_iinc (q := 89) rfl rfl rfl ?_
      refine g_goto rfl ?_
      refine go_sub (lo' := mm_lf [(0, .inr (.inl (some 0))), (1, .inl v10), (2, .inl (x2 + I 1))]) (mm_subc rfl (mm_subc rfl (mm_subc rfl mm_sub0))) ?_
      exact ih _ _ _ _ hF KR KX
theorem A_C_lumpy {h h' : MH} {v : Int32} (hF : F_C_lumpy h = some (v, h')) : Ex 7 112 [.inr (.inl (some 0))] h (some (.inl v), h') := by
  unfold F_C_lumpy at hF
  refine ex_of (d := 6) rfl rfl ?_
  refine g_aload_n (q := 1) rfl rfl rfl ?_
  refine g_getI (q := 4) rfl (fun _ => rfl) rfl ?_
  refine g_aload_n (q := 5) rfl rfl rfl ?_
  refine g_getR (q := 8) rfl (fun _ => rfl) rfl ?_
  refine g_getI (q := 11) rfl (fun _ => rfl) rfl ?_
  by_cases c18 : (h.1 0 9) ≤ (h.1 8 7)
  · rw [if_pos c18] at hF
    refine g_icmpT rfl (decide_eq_true c18) ?_
    refine g_iconst (q := 22) rfl rfl ?_
    refine g_istore_n (q := 23) rfl rfl ?_
    refine g_iconst (q := 24) rfl rfl ?_
    refine g_istore_n (q := 25) rfl rfl ?_
    refine go_sub (lo' := mm_lf [(0, .inr (.inl (some 0))), (1, .inl (I 0)), (2, .inl (I 0))]) (mm_subc rfl (mm_subc rfl (mm_subc rfl mm_sub0))) ?_
    obtain ⟨⟨y14, h15⟩, hC, hF⟩ := bd_I hF
    dsimp only at hF
    refine A_L_C_lumpy_25 5000 _ _ _ _ hC trivial ?_
    intro _ _ e2
    cases e2
    refine g_iload_n (q := 93) rfl rfl rfl ?_
    injection hF with hF
    injection hF with hv hh
    subst hv
    subst hh
    exact g_iret rfl
  · rw [if_neg c18] at hF
    refine g_icmpF (q := 14) rfl (decide_eq_false c18) rfl ?_
    refine g_aload_n (q := 15) rfl rfl rfl ?_
    refine g_bipush (q := 17) rfl (by decide +kernel) rfl ?_
    obtain ⟨⟨r17, h16⟩, hC, hF⟩ := bd_I hF
    dsimp only at hF
    refine g_ci2 (q := 20) rfl rfl (fun _ => rfl) rfl (A_C_refuse hC) (by decide +kernel) rfl ?_
    injection hF with hF
    injection hF with hv hh
    subst hv
    subst hh
    exact g_iret rfl
def L_C_forged_50 (x1 : Int32) : Nat → Int32 → Int32 → MH → Option (Int32 × MH)
  | 0, _, _, _ => none
  | n + 1, x2, x3, h => if (h.1 8 9) ≤ x3 then some (x2, h) else if ¬ x2 = 0 then L_C_forged_50 x1 n (I 1) (x3 + I 1) h else bd (F_C_foldsAsTold x1 x3 h) (fun (r4, h3) => iw (if r4 = 0 then I 0 else I 1) (fun v5 => L_C_forged_50 x1 n v5 (x3 + I 1) h3))
def L_C_forged_23 : Nat → Int32 → MH → Option ((Int32 × MH) ⊕ (MH))
  | 0, _, _ => none
  | n + 1, x1, h => if (h.1 0 9) ≤ x1 then some (.inr (h)) else ck (mm_in x1 12) (iw (if ¬ (h.1 53 (Int32.toNatClampNeg x1)) = (I 99) then I 0 else I 1) (fun v1 => bd (L_C_forged_50 x1 5000 v1 (I 0) h) (fun (y10, h11) => if ¬ y10 = 0 then L_C_forged_23 n (x1 + I 1) h11 else some (.inl (x1, h11)))))
/-- BothCorners.forged()I -/
def F_C_forged (h : MH) : Option (Int32 × MH) := if (h.1 0 9) ≤ (h.1 8 7) then be (L_C_forged_23 5000 (I 0) h) (fun u16 => some u16) (fun h15 => some (I (-9), h15)) else bd (F_C_refuse (I (-3)) h) (fun (r18, h17) => some (r18, h17))
theorem A_L_C_forged_50 {x1 : Int32} {r : MRs} : ∀ (n : Nat) (x2 : Int32) (x3 : Int32) (h : MH) (x : Int32 × MH), L_C_forged_50 x1 n x2 x3 h = some x → (True) → (∀ (e2 : Int32) (h' : MH), x = (e2, h') → Go 6 113 86 (mm_lf [(0, .inr (.inl (some 0))), (1, .inl x1), (2, .inl e2)]) [] h' r) → Go 6 113 50 (mm_lf [(0, .inr (.inl (some 0))), (1, .inl x1), (2, .inl x2), (3, .inl x3)]) [] h r
  | 0, _, _, _, _, hF, _, _ => by cases hF
  | n + 1, x2, x3, h, x, hF, KR, KX => by
    have ih := fun a2 a3 => A_L_C_forged_50 (x1 := x1) (r := r) n a2 a3 
    unfold L_C_forged_50 at hF
    refine g_iload_n (q := 51) rfl rfl rfl ?_
    refine g_aload_n (q := 52) rfl rfl rfl ?_
    refine g_getR (q := 55) rfl (fun _ => rfl) rfl ?_
    refine g_getI (q := 58) rfl (fun _ => rfl) rfl ?_
    by_cases c9 : (h.1 8 9) ≤ x3
    · rw [if_pos c9] at hF
      refine g_icmpT rfl (decide_eq_true c9) ?_
      injection hF with hF
      subst hF
      exact go_sub (mm_subc rfl (mm_subc rfl (mm_subc rfl mm_sub0))) (KX _ _ rfl)
    · rw [if_neg c9] at hF
      refine g_icmpF (q := 61) rfl (decide_eq_false c9) rfl ?_
      refine g_iload_n (q := 62) rfl rfl rfl ?_
      by_cases c8 : ¬ x2 = 0
      · rw [if_pos c8] at hF
        refine g_ifT rfl (decide_eq_true c8) ?_
        refine g_iconst (q := 75) rfl rfl ?_
        refine g_goto rfl ?_
        refine g_istore_n (q := 80) rfl rfl ?_
        refine g_iinc (q := 83) rfl rfl rfl ?_
        refine g_goto rfl ?_
        refine go_sub (lo' := mm_lf [(0, .inr (.inl (some 0))), (1, .inl x1), (2, .inl (I 1)), (3, .inl (x3 + I 1))]) (mm_subc rfl (mm_subc rfl (mm_subc rfl (mm_subc rfl mm_sub0)))) ?_
        exact ih _ _ _ _ hF KR KX
      · rw [if_neg c8] at hF
        refine g_ifF (q := 65) rfl (decide_eq_false c8) rfl ?_
        refine g_aload_n (q := 66) rfl rfl rfl ?_
        refine g_iload_n (q := 67) rfl rfl rfl ?_
        refine g_iload_n (q := 68) rfl rfl rfl ?_
        obtain ⟨⟨r4, h3⟩, hC, hF⟩ := bd_I hF
        dsimp only at hF
        refine g_ci3 (q := 71) rfl rfl (fun _ => rfl) rfl (A_C_foldsAsTold hC) (by decide +kernel) rfl ?_
        obtain ⟨v5, e_v5, hF⟩ := iw_I hF
        suffices K6 : Go 6 113 79 (mm_lf [(0, .inr (.inl (some 0))), (1, .inl x1), (3, .inl x3)]) [.inl v5] h3 r by
          clear hF
          by_cases c7 : r4 = 0
          · simp only [if_pos c7] at e_v5
            subst e_v5
            refine g_ifT rfl (decide_eq_true c7) ?_
            refine g_iconst (q := 79) rfl rfl ?_
            exact go_sub (mm_subc rfl (mm_subc rfl (mm_subc rfl mm_sub0))) K6
          · simp only [if_neg c7] at e_v5
            subst e_v5
            refine g_ifF (q := 74) rfl (decide_eq_false c7) rfl ?_
            refine g_iconst (q := 75) rfl rfl ?_
            refine g_goto rfl ?_
            exact go_sub (mm_subc rfl (mm_subc rfl (mm_subc rfl mm_sub0))) K6
        clear e_v5
        refine g_istore_n (q := 80) rfl rfl ?_
        refine g_iinc (q := 83) rfl rfl rfl ?_
        refine g_goto rfl ?_
        refine go_sub (lo' := mm_lf [(0, .inr (.inl (some 0))), (1, .inl x1), (2, .inl v5), (3, .inl (x3 + I 1))]) (mm_subc rfl (mm_subc rfl (mm_subc rfl (mm_subc rfl mm_sub0)))) ?_
        exact ih _ _ _ _ hF KR KX
theorem A_L_C_forged_23 {r : MRs} : ∀ (n : Nat) (x1 : Int32) (h : MH) (x : (Int32 × MH) ⊕ (MH)), L_C_forged_23 n x1 h = some x → (∀ (u : Int32) (h' : MH), x = .inl (u, h') → r = (some (.inl u), h')) → (∀ (h' : MH), x = .inr (h') → Go 6 113 98 (mm_lf []) [] h' r) → Go 6 113 23 (mm_lf [(0, .inr (.inl (some 0))), (1, .inl x1)]) [] h r
  | 0, _, _, _, hF, _, _ => by cases hF
  | n + 1, x1, h, x, hF, KR, KX => by
    have ih := fun a1 => A_L_C_forged_23 (r := r) n a1 
    unfold L_C_forged_23 at hF
    refine g_iload_n (q := 24) rfl rfl rfl ?_
    refine g_aload_n (q := 25) rfl rfl rfl ?_
    refine g_getI (q := 28) rfl (fun _ => rfl) rfl ?_
    by_cases c14 : (h.1 0 9) ≤ x1
    · rw [if_pos c14] at hF
      refine g_icmpT rfl (decide_eq_true c14) ?_
      injection hF with hF
      subst hF
      exact go_sub mm_sub0 (KX  _ rfl)
    · rw [if_neg c14] at hF
      refine g_icmpF (q := 31) rfl (decide_eq_false c14) rfl ?_
      refine g_aload_n (q := 32) rfl rfl rfl ?_
      refine g_getR (q := 35) rfl (fun _ => rfl) rfl ?_
      refine g_iload_n (q := 36) rfl rfl rfl ?_
      obtain ⟨hi, hF⟩ := ck_I hF
      refine g_iaload (q := 37) rfl rfl rfl hi rfl ?_
      refine g_bipush (q := 39) rfl (by decide +kernel) rfl ?_
      obtain ⟨v1, e_v1, hF⟩ := iw_I hF
      suffices K2 : Go 6 113 47 (mm_lf [(0, .inr (.inl (some 0))), (1, .inl x1)]) [.inl v1] h r by
        clear hF
        by_cases c13 : ¬ (h.1 53 (Int32.toNatClampNeg x1)) = (I 99)
        · simp only [if_pos c13] at e_v1
          subst e_v1
          refine g_icmpT rfl (decide_eq_true c13) ?_
          refine g_iconst (q := 47) rfl rfl ?_
          exact go_sub (mm_subc rfl (mm_subc rfl mm_sub0)) K2
        · simp only [if_neg c13] at e_v1
          subst e_v1
          refine g_icmpF (q := 42) rfl (decide_eq_false c13) rfl ?_
          refine g_iconst (q := 43) rfl rfl ?_
          refine g_goto rfl ?_
          exact go_sub (mm_subc rfl (mm_subc rfl mm_sub0)) K2
      clear e_v1
      refine g_istore_n (q := 48) rfl rfl ?_
      refine g_iconst (q := 49) rfl rfl ?_
      refine g_istore_n (q := 50) rfl rfl ?_
      refine go_sub (lo' := mm_lf [(0, .inr (.inl (some 0))), (1, .inl x1), (2, .inl v1), (3, .inl (I 0))]) (mm_subc rfl (mm_subc rfl (mm_subc rfl (mm_subc rfl mm_sub0)))) ?_
      obtain ⟨⟨y10, h11⟩, hC, hF⟩ := bd_I hF
      dsimp only at hF
      refine A_L_C_forged_50 5000 _ _ _ _ hC trivial ?_
      intro _ _ e2
      cases e2
      refine g_iload_n (q := 87) rfl rfl rfl ?_
      by_cases c12 : ¬ y10 = 0
      · rw [if_pos c12] at hF
        refine g_ifT rfl (decide_eq_true c12) ?_
        refine g_iinc (q := 95) rfl rfl rfl ?_
        refine g_goto rfl ?_
        refine go_sub (lo' := mm_lf [(0, .inr (.inl (some 0))), (1, .inl (x1 + I 1))]) (mm_subc rfl (mm_subc rfl mm_sub0)) ?_
        exact ih _ _ _ hF KR KX
      · rw [if_neg c12] at hF
        refine g_ifF (q := 90) rfl (decide_eq_false c12) rfl ?_
        refine g_iload_n (q := 91) rfl rfl rfl ?_
        injection hF with hF
        subst hF
        rw [KR _ _ rfl]
        exact g_iret rfl
theorem A_C_forged {h h' : MH} {v : Int32} (hF : F_C_forged h = some (v, h')) : Ex 7 113 [.inr (.inl (some 0))] h (some (.inl v), h') := by
  unfold F_C_forged at hF
  refine ex_of (d := 6) rfl rfl ?_
  refine g_aload_n (q := 1) rfl rfl rfl ?_
  refine g_getI (q := 4) rfl (fun _ => rfl) rfl ?_
  refine g_aload_n (q := 5) rfl rfl rfl ?_
  refine g_getR (q := 8) rfl (fun _ => rfl) rfl ?_
  refine g_getI (q := 11) rfl (fun _ => rfl) rfl ?_
  by_cases c19 : (h.1 0 9) ≤ (h.1 8 7)
  · rw [if_pos c19] at hF
    refine g_icmpT rfl (decide_eq_true c19) ?_
    refine g_iconst (q := 22) rfl rfl ?_
    refine g_istore_n (q := 23) rfl rfl ?_
    refine go_sub (lo' := mm_lf [(0, .inr (.inl (some 0))), (1, .inl (I 0))]) (mm_subc rfl (mm_subc rfl mm_sub0)) ?_
    rcases be_I hF with ⟨u, hC, hF⟩ | ⟨h15, hC, hF⟩
    · refine A_L_C_forged_23 5000 _ _ _ hC ?_ ?_
      · intro u2 h2 e2
        cases e2
        injection hF with hF
        injection hF with hv hh
        subst hv
        subst hh
        rfl
      · intro _ e2
        cases e2
    refine A_L_C_forged_23 5000 _ _ _ hC ?_ ?_
    · intro u2 h2 e2
      cases e2
    intro _ e2
    cases e2
    refine g_bipush (q := 100) rfl (by decide +kernel) rfl ?_
    injection hF with hF
    injection hF with hv hh
    subst hv
    subst hh
    exact g_iret rfl
  · rw [if_neg c19] at hF
    refine g_icmpF (q := 14) rfl (decide_eq_false c19) rfl ?_
    refine g_aload_n (q := 15) rfl rfl rfl ?_
    refine g_bipush (q := 17) rfl (by decide +kernel) rfl ?_
    obtain ⟨⟨r18, h17⟩, hC, hF⟩ := bd_I hF
    dsimp only at hF
    refine g_ci2 (q := 20) rfl rfl (fun _ => rfl) rfl (A_C_refuse hC) (by decide +kernel) rfl ?_
    injection hF with hF
    injection hF with hv hh
    subst hv
    subst hh
    exact g_iret rfl
/-- BothCorners.noCorner(I)Z -/
def F_C_noCorner (x0 : Int32) (h : MH) : Option (Int32 × MH) := iw (if x0 < 0 then I 1 else (if x0 < (I 4) then I 0 else I 1)) (fun v1 => cd (v1 &&& 1 = v1) (some (v1, h)))
theorem A_C_noCorner {x0 : Int32} {h h' : MH} {v : Int32} (hF : F_C_noCorner x0 h = some (v, h')) : Ex 1 126 [.inl x0] h (some (.inl v), h') := by
  unfold F_C_noCorner at hF
  refine ex_of (d := 0) rfl rfl ?_
  refine g_iload_n (q := 1) rfl rfl rfl ?_
  obtain ⟨v1, e_v1, hF⟩ := iw_I hF
  suffices K2 : Go 0 126 14 (mm_lf []) [.inl v1] h (some (.inl v), h') by
    clear hF
    by_cases c3 : x0 < 0
    · simp only [if_pos c3] at e_v1
      subst e_v1
      refine g_ifT rfl (decide_eq_true c3) ?_
      refine g_iconst (q := 10) rfl rfl ?_
      refine g_goto rfl ?_
      exact go_sub mm_sub0 K2
    · simp only [if_neg c3] at e_v1
      refine g_ifF (q := 4) rfl (decide_eq_false c3) rfl ?_
      refine g_iload_n (q := 5) rfl rfl rfl ?_
      refine g_iconst (q := 6) rfl rfl ?_
      by_cases c4 : x0 < (I 4)
      · simp only [if_pos c4] at e_v1
        subst e_v1
        refine g_icmpT rfl (decide_eq_true c4) ?_
        refine g_iconst (q := 14) rfl rfl ?_
        exact go_sub mm_sub0 K2
      · simp only [if_neg c4] at e_v1
        subst e_v1
        refine g_icmpF (q := 9) rfl (decide_eq_false c4) rfl ?_
        refine g_iconst (q := 10) rfl rfl ?_
        refine g_goto rfl ?_
        exact go_sub mm_sub0 K2
  clear e_v1
  obtain ⟨hz, hF⟩ := cd_I hF
  injection hF with hF
  injection hF with hv hh
  subst hv
  subst hh
  exact g_zret rfl hz
def L_L_placeOf_2 (x0 : Int32) (x1 : Int32) : Nat → Int32 → MH → Option (Int32 × MH)
  | 0, _, _ => none
  | n + 1, x2, h => if (I 3) ≤ x2 then some (x2, h) else bd (F_L_cornerAt x0 x2 h) (fun (r2, h1) => if r2 = x1 then some (x2, h1) else L_L_placeOf_2 x0 x1 n (x2 + I 1) h1)
/-- BothCorners$Lies.placeOf(II)I -/
def F_L_placeOf (x0 : Int32) (x1 : Int32) (h : MH) : Option (Int32 × MH) := bd (L_L_placeOf_2 x0 x1 5000 (I 0) h) (fun (y5, h6) => some (y5, h6))
theorem A_L_L_placeOf_2 {x0 : Int32} {x1 : Int32} {r : MRs} : ∀ (n : Nat) (x2 : Int32) (h : MH) (x : Int32 × MH), L_L_placeOf_2 x0 x1 n x2 h = some x → (True) → (∀ (e2 : Int32) (h' : MH), x = (e2, h') → Go 1 34 22 (mm_lf [(2, .inl e2)]) [] h' r) → Go 1 34 2 (mm_lf [(0, .inl x0), (1, .inl x1), (2, .inl x2)]) [] h r
  | 0, _, _, _, hF, _, _ => by cases hF
  | n + 1, x2, h, x, hF, KR, KX => by
    have ih := fun a2 => A_L_L_placeOf_2 (x0 := x0) (x1 := x1) (r := r) n a2 
    unfold L_L_placeOf_2 at hF
    refine g_iload_n (q := 3) rfl rfl rfl ?_
    refine g_iconst (q := 4) rfl rfl ?_
    by_cases c4 : (I 3) ≤ x2
    · rw [if_pos c4] at hF
      refine g_icmpT rfl (decide_eq_true c4) ?_
      injection hF with hF
      subst hF
      exact go_sub (mm_subc rfl mm_sub0) (KX _ _ rfl)
    · rw [if_neg c4] at hF
      refine g_icmpF (q := 7) rfl (decide_eq_false c4) rfl ?_
      refine g_iload_n (q := 8) rfl rfl rfl ?_
      refine g_iload_n (q := 9) rfl rfl rfl ?_
      obtain ⟨⟨r2, h1⟩, hC, hF⟩ := bd_I hF
      dsimp only at hF
      refine g_ci2 (q := 12) rfl rfl (fun _ => rfl) rfl (A_L_cornerAt hC) (by decide +kernel) rfl ?_
      refine g_iload_n (q := 13) rfl rfl rfl ?_
      by_cases c3 : r2 = x1
      · rw [if_pos c3] at hF
        refine g_icmpT rfl (decide_eq_true c3) ?_
        injection hF with hF
        subst hF
        exact go_sub (mm_subc rfl mm_sub0) (KX _ _ rfl)
      · rw [if_neg c3] at hF
        refine g_icmpF (q := 16) rfl (decide_eq_false c3) rfl ?_
        refine g_iinc (q := 19) rfl rfl rfl ?_
        refine g_goto rfl ?_
        refine go_sub (lo' := mm_lf [(0, .inl x0), (1, .inl x1), (2, .inl (x2 + I 1))]) (mm_subc rfl (mm_subc rfl (mm_subc rfl mm_sub0))) ?_
        exact ih _ _ _ hF KR KX
theorem A_L_placeOf {x0 : Int32} {x1 : Int32} {h h' : MH} {v : Int32} (hF : F_L_placeOf x0 x1 h = some (v, h')) : Ex 2 34 [.inl x0, .inl x1] h (some (.inl v), h') := by
  unfold F_L_placeOf at hF
  refine ex_of (d := 1) rfl rfl ?_
  refine g_iconst (q := 1) rfl rfl ?_
  refine g_istore_n (q := 2) rfl rfl ?_
  refine go_sub (lo' := mm_lf [(0, .inl x0), (1, .inl x1), (2, .inl (I 0))]) (mm_subc rfl (mm_subc rfl (mm_subc rfl mm_sub0))) ?_
  obtain ⟨⟨y5, h6⟩, hC, hF⟩ := bd_I hF
  dsimp only at hF
  refine A_L_L_placeOf_2 5000 _ _ _ hC trivial ?_
  intro _ _ e2
  cases e2
  refine g_iload_n (q := 23) rfl rfl rfl ?_
  injection hF with hF
  injection hF with hv hh
  subst hv
  subst hh
  exact g_iret rfl
/-- BothCorners$Lies.insideOut(I)I -/
def F_L_insideOut (x0 : Int32) (h : MH) : Option (Int32 × MH) := iw (if ¬ (x0 &&& (I 256)) = 0 then I 1 else I 0) (fun v1 => some (v1, h))
theorem A_L_insideOut {x0 : Int32} {h h' : MH} {v : Int32} (hF : F_L_insideOut x0 h = some (v, h')) : Ex 1 35 [.inl x0] h (some (.inl v), h') := by
  unfold F_L_insideOut at hF
  refine ex_of (d := 0) rfl rfl ?_
  refine g_iload_n (q := 1) rfl rfl rfl ?_
  refine g_sipush (q := 4) rfl (by decide +kernel) rfl ?_
  refine g_iand (q := 5) rfl rfl ?_
  obtain ⟨v1, e_v1, hF⟩ := iw_I hF
  suffices K2 : Go 0 35 13 (mm_lf []) [.inl v1] h (some (.inl v), h') by
    clear hF
    by_cases c3 : ¬ (x0 &&& (I 256)) = 0
    · simp only [if_pos c3] at e_v1
      subst e_v1
      refine g_ifT rfl (decide_eq_true c3) ?_
      refine g_iconst (q := 13) rfl rfl ?_
      exact go_sub mm_sub0 K2
    · simp only [if_neg c3] at e_v1
      subst e_v1
      refine g_ifF (q := 8) rfl (decide_eq_false c3) rfl ?_
      refine g_iconst (q := 9) rfl rfl ?_
      refine g_goto rfl ?_
      exact go_sub mm_sub0 K2
  clear e_v1
  injection hF with hF
  injection hF with hv hh
  subst hv
  subst hh
  exact g_iret rfl
/-- BothCorners.corner(II)I -/
def F_C_corner (x1 : Int32) (x2 : Int32) (h : MH) : Option (Int32 × MH) := if ¬ x2 = (I 2) then bd (F_C_noCorner x1 h) (fun (r2, h1) => if r2 = 0 then bd (F_C_otherThan x2 (I 1) h1) (fun (r4, h3) => if r4 = 0 then if ¬ x2 = 0 then bd (F_L_cornerAt (h3.1 8 10) x1 h3) (fun (r6, h5) => some (r6, h5)) else bd (F_L_placeOf (h3.1 8 10) x1 h3) (fun (r8, h7) => some (r8, h7)) else bd (F_C_refuse (I (-2)) h3) (fun (r11, h10) => some (r11, h10))) else bd (F_C_refuse (I (-1)) h1) (fun (r14, h13) => some (r14, h13))) else bd (F_L_insideOut (h.1 8 10) h) (fun (r17, h16) => some (r17, h16))
theorem A_C_corner {x1 : Int32} {x2 : Int32} {h h' : MH} {v : Int32} (hF : F_C_corner x1 x2 h = some (v, h')) : Ex 3 102 [.inr (.inl (some 0)), .inl x1, .inl x2] h (some (.inl v), h') := by
  unfold F_C_corner at hF
  refine ex_of (d := 2) rfl rfl ?_
  refine g_iload_n (q := 1) rfl rfl rfl ?_
  refine g_iconst (q := 2) rfl rfl ?_
  by_cases c18 : ¬ x2 = (I 2)
  · rw [if_pos c18] at hF
    refine g_icmpT rfl (decide_eq_true c18) ?_
    refine g_iload_n (q := 17) rfl rfl rfl ?_
    obtain ⟨⟨r2, h1⟩, hC, hF⟩ := bd_I hF
    dsimp only at hF
    refine g_ci1 (q := 20) rfl rfl (fun _ => rfl) rfl (A_C_noCorner hC) (by decide +kernel) rfl ?_
    by_cases c15 : r2 = 0
    · rw [if_pos c15] at hF
      refine g_ifT rfl (decide_eq_true c15) ?_
      refine g_iload_n (q := 30) rfl rfl rfl ?_
      refine g_iconst (q := 31) rfl rfl ?_
      obtain ⟨⟨r4, h3⟩, hC, hF⟩ := bd_I hF
      dsimp only at hF
      refine g_ci2 (q := 34) rfl rfl (fun _ => rfl) rfl (A_C_otherThan hC) (by decide +kernel) rfl ?_
      by_cases c12 : r4 = 0
      · rw [if_pos c12] at hF
        refine g_ifT rfl (decide_eq_true c12) ?_
        refine g_iload_n (q := 45) rfl rfl rfl ?_
        by_cases c9 : ¬ x2 = 0
        · rw [if_pos c9] at hF
          refine g_ifT rfl (decide_eq_true c9) ?_
          refine g_aload_n (q := 63) rfl rfl rfl ?_
          refine g_getR (q := 66) rfl (fun _ => rfl) rfl ?_
          refine g_getI (q := 69) rfl (fun _ => rfl) rfl ?_
          refine g_iload_n (q := 70) rfl rfl rfl ?_
          obtain ⟨⟨r6, h5⟩, hC, hF⟩ := bd_I hF
          dsimp only at hF
          refine g_ci2 (q := 73) rfl rfl (fun _ => rfl) rfl (A_L_cornerAt hC) (by decide +kernel) rfl ?_
          injection hF with hF
          injection hF with hv hh
          subst hv
          subst hh
          exact g_iret rfl
        · rw [if_neg c9] at hF
          refine g_ifF (q := 48) rfl (decide_eq_false c9) rfl ?_
          refine g_aload_n (q := 49) rfl rfl rfl ?_
          refine g_getR (q := 52) rfl (fun _ => rfl) rfl ?_
          refine g_getI (q := 55) rfl (fun _ => rfl) rfl ?_
          refine g_iload_n (q := 56) rfl rfl rfl ?_
          obtain ⟨⟨r8, h7⟩, hC, hF⟩ := bd_I hF
          dsimp only at hF
          refine g_ci2 (q := 59) rfl rfl (fun _ => rfl) rfl (A_L_placeOf hC) (by decide +kernel) rfl ?_
          refine g_goto rfl ?_
          injection hF with hF
          injection hF with hv hh
          subst hv
          subst hh
          exact g_iret rfl
      · rw [if_neg c12] at hF
        refine g_ifF (q := 37) rfl (decide_eq_false c12) rfl ?_
        refine g_aload_n (q := 38) rfl rfl rfl ?_
        refine g_bipush (q := 40) rfl (by decide +kernel) rfl ?_
        obtain ⟨⟨r11, h10⟩, hC, hF⟩ := bd_I hF
        dsimp only at hF
        refine g_ci2 (q := 43) rfl rfl (fun _ => rfl) rfl (A_C_refuse hC) (by decide +kernel) rfl ?_
        injection hF with hF
        injection hF with hv hh
        subst hv
        subst hh
        exact g_iret rfl
    · rw [if_neg c15] at hF
      refine g_ifF (q := 23) rfl (decide_eq_false c15) rfl ?_
      refine g_aload_n (q := 24) rfl rfl rfl ?_
      refine g_iconst (q := 25) rfl rfl ?_
      obtain ⟨⟨r14, h13⟩, hC, hF⟩ := bd_I hF
      dsimp only at hF
      refine g_ci2 (q := 28) rfl rfl (fun _ => rfl) rfl (A_C_refuse hC) (by decide +kernel) rfl ?_
      injection hF with hF
      injection hF with hv hh
      subst hv
      subst hh
      exact g_iret rfl
  · rw [if_neg c18] at hF
    refine g_icmpF (q := 5) rfl (decide_eq_false c18) rfl ?_
    refine g_aload_n (q := 6) rfl rfl rfl ?_
    refine g_getR (q := 9) rfl (fun _ => rfl) rfl ?_
    refine g_getI (q := 12) rfl (fun _ => rfl) rfl ?_
    obtain ⟨⟨r17, h16⟩, hC, hF⟩ := bd_I hF
    dsimp only at hF
    refine g_ci1 (q := 15) rfl rfl (fun _ => rfl) rfl (A_L_insideOut hC) (by decide +kernel) rfl ?_
    injection hF with hF
    injection hF with hv hh
    subst hv
    subst hh
    exact g_iret rfl
def L_L_indexOf_2 (x1 : Int32) : Nat → Int32 → MH → Option ((Int32 × MH) ⊕ (MH))
  | 0, _, _ => none
  | n + 1, x2, h => if (h.1 35 4) ≤ x2 then some (.inr (h)) else ck (mm_in x2 48) (if ¬ (h.1 36 (Int32.toNatClampNeg x2)) = x1 then L_L_indexOf_2 x1 n (x2 + I 1) h else some (.inl (x2, h)))
/-- BothCorners$Lies.indexOf(I)I -/
def F_L_indexOf (x1 : Int32) (h : MH) : Option (Int32 × MH) := be (L_L_indexOf_2 x1 5000 (I 0) h) (fun u4 => some u4) (fun h3 => some (I (-1), h3))
theorem A_L_L_indexOf_2 {x1 : Int32} {r : MRs} : ∀ (n : Nat) (x2 : Int32) (h : MH) (x : (Int32 × MH) ⊕ (MH)), L_L_indexOf_2 x1 n x2 h = some x → (∀ (u : Int32) (h' : MH), x = .inl (u, h') → r = (some (.inl u), h')) → (∀ (h' : MH), x = .inr (h') → Go 0 40 28 (mm_lf []) [] h' r) → Go 0 40 2 (mm_lf [(0, .inr (.inl (some 35))), (1, .inl x1), (2, .inl x2)]) [] h r
  | 0, _, _, _, hF, _, _ => by cases hF
  | n + 1, x2, h, x, hF, KR, KX => by
    have ih := fun a2 => A_L_L_indexOf_2 (x1 := x1) (r := r) n a2 
    unfold L_L_indexOf_2 at hF
    refine g_iload_n (q := 3) rfl rfl rfl ?_
    refine g_aload_n (q := 4) rfl rfl rfl ?_
    refine g_getI (q := 7) rfl (fun _ => rfl) rfl ?_
    by_cases c2 : (h.1 35 4) ≤ x2
    · rw [if_pos c2] at hF
      refine g_icmpT rfl (decide_eq_true c2) ?_
      injection hF with hF
      subst hF
      exact go_sub mm_sub0 (KX  _ rfl)
    · rw [if_neg c2] at hF
      refine g_icmpF (q := 10) rfl (decide_eq_false c2) rfl ?_
      refine g_aload_n (q := 11) rfl rfl rfl ?_
      refine g_getR (q := 14) rfl (fun _ => rfl) rfl ?_
      refine g_iload_n (q := 15) rfl rfl rfl ?_
      obtain ⟨hi, hF⟩ := ck_I hF
      refine g_iaload (q := 16) rfl rfl rfl hi rfl ?_
      refine g_iload_n (q := 17) rfl rfl rfl ?_
      by_cases c1 : ¬ (h.1 36 (Int32.toNatClampNeg x2)) = x1
      · rw [if_pos c1] at hF
        refine g_icmpT rfl (decide_eq_true c1) ?_
        refine g_iinc (q := 25) rfl rfl rfl ?_
        refine g_goto rfl ?_
        refine go_sub (lo' := mm_lf [(0, .inr (.inl (some 35))), (1, .inl x1), (2, .inl (x2 + I 1))]) (mm_subc rfl (mm_subc rfl (mm_subc rfl mm_sub0))) ?_
        exact ih _ _ _ hF KR KX
      · rw [if_neg c1] at hF
        refine g_icmpF (q := 20) rfl (decide_eq_false c1) rfl ?_
        refine g_iload_n (q := 21) rfl rfl rfl ?_
        injection hF with hF
        subst hF
        rw [KR _ _ rfl]
        exact g_iret rfl
theorem A_L_indexOf {x1 : Int32} {h h' : MH} {v : Int32} (hF : F_L_indexOf x1 h = some (v, h')) : Ex 1 40 [.inr (.inl (some 35)), .inl x1] h (some (.inl v), h') := by
  unfold F_L_indexOf at hF
  refine ex_of (d := 0) rfl rfl ?_
  refine g_iconst (q := 1) rfl rfl ?_
  refine g_istore_n (q := 2) rfl rfl ?_
  refine go_sub (lo' := mm_lf [(0, .inr (.inl (some 35))), (1, .inl x1), (2, .inl (I 0))]) (mm_subc rfl (mm_subc rfl (mm_subc rfl mm_sub0))) ?_
  rcases be_I hF with ⟨u, hC, hF⟩ | ⟨h3, hC, hF⟩
  · refine A_L_L_indexOf_2 5000 _ _ _ hC ?_ ?_
    · intro u2 h2 e2
      cases e2
      injection hF with hF
      injection hF with hv hh
      subst hv
      subst hh
      rfl
    · intro _ e2
      cases e2
  refine A_L_L_indexOf_2 5000 _ _ _ hC ?_ ?_
  · intro u2 h2 e2
    cases e2
  intro _ e2
  cases e2
  refine g_iconst (q := 29) rfl rfl ?_
  injection hF with hF
  injection hF with hv hh
  subst hv
  subst hh
  exact g_iret rfl
def L_L_spread_37 (x2 : Int32) : Nat → Int32 → MH → Option (MH)
  | 0, _, _ => none
  | n + 1, x3, h => if (I 4) ≤ x3 then some (h) else ck (mm_in x2 48) (bd (F_L_turned (h.1 36 (Int32.toNatClampNeg x2)) x3 h) (fun (r5, h4) => bd (F_L_indexOf r5 h4) (fun (r7, h6) => if 0 ≤ r7 then L_L_spread_37 x2 n (x3 + I 1) h6 else if (I 48) ≤ (h6.1 35 4) then L_L_spread_37 x2 n (x3 + I 1) h6 else ck (mm_in (h6.1 35 4) 48) (hw (mm_hset h6.1 36 (Int32.toNatClampNeg (h6.1 35 4)) r5, h6.2) (fun h8 => ck (mm_in x2 48) (ck (mm_in (h8.1 35 4) 48) (hw (mm_hset h8.1 37 (Int32.toNatClampNeg (h8.1 35 4)) ((h8.1 37 (Int32.toNatClampNeg x2)) + (I 1)), h8.2) (fun h9 => ck (mm_in (h9.1 35 4) 48) (hw (mm_hset h9.1 38 (Int32.toNatClampNeg (h9.1 35 4)) x2, h9.2) (fun h10 => ck (mm_in (h10.1 35 4) 48) (hw (mm_hset h10.1 39 (Int32.toNatClampNeg (h10.1 35 4)) x3, h10.2) (fun h11 => hw (mm_hset h11.1 35 4 ((h11.1 35 4) + (I 1)), h11.2) (fun h12 => L_L_spread_37 x2 n (x3 + I 1) h12)))))))))))))
def L_L_spread_21 : Nat → Int32 → MH → Option (MH)
  | 0, _, _ => none
  | n + 1, x2, h => if (h.1 35 4) ≤ x2 then some (h) else if (I 48) ≤ x2 then some (h) else bd (L_L_spread_37 x2 5000 (I 0) h) (fun h16 => L_L_spread_21 n (x2 + I 1) h16)
/-- BothCorners$Lies.spread(I)V -/
def F_L_spread (x1 : Int32) (h : MH) : Option (MH) := ck (mm_in (I 0) 48) (hw (mm_hset h.1 36 (Int32.toNatClampNeg (I 0)) x1, h.2) (fun h1 => ck (mm_in (I 0) 48) (hw (mm_hset h1.1 37 (Int32.toNatClampNeg (I 0)) (I 0), h1.2) (fun h2 => hw (mm_hset h2.1 35 4 (I 1), h2.2) (fun h3 => bd (L_L_spread_21 5000 (I 0) h3) (fun h19 => some h19))))))
theorem A_L_L_spread_37 {x2 : Int32} {r : MRs} : ∀ (n : Nat) (x3 : Int32) (h : MH) (x : MH), L_L_spread_37 x2 n x3 h = some x → (True) → (∀ (h' : MH), x = (h') → Go 2 39 136 (mm_lf [(0, .inr (.inl (some 35))), (2, .inl x2)]) [] h' r) → Go 2 39 37 (mm_lf [(0, .inr (.inl (some 35))), (2, .inl x2), (3, .inl x3)]) [] h r
  | 0, _, _, _, hF, _, _ => by cases hF
  | n + 1, x3, h, x, hF, KR, KX => by
    have ih := fun a3 => A_L_L_spread_37 (x2 := x2) (r := r) n a3 
    unfold L_L_spread_37 at hF
    refine g_iload_n (q := 38) rfl rfl rfl ?_
    refine g_iconst (q := 39) rfl rfl ?_
    by_cases c15 : (I 4) ≤ x3
    · rw [if_pos c15] at hF
      refine g_icmpT rfl (decide_eq_true c15) ?_
      injection hF with hF
      subst hF
      exact go_sub (mm_subc rfl (mm_subc rfl mm_sub0)) (KX  _ rfl)
    · rw [if_neg c15] at hF
      refine g_icmpF (q := 42) rfl (decide_eq_false c15) rfl ?_
      refine g_aload_n (q := 43) rfl rfl rfl ?_
      refine g_getR (q := 46) rfl (fun _ => rfl) rfl ?_
      refine g_iload_n (q := 47) rfl rfl rfl ?_
      obtain ⟨hi, hF⟩ := ck_I hF
      refine g_iaload (q := 48) rfl rfl rfl hi rfl ?_
      refine g_iload_n (q := 49) rfl rfl rfl ?_
      obtain ⟨⟨r5, h4⟩, hC, hF⟩ := bd_I hF
      dsimp only at hF
      refine g_ci2 (q := 52) rfl rfl (fun _ => rfl) rfl (A_L_turned hC) (by decide +kernel) rfl ?_
      refine g_istore (q := 54) rfl rfl ?_
      refine g_aload_n (q := 55) rfl rfl rfl ?_
      refine g_iload (q := 57) rfl rfl rfl ?_
      obtain ⟨⟨r7, h6⟩, hC, hF⟩ := bd_I hF
      dsimp only at hF
      refine g_ci2 (q := 60) rfl rfl (fun _ => rfl) rfl (A_L_indexOf hC) (by decide +kernel) rfl ?_
      by_cases c14 : 0 ≤ r7
      · rw [if_pos c14] at hF
        refine g_ifT rfl (decide_eq_true c14) ?_
        refine g_iinc (q := 133) rfl rfl rfl ?_
        refine g_goto rfl ?_
        refine go_sub (lo' := mm_lf [(0, .inr (.inl (some 35))), (2, .inl x2), (3, .inl (x3 + I 1))]) (mm_subc rfl (mm_subc rfl (mm_subc rfl mm_sub0))) ?_
        exact ih _ _ _ hF KR KX
      · rw [if_neg c14] at hF
        refine g_ifF (q := 63) rfl (decide_eq_false c14) rfl ?_
        refine g_aload_n (q := 64) rfl rfl rfl ?_
        refine g_getI (q := 67) rfl (fun _ => rfl) rfl ?_
        refine g_bipush (q := 69) rfl (by decide +kernel) rfl ?_
        by_cases c13 : (I 48) ≤ (h6.1 35 4)
        · rw [if_pos c13] at hF
          refine g_icmpT rfl (decide_eq_true c13) ?_
          refine g_iinc (q := 133) rfl rfl rfl ?_
          refine g_goto rfl ?_
          refine go_sub (lo' := mm_lf [(0, .inr (.inl (some 35))), (2, .inl x2), (3, .inl (x3 + I 1))]) (mm_subc rfl (mm_subc rfl (mm_subc rfl mm_sub0))) ?_
          exact ih _ _ _ hF KR KX
        · rw [if_neg c13] at hF
          refine g_icmpF (q := 72) rfl (decide_eq_false c13) rfl ?_
          refine g_aload_n (q := 73) rfl rfl rfl ?_
          refine g_getR (q := 76) rfl (fun _ => rfl) rfl ?_
          refine g_aload_n (q := 77) rfl rfl rfl ?_
          refine g_getI (q := 80) rfl (fun _ => rfl) rfl ?_
          refine g_iload (q := 82) rfl rfl rfl ?_
          obtain ⟨hi, hF⟩ := ck_I hF
          refine g_iastore (q := 83) rfl rfl rfl hi rfl ?_
          obtain ⟨h8, e_h8, hF⟩ := hw_I hF
          rw [← e_h8]
          refine g_aload_n (q := 84) rfl rfl rfl ?_
          refine g_getR (q := 87) rfl (fun _ => rfl) rfl ?_
          refine g_aload_n (q := 88) rfl rfl rfl ?_
          refine g_getI (q := 91) rfl (fun _ => rfl) rfl ?_
          refine g_aload_n (q := 92) rfl rfl rfl ?_
          refine g_getR (q := 95) rfl (fun _ => rfl) rfl ?_
          refine g_iload_n (q := 96) rfl rfl rfl ?_
          obtain ⟨hi, hF⟩ := ck_I hF
          refine g_iaload (q := 97) rfl rfl rfl hi rfl ?_
          refine g_iconst (q := 98) rfl rfl ?_
          refine g_iadd (q := 99) rfl rfl ?_
          obtain ⟨hi, hF⟩ := ck_I hF
          refine g_iastore (q := 100) rfl rfl rfl hi rfl ?_
          obtain ⟨h9, e_h9, hF⟩ := hw_I hF
          rw [← e_h9]
          refine g_aload_n (q := 101) rfl rfl rfl ?_
          refine g_getR (q := 104) rfl (fun _ => rfl) rfl ?_
          refine g_aload_n (q := 105) rfl rfl rfl ?_
          refine g_getI (q := 108) rfl (fun _ => rfl) rfl ?_
          refine g_iload_n (q := 109) rfl rfl rfl ?_
          obtain ⟨hi, hF⟩ := ck_I hF
          refine g_iastore (q := 110) rfl rfl rfl hi rfl ?_
          obtain ⟨h10, e_h10, hF⟩ := hw_I hF
          rw [← e_h10]
          refine g_aload_n (q := 111) rfl rfl rfl ?_
          refine g_getR (q := 114) rfl (fun _ => rfl) rfl ?_
          refine g_aload_n (q := 115) rfl rfl rfl ?_
          refine g_getI (q := 118) rfl (fun _ => rfl) rfl ?_
          refine g_iload_n (q := 119) rfl rfl rfl ?_
          obtain ⟨hi, hF⟩ := ck_I hF
          refine g_iastore (q := 120) rfl rfl rfl hi rfl ?_
          obtain ⟨h11, e_h11, hF⟩ := hw_I hF
          rw [← e_h11]
          refine g_aload_n (q := 121) rfl rfl rfl ?_
          refine g_dup (q := 122) rfl rfl rfl ?_
          refine g_getI (q := 125) rfl (fun _ => rfl) rfl ?_
          refine g_iconst (q := 126) rfl rfl ?_
          refine g_iadd (q := 127) rfl rfl ?_
          refine g_putI (q := 130) rfl (fun _ => rfl) rfl ?_
          obtain ⟨h12, e_h12, hF⟩ := hw_I hF
          rw [← e_h12]
          refine g_iinc (q := 133) rfl rfl rfl ?_
          refine g_goto rfl ?_
          refine go_sub (lo' := mm_lf [(0, .inr (.inl (some 35))), (2, .inl x2), (3, .inl (x3 + I 1))]) (mm_subc rfl (mm_subc rfl (mm_subc rfl mm_sub0))) ?_
          exact ih _ _ _ hF KR KX
theorem A_L_L_spread_21 {r : MRs} : ∀ (n : Nat) (x2 : Int32) (h : MH) (x : MH), L_L_spread_21 n x2 h = some x → (True) → (∀ (h' : MH), x = (h') → Go 2 39 142 (mm_lf []) [] h' r) → Go 2 39 21 (mm_lf [(0, .inr (.inl (some 35))), (2, .inl x2)]) [] h r
  | 0, _, _, _, hF, _, _ => by cases hF
  | n + 1, x2, h, x, hF, KR, KX => by
    have ih := fun a2 => A_L_L_spread_21 (r := r) n a2 
    unfold L_L_spread_21 at hF
    refine g_iload_n (q := 22) rfl rfl rfl ?_
    refine g_aload_n (q := 23) rfl rfl rfl ?_
    refine g_getI (q := 26) rfl (fun _ => rfl) rfl ?_
    by_cases c18 : (h.1 35 4) ≤ x2
    · rw [if_pos c18] at hF
      refine g_icmpT rfl (decide_eq_true c18) ?_
      injection hF with hF
      subst hF
      exact go_sub mm_sub0 (KX  _ rfl)
    · rw [if_neg c18] at hF
      refine g_icmpF (q := 29) rfl (decide_eq_false c18) rfl ?_
      refine g_iload_n (q := 30) rfl rfl rfl ?_
      refine g_bipush (q := 32) rfl (by decide +kernel) rfl ?_
      by_cases c17 : (I 48) ≤ x2
      · rw [if_pos c17] at hF
        refine g_icmpT rfl (decide_eq_true c17) ?_
        injection hF with hF
        subst hF
        exact go_sub mm_sub0 (KX  _ rfl)
      · rw [if_neg c17] at hF
        refine g_icmpF (q := 35) rfl (decide_eq_false c17) rfl ?_
        refine g_iconst (q := 36) rfl rfl ?_
        refine g_istore_n (q := 37) rfl rfl ?_
        refine go_sub (lo' := mm_lf [(0, .inr (.inl (some 35))), (2, .inl x2), (3, .inl (I 0))]) (mm_subc rfl (mm_subc rfl (mm_subc rfl mm_sub0))) ?_
        obtain ⟨h16, hC, hF⟩ := bd_I hF
        refine A_L_L_spread_37 5000 _ _ _ hC trivial ?_
        intro _ e2
        cases e2
        refine g_iinc (q := 139) rfl rfl rfl ?_
        refine g_goto rfl ?_
        refine go_sub (lo' := mm_lf [(0, .inr (.inl (some 35))), (2, .inl (x2 + I 1))]) (mm_subc rfl (mm_subc rfl mm_sub0)) ?_
        exact ih _ _ _ hF KR KX
theorem A_L_spread {x1 : Int32} {h h' : MH} (hF : F_L_spread x1 h = some h') : Ex 3 39 [.inr (.inl (some 35)), .inl x1] h (none, h') := by
  unfold F_L_spread at hF
  refine ex_of (d := 2) rfl rfl ?_
  refine g_aload_n (q := 1) rfl rfl rfl ?_
  refine g_getR (q := 4) rfl (fun _ => rfl) rfl ?_
  refine g_iconst (q := 5) rfl rfl ?_
  refine g_iload_n (q := 6) rfl rfl rfl ?_
  obtain ⟨hi, hF⟩ := ck_I hF
  refine g_iastore (q := 7) rfl rfl rfl hi rfl ?_
  obtain ⟨h1, e_h1, hF⟩ := hw_I hF
  rw [← e_h1]
  refine g_aload_n (q := 8) rfl rfl rfl ?_
  refine g_getR (q := 11) rfl (fun _ => rfl) rfl ?_
  refine g_iconst (q := 12) rfl rfl ?_
  refine g_iconst (q := 13) rfl rfl ?_
  obtain ⟨hi, hF⟩ := ck_I hF
  refine g_iastore (q := 14) rfl rfl rfl hi rfl ?_
  obtain ⟨h2, e_h2, hF⟩ := hw_I hF
  rw [← e_h2]
  refine g_aload_n (q := 15) rfl rfl rfl ?_
  refine g_iconst (q := 16) rfl rfl ?_
  refine g_putI (q := 19) rfl (fun _ => rfl) rfl ?_
  obtain ⟨h3, e_h3, hF⟩ := hw_I hF
  rw [← e_h3]
  refine g_iconst (q := 20) rfl rfl ?_
  refine g_istore_n (q := 21) rfl rfl ?_
  refine go_sub (lo' := mm_lf [(0, .inr (.inl (some 35))), (2, .inl (I 0))]) (mm_subc rfl (mm_subc rfl mm_sub0)) ?_
  obtain ⟨h19, hC, hF⟩ := bd_I hF
  refine A_L_L_spread_21 5000 _ _ _ hC trivial ?_
  intro _ e2
  cases e2
  injection hF with hF
  subst hF
  exact g_vret rfl
