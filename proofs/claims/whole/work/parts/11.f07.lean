-- decompiled by wip/whole/dec.py: what a method does (F_), and that the mini machine does it (A_)
def L_C_worst_35 (x1 : Int32) : Nat → Int32 → Int32 → Int32 → MH → Option (Int32 × MH)
  | 0, _, _, _, _ => none
  | n + 1, x2, x3, x4, h => if (h.1 8 7) ≤ x4 then some (x2, h) else bd (F_H_bestTime x4 x1 h) (fun (r4, h3) => iw (if r4 ≤ x3 then x2 else x4) (fun v5 => iw (if r4 ≤ x3 then x3 else r4) (fun v6 => L_C_worst_35 x1 n v5 v6 (x4 + I 1) h3)))
/-- BothCorners.worst(I)I -/
def F_C_worst (x1 : Int32) (h : MH) : Option (Int32 × MH) := bd (F_C_noOne x1 h) (fun (r2, h1) => if r2 = 0 then if ¬ (h1.1 8 9) = 0 then bd (L_C_worst_35 x1 5000 (I (-9)) (I (-1)) (I 0) h1) (fun (y10, h11) => some (y10, h11)) else some (I (-9), h1) else bd (F_C_refuse (I (-1)) h1) (fun (r14, h13) => some (r14, h13)))
theorem A_L_C_worst_35 {x1 : Int32} {r : MRs} : ∀ (n : Nat) (x2 : Int32) (x3 : Int32) (x4 : Int32) (h : MH) (x : Int32 × MH), L_C_worst_35 x1 n x2 x3 x4 h = some x → (True) → (∀ (e2 : Int32) (h' : MH), x = (e2, h') → Go 5 96 77 (mm_lf [(2, .inl e2)]) [] h' r) → Go 5 96 35 (mm_lf [(0, .inr (.inl (some 0))), (1, .inl x1), (2, .inl x2), (3, .inl x3), (4, .inl x4)]) [] h r
  | 0, _, _, _, _, _, hF, _, _ => by cases hF
  | n + 1, x2, x3, x4, h, x, hF, KR, KX => by
    have ih := fun a2 a3 a4 => A_L_C_worst_35 (x1 := x1) (r := r) n a2 a3 a4 
    unfold L_C_worst_35 at hF
    refine g_iload (q := 37) rfl rfl rfl ?_
    refine g_aload_n (q := 38) rfl rfl rfl ?_
    refine g_getR (q := 41) rfl (fun _ => rfl) rfl ?_
    refine g_getI (q := 44) rfl (fun _ => rfl) rfl ?_
    by_cases c9 : (h.1 8 7) ≤ x4
    · rw [if_pos c9] at hF
      refine g_icmpT rfl (decide_eq_true c9) ?_
      injection hF with hF
      subst hF
      exact go_sub (mm_subc rfl mm_sub0) (KX _ _ rfl)
    · rw [if_neg c9] at hF
      refine g_icmpF (q := 47) rfl (decide_eq_false c9) rfl ?_
      refine g_aload_n (q := 48) rfl rfl rfl ?_
      refine g_getR (q := 51) rfl (fun _ => rfl) rfl ?_
      refine g_iload (q := 53) rfl rfl rfl ?_
      refine g_iload_n (q := 54) rfl rfl rfl ?_
      obtain ⟨⟨r4, h3⟩, hC, hF⟩ := bd_I hF
      dsimp only at hF
      refine g_ci3 (q := 57) rfl rfl (fun _ => rfl) rfl (A_H_bestTime hC) (by decide +kernel) rfl ?_
      refine g_istore (q := 59) rfl rfl ?_
      refine g_iload (q := 61) rfl rfl rfl ?_
      refine g_iload_n (q := 62) rfl rfl rfl ?_
      obtain ⟨v5, e_v5, hF⟩ := iw_I hF
      obtain ⟨v6, e_v6, hF⟩ := iw_I hF
      suffices K7 : Go 5 96 71 (mm_lf [(0, .inr (.inl (some 0))), (1, .inl x1), (2, .inl v5), (3, .inl v6), (4, .inl x4)]) [] h3 r by
        clear hF
        by_cases c8 : r4 ≤ x3
        · simp only [if_pos c8] at e_v5 e_v6
          subst e_v5 e_v6
          refine g_icmpT rfl (decide_eq_true c8) ?_
          exact go_sub (mm_subc rfl (mm_subc rfl (mm_subc rfl (mm_subc rfl (mm_subc rfl mm_sub0))))) K7
        · simp only [if_neg c8] at e_v5 e_v6
          subst e_v5 e_v6
          refine g_icmpF (q := 65) rfl (decide_eq_false c8) rfl ?_
          refine g_iload (q := 67) rfl rfl rfl ?_
          refine g_istore_n (q := 68) rfl rfl ?_
          refine g_iload (q := 70) rfl rfl rfl ?_
          refine g_istore_n (q := 71) rfl rfl ?_
          exact go_sub (mm_subc rfl (mm_subc rfl (mm_subc rfl (mm_subc rfl (mm_subc rfl mm_sub0))))) K7
      clear e_v5 e_v6
      refine g_iinc (q := 74) rfl rfl rfl ?_
      refine g_goto rfl ?_
      refine go_sub (lo' := mm_lf [(0, .inr (.inl (some 0))), (1, .inl x1), (2, .inl v5), (3, .inl v6), (4, .inl (x4 + I 1))]) (mm_subc rfl (mm_subc rfl (mm_subc rfl (mm_subc rfl (mm_subc rfl mm_sub0))))) ?_
      exact ih _ _ _ _ _ hF KR KX
theorem A_C_worst {x1 : Int32} {h h' : MH} {v : Int32} (hF : F_C_worst x1 h = some (v, h')) : Ex 6 96 [.inr (.inl (some 0)), .inl x1] h (some (.inl v), h') := by
  unfold F_C_worst at hF
  refine ex_of (d := 5) rfl rfl ?_
  refine g_aload_n (q := 1) rfl rfl rfl ?_
  refine g_iload_n (q := 2) rfl rfl rfl ?_
  obtain ⟨⟨r2, h1⟩, hC, hF⟩ := bd_I hF
  dsimp only at hF
  refine g_ci2 (q := 5) rfl rfl (fun _ => rfl) rfl (A_C_noOne hC) (by decide +kernel) rfl ?_
  by_cases c15 : r2 = 0
  · rw [if_pos c15] at hF
    refine g_ifT rfl (decide_eq_true c15) ?_
    refine g_aload_n (q := 15) rfl rfl rfl ?_
    refine g_getR (q := 18) rfl (fun _ => rfl) rfl ?_
    refine g_getI (q := 21) rfl (fun _ => rfl) rfl ?_
    by_cases c12 : ¬ (h1.1 8 9) = 0
    · rw [if_pos c12] at hF
      refine g_ifT rfl (decide_eq_true c12) ?_
      refine g_bipush (q := 29) rfl (by decide +kernel) rfl ?_
      refine g_istore_n (q := 30) rfl rfl ?_
      refine g_iconst (q := 31) rfl rfl ?_
      refine g_istore_n (q := 32) rfl rfl ?_
      refine g_iconst (q := 33) rfl rfl ?_
      refine g_istore (q := 35) rfl rfl ?_
      refine go_sub (lo' := mm_lf [(0, .inr (.inl (some 0))), (1, .inl x1), (2, .inl (I (-9))), (3, .inl (I (-1))), (4, .inl (I 0))]) (mm_subc rfl (mm_subc rfl (mm_subc rfl (mm_subc rfl (mm_subc rfl mm_sub0))))) ?_
      obtain ⟨⟨y10, h11⟩, hC, hF⟩ := bd_I hF
      dsimp only at hF
      refine A_L_C_worst_35 5000 _ _ _ _ _ hC trivial ?_
      intro _ _ e2
      cases e2
      refine g_iload_n (q := 78) rfl rfl rfl ?_
      injection hF with hF
      injection hF with hv hh
      subst hv
      subst hh
      exact g_iret rfl
    · rw [if_neg c12] at hF
      refine g_ifF (q := 24) rfl (decide_eq_false c12) rfl ?_
      refine g_bipush (q := 26) rfl (by decide +kernel) rfl ?_
      injection hF with hF
      injection hF with hv hh
      subst hv
      subst hh
      exact g_iret rfl
  · rw [if_neg c15] at hF
    refine g_ifF (q := 8) rfl (decide_eq_false c15) rfl ?_
    refine g_aload_n (q := 9) rfl rfl rfl ?_
    refine g_iconst (q := 10) rfl rfl ?_
    obtain ⟨⟨r14, h13⟩, hC, hF⟩ := bd_I hF
    dsimp only at hF
    refine g_ci2 (q := 13) rfl rfl (fun _ => rfl) rfl (A_C_refuse hC) (by decide +kernel) rfl ?_
    injection hF with hF
    injection hF with hv hh
    subst hv
    subst hh
    exact g_iret rfl
def L_C_swap_40 (x1 : Int32) (x4 : Int32) : Nat → Int32 → Int32 → Int32 → MH → Option (Int32 × Int32 × MH)
  | 0, _, _, _, _ => none
  | n + 1, x2, x3, x5, h => if (h.1 8 7) ≤ x5 then some (x2, x3, h) else bd (F_H_foldsInto x4 x5 x1 h) (fun (r4, h3) => bd (F_H_foldsInto x5 x4 x1 h3) (fun (r6, h5) => bd (F_H_foldsBy x4 x1 h5) (fun (r8, h7) => bd (F_H_foldsBy x5 x1 h7) (fun (r10, h9) => iw (if x3 ≤ (((r4 + r6) - r8) - r10) then x2 else ((I 10) * x4) + x5) (fun v11 => iw (if x3 ≤ (((r4 + r6) - r8) - r10) then x3 else ((r4 + r6) - r8) - r10) (fun v12 => L_C_swap_40 x1 x4 n v11 v12 (x5 + I 1) h9))))))
def L_C_swap_22 (x1 : Int32) : Nat → Int32 → Int32 → Int32 → MH → Option (Int32 × MH)
  | 0, _, _, _, _ => none
  | n + 1, x2, x3, x4, h => if (h.1 8 7) ≤ x4 then some (x2, h) else bd (L_C_swap_40 x1 x4 5000 x2 x3 (x4 + (I 1)) h) (fun (y16, y17, h18) => L_C_swap_22 x1 n y16 y17 (x4 + I 1) h18)
/-- BothCorners.swap(I)I -/
def F_C_swap (x1 : Int32) (h : MH) : Option (Int32 × MH) := bd (F_C_noWay x1 h) (fun (r2, h1) => if r2 = 0 then bd (L_C_swap_22 x1 5000 (I (-9)) (I 0) (I 0) h1) (fun (y20, h21) => some (y20, h21)) else bd (F_C_refuse (I (-1)) h1) (fun (r23, h22) => some (r23, h22)))
theorem A_L_C_swap_40 {x1 : Int32} {x4 : Int32} {r : MRs} : ∀ (n : Nat) (x2 : Int32) (x3 : Int32) (x5 : Int32) (h : MH) (x : Int32 × Int32 × MH), L_C_swap_40 x1 x4 n x2 x3 x5 h = some x → (True) → (∀ (e2 : Int32) (e3 : Int32) (h' : MH), x = (e2, e3, h') → Go 5 85 125 (mm_lf [(0, .inr (.inl (some 0))), (1, .inl x1), (2, .inl e2), (3, .inl e3), (4, .inl x4)]) [] h' r) → Go 5 85 40 (mm_lf [(0, .inr (.inl (some 0))), (1, .inl x1), (2, .inl x2), (3, .inl x3), (4, .inl x4), (5, .inl x5)]) [] h r
  | 0, _, _, _, _, _, hF, _, _ => by cases hF
  | n + 1, x2, x3, x5, h, x, hF, KR, KX => by
    have ih := fun a2 a3 a5 => A_L_C_swap_40 (x1 := x1) (x4 := x4) (r := r) n a2 a3 a5 
    unfold L_C_swap_40 at hF
    refine g_iload (q := 42) rfl rfl rfl ?_
    refine g_aload_n (q := 43) rfl rfl rfl ?_
    refine g_getR (q := 46) rfl (fun _ => rfl) rfl ?_
    refine g_getI (q := 49) rfl (fun _ => rfl) rfl ?_
    by_cases c15 : (h.1 8 7) ≤ x5
    · rw [if_pos c15] at hF
      refine g_icmpT rfl (decide_eq_true c15) ?_
      injection hF with hF
      subst hF
      exact go_sub (mm_subc rfl (mm_subc rfl (mm_subc rfl (mm_subc rfl (mm_subc rfl mm_sub0))))) (KX _ _ _ rfl)
    · rw [if_neg c15] at hF
      refine g_icmpF (q := 52) rfl (decide_eq_false c15) rfl ?_
      refine g_aload_n (q := 53) rfl rfl rfl ?_
      refine g_getR (q := 56) rfl (fun _ => rfl) rfl ?_
      refine g_iload (q := 58) rfl rfl rfl ?_
      refine g_iload (q := 60) rfl rfl rfl ?_
      refine g_iload_n (q := 61) rfl rfl rfl ?_
      obtain ⟨⟨r4, h3⟩, hC, hF⟩ := bd_I hF
      dsimp only at hF
      refine g_ci4 (q := 64) rfl rfl (fun _ => rfl) rfl (A_H_foldsInto hC) (by decide +kernel) rfl ?_
      refine g_aload_n (q := 65) rfl rfl rfl ?_
      refine g_getR (q := 68) rfl (fun _ => rfl) rfl ?_
      refine g_iload (q := 70) rfl rfl rfl ?_
      refine g_iload (q := 72) rfl rfl rfl ?_
      refine g_iload_n (q := 73) rfl rfl rfl ?_
      obtain ⟨⟨r6, h5⟩, hC, hF⟩ := bd_I hF
      dsimp only at hF
      refine g_ci4 (q := 76) rfl rfl (fun _ => rfl) rfl (A_H_foldsInto hC) (by decide +kernel) rfl ?_
      refine g_iadd (q := 77) rfl rfl ?_
      refine g_aload_n (q := 78) rfl rfl rfl ?_
      refine g_getR (q := 81) rfl (fun _ => rfl) rfl ?_
      refine g_iload (q := 83) rfl rfl rfl ?_
      refine g_iload_n (q := 84) rfl rfl rfl ?_
      obtain ⟨⟨r8, h7⟩, hC, hF⟩ := bd_I hF
      dsimp only at hF
      refine g_ci3 (q := 87) rfl rfl (fun _ => rfl) rfl (A_H_foldsBy hC) (by decide +kernel) rfl ?_
      refine g_isub (q := 88) rfl rfl ?_
      refine g_aload_n (q := 89) rfl rfl rfl ?_
      refine g_getR (q := 92) rfl (fun _ => rfl) rfl ?_
      refine g_iload (q := 94) rfl rfl rfl ?_
      refine g_iload_n (q := 95) rfl rfl rfl ?_
      obtain ⟨⟨r10, h9⟩, hC, hF⟩ := bd_I hF
      dsimp only at hF
      refine g_ci3 (q := 98) rfl rfl (fun _ => rfl) rfl (A_H_foldsBy hC) (by decide +kernel) rfl ?_
      refine g_isub (q := 99) rfl rfl ?_
      refine g_istore (q := 101) rfl rfl ?_
      refine g_iload (q := 103) rfl rfl rfl ?_
      refine g_iload_n (q := 104) rfl rfl rfl ?_
      obtain ⟨v11, e_v11, hF⟩ := iw_I hF
      obtain ⟨v12, e_v12, hF⟩ := iw_I hF
      suffices K13 : Go 5 85 119 (mm_lf [(0, .inr (.inl (some 0))), (1, .inl x1), (2, .inl v11), (3, .inl v12), (4, .inl x4), (5, .inl x5)]) [] h9 r by
        clear hF
        by_cases c14 : x3 ≤ (((r4 + r6) - r8) - r10)
        · simp only [if_pos c14] at e_v11 e_v12
          subst e_v11 e_v12
          refine g_icmpT rfl (decide_eq_true c14) ?_
          exact go_sub (mm_subc rfl (mm_subc rfl (mm_subc rfl (mm_subc rfl (mm_subc rfl (mm_subc rfl mm_sub0)))))) K13
        · simp only [if_neg c14] at e_v11 e_v12
          subst e_v11 e_v12
          refine g_icmpF (q := 107) rfl (decide_eq_false c14) rfl ?_
          refine g_iload (q := 109) rfl rfl rfl ?_
          refine g_istore_n (q := 110) rfl rfl ?_
          refine g_bipush (q := 112) rfl (by decide +kernel) rfl ?_
          refine g_iload (q := 114) rfl rfl rfl ?_
          refine g_imul (q := 115) rfl rfl ?_
          refine g_iload (q := 117) rfl rfl rfl ?_
          refine g_iadd (q := 118) rfl rfl ?_
          refine g_istore_n (q := 119) rfl rfl ?_
          exact go_sub (mm_subc rfl (mm_subc rfl (mm_subc rfl (mm_subc rfl (mm_subc rfl (mm_subc rfl mm_sub0)))))) K13
      clear e_v11 e_v12
      refine g_iinc (q := 122) rfl rfl rfl ?_
      refine g_goto rfl ?_
      refine go_sub (lo' := mm_lf [(0, .inr (.inl (some 0))), (1, .inl x1), (2, .inl v11), (3, .inl v12), (4, .inl x4), (5, .inl (x5 + I 1))]) (mm_subc rfl (mm_subc rfl (mm_subc rfl (mm_subc rfl (mm_subc rfl (mm_subc rfl mm_sub0)))))) ?_
      exact ih _ _ _ _ _ hF KR KX
theorem A_L_C_swap_22 {x1 : Int32} {r : MRs} : ∀ (n : Nat) (x2 : Int32) (x3 : Int32) (x4 : Int32) (h : MH) (x : Int32 × MH), L_C_swap_22 x1 n x2 x3 x4 h = some x → (True) → (∀ (e2 : Int32) (h' : MH), x = (e2, h') → Go 5 85 131 (mm_lf [(2, .inl e2)]) [] h' r) → Go 5 85 22 (mm_lf [(0, .inr (.inl (some 0))), (1, .inl x1), (2, .inl x2), (3, .inl x3), (4, .inl x4)]) [] h r
  | 0, _, _, _, _, _, hF, _, _ => by cases hF
  | n + 1, x2, x3, x4, h, x, hF, KR, KX => by
    have ih := fun a2 a3 a4 => A_L_C_swap_22 (x1 := x1) (r := r) n a2 a3 a4 
    unfold L_C_swap_22 at hF
    refine g_iload (q := 24) rfl rfl rfl ?_
    refine g_aload_n (q := 25) rfl rfl rfl ?_
    refine g_getR (q := 28) rfl (fun _ => rfl) rfl ?_
    refine g_getI (q := 31) rfl (fun _ => rfl) rfl ?_
    by_cases c19 : (h.1 8 7) ≤ x4
    · rw [if_pos c19] at hF
      refine g_icmpT rfl (decide_eq_true c19) ?_
      injection hF with hF
      subst hF
      exact go_sub (mm_subc rfl mm_sub0) (KX _ _ rfl)
    · rw [if_neg c19] at hF
      refine g_icmpF (q := 34) rfl (decide_eq_false c19) rfl ?_
      refine g_iload (q := 36) rfl rfl rfl ?_
      refine g_iconst (q := 37) rfl rfl ?_
      refine g_iadd (q := 38) rfl rfl ?_
      refine g_istore (q := 40) rfl rfl ?_
      refine go_sub (lo' := mm_lf [(0, .inr (.inl (some 0))), (1, .inl x1), (2, .inl x2), (3, .inl x3), (4, .inl x4), (5, .inl (x4 + (I 1)))]) (mm_subc rfl (mm_subc rfl (mm_subc rfl (mm_subc rfl (mm_subc rfl (mm_subc rfl mm_sub0)))))) ?_
      obtain ⟨⟨y16, y17, h18⟩, hC, hF⟩ := bd_I hF
      dsimp only at hF
      refine A_L_C_swap_40 5000 _ _ _ _ _ hC trivial ?_
      intro _ _ _ e2
      cases e2
      refine g_iinc (q := 128) rfl rfl rfl ?_
      refine g_goto rfl ?_
      refine go_sub (lo' := mm_lf [(0, .inr (.inl (some 0))), (1, .inl x1), (2, .inl y16), (3, .inl y17), (4, .inl (x4 + I 1))]) (mm_subc rfl (mm_subc rfl (mm_subc rfl (mm_subc rfl (mm_subc rfl mm_sub0))))) ?_
      exact ih _ _ _ _ _ hF KR KX
theorem A_C_swap {x1 : Int32} {h h' : MH} {v : Int32} (hF : F_C_swap x1 h = some (v, h')) : Ex 6 85 [.inr (.inl (some 0)), .inl x1] h (some (.inl v), h') := by
  unfold F_C_swap at hF
  refine ex_of (d := 5) rfl rfl ?_
  refine g_aload_n (q := 1) rfl rfl rfl ?_
  refine g_iload_n (q := 2) rfl rfl rfl ?_
  obtain ⟨⟨r2, h1⟩, hC, hF⟩ := bd_I hF
  dsimp only at hF
  refine g_ci2 (q := 5) rfl rfl (fun _ => rfl) rfl (A_C_noWay hC) (by decide +kernel) rfl ?_
  by_cases c24 : r2 = 0
  · rw [if_pos c24] at hF
    refine g_ifT rfl (decide_eq_true c24) ?_
    refine g_bipush (q := 16) rfl (by decide +kernel) rfl ?_
    refine g_istore_n (q := 17) rfl rfl ?_
    refine g_iconst (q := 18) rfl rfl ?_
    refine g_istore_n (q := 19) rfl rfl ?_
    refine g_iconst (q := 20) rfl rfl ?_
    refine g_istore (q := 22) rfl rfl ?_
    refine go_sub (lo' := mm_lf [(0, .inr (.inl (some 0))), (1, .inl x1), (2, .inl (I (-9))), (3, .inl (I 0)), (4, .inl (I 0))]) (mm_subc rfl (mm_subc rfl (mm_subc rfl (mm_subc rfl (mm_subc rfl mm_sub0))))) ?_
    obtain ⟨⟨y20, h21⟩, hC, hF⟩ := bd_I hF
    dsimp only at hF
    refine A_L_C_swap_22 5000 _ _ _ _ _ hC trivial ?_
    intro _ _ e2
    cases e2
    refine g_iload_n (q := 132) rfl rfl rfl ?_
    injection hF with hF
    injection hF with hv hh
    subst hv
    subst hh
    exact g_iret rfl
  · rw [if_neg c24] at hF
    refine g_ifF (q := 8) rfl (decide_eq_false c24) rfl ?_
    refine g_aload_n (q := 9) rfl rfl rfl ?_
    refine g_iconst (q := 10) rfl rfl ?_
    obtain ⟨⟨r23, h22⟩, hC, hF⟩ := bd_I hF
    dsimp only at hF
    refine g_ci2 (q := 13) rfl rfl (fun _ => rfl) rfl (A_C_refuse hC) (by decide +kernel) rfl ?_
    injection hF with hF
    injection hF with hv hh
    subst hv
    subst hh
    exact g_iret rfl
def L_C_rather_48 (x1 : Int32) (x2 : Int32) (x3 : Int32) (x4 : Int32) : Nat → Int32 → Int32 → Int32 → MH → Option (Int32 × Int32 × MH)
  | 0, _, _, _, _ => none
  | n + 1, x5, x6, x7, h => if (h.1 8 7) ≤ x7 then some (x5, x6, h) else bd (F_H_timeBy x7 x2 x3 h) (fun (r10, h9) => bd (F_H_timeBy x7 x1 x3 h9) (fun (r12, h11) => iw (if (r10 - r12) ≤ 0 then (if ¬ (r10 - r12) = 0 then x5 else x5) else x5 + I 1) (fun v13 => iw (if (r10 - r12) ≤ 0 then (if ¬ (r10 - r12) = 0 then x6 else x6 + I 1) else x6) (fun v14 => L_C_rather_48 x1 x2 x3 x4 n v13 v14 (x7 + I 1) h11))))
/-- BothCorners.rather(IIII)I -/
def F_C_rather (x1 : Int32) (x2 : Int32) (x3 : Int32) (x4 : Int32) (h : MH) : Option (Int32 × MH) := bd (F_C_noTwoWays x1 x2 h) (fun (r2, h1) => if ¬ r2 = 0 then bd (F_C_refuse (I (-1)) h1) (fun (r4, h3) => some (r4, h3)) else bd (F_C_noOne x3 h1) (fun (r6, h5) => if r6 = 0 then bd (F_C_otherThan x4 (I 1) h5) (fun (r8, h7) => if r8 = 0 then bd (L_C_rather_48 x1 x2 x3 x4 5000 (I 0) (I 0) (I 0) h7) (fun (y19, y20, h21) => iw (if ¬ x4 = 0 then y20 else y19) (fun v22 => some (v22, h21))) else bd (F_C_refuse (I (-2)) h7) (fun (r26, h25) => some (r26, h25))) else bd (F_C_refuse (I (-1)) h5) (fun (r29, h28) => some (r29, h28))))
theorem A_L_C_rather_48 {x1 : Int32} {x2 : Int32} {x3 : Int32} {x4 : Int32} {r : MRs} : ∀ (n : Nat) (x5 : Int32) (x6 : Int32) (x7 : Int32) (h : MH) (x : Int32 × Int32 × MH), L_C_rather_48 x1 x2 x3 x4 n x5 x6 x7 h = some x → (True) → (∀ (e5 : Int32) (e6 : Int32) (h' : MH), x = (e5, e6, h') → Go 5 91 110 (mm_lf [(4, .inl x4), (5, .inl e5), (6, .inl e6)]) [] h' r) → Go 5 91 48 (mm_lf [(0, .inr (.inl (some 0))), (1, .inl x1), (2, .inl x2), (3, .inl x3), (4, .inl x4), (5, .inl x5), (6, .inl x6), (7, .inl x7)]) [] h r
  | 0, _, _, _, _, _, hF, _, _ => by cases hF
  | n + 1, x5, x6, x7, h, x, hF, KR, KX => by
    have ih := fun a5 a6 a7 => A_L_C_rather_48 (x1 := x1) (x2 := x2) (x3 := x3) (x4 := x4) (r := r) n a5 a6 a7 
    unfold L_C_rather_48 at hF
    refine g_iload (q := 50) rfl rfl rfl ?_
    refine g_aload_n (q := 51) rfl rfl rfl ?_
    refine g_getR (q := 54) rfl (fun _ => rfl) rfl ?_
    refine g_getI (q := 57) rfl (fun _ => rfl) rfl ?_
    by_cases c18 : (h.1 8 7) ≤ x7
    · rw [if_pos c18] at hF
      refine g_icmpT rfl (decide_eq_true c18) ?_
      injection hF with hF
      subst hF
      exact go_sub (mm_subc rfl (mm_subc rfl (mm_subc rfl mm_sub0))) (KX _ _ _ rfl)
    · rw [if_neg c18] at hF
      refine g_icmpF (q := 60) rfl (decide_eq_false c18) rfl ?_
      refine g_aload_n (q := 61) rfl rfl rfl ?_
      refine g_getR (q := 64) rfl (fun _ => rfl) rfl ?_
      refine g_iload (q := 66) rfl rfl rfl ?_
      refine g_iload_n (q := 67) rfl rfl rfl ?_
      refine g_iload_n (q := 68) rfl rfl rfl ?_
      obtain ⟨⟨r10, h9⟩, hC, hF⟩ := bd_I hF
      dsimp only at hF
      refine g_ci4 (q := 71) rfl rfl (fun _ => rfl) rfl (A_H_timeBy hC) (by decide +kernel) rfl ?_
      refine g_aload_n (q := 72) rfl rfl rfl ?_
      refine g_getR (q := 75) rfl (fun _ => rfl) rfl ?_
      refine g_iload (q := 77) rfl rfl rfl ?_
      refine g_iload_n (q := 78) rfl rfl rfl ?_
      refine g_iload_n (q := 79) rfl rfl rfl ?_
      obtain ⟨⟨r12, h11⟩, hC, hF⟩ := bd_I hF
      dsimp only at hF
      refine g_ci4 (q := 82) rfl rfl (fun _ => rfl) rfl (A_H_timeBy hC) (by decide +kernel) rfl ?_
      refine g_isub (q := 83) rfl rfl ?_
      refine g_istore (q := 85) rfl rfl ?_
      refine g_iload (q := 87) rfl rfl rfl ?_
      obtain ⟨v13, e_v13, hF⟩ := iw_I hF
      obtain ⟨v14, e_v14, hF⟩ := iw_I hF
      suffices K15 : Go 5 91 104 (mm_lf [(0, .inr (.inl (some 0))), (1, .inl x1), (2, .inl x2), (3, .inl x3), (4, .inl x4), (5, .inl v13), (6, .inl v14), (7, .inl x7)]) [] h11 r by
        clear hF
        by_cases c16 : (r10 - r12) ≤ 0
        · simp only [if_pos c16] at e_v13 e_v14
          refine g_ifT rfl (decide_eq_true c16) ?_
          refine g_iload (q := 98) rfl rfl rfl ?_
          by_cases c17 : ¬ (r10 - r12) = 0
          · simp only [if_pos c17] at e_v13 e_v14
            subst e_v13 e_v14
            refine g_ifT rfl (decide_eq_true c17) ?_
            exact go_sub (mm_subc rfl (mm_subc rfl (mm_subc rfl (mm_subc rfl (mm_subc rfl (mm_subc rfl (mm_subc rfl (mm_subc rfl mm_sub0)))))))) K15
          · simp only [if_neg c17] at e_v13 e_v14
            subst e_v13 e_v14
            refine g_ifF (q := 101) rfl (decide_eq_false c17) rfl ?_
            refine g_iinc (q := 104) rfl rfl rfl ?_
            exact go_sub (mm_subc rfl (mm_subc rfl (mm_subc rfl (mm_subc rfl (mm_subc rfl (mm_subc rfl (mm_subc rfl (mm_subc rfl mm_sub0)))))))) K15
        · simp only [if_neg c16] at e_v13 e_v14
          subst e_v13 e_v14
          refine g_ifF (q := 90) rfl (decide_eq_false c16) rfl ?_
          refine g_iinc (q := 93) rfl rfl rfl ?_
          refine g_goto rfl ?_
          exact go_sub (mm_subc rfl (mm_subc rfl (mm_subc rfl (mm_subc rfl (mm_subc rfl (mm_subc rfl (mm_subc rfl (mm_subc rfl mm_sub0)))))))) K15
      clear e_v13 e_v14
      refine g_iinc (q := 107) rfl rfl rfl ?_
      refine g_goto rfl ?_
      refine go_sub (lo' := mm_lf [(0, .inr (.inl (some 0))), (1, .inl x1), (2, .inl x2), (3, .inl x3), (4, .inl x4), (5, .inl v13), (6, .inl v14), (7, .inl (x7 + I 1))]) (mm_subc rfl (mm_subc rfl (mm_subc rfl (mm_subc rfl (mm_subc rfl (mm_subc rfl (mm_subc rfl (mm_subc rfl mm_sub0)))))))) ?_
      exact ih _ _ _ _ _ hF KR KX
theorem A_C_rather {x1 : Int32} {x2 : Int32} {x3 : Int32} {x4 : Int32} {h h' : MH} {v : Int32} (hF : F_C_rather x1 x2 x3 x4 h = some (v, h')) : Ex 6 91 [.inr (.inl (some 0)), .inl x1, .inl x2, .inl x3, .inl x4] h (some (.inl v), h') := by
  unfold F_C_rather at hF
  refine ex_of (d := 5) rfl rfl ?_
  refine g_aload_n (q := 1) rfl rfl rfl ?_
  refine g_iload_n (q := 2) rfl rfl rfl ?_
  refine g_iload_n (q := 3) rfl rfl rfl ?_
  obtain ⟨⟨r2, h1⟩, hC, hF⟩ := bd_I hF
  dsimp only at hF
  refine g_ci3 (q := 6) rfl rfl (fun _ => rfl) rfl (A_C_noTwoWays hC) (by decide +kernel) rfl ?_
  by_cases c31 : ¬ r2 = 0
  · rw [if_pos c31] at hF
    refine g_ifT rfl (decide_eq_true c31) ?_
    refine g_aload_n (q := 18) rfl rfl rfl ?_
    refine g_iconst (q := 19) rfl rfl ?_
    obtain ⟨⟨r4, h3⟩, hC, hF⟩ := bd_I hF
    dsimp only at hF
    refine g_ci2 (q := 22) rfl rfl (fun _ => rfl) rfl (A_C_refuse hC) (by decide +kernel) rfl ?_
    injection hF with hF
    injection hF with hv hh
    subst hv
    subst hh
    exact g_iret rfl
  · rw [if_neg c31] at hF
    refine g_ifF (q := 9) rfl (decide_eq_false c31) rfl ?_
    refine g_aload_n (q := 10) rfl rfl rfl ?_
    refine g_iload_n (q := 11) rfl rfl rfl ?_
    obtain ⟨⟨r6, h5⟩, hC, hF⟩ := bd_I hF
    dsimp only at hF
    refine g_ci2 (q := 14) rfl rfl (fun _ => rfl) rfl (A_C_noOne hC) (by decide +kernel) rfl ?_
    by_cases c30 : r6 = 0
    · rw [if_pos c30] at hF
      refine g_ifT rfl (decide_eq_true c30) ?_
      refine g_iload (q := 25) rfl rfl rfl ?_
      refine g_iconst (q := 26) rfl rfl ?_
      obtain ⟨⟨r8, h7⟩, hC, hF⟩ := bd_I hF
      dsimp only at hF
      refine g_ci2 (q := 29) rfl rfl (fun _ => rfl) rfl (A_C_otherThan hC) (by decide +kernel) rfl ?_
      by_cases c27 : r8 = 0
      · rw [if_pos c27] at hF
        refine g_ifT rfl (decide_eq_true c27) ?_
        refine g_iconst (q := 40) rfl rfl ?_
        refine g_istore (q := 42) rfl rfl ?_
        refine g_iconst (q := 43) rfl rfl ?_
        refine g_istore (q := 45) rfl rfl ?_
        refine g_iconst (q := 46) rfl rfl ?_
        refine g_istore (q := 48) rfl rfl ?_
        refine go_sub (lo' := mm_lf [(0, .inr (.inl (some 0))), (1, .inl x1), (2, .inl x2), (3, .inl x3), (4, .inl x4), (5, .inl (I 0)), (6, .inl (I 0)), (7, .inl (I 0))]) (mm_subc rfl (mm_subc rfl (mm_subc rfl (mm_subc rfl (mm_subc rfl (mm_subc rfl (mm_subc rfl (mm_subc rfl mm_sub0)))))))) ?_
        obtain ⟨⟨y19, y20, h21⟩, hC, hF⟩ := bd_I hF
        dsimp only at hF
        refine A_L_C_rather_48 5000 _ _ _ _ _ hC trivial ?_
        intro _ _ _ e2
        cases e2
        refine g_iload (q := 112) rfl rfl rfl ?_
        obtain ⟨v22, e_v22, hF⟩ := iw_I hF
        suffices K23 : Go 5 91 122 (mm_lf []) [.inl v22] h21 (some (.inl v), h') by
          clear hF
          by_cases c24 : ¬ x4 = 0
          · simp only [if_pos c24] at e_v22
            subst e_v22
            refine g_ifT rfl (decide_eq_true c24) ?_
            refine g_iload (q := 122) rfl rfl rfl ?_
            exact go_sub mm_sub0 K23
          · simp only [if_neg c24] at e_v22
            subst e_v22
            refine g_ifF (q := 115) rfl (decide_eq_false c24) rfl ?_
            refine g_iload (q := 117) rfl rfl rfl ?_
            refine g_goto rfl ?_
            exact go_sub mm_sub0 K23
        clear e_v22
        injection hF with hF
        injection hF with hv hh
        subst hv
        subst hh
        exact g_iret rfl
      · rw [if_neg c27] at hF
        refine g_ifF (q := 32) rfl (decide_eq_false c27) rfl ?_
        refine g_aload_n (q := 33) rfl rfl rfl ?_
        refine g_bipush (q := 35) rfl (by decide +kernel) rfl ?_
        obtain ⟨⟨r26, h25⟩, hC, hF⟩ := bd_I hF
        dsimp only at hF
        refine g_ci2 (q := 38) rfl rfl (fun _ => rfl) rfl (A_C_refuse hC) (by decide +kernel) rfl ?_
        injection hF with hF
        injection hF with hv hh
        subst hv
        subst hh
        exact g_iret rfl
    · rw [if_neg c30] at hF
      refine g_ifF (q := 17) rfl (decide_eq_false c30) rfl ?_
      refine g_aload_n (q := 18) rfl rfl rfl ?_
      refine g_iconst (q := 19) rfl rfl ?_
      obtain ⟨⟨r29, h28⟩, hC, hF⟩ := bd_I hF
      dsimp only at hF
      refine g_ci2 (q := 22) rfl rfl (fun _ => rfl) rfl (A_C_refuse hC) (by decide +kernel) rfl ?_
      injection hF with hF
      injection hF with hv hh
      subst hv
      subst hh
      exact g_iret rfl
/-- BothCorners$House.allBeds()I -/
def F_H_allBeds (h : MH) : Option (Int32 × MH) := some (((I 1) <<< ((h.1 8 7) &&& 31)) - (I 1), h)
theorem A_H_allBeds {h h' : MH} {v : Int32} (hF : F_H_allBeds h = some (v, h')) : Ex 1 11 [.inr (.inl (some 8))] h (some (.inl v), h') := by
  unfold F_H_allBeds at hF
  refine ex_of (d := 0) rfl rfl ?_
  refine g_iconst (q := 1) rfl rfl ?_
  refine g_aload_n (q := 2) rfl rfl rfl ?_
  refine g_getI (q := 5) rfl (fun _ => rfl) rfl ?_
  refine g_ishl (q := 6) rfl rfl ?_
  refine g_iconst (q := 7) rfl rfl ?_
  refine g_isub (q := 8) rfl rfl ?_
  injection hF with hF
  injection hF with hv hh
  subst hv
  subst hh
  exact g_iret rfl
def L_H_bestTimeOf_5 (x1 : Int32) (x2 : Int32) : Nat → Int32 → Int32 → MH → Option (Int32 × MH)
  | 0, _, _, _ => none
  | n + 1, x3, x4, h => if (h.1 8 7) ≤ x4 then some (x3, h) else if ¬ ((x1 >>> (x4 &&& 31)) &&& (I 1)) = (I 1) then L_H_bestTimeOf_5 x1 x2 n x3 (x4 + I 1) h else bd (F_H_bestTime x4 x2 h) (fun (r2, h1) => L_H_bestTimeOf_5 x1 x2 n (x3 + r2) (x4 + I 1) h1)
/-- BothCorners$House.bestTimeOf(II)I -/
def F_H_bestTimeOf (x1 : Int32) (x2 : Int32) (h : MH) : Option (Int32 × MH) := bd (L_H_bestTimeOf_5 x1 x2 5000 (I 0) (I 0) h) (fun (y5, h6) => some (y5, h6))
theorem A_L_H_bestTimeOf_5 {x1 : Int32} {x2 : Int32} {r : MRs} : ∀ (n : Nat) (x3 : Int32) (x4 : Int32) (h : MH) (x : Int32 × MH), L_H_bestTimeOf_5 x1 x2 n x3 x4 h = some x → (True) → (∀ (e3 : Int32) (h' : MH), x = (e3, h') → Go 5 24 40 (mm_lf [(3, .inl e3)]) [] h' r) → Go 5 24 5 (mm_lf [(0, .inr (.inl (some 8))), (1, .inl x1), (2, .inl x2), (3, .inl x3), (4, .inl x4)]) [] h r
  | 0, _, _, _, _, hF, _, _ => by cases hF
  | n + 1, x3, x4, h, x, hF, KR, KX => by
    have ih := fun a3 a4 => A_L_H_bestTimeOf_5 (x1 := x1) (x2 := x2) (r := r) n a3 a4 
    unfold L_H_bestTimeOf_5 at hF
    refine g_iload (q := 7) rfl rfl rfl ?_
    refine g_aload_n (q := 8) rfl rfl rfl ?_
    refine g_getI (q := 11) rfl (fun _ => rfl) rfl ?_
    by_cases c4 : (h.1 8 7) ≤ x4
    · rw [if_pos c4] at hF
      refine g_icmpT rfl (decide_eq_true c4) ?_
      injection hF with hF
      subst hF
      exact go_sub (mm_subc rfl mm_sub0) (KX _ _ rfl)
    · rw [if_neg c4] at hF
      refine g_icmpF (q := 14) rfl (decide_eq_false c4) rfl ?_
      refine g_iload_n (q := 15) rfl rfl rfl ?_
      refine g_iload (q := 17) rfl rfl rfl ?_
      refine g_ishr (q := 18) rfl rfl ?_
      refine g_iconst (q := 19) rfl rfl ?_
      refine g_iand (q := 20) rfl rfl ?_
      refine g_iconst (q := 21) rfl rfl ?_
      by_cases c3 : ¬ ((x1 >>> (x4 &&& 31)) &&& (I 1)) = (I 1)
      · rw [if_pos c3] at hF
        refine g_icmpT rfl (decide_eq_true c3) ?_
        refine g_iinc (q := 37) rfl rfl rfl ?_
        refine g_goto rfl ?_
        refine go_sub (lo' := mm_lf [(0, .inr (.inl (some 8))), (1, .inl x1), (2, .inl x2), (3, .inl x3), (4, .inl (x4 + I 1))]) (mm_subc rfl (mm_subc rfl (mm_subc rfl (mm_subc rfl (mm_subc rfl mm_sub0))))) ?_
        exact ih _ _ _ _ hF KR KX
      · rw [if_neg c3] at hF
        refine g_icmpF (q := 24) rfl (decide_eq_false c3) rfl ?_
        refine g_iload_n (q := 25) rfl rfl rfl ?_
        refine g_aload_n (q := 26) rfl rfl rfl ?_
        refine g_iload (q := 28) rfl rfl rfl ?_
        refine g_iload_n (q := 29) rfl rfl rfl ?_
        obtain ⟨⟨r2, h1⟩, hC, hF⟩ := bd_I hF
        dsimp only at hF
        refine g_ci3 (q := 32) rfl rfl (fun _ => rfl) rfl (A_H_bestTime hC) (by decide +kernel) rfl ?_
        refine g_iadd (q := 33) rfl rfl ?_
        refine g_istore_n (q := 34) rfl rfl ?_
        refine g_iinc (q := 37) rfl rfl rfl ?_
        refine g_goto rfl ?_
        refine go_sub (lo' := mm_lf [(0, .inr (.inl (some 8))), (1, .inl x1), (2, .inl x2), (3, .inl (x3 + r2)), (4, .inl (x4 + I 1))]) (mm_subc rfl (mm_subc rfl (mm_subc rfl (mm_subc rfl (mm_subc rfl mm_sub0))))) ?_
        exact ih _ _ _ _ hF KR KX
theorem A_H_bestTimeOf {x1 : Int32} {x2 : Int32} {h h' : MH} {v : Int32} (hF : F_H_bestTimeOf x1 x2 h = some (v, h')) : Ex 6 24 [.inr (.inl (some 8)), .inl x1, .inl x2] h (some (.inl v), h') := by
  unfold F_H_bestTimeOf at hF
  refine ex_of (d := 5) rfl rfl ?_
  refine g_iconst (q := 1) rfl rfl ?_
  refine g_istore_n (q := 2) rfl rfl ?_
  refine g_iconst (q := 3) rfl rfl ?_
  refine g_istore (q := 5) rfl rfl ?_
  refine go_sub (lo' := mm_lf [(0, .inr (.inl (some 8))), (1, .inl x1), (2, .inl x2), (3, .inl (I 0)), (4, .inl (I 0))]) (mm_subc rfl (mm_subc rfl (mm_subc rfl (mm_subc rfl (mm_subc rfl mm_sub0))))) ?_
  obtain ⟨⟨y5, h6⟩, hC, hF⟩ := bd_I hF
  dsimp only at hF
  refine A_L_H_bestTimeOf_5 5000 _ _ _ _ hC trivial ?_
  intro _ _ e2
  cases e2
  refine g_iload_n (q := 41) rfl rfl rfl ?_
  injection hF with hF
  injection hF with hv hh
  subst hv
  subst hh
  exact g_iret rfl
def L_C_teacher_50 (x1 : Int32) (x4 : Int32) : Nat → Int32 → Int32 → Int32 → MH → Option (Int32 × Int32 × MH)
  | 0, _, _, _, _ => none
  | n + 1, x2, x3, x5, h => if (h.1 8 8) ≤ x5 then some (x2, x3, h) else bd (F_H_bestTimeOf x4 x5 h) (fun (r6, h5) => iw (if x2 = (I (-9)) then x5 else (if x3 ≤ r6 then x2 else x5)) (fun v7 => iw (if x2 = (I (-9)) then r6 else (if x3 ≤ r6 then x3 else r6)) (fun v8 => L_C_teacher_50 x1 x4 n v7 v8 (x5 + I 1) h5)))
/-- BothCorners.teacher(I)I -/
def F_C_teacher (x1 : Int32) (h : MH) : Option (Int32 × MH) := bd (F_C_otherThan x1 (I 1) h) (fun (r2, h1) => if r2 = 0 then if ¬ (h1.1 8 9) = 0 then bd (F_H_allBeds h1) (fun (r4, h3) => bd (L_C_teacher_50 x1 r4 5000 (I (-9)) (I (-9)) (I 0) h3) (fun (y13, y14, h15) => iw (if ¬ x1 = 0 then y14 else y13) (fun v16 => some (v16, h15)))) else bd (F_C_refuse (I (-3)) h1) (fun (r20, h19) => some (r20, h19)) else bd (F_C_refuse (I (-2)) h1) (fun (r23, h22) => some (r23, h22)))
theorem A_L_C_teacher_50 {x1 : Int32} {x4 : Int32} {r : MRs} : ∀ (n : Nat) (x2 : Int32) (x3 : Int32) (x5 : Int32) (h : MH) (x : Int32 × Int32 × MH), L_C_teacher_50 x1 x4 n x2 x3 x5 h = some x → (True) → (∀ (e2 : Int32) (e3 : Int32) (h' : MH), x = (e2, e3, h') → Go 6 97 99 (mm_lf [(1, .inl x1), (2, .inl e2), (3, .inl e3)]) [] h' r) → Go 6 97 50 (mm_lf [(0, .inr (.inl (some 0))), (1, .inl x1), (2, .inl x2), (3, .inl x3), (4, .inl x4), (5, .inl x5)]) [] h r
  | 0, _, _, _, _, _, hF, _, _ => by cases hF
  | n + 1, x2, x3, x5, h, x, hF, KR, KX => by
    have ih := fun a2 a3 a5 => A_L_C_teacher_50 (x1 := x1) (x4 := x4) (r := r) n a2 a3 a5 
    unfold L_C_teacher_50 at hF
    refine g_iload (q := 52) rfl rfl rfl ?_
    refine g_aload_n (q := 53) rfl rfl rfl ?_
    refine g_getR (q := 56) rfl (fun _ => rfl) rfl ?_
    refine g_getI (q := 59) rfl (fun _ => rfl) rfl ?_
    by_cases c12 : (h.1 8 8) ≤ x5
    · rw [if_pos c12] at hF
      refine g_icmpT rfl (decide_eq_true c12) ?_
      injection hF with hF
      subst hF
      exact go_sub (mm_subc rfl (mm_subc rfl (mm_subc rfl mm_sub0))) (KX _ _ _ rfl)
    · rw [if_neg c12] at hF
      refine g_icmpF (q := 62) rfl (decide_eq_false c12) rfl ?_
      refine g_aload_n (q := 63) rfl rfl rfl ?_
      refine g_getR (q := 66) rfl (fun _ => rfl) rfl ?_
      refine g_iload (q := 68) rfl rfl rfl ?_
      refine g_iload (q := 70) rfl rfl rfl ?_
      obtain ⟨⟨r6, h5⟩, hC, hF⟩ := bd_I hF
      dsimp only at hF
      refine g_ci3 (q := 73) rfl rfl (fun _ => rfl) rfl (A_H_bestTimeOf hC) (by decide +kernel) rfl ?_
      refine g_istore (q := 75) rfl rfl ?_
      refine g_iload_n (q := 76) rfl rfl rfl ?_
      refine g_bipush (q := 78) rfl (by decide +kernel) rfl ?_
      obtain ⟨v7, e_v7, hF⟩ := iw_I hF
      obtain ⟨v8, e_v8, hF⟩ := iw_I hF
      suffices K9 : Go 6 97 93 (mm_lf [(0, .inr (.inl (some 0))), (1, .inl x1), (2, .inl v7), (3, .inl v8), (4, .inl x4), (5, .inl x5)]) [] h5 r by
        clear hF
        by_cases c10 : x2 = (I (-9))
        · simp only [if_pos c10] at e_v7 e_v8
          subst e_v7 e_v8
          refine g_icmpT rfl (decide_eq_true c10) ?_
          refine g_iload (q := 89) rfl rfl rfl ?_
          refine g_istore_n (q := 90) rfl rfl ?_
          refine g_iload (q := 92) rfl rfl rfl ?_
          refine g_istore_n (q := 93) rfl rfl ?_
          exact go_sub (mm_subc rfl (mm_subc rfl (mm_subc rfl (mm_subc rfl (mm_subc rfl (mm_subc rfl mm_sub0)))))) K9
        · simp only [if_neg c10] at e_v7 e_v8
          refine g_icmpF (q := 81) rfl (decide_eq_false c10) rfl ?_
          refine g_iload (q := 83) rfl rfl rfl ?_
          refine g_iload_n (q := 84) rfl rfl rfl ?_
          by_cases c11 : x3 ≤ r6
          · simp only [if_pos c11] at e_v7 e_v8
            subst e_v7 e_v8
            refine g_icmpT rfl (decide_eq_true c11) ?_
            exact go_sub (mm_subc rfl (mm_subc rfl (mm_subc rfl (mm_subc rfl (mm_subc rfl (mm_subc rfl mm_sub0)))))) K9
          · simp only [if_neg c11] at e_v7 e_v8
            subst e_v7 e_v8
            refine g_icmpF (q := 87) rfl (decide_eq_false c11) rfl ?_
            refine g_iload (q := 89) rfl rfl rfl ?_
            refine g_istore_n (q := 90) rfl rfl ?_
            refine g_iload (q := 92) rfl rfl rfl ?_
            refine g_istore_n (q := 93) rfl rfl ?_
            exact go_sub (mm_subc rfl (mm_subc rfl (mm_subc rfl (mm_subc rfl (mm_subc rfl (mm_subc rfl mm_sub0)))))) K9
      clear e_v7 e_v8
      refine g_iinc (q := 96) rfl rfl rfl ?_
      refine g_goto rfl ?_
      refine go_sub (lo' := mm_lf [(0, .inr (.inl (some 0))), (1, .inl x1), (2, .inl v7), (3, .inl v8), (4, .inl x4), (5, .inl (x5 + I 1))]) (mm_subc rfl (mm_subc rfl (mm_subc rfl (mm_subc rfl (mm_subc rfl (mm_subc rfl mm_sub0)))))) ?_
      exact ih _ _ _ _ _ hF KR KX
theorem A_C_teacher {x1 : Int32} {h h' : MH} {v : Int32} (hF : F_C_teacher x1 h = some (v, h')) : Ex 7 97 [.inr (.inl (some 0)), .inl x1] h (some (.inl v), h') := by
  unfold F_C_teacher at hF
  refine ex_of (d := 6) rfl rfl ?_
  refine g_iload_n (q := 1) rfl rfl rfl ?_
  refine g_iconst (q := 2) rfl rfl ?_
  obtain ⟨⟨r2, h1⟩, hC, hF⟩ := bd_I hF
  dsimp only at hF
  refine g_ci2 (q := 5) rfl rfl (fun _ => rfl) rfl (A_C_otherThan hC) (by decide +kernel) rfl ?_
  by_cases c24 : r2 = 0
  · rw [if_pos c24] at hF
    refine g_ifT rfl (decide_eq_true c24) ?_
    refine g_aload_n (q := 16) rfl rfl rfl ?_
    refine g_getR (q := 19) rfl (fun _ => rfl) rfl ?_
    refine g_getI (q := 22) rfl (fun _ => rfl) rfl ?_
    by_cases c21 : ¬ (h1.1 8 9) = 0
    · rw [if_pos c21] at hF
      refine g_ifT rfl (decide_eq_true c21) ?_
      refine g_bipush (q := 34) rfl (by decide +kernel) rfl ?_
      refine g_istore_n (q := 35) rfl rfl ?_
      refine g_bipush (q := 37) rfl (by decide +kernel) rfl ?_
      refine g_istore_n (q := 38) rfl rfl ?_
      refine g_aload_n (q := 39) rfl rfl rfl ?_
      refine g_getR (q := 42) rfl (fun _ => rfl) rfl ?_
      obtain ⟨⟨r4, h3⟩, hC, hF⟩ := bd_I hF
      dsimp only at hF
      refine g_ci1 (q := 45) rfl rfl (fun _ => rfl) rfl (A_H_allBeds hC) (by decide +kernel) rfl ?_
      refine g_istore (q := 47) rfl rfl ?_
      refine g_iconst (q := 48) rfl rfl ?_
      refine g_istore (q := 50) rfl rfl ?_
      refine go_sub (lo' := mm_lf [(0, .inr (.inl (some 0))), (1, .inl x1), (2, .inl (I (-9))), (3, .inl (I (-9))), (4, .inl r4), (5, .inl (I 0))]) (mm_subc rfl (mm_subc rfl (mm_subc rfl (mm_subc rfl (mm_subc rfl (mm_subc rfl mm_sub0)))))) ?_
      obtain ⟨⟨y13, y14, h15⟩, hC, hF⟩ := bd_I hF
      dsimp only at hF
      refine A_L_C_teacher_50 5000 _ _ _ _ _ hC trivial ?_
      intro _ _ _ e2
      cases e2
      refine g_iload_n (q := 100) rfl rfl rfl ?_
      obtain ⟨v16, e_v16, hF⟩ := iw_I hF
      suffices K17 : Go 6 97 108 (mm_lf []) [.inl v16] h15 (some (.inl v), h') by
        clear hF
        by_cases c18 : ¬ x1 = 0
        · simp only [if_pos c18] at e_v16
          subst e_v16
          refine g_ifT rfl (decide_eq_true c18) ?_
          refine g_iload_n (q := 108) rfl rfl rfl ?_
          exact go_sub mm_sub0 K17
        · simp only [if_neg c18] at e_v16
          subst e_v16
          refine g_ifF (q := 103) rfl (decide_eq_false c18) rfl ?_
          refine g_iload_n (q := 104) rfl rfl rfl ?_
          refine g_goto rfl ?_
          exact go_sub mm_sub0 K17
      clear e_v16
      injection hF with hF
      injection hF with hv hh
      subst hv
      subst hh
      exact g_iret rfl
    · rw [if_neg c21] at hF
      refine g_ifF (q := 25) rfl (decide_eq_false c21) rfl ?_
      refine g_aload_n (q := 26) rfl rfl rfl ?_
      refine g_bipush (q := 28) rfl (by decide +kernel) rfl ?_
      obtain ⟨⟨r20, h19⟩, hC, hF⟩ := bd_I hF
      dsimp only at hF
      refine g_ci2 (q := 31) rfl rfl (fun _ => rfl) rfl (A_C_refuse hC) (by decide +kernel) rfl ?_
      injection hF with hF
      injection hF with hv hh
      subst hv
      subst hh
      exact g_iret rfl
  · rw [if_neg c24] at hF
    refine g_ifF (q := 8) rfl (decide_eq_false c24) rfl ?_
    refine g_aload_n (q := 9) rfl rfl rfl ?_
    refine g_bipush (q := 11) rfl (by decide +kernel) rfl ?_
    obtain ⟨⟨r23, h22⟩, hC, hF⟩ := bd_I hF
    dsimp only at hF
    refine g_ci2 (q := 14) rfl rfl (fun _ => rfl) rfl (A_C_refuse hC) (by decide +kernel) rfl ?_
    injection hF with hF
    injection hF with hv hh
    subst hv
    subst hh
    exact g_iret rfl
def L_C_line_34 (x1 : Int32) (x2 : Int32) (x3 : Int32) (x4 : Int32) : Nat → Int32 → Int32 → MH → Option (Int32 × MH)
  | 0, _, _, _ => none
  | n + 1, x5, x6, h => if (I 9) < x6 then some (x5, h) else if ¬ x5 = (I (-9)) then some (x5, h) else ck (mm_in x2 6) (hw (mm_hset h.1 14 (Int32.toNatClampNeg x2) x6, h.2) (fun h3 => bd (F_H_bestFor x1 x3 h3) (fun (r5, h4) => iw (if r5 = x2 then x5 else x6) (fun v6 => L_C_line_34 x1 x2 x3 x4 n v6 (x6 + I 1) h4))))
/-- BothCorners.line(III)I -/
def F_C_line (x1 : Int32) (x2 : Int32) (x3 : Int32) (h : MH) : Option (Int32 × MH) := bd (F_C_lacks x1 x2 x3 h) (fun (r2, h1) => if r2 = 0 then ck (mm_in x2 6) (bd (L_C_line_34 x1 x2 x3 (h1.1 14 (Int32.toNatClampNeg x2)) 5000 (I (-9)) (I 0) h1) (fun (y11, h12) => ck (mm_in x2 6) (hw (mm_hset h12.1 14 (Int32.toNatClampNeg x2) (h1.1 14 (Int32.toNatClampNeg x2)), h12.2) (fun h13 => some (y11, h13))))) else bd (F_C_refuse (I (-1)) h1) (fun (r15, h14) => some (r15, h14)))
theorem A_L_C_line_34 {x1 : Int32} {x2 : Int32} {x3 : Int32} {x4 : Int32} {r : MRs} : ∀ (n : Nat) (x5 : Int32) (x6 : Int32) (h : MH) (x : Int32 × MH), L_C_line_34 x1 x2 x3 x4 n x5 x6 h = some x → (True) → (∀ (e5 : Int32) (h' : MH), x = (e5, h') → Go 6 82 82 (mm_lf [(0, .inr (.inl (some 0))), (2, .inl x2), (4, .inl x4), (5, .inl e5)]) [] h' r) → Go 6 82 34 (mm_lf [(0, .inr (.inl (some 0))), (1, .inl x1), (2, .inl x2), (3, .inl x3), (4, .inl x4), (5, .inl x5), (6, .inl x6)]) [] h r
  | 0, _, _, _, _, hF, _, _ => by cases hF
  | n + 1, x5, x6, h, x, hF, KR, KX => by
    have ih := fun a5 a6 => A_L_C_line_34 (x1 := x1) (x2 := x2) (x3 := x3) (x4 := x4) (r := r) n a5 a6 
    unfold L_C_line_34 at hF
    refine g_iload (q := 36) rfl rfl rfl ?_
    refine g_bipush (q := 38) rfl (by decide +kernel) rfl ?_
    by_cases c10 : (I 9) < x6
    · rw [if_pos c10] at hF
      refine g_icmpT rfl (decide_eq_true c10) ?_
      injection hF with hF
      subst hF
      exact go_sub (mm_subc rfl (mm_subc rfl (mm_subc rfl (mm_subc rfl mm_sub0)))) (KX _ _ rfl)
    · rw [if_neg c10] at hF
      refine g_icmpF (q := 41) rfl (decide_eq_false c10) rfl ?_
      refine g_iload (q := 43) rfl rfl rfl ?_
      refine g_bipush (q := 45) rfl (by decide +kernel) rfl ?_
      by_cases c9 : ¬ x5 = (I (-9))
      · rw [if_pos c9] at hF
        refine g_icmpT rfl (decide_eq_true c9) ?_
        injection hF with hF
        subst hF
        exact go_sub (mm_subc rfl (mm_subc rfl (mm_subc rfl (mm_subc rfl mm_sub0)))) (KX _ _ rfl)
      · rw [if_neg c9] at hF
        refine g_icmpF (q := 48) rfl (decide_eq_false c9) rfl ?_
        refine g_aload_n (q := 49) rfl rfl rfl ?_
        refine g_getR (q := 52) rfl (fun _ => rfl) rfl ?_
        refine g_getR (q := 55) rfl (fun _ => rfl) rfl ?_
        refine g_iload_n (q := 56) rfl rfl rfl ?_
        refine g_iload (q := 58) rfl rfl rfl ?_
        obtain ⟨hi, hF⟩ := ck_I hF
        refine g_iastore (q := 59) rfl rfl rfl hi rfl ?_
        obtain ⟨h3, e_h3, hF⟩ := hw_I hF
        rw [← e_h3]
        refine g_aload_n (q := 60) rfl rfl rfl ?_
        refine g_getR (q := 63) rfl (fun _ => rfl) rfl ?_
        refine g_iload_n (q := 64) rfl rfl rfl ?_
        refine g_iload_n (q := 65) rfl rfl rfl ?_
        obtain ⟨⟨r5, h4⟩, hC, hF⟩ := bd_I hF
        dsimp only at hF
        refine g_ci3 (q := 68) rfl rfl (fun _ => rfl) rfl (A_H_bestFor hC) (by decide +kernel) rfl ?_
        refine g_iload_n (q := 69) rfl rfl rfl ?_
        obtain ⟨v6, e_v6, hF⟩ := iw_I hF
        suffices K7 : Go 6 82 76 (mm_lf [(0, .inr (.inl (some 0))), (1, .inl x1), (2, .inl x2), (3, .inl x3), (4, .inl x4), (5, .inl v6), (6, .inl x6)]) [] h4 r by
          clear hF
          by_cases c8 : r5 = x2
          · simp only [if_pos c8] at e_v6
            subst e_v6
            refine g_icmpT rfl (decide_eq_true c8) ?_
            exact go_sub (mm_subc rfl (mm_subc rfl (mm_subc rfl (mm_subc rfl (mm_subc rfl (mm_subc rfl (mm_subc rfl mm_sub0))))))) K7
          · simp only [if_neg c8] at e_v6
            subst e_v6
            refine g_icmpF (q := 72) rfl (decide_eq_false c8) rfl ?_
            refine g_iload (q := 74) rfl rfl rfl ?_
            refine g_istore (q := 76) rfl rfl ?_
            exact go_sub (mm_subc rfl (mm_subc rfl (mm_subc rfl (mm_subc rfl (mm_subc rfl (mm_subc rfl (mm_subc rfl mm_sub0))))))) K7
        clear e_v6
        refine g_iinc (q := 79) rfl rfl rfl ?_
        refine g_goto rfl ?_
        refine go_sub (lo' := mm_lf [(0, .inr (.inl (some 0))), (1, .inl x1), (2, .inl x2), (3, .inl x3), (4, .inl x4), (5, .inl v6), (6, .inl (x6 + I 1))]) (mm_subc rfl (mm_subc rfl (mm_subc rfl (mm_subc rfl (mm_subc rfl (mm_subc rfl (mm_subc rfl mm_sub0))))))) ?_
        exact ih _ _ _ _ hF KR KX
theorem A_C_line {x1 : Int32} {x2 : Int32} {x3 : Int32} {h h' : MH} {v : Int32} (hF : F_C_line x1 x2 x3 h = some (v, h')) : Ex 7 82 [.inr (.inl (some 0)), .inl x1, .inl x2, .inl x3] h (some (.inl v), h') := by
  unfold F_C_line at hF
  refine ex_of (d := 6) rfl rfl ?_
  refine g_aload_n (q := 1) rfl rfl rfl ?_
  refine g_iload_n (q := 2) rfl rfl rfl ?_
  refine g_iload_n (q := 3) rfl rfl rfl ?_
  refine g_iload_n (q := 4) rfl rfl rfl ?_
  obtain ⟨⟨r2, h1⟩, hC, hF⟩ := bd_I hF
  dsimp only at hF
  refine g_ci4 (q := 7) rfl rfl (fun _ => rfl) rfl (A_C_lacks hC) (by decide +kernel) rfl ?_
  by_cases c16 : r2 = 0
  · rw [if_pos c16] at hF
    refine g_ifT rfl (decide_eq_true c16) ?_
    refine g_aload_n (q := 17) rfl rfl rfl ?_
    refine g_getR (q := 20) rfl (fun _ => rfl) rfl ?_
    refine g_getR (q := 23) rfl (fun _ => rfl) rfl ?_
    refine g_iload_n (q := 24) rfl rfl rfl ?_
    obtain ⟨hi, hF⟩ := ck_I hF
    refine g_iaload (q := 25) rfl rfl rfl hi rfl ?_
    refine g_istore (q := 27) rfl rfl ?_
    refine g_bipush (q := 29) rfl (by decide +kernel) rfl ?_
    refine g_istore (q := 31) rfl rfl ?_
    refine g_iconst (q := 32) rfl rfl ?_
    refine g_istore (q := 34) rfl rfl ?_
    refine go_sub (lo' := mm_lf [(0, .inr (.inl (some 0))), (1, .inl x1), (2, .inl x2), (3, .inl x3), (4, .inl (h1.1 14 (Int32.toNatClampNeg x2))), (5, .inl (I (-9))), (6, .inl (I 0))]) (mm_subc rfl (mm_subc rfl (mm_subc rfl (mm_subc rfl (mm_subc rfl (mm_subc rfl (mm_subc rfl mm_sub0))))))) ?_
    obtain ⟨⟨y11, h12⟩, hC, hF⟩ := bd_I hF
    dsimp only at hF
    refine A_L_C_line_34 5000 _ _ _ _ hC trivial ?_
    intro _ _ e2
    cases e2
    refine g_aload_n (q := 83) rfl rfl rfl ?_
    refine g_getR (q := 86) rfl (fun _ => rfl) rfl ?_
    refine g_getR (q := 89) rfl (fun _ => rfl) rfl ?_
    refine g_iload_n (q := 90) rfl rfl rfl ?_
    refine g_iload (q := 92) rfl rfl rfl ?_
    obtain ⟨hi, hF⟩ := ck_I hF
    refine g_iastore (q := 93) rfl rfl rfl hi rfl ?_
    obtain ⟨h13, e_h13, hF⟩ := hw_I hF
    rw [← e_h13]
    refine g_iload (q := 95) rfl rfl rfl ?_
    injection hF with hF
    injection hF with hv hh
    subst hv
    subst hh
    exact g_iret rfl
  · rw [if_neg c16] at hF
    refine g_ifF (q := 10) rfl (decide_eq_false c16) rfl ?_
    refine g_aload_n (q := 11) rfl rfl rfl ?_
    refine g_iconst (q := 12) rfl rfl ?_
    obtain ⟨⟨r15, h14⟩, hC, hF⟩ := bd_I hF
    dsimp only at hF
    refine g_ci2 (q := 15) rfl rfl (fun _ => rfl) rfl (A_C_refuse hC) (by decide +kernel) rfl ?_
    injection hF with hF
    injection hF with hv hh
    subst hv
    subst hh
    exact g_iret rfl
def L_C_half_27 (x1 : Int32) (x2 : Int32) : Nat → Int32 → Int32 → MH → Option (Int32 × MH)
  | 0, _, _, _ => none
  | n + 1, x3, x4, h => if (h.1 8 7) ≤ x4 then some (x3, h) else bd (F_H_shakesBy x4 x1 x2 h) (fun (r8, h7) => bd (F_H_timeBy x4 x1 x2 h7) (fun (r10, h9) => iw (if ((I 2) * ((I 3) * r8)) ≤ r10 then x3 else x3 + I 1) (fun v11 => L_C_half_27 x1 x2 n v11 (x4 + I 1) h9)))
/-- BothCorners.half(II)I -/
def F_C_half (x1 : Int32) (x2 : Int32) (h : MH) : Option (Int32 × MH) := bd (F_C_noWay x1 h) (fun (r2, h1) => if ¬ r2 = 0 then bd (F_C_refuse (I (-1)) h1) (fun (r4, h3) => some (r4, h3)) else bd (F_C_noOne x2 h1) (fun (r6, h5) => if r6 = 0 then bd (L_C_half_27 x1 x2 5000 (I 0) (I 0) h5) (fun (y15, h16) => some (y15, h16)) else bd (F_C_refuse (I (-1)) h5) (fun (r18, h17) => some (r18, h17))))
theorem A_L_C_half_27 {x1 : Int32} {x2 : Int32} {r : MRs} : ∀ (n : Nat) (x3 : Int32) (x4 : Int32) (h : MH) (x : Int32 × MH), L_C_half_27 x1 x2 n x3 x4 h = some x → (True) → (∀ (e3 : Int32) (h' : MH), x = (e3, h') → Go 6 92 81 (mm_lf [(3, .inl e3)]) [] h' r) → Go 6 92 27 (mm_lf [(0, .inr (.inl (some 0))), (1, .inl x1), (2, .inl x2), (3, .inl x3), (4, .inl x4)]) [] h r
  | 0, _, _, _, _, hF, _, _ => by cases hF
  | n + 1, x3, x4, h, x, hF, KR, KX => by
    have ih := fun a3 a4 => A_L_C_half_27 (x1 := x1) (x2 := x2) (r := r) n a3 a4 
    unfold L_C_half_27 at hF
    refine g_iload (q := 29) rfl rfl rfl ?_
    refine g_aload_n (q := 30) rfl rfl rfl ?_
    refine g_getR (q := 33) rfl (fun _ => rfl) rfl ?_
    refine g_getI (q := 36) rfl (fun _ => rfl) rfl ?_
    by_cases c14 : (h.1 8 7) ≤ x4
    · rw [if_pos c14] at hF
      refine g_icmpT rfl (decide_eq_true c14) ?_
      injection hF with hF
      subst hF
      exact go_sub (mm_subc rfl mm_sub0) (KX _ _ rfl)
    · rw [if_neg c14] at hF
      refine g_icmpF (q := 39) rfl (decide_eq_false c14) rfl ?_
      refine g_iconst (q := 40) rfl rfl ?_
      refine g_aload_n (q := 41) rfl rfl rfl ?_
      refine g_getR (q := 44) rfl (fun _ => rfl) rfl ?_
      refine g_iload (q := 46) rfl rfl rfl ?_
      refine g_iload_n (q := 47) rfl rfl rfl ?_
      refine g_iload_n (q := 48) rfl rfl rfl ?_
      obtain ⟨⟨r8, h7⟩, hC, hF⟩ := bd_I hF
      dsimp only at hF
      refine g_ci4 (q := 51) rfl rfl (fun _ => rfl) rfl (A_H_shakesBy hC) (by decide +kernel) rfl ?_
      refine g_imul (q := 52) rfl rfl ?_
      refine g_istore (q := 54) rfl rfl ?_
      refine g_iconst (q := 55) rfl rfl ?_
      refine g_iload (q := 57) rfl rfl rfl ?_
      refine g_imul (q := 58) rfl rfl ?_
      refine g_aload_n (q := 59) rfl rfl rfl ?_
      refine g_getR (q := 62) rfl (fun _ => rfl) rfl ?_
      refine g_iload (q := 64) rfl rfl rfl ?_
      refine g_iload_n (q := 65) rfl rfl rfl ?_
      refine g_iload_n (q := 66) rfl rfl rfl ?_
      obtain ⟨⟨r10, h9⟩, hC, hF⟩ := bd_I hF
      dsimp only at hF
      refine g_ci4 (q := 69) rfl rfl (fun _ => rfl) rfl (A_H_timeBy hC) (by decide +kernel) rfl ?_
      obtain ⟨v11, e_v11, hF⟩ := iw_I hF
      suffices K12 : Go 6 92 75 (mm_lf [(0, .inr (.inl (some 0))), (1, .inl x1), (2, .inl x2), (3, .inl v11), (4, .inl x4)]) [] h9 r by
        clear hF
        by_cases c13 : ((I 2) * ((I 3) * r8)) ≤ r10
        · simp only [if_pos c13] at e_v11
          subst e_v11
          refine g_icmpT rfl (decide_eq_true c13) ?_
          exact go_sub (mm_subc rfl (mm_subc rfl (mm_subc rfl (mm_subc rfl (mm_subc rfl mm_sub0))))) K12
        · simp only [if_neg c13] at e_v11
          subst e_v11
          refine g_icmpF (q := 72) rfl (decide_eq_false c13) rfl ?_
          refine g_iinc (q := 75) rfl rfl rfl ?_
          exact go_sub (mm_subc rfl (mm_subc rfl (mm_subc rfl (mm_subc rfl (mm_subc rfl mm_sub0))))) K12
      clear e_v11
      refine g_iinc (q := 78) rfl rfl rfl ?_
      refine g_goto rfl ?_
      refine go_sub (lo' := mm_lf [(0, .inr (.inl (some 0))), (1, .inl x1), (2, .inl x2), (3, .inl v11), (4, .inl (x4 + I 1))]) (mm_subc rfl (mm_subc rfl (mm_subc rfl (mm_subc rfl (mm_subc rfl mm_sub0))))) ?_
      exact ih _ _ _ _ hF KR KX
theorem A_C_half {x1 : Int32} {x2 : Int32} {h h' : MH} {v : Int32} (hF : F_C_half x1 x2 h = some (v, h')) : Ex 7 92 [.inr (.inl (some 0)), .inl x1, .inl x2] h (some (.inl v), h') := by
  unfold F_C_half at hF
  refine ex_of (d := 6) rfl rfl ?_
  refine g_aload_n (q := 1) rfl rfl rfl ?_
  refine g_iload_n (q := 2) rfl rfl rfl ?_
  obtain ⟨⟨r2, h1⟩, hC, hF⟩ := bd_I hF
  dsimp only at hF
  refine g_ci2 (q := 5) rfl rfl (fun _ => rfl) rfl (A_C_noWay hC) (by decide +kernel) rfl ?_
  by_cases c20 : ¬ r2 = 0
  · rw [if_pos c20] at hF
    refine g_ifT rfl (decide_eq_true c20) ?_
    refine g_aload_n (q := 17) rfl rfl rfl ?_
    refine g_iconst (q := 18) rfl rfl ?_
    obtain ⟨⟨r4, h3⟩, hC, hF⟩ := bd_I hF
    dsimp only at hF
    refine g_ci2 (q := 21) rfl rfl (fun _ => rfl) rfl (A_C_refuse hC) (by decide +kernel) rfl ?_
    injection hF with hF
    injection hF with hv hh
    subst hv
    subst hh
    exact g_iret rfl
  · rw [if_neg c20] at hF
    refine g_ifF (q := 8) rfl (decide_eq_false c20) rfl ?_
    refine g_aload_n (q := 9) rfl rfl rfl ?_
    refine g_iload_n (q := 10) rfl rfl rfl ?_
    obtain ⟨⟨r6, h5⟩, hC, hF⟩ := bd_I hF
    dsimp only at hF
    refine g_ci2 (q := 13) rfl rfl (fun _ => rfl) rfl (A_C_noOne hC) (by decide +kernel) rfl ?_
    by_cases c19 : r6 = 0
    · rw [if_pos c19] at hF
      refine g_ifT rfl (decide_eq_true c19) ?_
      refine g_iconst (q := 23) rfl rfl ?_
      refine g_istore_n (q := 24) rfl rfl ?_
      refine g_iconst (q := 25) rfl rfl ?_
      refine g_istore (q := 27) rfl rfl ?_
      refine go_sub (lo' := mm_lf [(0, .inr (.inl (some 0))), (1, .inl x1), (2, .inl x2), (3, .inl (I 0)), (4, .inl (I 0))]) (mm_subc rfl (mm_subc rfl (mm_subc rfl (mm_subc rfl (mm_subc rfl mm_sub0))))) ?_
      obtain ⟨⟨y15, h16⟩, hC, hF⟩ := bd_I hF
      dsimp only at hF
      refine A_L_C_half_27 5000 _ _ _ _ hC trivial ?_
      intro _ _ e2
      cases e2
      refine g_iload_n (q := 82) rfl rfl rfl ?_
      injection hF with hF
      injection hF with hv hh
      subst hv
      subst hh
      exact g_iret rfl
    · rw [if_neg c19] at hF
      refine g_ifF (q := 16) rfl (decide_eq_false c19) rfl ?_
      refine g_aload_n (q := 17) rfl rfl rfl ?_
      refine g_iconst (q := 18) rfl rfl ?_
      obtain ⟨⟨r18, h17⟩, hC, hF⟩ := bd_I hF
      dsimp only at hF
      refine g_ci2 (q := 21) rfl rfl (fun _ => rfl) rfl (A_C_refuse hC) (by decide +kernel) rfl ?_
      injection hF with hF
      injection hF with hv hh
      subst hv
      subst hh
      exact g_iret rfl
def L_C_split_66 (x1 : Int32) (x2 : Int32) (x3 : Int32) (x4 : Int32) : Nat → Int32 → Int32 → Int32 → MH → Option (Int32 × Int32 × MH)
  | 0, _, _, _, _ => none
  | n + 1, x5, x6, x7, h => if x4 < x7 then some (x5, x6, h) else bd (F_H_bestTimeOf x7 x1 h) (fun (r8, h7) => bd (F_H_bestTimeOf (x4 - x7) x2 h7) (fun (r10, h9) => iw (if r8 < r10 then r10 else r8) (fun v11 => iw (if x6 ≤ v11 then x5 else x7) (fun v12 => iw (if x6 ≤ v11 then x6 else v11) (fun v13 => L_C_split_66 x1 x2 x3 x4 n v12 v13 (x7 + I 1) h9)))))
/-- BothCorners.split(III)I -/
def F_C_split (x1 : Int32) (x2 : Int32) (x3 : Int32) (h : MH) : Option (Int32 × MH) := bd (F_C_noTwoPeople x1 x2 h) (fun (r2, h1) => if r2 = 0 then bd (F_C_otherThan x3 (I 1) h1) (fun (r4, h3) => if r4 = 0 then if ¬ (h3.1 8 9) = 0 then bd (F_H_allBeds h3) (fun (r6, h5) => bd (L_C_split_66 x1 x2 x3 r6 5000 (I 0) (I 1000000000) (I 0) h5) (fun (y17, y18, h19) => iw (if ¬ x3 = 0 then y17 else y18) (fun v20 => some (v20, h19)))) else bd (F_C_refuse (I (-3)) h3) (fun (r24, h23) => some (r24, h23)) else bd (F_C_refuse (I (-2)) h3) (fun (r27, h26) => some (r27, h26))) else bd (F_C_refuse (I (-1)) h1) (fun (r30, h29) => some (r30, h29)))
theorem A_L_C_split_66 {x1 : Int32} {x2 : Int32} {x3 : Int32} {x4 : Int32} {r : MRs} : ∀ (n : Nat) (x5 : Int32) (x6 : Int32) (x7 : Int32) (h : MH) (x : Int32 × Int32 × MH), L_C_split_66 x1 x2 x3 x4 n x5 x6 x7 h = some x → (True) → (∀ (e5 : Int32) (e6 : Int32) (h' : MH), x = (e5, e6, h') → Go 6 98 122 (mm_lf [(3, .inl x3), (5, .inl e5), (6, .inl e6)]) [] h' r) → Go 6 98 66 (mm_lf [(0, .inr (.inl (some 0))), (1, .inl x1), (2, .inl x2), (3, .inl x3), (4, .inl x4), (5, .inl x5), (6, .inl x6), (7, .inl x7)]) [] h r
  | 0, _, _, _, _, _, hF, _, _ => by cases hF
  | n + 1, x5, x6, x7, h, x, hF, KR, KX => by
    have ih := fun a5 a6 a7 => A_L_C_split_66 (x1 := x1) (x2 := x2) (x3 := x3) (x4 := x4) (r := r) n a5 a6 a7 
    unfold L_C_split_66 at hF
    refine g_iload (q := 68) rfl rfl rfl ?_
    refine g_iload (q := 70) rfl rfl rfl ?_
    by_cases c16 : x4 < x7
    · rw [if_pos c16] at hF
      refine g_icmpT rfl (decide_eq_true c16) ?_
      injection hF with hF
      subst hF
      exact go_sub (mm_subc rfl (mm_subc rfl (mm_subc rfl mm_sub0))) (KX _ _ _ rfl)
    · rw [if_neg c16] at hF
      refine g_icmpF (q := 73) rfl (decide_eq_false c16) rfl ?_
      refine g_aload_n (q := 74) rfl rfl rfl ?_
      refine g_getR (q := 77) rfl (fun _ => rfl) rfl ?_
      refine g_iload (q := 79) rfl rfl rfl ?_
      refine g_iload_n (q := 80) rfl rfl rfl ?_
      obtain ⟨⟨r8, h7⟩, hC, hF⟩ := bd_I hF
      dsimp only at hF
      refine g_ci3 (q := 83) rfl rfl (fun _ => rfl) rfl (A_H_bestTimeOf hC) (by decide +kernel) rfl ?_
      refine g_aload_n (q := 84) rfl rfl rfl ?_
      refine g_getR (q := 87) rfl (fun _ => rfl) rfl ?_
      refine g_iload (q := 89) rfl rfl rfl ?_
      refine g_iload (q := 91) rfl rfl rfl ?_
      refine g_isub (q := 92) rfl rfl ?_
      refine g_iload_n (q := 93) rfl rfl rfl ?_
      obtain ⟨⟨r10, h9⟩, hC, hF⟩ := bd_I hF
      dsimp only at hF
      refine g_ci3 (q := 96) rfl rfl (fun _ => rfl) rfl (A_H_bestTimeOf hC) (by decide +kernel) rfl ?_
      refine g_max (q := 99) rfl rfl rfl ?_
      obtain ⟨v11, e_v11, hF⟩ := iw_I hF
      rw [← e_v11]
      refine g_istore (q := 101) rfl rfl ?_
      refine g_iload (q := 103) rfl rfl rfl ?_
      refine g_iload (q := 105) rfl rfl rfl ?_
      obtain ⟨v12, e_v12, hF⟩ := iw_I hF
      obtain ⟨v13, e_v13, hF⟩ := iw_I hF
      suffices K14 : Go 6 98 116 (mm_lf [(0, .inr (.inl (some 0))), (1, .inl x1), (2, .inl x2), (3, .inl x3), (4, .inl x4), (5, .inl v12), (6, .inl v13), (7, .inl x7)]) [] h9 r by
        clear hF
        by_cases c15 : x6 ≤ v11
        · simp only [if_pos c15] at e_v12 e_v13
          subst e_v12 e_v13
          refine g_icmpT rfl (decide_eq_true c15) ?_
          exact go_sub (mm_subc rfl (mm_subc rfl (mm_subc rfl (mm_subc rfl (mm_subc rfl (mm_subc rfl (mm_subc rfl (mm_subc rfl mm_sub0)))))))) K14
        · simp only [if_neg c15] at e_v12 e_v13
          subst e_v12 e_v13
          refine g_icmpF (q := 108) rfl (decide_eq_false c15) rfl ?_
          refine g_iload (q := 110) rfl rfl rfl ?_
          refine g_istore (q := 112) rfl rfl ?_
          refine g_iload (q := 114) rfl rfl rfl ?_
          refine g_istore (q := 116) rfl rfl ?_
          exact go_sub (mm_subc rfl (mm_subc rfl (mm_subc rfl (mm_subc rfl (mm_subc rfl (mm_subc rfl (mm_subc rfl (mm_subc rfl mm_sub0)))))))) K14
      clear e_v12 e_v13
      refine g_iinc (q := 119) rfl rfl rfl ?_
      refine g_goto rfl ?_
      refine go_sub (lo' := mm_lf [(0, .inr (.inl (some 0))), (1, .inl x1), (2, .inl x2), (3, .inl x3), (4, .inl x4), (5, .inl v12), (6, .inl v13), (7, .inl (x7 + I 1))]) (mm_subc rfl (mm_subc rfl (mm_subc rfl (mm_subc rfl (mm_subc rfl (mm_subc rfl (mm_subc rfl (mm_subc rfl mm_sub0)))))))) ?_
      exact ih _ _ _ _ _ hF KR KX
theorem A_C_split {x1 : Int32} {x2 : Int32} {x3 : Int32} {h h' : MH} {v : Int32} (hF : F_C_split x1 x2 x3 h = some (v, h')) : Ex 7 98 [.inr (.inl (some 0)), .inl x1, .inl x2, .inl x3] h (some (.inl v), h') := by
  unfold F_C_split at hF
  refine ex_of (d := 6) rfl rfl ?_
  refine g_aload_n (q := 1) rfl rfl rfl ?_
  refine g_iload_n (q := 2) rfl rfl rfl ?_
  refine g_iload_n (q := 3) rfl rfl rfl ?_
  obtain ⟨⟨r2, h1⟩, hC, hF⟩ := bd_I hF
  dsimp only at hF
  refine g_ci3 (q := 6) rfl rfl (fun _ => rfl) rfl (A_C_noTwoPeople hC) (by decide +kernel) rfl ?_
  by_cases c31 : r2 = 0
  · rw [if_pos c31] at hF
    refine g_ifT rfl (decide_eq_true c31) ?_
    refine g_iload_n (q := 16) rfl rfl rfl ?_
    refine g_iconst (q := 17) rfl rfl ?_
    obtain ⟨⟨r4, h3⟩, hC, hF⟩ := bd_I hF
    dsimp only at hF
    refine g_ci2 (q := 20) rfl rfl (fun _ => rfl) rfl (A_C_otherThan hC) (by decide +kernel) rfl ?_
    by_cases c28 : r4 = 0
    · rw [if_pos c28] at hF
      refine g_ifT rfl (decide_eq_true c28) ?_
      refine g_aload_n (q := 31) rfl rfl rfl ?_
      refine g_getR (q := 34) rfl (fun _ => rfl) rfl ?_
      refine g_getI (q := 37) rfl (fun _ => rfl) rfl ?_
      by_cases c25 : ¬ (h3.1 8 9) = 0
      · rw [if_pos c25] at hF
        refine g_ifT rfl (decide_eq_true c25) ?_
        refine g_aload_n (q := 48) rfl rfl rfl ?_
        refine g_getR (q := 51) rfl (fun _ => rfl) rfl ?_
        obtain ⟨⟨r6, h5⟩, hC, hF⟩ := bd_I hF
        dsimp only at hF
        refine g_ci1 (q := 54) rfl rfl (fun _ => rfl) rfl (A_H_allBeds hC) (by decide +kernel) rfl ?_
        refine g_istore (q := 56) rfl rfl ?_
        refine g_iconst (q := 57) rfl rfl ?_
        refine g_istore (q := 59) rfl rfl ?_
        refine g_ldc (q := 61) rfl rfl ?_
        refine g_istore (q := 63) rfl rfl ?_
        refine g_iconst (q := 64) rfl rfl ?_
        refine g_istore (q := 66) rfl rfl ?_
        refine go_sub (lo' := mm_lf [(0, .inr (.inl (some 0))), (1, .inl x1), (2, .inl x2), (3, .inl x3), (4, .inl r6), (5, .inl (I 0)), (6, .inl (I 1000000000)), (7, .inl (I 0))]) (mm_subc rfl (mm_subc rfl (mm_subc rfl (mm_subc rfl (mm_subc rfl (mm_subc rfl (mm_subc rfl (mm_subc rfl mm_sub0)))))))) ?_
        obtain ⟨⟨y17, y18, h19⟩, hC, hF⟩ := bd_I hF
        dsimp only at hF
        refine A_L_C_split_66 5000 _ _ _ _ _ hC trivial ?_
        intro _ _ _ e2
        cases e2
        refine g_iload_n (q := 123) rfl rfl rfl ?_
        obtain ⟨v20, e_v20, hF⟩ := iw_I hF
        suffices K21 : Go 6 98 133 (mm_lf []) [.inl v20] h19 (some (.inl v), h') by
          clear hF
          by_cases c22 : ¬ x3 = 0
          · simp only [if_pos c22] at e_v20
            subst e_v20
            refine g_ifT rfl (decide_eq_true c22) ?_
            refine g_iload (q := 133) rfl rfl rfl ?_
            exact go_sub mm_sub0 K21
          · simp only [if_neg c22] at e_v20
            subst e_v20
            refine g_ifF (q := 126) rfl (decide_eq_false c22) rfl ?_
            refine g_iload (q := 128) rfl rfl rfl ?_
            refine g_goto rfl ?_
            exact go_sub mm_sub0 K21
        clear e_v20
        injection hF with hF
        injection hF with hv hh
        subst hv
        subst hh
        exact g_iret rfl
      · rw [if_neg c25] at hF
        refine g_ifF (q := 40) rfl (decide_eq_false c25) rfl ?_
        refine g_aload_n (q := 41) rfl rfl rfl ?_
        refine g_bipush (q := 43) rfl (by decide +kernel) rfl ?_
        obtain ⟨⟨r24, h23⟩, hC, hF⟩ := bd_I hF
        dsimp only at hF
        refine g_ci2 (q := 46) rfl rfl (fun _ => rfl) rfl (A_C_refuse hC) (by decide +kernel) rfl ?_
        injection hF with hF
        injection hF with hv hh
        subst hv
        subst hh
        exact g_iret rfl
    · rw [if_neg c28] at hF
      refine g_ifF (q := 23) rfl (decide_eq_false c28) rfl ?_
      refine g_aload_n (q := 24) rfl rfl rfl ?_
      refine g_bipush (q := 26) rfl (by decide +kernel) rfl ?_
      obtain ⟨⟨r27, h26⟩, hC, hF⟩ := bd_I hF
      dsimp only at hF
      refine g_ci2 (q := 29) rfl rfl (fun _ => rfl) rfl (A_C_refuse hC) (by decide +kernel) rfl ?_
      injection hF with hF
      injection hF with hv hh
      subst hv
      subst hh
      exact g_iret rfl
  · rw [if_neg c31] at hF
    refine g_ifF (q := 9) rfl (decide_eq_false c31) rfl ?_
    refine g_aload_n (q := 10) rfl rfl rfl ?_
    refine g_iconst (q := 11) rfl rfl ?_
    obtain ⟨⟨r30, h29⟩, hC, hF⟩ := bd_I hF
    dsimp only at hF
    refine g_ci2 (q := 14) rfl rfl (fun _ => rfl) rfl (A_C_refuse hC) (by decide +kernel) rfl ?_
    injection hF with hF
    injection hF with hv hh
    subst hv
    subst hh
    exact g_iret rfl
