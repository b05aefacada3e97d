-- decompiled by wip/whole/dec.py: what a method does (F_), and that the mini machine does it (A_)
/-- BothCornersModel.clear()I -/
def F_M_clear (h : MH) : Option (Int32 × MH) := hw (mm_hset h.1 55 10 (I 0), h.2) (fun h1 => hw (mm_hset h1.1 55 34 (I 0), h1.2) (fun h2 => some (h1.1 55 34, h2)))
theorem A_M_clear {h h' : MH} {v : Int32} (hF : F_M_clear h = some (v, h')) : Ex 1 267 [.inr (.inl (some 55))] h (some (.inl v), h') := by
  unfold F_M_clear at hF
  refine ex_of (d := 0) rfl rfl ?_
  refine g_aload_n (q := 1) rfl rfl rfl ?_
  refine g_iconst (q := 2) rfl rfl ?_
  refine g_putI (q := 5) rfl (fun _ => rfl) rfl ?_
  obtain ⟨h1, e_h1, hF⟩ := hw_I hF
  rw [← e_h1]
  refine g_aload_n (q := 6) rfl rfl rfl ?_
  refine g_getI (q := 9) rfl (fun _ => rfl) rfl ?_
  refine g_istore_n (q := 10) rfl rfl ?_
  refine g_aload_n (q := 11) rfl rfl rfl ?_
  refine g_iconst (q := 12) rfl rfl ?_
  refine g_putI (q := 15) rfl (fun _ => rfl) rfl ?_
  obtain ⟨h2, e_h2, hF⟩ := hw_I hF
  rw [← e_h2]
  refine g_iload_n (q := 16) rfl rfl rfl ?_
  injection hF with hF
  injection hF with hv hh
  subst hv
  subst hh
  exact g_iret rfl
/-- BothCornersModel.drawBelow(I)I -/
def F_M_drawBelow (x1 : Int32) (h : MH) : Option (Int32 × MH) := hw (mm_hset h.1 55 37 (((h.1 55 37) * (I 1103515245)) + (I 12345)), h.2) (fun h1 => cd (¬ x1 = 0) (some (irem (((h1.1 55 37) &&& (I 2147483647)) / (I 65536)) x1, h1)))
theorem A_M_drawBelow {x1 : Int32} {h h' : MH} {v : Int32} (hF : F_M_drawBelow x1 h = some (v, h')) : Ex 1 268 [.inr (.inl (some 55)), .inl x1] h (some (.inl v), h') := by
  unfold F_M_drawBelow at hF
  refine ex_of (d := 0) rfl rfl ?_
  refine g_aload_n (q := 1) rfl rfl rfl ?_
  refine g_aload_n (q := 2) rfl rfl rfl ?_
  refine g_getI (q := 5) rfl (fun _ => rfl) rfl ?_
  refine g_ldc_w (q := 8) rfl rfl ?_
  refine g_imul (q := 9) rfl rfl ?_
  refine g_sipush (q := 12) rfl (by decide +kernel) rfl ?_
  refine g_iadd (q := 13) rfl rfl ?_
  refine g_putI (q := 16) rfl (fun _ => rfl) rfl ?_
  obtain ⟨h1, e_h1, hF⟩ := hw_I hF
  rw [← e_h1]
  refine g_aload_n (q := 17) rfl rfl rfl ?_
  refine g_getI (q := 20) rfl (fun _ => rfl) rfl ?_
  refine g_ldc_w (q := 23) rfl rfl ?_
  refine g_iand (q := 24) rfl rfl ?_
  refine g_ldc_w (q := 27) rfl rfl ?_
  refine g_idiv (q := 28) rfl (by decide +kernel) rfl ?_
  refine g_iload_n (q := 29) rfl rfl rfl ?_
  obtain ⟨hne, hF⟩ := cd_I hF
  refine g_irem (q := 30) rfl hne rfl ?_
  injection hF with hF
  injection hF with hv hh
  subst hv
  subst hh
  exact g_iret rfl
def L_M_lots_71 (x1 : Int32) (x3 : Int32) (x5 : Int32) (x6 : Int32) (x7 : Int32) : Nat → Int32 → Int32 → MH → Option (Int32 × MH)
  | 0, _, _, _ => none
  | n + 1, x8, x9, h => if (h.1 55 0) ≤ x9 then some (x8, h) else bd (F_M_drawBelow (h.1 55 5) h) (fun (r8, h7) => bd (F_M_drawBelow (h7.1 55 2) h7) (fun (r10, h9) => bd (F_M_timeOf x9 r8 r10 h9) (fun (r12, h11) => L_M_lots_71 x1 x3 x5 x6 x7 n (x8 + r12) (x9 + I 1) h11)))
def L_M_lots_45 (x1 : Int32) (x3 : Int32) : Nat → Int32 → Int32 → Int32 → MH → Option (Int32 × Int32 × MH)
  | 0, _, _, _, _ => none
  | n + 1, x5, x6, x7, h => if x1 ≤ x7 then some (x5, x6, h) else if (h.1 55 5) ≤ 0 then some (x5, x6, h) else if (h.1 55 2) ≤ 0 then some (x5, x6, h) else bd (L_M_lots_71 x1 x3 x5 x6 x7 5000 (I 0) (I 0) h) (fun (y14, h15) => iw (if y14 ≤ x6 then x6 else y14) (fun v16 => L_M_lots_45 x1 x3 n (x5 + y14) v16 (x7 + I 1) h15))
/-- BothCornersModel.lots(III)I -/
def F_M_lots (x1 : Int32) (x2 : Int32) (x3 : Int32) (h : MH) : Option (Int32 × MH) := hw (mm_hset h.1 55 10 (I 0), h.2) (fun h1 => bd (F_M_wrongNumber x1 (I 1) (I 20) h1) (fun (r3, h2) => bd (F_M_wrongBit r3 x3 (I 1) h2) (fun (r5, h4) => if 0 ≤ r5 then hw (mm_hset h4.1 55 37 x2, h4.2) (fun h6 => bd (L_M_lots_45 x1 x3 5000 (I 0) (I 0) (I 0) h6) (fun (y22, y23, h24) => iw (if ¬ x3 = 0 then y23 else y22) (fun v25 => some (v25, h24)))) else bd (F_M_refuse r5 h4) (fun (r29, h28) => some (r29, h28)))))
theorem A_L_M_lots_71 {x1 : Int32} {x3 : Int32} {x5 : Int32} {x6 : Int32} {x7 : Int32} {r : MRs} : ∀ (n : Nat) (x8 : Int32) (x9 : Int32) (h : MH) (x : Int32 × MH), L_M_lots_71 x1 x3 x5 x6 x7 n x8 x9 h = some x → (True) → (∀ (e8 : Int32) (h' : MH), x = (e8, h') → Go 4 269 117 (mm_lf [(0, .inr (.inl (some 55))), (1, .inl x1), (3, .inl x3), (5, .inl x5), (6, .inl x6), (7, .inl x7), (8, .inl e8)]) [] h' r) → Go 4 269 71 (mm_lf [(0, .inr (.inl (some 55))), (1, .inl x1), (3, .inl x3), (5, .inl x5), (6, .inl x6), (7, .inl x7), (8, .inl x8), (9, .inl x9)]) [] h r
  | 0, _, _, _, _, hF, _, _ => by cases hF
  | n + 1, x8, x9, h, x, hF, KR, KX => by
    have ih := fun a8 a9 => A_L_M_lots_71 (x1 := x1) (x3 := x3) (x5 := x5) (x6 := x6) (x7 := x7) (r := r) n a8 a9 
    unfold L_M_lots_71 at hF
    refine g_iload (q := 73) rfl rfl rfl ?_
    refine g_aload_n (q := 74) rfl rfl rfl ?_
    refine g_getI (q := 77) rfl (fun _ => rfl) rfl ?_
    by_cases c13 : (h.1 55 0) ≤ x9
    · rw [if_pos c13] at hF
      refine g_icmpT rfl (decide_eq_true c13) ?_
      injection hF with hF
      subst hF
      exact go_sub (mm_subc rfl (mm_subc rfl (mm_subc rfl (mm_subc rfl (mm_subc rfl (mm_subc rfl (mm_subc rfl mm_sub0))))))) (KX _ _ rfl)
    · rw [if_neg c13] at hF
      refine g_icmpF (q := 80) rfl (decide_eq_false c13) rfl ?_
      refine g_aload_n (q := 81) rfl rfl rfl ?_
      refine g_aload_n (q := 82) rfl rfl rfl ?_
      refine g_getI (q := 85) rfl (fun _ => rfl) rfl ?_
      obtain ⟨⟨r8, h7⟩, hC, hF⟩ := bd_I hF
      dsimp only at hF
      refine g_ci2 (q := 88) rfl rfl (fun _ => rfl) rfl (A_M_drawBelow hC) (by decide +kernel) rfl ?_
      refine g_istore (q := 90) rfl rfl ?_
      refine g_iload (q := 92) rfl rfl rfl ?_
      refine g_aload_n (q := 93) rfl rfl rfl ?_
      refine g_iload (q := 95) rfl rfl rfl ?_
      refine g_iload (q := 97) rfl rfl rfl ?_
      refine g_aload_n (q := 98) rfl rfl rfl ?_
      refine g_aload_n (q := 99) rfl rfl rfl ?_
      refine g_getI (q := 102) rfl (fun _ => rfl) rfl ?_
      obtain ⟨⟨r10, h9⟩, hC, hF⟩ := bd_I hF
      dsimp only at hF
      refine g_ci2 (q := 105) rfl rfl (fun _ => rfl) rfl (A_M_drawBelow hC) (by decide +kernel) rfl ?_
      obtain ⟨⟨r12, h11⟩, hC, hF⟩ := bd_I hF
      dsimp only at hF
      refine g_ci4 (q := 108) rfl rfl (fun _ => rfl) rfl (A_M_timeOf hC) (by decide +kernel) rfl ?_
      refine g_iadd (q := 109) rfl rfl ?_
      refine g_istore (q := 111) rfl rfl ?_
      refine g_iinc (q := 114) rfl rfl rfl ?_
      refine g_goto rfl ?_
      refine go_sub (lo' := mm_lf [(0, .inr (.inl (some 55))), (1, .inl x1), (3, .inl x3), (5, .inl x5), (6, .inl x6), (7, .inl x7), (8, .inl (x8 + r12)), (9, .inl (x9 + I 1))]) (mm_subc rfl (mm_subc rfl (mm_subc rfl (mm_subc rfl (mm_subc rfl (mm_subc rfl (mm_subc rfl (mm_subc rfl mm_sub0)))))))) ?_
      exact ih _ _ _ _ hF KR KX
theorem A_L_M_lots_45 {x1 : Int32} {x3 : Int32} {r : MRs} : ∀ (n : Nat) (x5 : Int32) (x6 : Int32) (x7 : Int32) (h : MH) (x : Int32 × Int32 × MH), L_M_lots_45 x1 x3 n x5 x6 x7 h = some x → (True) → (∀ (e5 : Int32) (e6 : Int32) (h' : MH), x = (e5, e6, h') → Go 4 269 146 (mm_lf [(3, .inl x3), (5, .inl e5), (6, .inl e6)]) [] h' r) → Go 4 269 45 (mm_lf [(0, .inr (.inl (some 55))), (1, .inl x1), (3, .inl x3), (5, .inl x5), (6, .inl x6), (7, .inl x7)]) [] h r
  | 0, _, _, _, _, _, hF, _, _ => by cases hF
  | n + 1, x5, x6, x7, h, x, hF, KR, KX => by
    have ih := fun a5 a6 a7 => A_L_M_lots_45 (x1 := x1) (x3 := x3) (r := r) n a5 a6 a7 
    unfold L_M_lots_45 at hF
    refine g_iload (q := 47) rfl rfl rfl ?_
    refine g_iload_n (q := 48) rfl rfl rfl ?_
    by_cases c21 : x1 ≤ x7
    · rw [if_pos c21] at hF
      refine g_icmpT rfl (decide_eq_true c21) ?_
      injection hF with hF
      subst hF
      exact go_sub (mm_subc rfl (mm_subc rfl (mm_subc rfl mm_sub0))) (KX _ _ _ rfl)
    · rw [if_neg c21] at hF
      refine g_icmpF (q := 51) rfl (decide_eq_false c21) rfl ?_
      refine g_aload_n (q := 52) rfl rfl rfl ?_
      refine g_getI (q := 55) rfl (fun _ => rfl) rfl ?_
      by_cases c20 : (h.1 55 5) ≤ 0
      · rw [if_pos c20] at hF
        refine g_ifT rfl (decide_eq_true c20) ?_
        injection hF with hF
        subst hF
        exact go_sub (mm_subc rfl (mm_subc rfl (mm_subc rfl mm_sub0))) (KX _ _ _ rfl)
      · rw [if_neg c20] at hF
        refine g_ifF (q := 58) rfl (decide_eq_false c20) rfl ?_
        refine g_aload_n (q := 59) rfl rfl rfl ?_
        refine g_getI (q := 62) rfl (fun _ => rfl) rfl ?_
        by_cases c19 : (h.1 55 2) ≤ 0
        · rw [if_pos c19] at hF
          refine g_ifT rfl (decide_eq_true c19) ?_
          injection hF with hF
          subst hF
          exact go_sub (mm_subc rfl (mm_subc rfl (mm_subc rfl mm_sub0))) (KX _ _ _ rfl)
        · rw [if_neg c19] at hF
          refine g_ifF (q := 65) rfl (decide_eq_false c19) rfl ?_
          refine g_iconst (q := 66) rfl rfl ?_
          refine g_istore (q := 68) rfl rfl ?_
          refine g_iconst (q := 69) rfl rfl ?_
          refine g_istore (q := 71) rfl rfl ?_
          refine go_sub (lo' := mm_lf [(0, .inr (.inl (some 55))), (1, .inl x1), (3, .inl x3), (5, .inl x5), (6, .inl x6), (7, .inl x7), (8, .inl (I 0)), (9, .inl (I 0))]) (mm_subc rfl (mm_subc rfl (mm_subc rfl (mm_subc rfl (mm_subc rfl (mm_subc rfl (mm_subc rfl (mm_subc rfl mm_sub0)))))))) ?_
          obtain ⟨⟨y14, h15⟩, hC, hF⟩ := bd_I hF
          dsimp only at hF
          refine A_L_M_lots_71 5000 _ _ _ _ hC trivial ?_
          intro _ _ e2
          cases e2
          refine g_iload (q := 119) rfl rfl rfl ?_
          refine g_iload (q := 121) rfl rfl rfl ?_
          refine g_iadd (q := 122) rfl rfl ?_
          refine g_istore (q := 124) rfl rfl ?_
          refine g_iload (q := 126) rfl rfl rfl ?_
          refine g_iload (q := 128) rfl rfl rfl ?_
          obtain ⟨v16, e_v16, hF⟩ := iw_I hF
          suffices K17 : Go 4 269 138 (mm_lf [(0, .inr (.inl (some 55))), (1, .inl x1), (3, .inl x3), (5, .inl (x5 + y14)), (7, .inl x7)]) [.inl v16] h15 r by
            clear hF
            by_cases c18 : y14 ≤ x6
            · simp only [if_pos c18] at e_v16
              subst e_v16
              refine g_icmpT rfl (decide_eq_true c18) ?_
              refine g_iload (q := 138) rfl rfl rfl ?_
              exact go_sub (mm_subc rfl (mm_subc rfl (mm_subc rfl (mm_subc rfl (mm_subc rfl mm_sub0))))) K17
            · simp only [if_neg c18] at e_v16
              subst e_v16
              refine g_icmpF (q := 131) rfl (decide_eq_false c18) rfl ?_
              refine g_iload (q := 133) rfl rfl rfl ?_
              refine g_goto rfl ?_
              exact go_sub (mm_subc rfl (mm_subc rfl (mm_subc rfl (mm_subc rfl (mm_subc rfl mm_sub0))))) K17
          clear e_v16
          refine g_istore (q := 140) rfl rfl ?_
          refine g_iinc (q := 143) rfl rfl rfl ?_
          refine g_goto rfl ?_
          refine go_sub (lo' := mm_lf [(0, .inr (.inl (some 55))), (1, .inl x1), (3, .inl x3), (5, .inl (x5 + y14)), (6, .inl v16), (7, .inl (x7 + I 1))]) (mm_subc rfl (mm_subc rfl (mm_subc rfl (mm_subc rfl (mm_subc rfl (mm_subc rfl mm_sub0)))))) ?_
          exact ih _ _ _ _ _ hF KR KX
theorem A_M_lots {x1 : Int32} {x2 : Int32} {x3 : Int32} {h h' : MH} {v : Int32} (hF : F_M_lots x1 x2 x3 h = some (v, h')) : Ex 5 269 [.inr (.inl (some 55)), .inl x1, .inl x2, .inl x3] h (some (.inl v), h') := by
  unfold F_M_lots at hF
  refine ex_of (d := 4) rfl rfl ?_
  refine g_aload_n (q := 1) rfl rfl rfl ?_
  refine g_iconst (q := 2) rfl rfl ?_
  refine g_putI (q := 5) rfl (fun _ => rfl) rfl ?_
  obtain ⟨h1, e_h1, hF⟩ := hw_I hF
  rw [← e_h1]
  refine g_iload_n (q := 6) rfl rfl rfl ?_
  refine g_iconst (q := 7) rfl rfl ?_
  refine g_bipush (q := 9) rfl (by decide +kernel) rfl ?_
  obtain ⟨⟨r3, h2⟩, hC, hF⟩ := bd_I hF
  dsimp only at hF
  refine g_ci3 (q := 12) rfl rfl (fun _ => rfl) rfl (A_M_wrongNumber hC) (by decide +kernel) rfl ?_
  refine g_iload_n (q := 13) rfl rfl rfl ?_
  refine g_iconst (q := 14) rfl rfl ?_
  obtain ⟨⟨r5, h4⟩, hC, hF⟩ := bd_I hF
  dsimp only at hF
  refine g_ci3 (q := 17) rfl rfl (fun _ => rfl) rfl (A_M_wrongBit hC) (by decide +kernel) rfl ?_
  refine g_istore (q := 19) rfl rfl ?_
  refine g_iload (q := 21) rfl rfl rfl ?_
  by_cases c30 : 0 ≤ r5
  · rw [if_pos c30] at hF
    refine g_ifT rfl (decide_eq_true c30) ?_
    refine g_aload_n (q := 32) rfl rfl rfl ?_
    refine g_iload_n (q := 33) rfl rfl rfl ?_
    refine g_putI (q := 36) rfl (fun _ => rfl) rfl ?_
    obtain ⟨h6, e_h6, hF⟩ := hw_I hF
    rw [← e_h6]
    refine g_iconst (q := 37) rfl rfl ?_
    refine g_istore (q := 39) rfl rfl ?_
    refine g_iconst (q := 40) rfl rfl ?_
    refine g_istore (q := 42) rfl rfl ?_
    refine g_iconst (q := 43) rfl rfl ?_
    refine g_istore (q := 45) rfl rfl ?_
    refine go_sub (lo' := mm_lf [(0, .inr (.inl (some 55))), (1, .inl x1), (3, .inl x3), (5, .inl (I 0)), (6, .inl (I 0)), (7, .inl (I 0))]) (mm_subc rfl (mm_subc rfl (mm_subc rfl (mm_subc rfl (mm_subc rfl (mm_subc rfl mm_sub0)))))) ?_
    obtain ⟨⟨y22, y23, h24⟩, hC, hF⟩ := bd_I hF
    dsimp only at hF
    refine A_L_M_lots_45 5000 _ _ _ _ _ hC trivial ?_
    intro _ _ _ e2
    cases e2
    refine g_iload_n (q := 147) rfl rfl rfl ?_
    obtain ⟨v25, e_v25, hF⟩ := iw_I hF
    suffices K26 : Go 4 269 157 (mm_lf []) [.inl v25] h24 (some (.inl v), h') by
      clear hF
      by_cases c27 : ¬ x3 = 0
      · simp only [if_pos c27] at e_v25
        subst e_v25
        refine g_ifT rfl (decide_eq_true c27) ?_
        refine g_iload (q := 157) rfl rfl rfl ?_
        exact go_sub mm_sub0 K26
      · simp only [if_neg c27] at e_v25
        subst e_v25
        refine g_ifF (q := 150) rfl (decide_eq_false c27) rfl ?_
        refine g_iload (q := 152) rfl rfl rfl ?_
        refine g_goto rfl ?_
        exact go_sub mm_sub0 K26
    clear e_v25
    injection hF with hF
    injection hF with hv hh
    subst hv
    subst hh
    exact g_iret rfl
  · rw [if_neg c30] at hF
    refine g_ifF (q := 24) rfl (decide_eq_false c30) rfl ?_
    refine g_aload_n (q := 25) rfl rfl rfl ?_
    refine g_iload (q := 27) rfl rfl rfl ?_
    obtain ⟨⟨r29, h28⟩, hC, hF⟩ := bd_I hF
    dsimp only at hF
    refine g_ci2 (q := 30) rfl rfl (fun _ => rfl) rfl (A_M_refuse hC) (by decide +kernel) rfl ?_
    injection hF with hF
    injection hF with hv hh
    subst hv
    subst hh
    exact g_iret rfl
/-- BothCornersModel.carry(I)I -/
def F_M_carry_3 (x1 : Int32) (h : MH) : Option (Int32 × MH) := kw (fun  (h1 : MH) => hw (mm_hset h1.1 55 25 ((h1.1 55 25) + (I 1)), h1.2) (fun h3 => cd (h3.2 = some 69) (ck (mm_in ((h3.1 55 25) - (I 1)) 52) (some (h3.1 69 (Int32.toNatClampNeg ((h3.1 55 25) - (I 1))), h3))))) (fun k2 => if (h.1 55 26) = 0 then k2 h else cd (h.2 = some 69) (ck (mm_in (h.1 55 25) 52) (hw (mm_hset h.1 69 (Int32.toNatClampNeg (h.1 55 25)) x1, h.2) (fun h5 => k2 h5))))
theorem A_M_carry_3 {x1 : Int32} {h h' : MH} {v : Int32} (hF : F_M_carry_3 x1 h = some (v, h')) : Ex 1 192 [.inr (.inl (some 55)), .inl x1] h (some (.inl v), h') := by
  unfold F_M_carry_3 at hF
  refine ex_of (d := 0) rfl rfl ?_
  refine g_aload_n (q := 1) rfl rfl rfl ?_
  refine g_getI (q := 4) rfl (fun _ => rfl) rfl ?_
  obtain ⟨k2, e_k2, hF⟩ := kw_I hF
  have K4 : ∀  (h1 : MH), k2 h1 = some (v, h') → Go 0 192 17 (mm_lf [(0, .inr (.inl (some 55)))]) [] h1 (some (.inl v), h') := by
    intro h1 hF
    rw [e_k2] at hF
    dsimp only at hF
    refine g_aload_n (q := 18) rfl rfl rfl ?_
    refine g_dup (q := 19) rfl rfl rfl ?_
    refine g_getI (q := 22) rfl (fun _ => rfl) rfl ?_
    refine g_iconst (q := 23) rfl rfl ?_
    refine g_iadd (q := 24) rfl rfl ?_
    refine g_putI (q := 27) rfl (fun _ => rfl) rfl ?_
    obtain ⟨h3, e_h3, hF⟩ := hw_I hF
    rw [← e_h3]
    refine g_aload_n (q := 28) rfl rfl rfl ?_
    obtain ⟨hk, hF⟩ := cd_I hF
    refine g_getK (q := 31) rfl (fun _ => rfl) hk rfl ?_
    refine g_aload_n (q := 32) rfl rfl rfl ?_
    refine g_getI (q := 35) rfl (fun _ => rfl) rfl ?_
    refine g_iconst (q := 36) rfl rfl ?_
    refine g_isub (q := 37) rfl rfl ?_
    obtain ⟨hi, hF⟩ := ck_I hF
    refine g_iaload (q := 38) rfl rfl rfl hi rfl ?_
    injection hF with hF
    injection hF with hv hh
    subst hv
    subst hh
    exact g_iret rfl
  clear e_k2
  by_cases c6 : (h.1 55 26) = 0
  · rw [if_pos c6] at hF
    refine g_ifT rfl (decide_eq_true c6) ?_
    exact go_sub (mm_subc rfl mm_sub0) (K4 _ hF)
  · rw [if_neg c6] at hF
    refine g_ifF (q := 7) rfl (decide_eq_false c6) rfl ?_
    refine g_aload_n (q := 8) rfl rfl rfl ?_
    obtain ⟨hk, hF⟩ := cd_I hF
    refine g_getK (q := 11) rfl (fun _ => rfl) hk rfl ?_
    refine g_aload_n (q := 12) rfl rfl rfl ?_
    refine g_getI (q := 15) rfl (fun _ => rfl) rfl ?_
    refine g_iload_n (q := 16) rfl rfl rfl ?_
    obtain ⟨hi, hF⟩ := ck_I hF
    refine g_iastore (q := 17) rfl rfl rfl hi rfl ?_
    obtain ⟨h5, e_h5, hF⟩ := hw_I hF
    rw [← e_h5]
    exact go_sub (mm_subc rfl mm_sub0) (K4 _ hF)
def L_M_carryAll_3_82 : Nat → Int32 → MH → Option (MH)
  | 0, _, _ => none
  | n + 1, x3, h => if (I 24) ≤ x3 then some (h) else ck (mm_in x3 24) (bd (F_M_carry_3 (h.1 56 (Int32.toNatClampNeg x3)) h) (fun (r21, h20) => ck (mm_in x3 24) (hw (mm_hset h20.1 56 (Int32.toNatClampNeg x3) r21, h20.2) (fun h22 => L_M_carryAll_3_82 n (x3 + I 1) h22))))
def L_M_carryAll_3_112 : Nat → Int32 → MH → Option (MH)
  | 0, _, _ => none
  | n + 1, x3, h => if (I 4) ≤ x3 then some (h) else ck (mm_in x3 4) (bd (F_M_carry_3 (h.1 57 (Int32.toNatClampNeg x3)) h) (fun (r26, h25) => ck (mm_in x3 4) (hw (mm_hset h25.1 57 (Int32.toNatClampNeg x3) r26, h25.2) (fun h27 => ck (mm_in x3 4) (bd (F_M_carry_3 (h27.1 58 (Int32.toNatClampNeg x3)) h27) (fun (r29, h28) => ck (mm_in x3 4) (hw (mm_hset h28.1 58 (Int32.toNatClampNeg x3) r29, h28.2) (fun h30 => ck (mm_in x3 4) (bd (F_M_carry_3 (h30.1 61 (Int32.toNatClampNeg x3)) h30) (fun (r32, h31) => ck (mm_in x3 4) (hw (mm_hset h31.1 61 (Int32.toNatClampNeg x3) r32, h31.2) (fun h33 => L_M_carryAll_3_112 n (x3 + I 1) h33))))))))))))
def L_M_carryAll_3_173 : Nat → Int32 → MH → Option (MH)
  | 0, _, _ => none
  | n + 1, x3, h => if (I 6) ≤ x3 then some (h) else ck (mm_in x3 6) (bd (F_M_carry_3 (h.1 59 (Int32.toNatClampNeg x3)) h) (fun (r37, h36) => ck (mm_in x3 6) (hw (mm_hset h36.1 59 (Int32.toNatClampNeg x3) r37, h36.2) (fun h38 => ck (mm_in x3 6) (bd (F_M_carry_3 (h38.1 60 (Int32.toNatClampNeg x3)) h38) (fun (r40, h39) => ck (mm_in x3 6) (hw (mm_hset h39.1 60 (Int32.toNatClampNeg x3) r40, h39.2) (fun h41 => L_M_carryAll_3_173 n (x3 + I 1) h41))))))))
/-- BothCornersModel.carryAll([IZ)V -/
def F_M_carryAll_3 (x2 : Int32) (h : MH) : Option (MH) := hw (h.1, some 69) (fun h1 => cd (x2 &&& 1 = x2) (hw (mm_hset h1.1 55 26 x2, h1.2) (fun h2 => hw (mm_hset h2.1 55 25 (I 0), h2.2) (fun h3 => bd (F_M_carry_3 (h3.1 55 0) h3) (fun (r5, h4) => hw (mm_hset h4.1 55 0 r5, h4.2) (fun h6 => bd (F_M_carry_3 (h6.1 55 2) h6) (fun (r8, h7) => hw (mm_hset h7.1 55 2 r8, h7.2) (fun h9 => bd (F_M_carry_3 (h9.1 55 5) h9) (fun (r11, h10) => hw (mm_hset h10.1 55 5 r11, h10.2) (fun h12 => iw (if (h12.1 55 9) = 0 then I 0 else I 1) (fun v13 => bd (F_M_carry_3 v13 h12) (fun (r16, h15) => iw (if ¬ r16 = (I 1) then I 0 else I 1) (fun v17 => cd (v17 &&& 1 = v17) (hw (mm_hset h15.1 55 9 v17, h15.2) (fun h19 => bd (L_M_carryAll_3_82 5000 (I 0) h19) (fun h24 => bd (L_M_carryAll_3_112 5000 (I 0) h24) (fun h35 => bd (L_M_carryAll_3_173 5000 (I 0) h35) (fun h43 => some h43))))))))))))))))))
theorem A_L_M_carryAll_3_82 {r : MRs} : ∀ (n : Nat) (x3 : Int32) (h : MH) (x : MH), L_M_carryAll_3_82 n x3 h = some x → (True) → (∀ (h' : MH), x = (h') → Go 1 193 110 (mm_lf [(0, .inr (.inl (some 55)))]) [] h' r) → Go 1 193 82 (mm_lf [(0, .inr (.inl (some 55))), (3, .inl x3)]) [] h r
  | 0, _, _, _, hF, _, _ => by cases hF
  | n + 1, x3, h, x, hF, KR, KX => by
    have ih := fun a3 => A_L_M_carryAll_3_82 (r := r) n a3 
    unfold L_M_carryAll_3_82 at hF
    refine g_iload_n (q := 83) rfl rfl rfl ?_
    refine g_bipush (q := 85) rfl (by decide +kernel) rfl ?_
    by_cases c23 : (I 24) ≤ x3
    · rw [if_pos c23] at hF
      refine g_icmpT rfl (decide_eq_true c23) ?_
      injection hF with hF
      subst hF
      exact go_sub (mm_subc rfl mm_sub0) (KX  _ rfl)
    · rw [if_neg c23] at hF
      refine g_icmpF (q := 88) rfl (decide_eq_false c23) rfl ?_
      refine g_aload_n (q := 89) rfl rfl rfl ?_
      refine g_getR (q := 92) rfl (fun _ => rfl) rfl ?_
      refine g_iload_n (q := 93) rfl rfl rfl ?_
      refine g_aload_n (q := 94) rfl rfl rfl ?_
      refine g_aload_n (q := 95) rfl rfl rfl ?_
      refine g_getR (q := 98) rfl (fun _ => rfl) rfl ?_
      refine g_iload_n (q := 99) rfl rfl rfl ?_
      obtain ⟨hi, hF⟩ := ck_I hF
      refine g_iaload (q := 100) rfl rfl rfl hi rfl ?_
      obtain ⟨⟨r21, h20⟩, hC, hF⟩ := bd_I hF
      dsimp only at hF
      refine g_ci2 (q := 103) rfl rfl (fun _ => rfl) rfl (A_M_carry_3 hC) (by decide +kernel) rfl ?_
      obtain ⟨hi, hF⟩ := ck_I hF
      refine g_iastore (q := 104) rfl rfl rfl hi rfl ?_
      obtain ⟨h22, e_h22, hF⟩ := hw_I hF
      rw [← e_h22]
      refine g_iinc (q := 107) rfl rfl rfl ?_
      refine g_goto rfl ?_
      refine go_sub (lo' := mm_lf [(0, .inr (.inl (some 55))), (3, .inl (x3 + I 1))]) (mm_subc rfl (mm_subc rfl mm_sub0)) ?_
      exact ih _ _ _ hF KR KX
theorem A_L_M_carryAll_3_112 {r : MRs} : ∀ (n : Nat) (x3 : Int32) (h : MH) (x : MH), L_M_carryAll_3_112 n x3 h = some x → (True) → (∀ (h' : MH), x = (h') → Go 1 193 171 (mm_lf [(0, .inr (.inl (some 55)))]) [] h' r) → Go 1 193 112 (mm_lf [(0, .inr (.inl (some 55))), (3, .inl x3)]) [] h r
  | 0, _, _, _, hF, _, _ => by cases hF
  | n + 1, x3, h, x, hF, KR, KX => by
    have ih := fun a3 => A_L_M_carryAll_3_112 (r := r) n a3 
    unfold L_M_carryAll_3_112 at hF
    refine g_iload_n (q := 113) rfl rfl rfl ?_
    refine g_iconst (q := 114) rfl rfl ?_
    by_cases c34 : (I 4) ≤ x3
    · rw [if_pos c34] at hF
      refine g_icmpT rfl (decide_eq_true c34) ?_
      injection hF with hF
      subst hF
      exact go_sub (mm_subc rfl mm_sub0) (KX  _ rfl)
    · rw [if_neg c34] at hF
      refine g_icmpF (q := 117) rfl (decide_eq_false c34) rfl ?_
      refine g_aload_n (q := 118) rfl rfl rfl ?_
      refine g_getR (q := 121) rfl (fun _ => rfl) rfl ?_
      refine g_iload_n (q := 122) rfl rfl rfl ?_
      refine g_aload_n (q := 123) rfl rfl rfl ?_
      refine g_aload_n (q := 124) rfl rfl rfl ?_
      refine g_getR (q := 127) rfl (fun _ => rfl) rfl ?_
      refine g_iload_n (q := 128) rfl rfl rfl ?_
      obtain ⟨hi, hF⟩ := ck_I hF
      refine g_iaload (q := 129) rfl rfl rfl hi rfl ?_
      obtain ⟨⟨r26, h25⟩, hC, hF⟩ := bd_I hF
      dsimp only at hF
      refine g_ci2 (q := 132) rfl rfl (fun _ => rfl) rfl (A_M_carry_3 hC) (by decide +kernel) rfl ?_
      obtain ⟨hi, hF⟩ := ck_I hF
      refine g_iastore (q := 133) rfl rfl rfl hi rfl ?_
      obtain ⟨h27, e_h27, hF⟩ := hw_I hF
      rw [← e_h27]
      refine g_aload_n (q := 134) rfl rfl rfl ?_
      refine g_getR (q := 137) rfl (fun _ => rfl) rfl ?_
      refine g_iload_n (q := 138) rfl rfl rfl ?_
      refine g_aload_n (q := 139) rfl rfl rfl ?_
      refine g_aload_n (q := 140) rfl rfl rfl ?_
      refine g_getR (q := 143) rfl (fun _ => rfl) rfl ?_
      refine g_iload_n (q := 144) rfl rfl rfl ?_
      obtain ⟨hi, hF⟩ := ck_I hF
      refine g_iaload (q := 145) rfl rfl rfl hi rfl ?_
      obtain ⟨⟨r29, h28⟩, hC, hF⟩ := bd_I hF
      dsimp only at hF
      refine g_ci2 (q := 148) rfl rfl (fun _ => rfl) rfl (A_M_carry_3 hC) (by decide +kernel) rfl ?_
      obtain ⟨hi, hF⟩ := ck_I hF
      refine g_iastore (q := 149) rfl rfl rfl hi rfl ?_
      obtain ⟨h30, e_h30, hF⟩ := hw_I hF
      rw [← e_h30]
      refine g_aload_n (q := 150) rfl rfl rfl ?_
      refine g_getR (q := 153) rfl (fun _ => rfl) rfl ?_
      refine g_iload_n (q := 154) rfl rfl rfl ?_
      refine g_aload_n (q := 155) rfl rfl rfl ?_
      refine g_aload_n (q := 156) rfl rfl rfl ?_
      refine g_getR (q := 159) rfl (fun _ => rfl) rfl ?_
      refine g_iload_n (q := 160) rfl rfl rfl ?_
      obtain ⟨hi, hF⟩ := ck_I hF
      refine g_iaload (q := 161) rfl rfl rfl hi rfl ?_
      obtain ⟨⟨r32, h31⟩, hC, hF⟩ := bd_I hF
      dsimp only at hF
      refine g_ci2 (q := 164) rfl rfl (fun _ => rfl) rfl (A_M_carry_3 hC) (by decide +kernel) rfl ?_
      obtain ⟨hi, hF⟩ := ck_I hF
      refine g_iastore (q := 165) rfl rfl rfl hi rfl ?_
      obtain ⟨h33, e_h33, hF⟩ := hw_I hF
      rw [← e_h33]
      refine g_iinc (q := 168) rfl rfl rfl ?_
      refine g_goto rfl ?_
      refine go_sub (lo' := mm_lf [(0, .inr (.inl (some 55))), (3, .inl (x3 + I 1))]) (mm_subc rfl (mm_subc rfl mm_sub0)) ?_
      exact ih _ _ _ hF KR KX
theorem A_L_M_carryAll_3_173 {r : MRs} : ∀ (n : Nat) (x3 : Int32) (h : MH) (x : MH), L_M_carryAll_3_173 n x3 h = some x → (True) → (∀ (h' : MH), x = (h') → Go 1 193 217 (mm_lf []) [] h' r) → Go 1 193 173 (mm_lf [(0, .inr (.inl (some 55))), (3, .inl x3)]) [] h r
  | 0, _, _, _, hF, _, _ => by cases hF
  | n + 1, x3, h, x, hF, KR, KX => by
    have ih := fun a3 => A_L_M_carryAll_3_173 (r := r) n a3 
    unfold L_M_carryAll_3_173 at hF
    refine g_iload_n (q := 174) rfl rfl rfl ?_
    refine g_bipush (q := 176) rfl (by decide +kernel) rfl ?_
    by_cases c42 : (I 6) ≤ x3
    · rw [if_pos c42] at hF
      refine g_icmpT rfl (decide_eq_true c42) ?_
      injection hF with hF
      subst hF
      exact go_sub mm_sub0 (KX  _ rfl)
    · rw [if_neg c42] at hF
      refine g_icmpF (q := 179) rfl (decide_eq_false c42) rfl ?_
      refine g_aload_n (q := 180) rfl rfl rfl ?_
      refine g_getR (q := 183) rfl (fun _ => rfl) rfl ?_
      refine g_iload_n (q := 184) rfl rfl rfl ?_
      refine g_aload_n (q := 185) rfl rfl rfl ?_
      refine g_aload_n (q := 186) rfl rfl rfl ?_
      refine g_getR (q := 189) rfl (fun _ => rfl) rfl ?_
      refine g_iload_n (q := 190) rfl rfl rfl ?_
      obtain ⟨hi, hF⟩ := ck_I hF
      refine g_iaload (q := 191) rfl rfl rfl hi rfl ?_
      obtain ⟨⟨r37, h36⟩, hC, hF⟩ := bd_I hF
      dsimp only at hF
      refine g_ci2 (q := 194) rfl rfl (fun _ => rfl) rfl (A_M_carry_3 hC) (by decide +kernel) rfl ?_
      obtain ⟨hi, hF⟩ := ck_I hF
      refine g_iastore (q := 195) rfl rfl rfl hi rfl ?_
      obtain ⟨h38, e_h38, hF⟩ := hw_I hF
      rw [← e_h38]
      refine g_aload_n (q := 196) rfl rfl rfl ?_
      refine g_getR (q := 199) rfl (fun _ => rfl) rfl ?_
      refine g_iload_n (q := 200) rfl rfl rfl ?_
      refine g_aload_n (q := 201) rfl rfl rfl ?_
      refine g_aload_n (q := 202) rfl rfl rfl ?_
      refine g_getR (q := 205) rfl (fun _ => rfl) rfl ?_
      refine g_iload_n (q := 206) rfl rfl rfl ?_
      obtain ⟨hi, hF⟩ := ck_I hF
      refine g_iaload (q := 207) rfl rfl rfl hi rfl ?_
      obtain ⟨⟨r40, h39⟩, hC, hF⟩ := bd_I hF
      dsimp only at hF
      refine g_ci2 (q := 210) rfl rfl (fun _ => rfl) rfl (A_M_carry_3 hC) (by decide +kernel) rfl ?_
      obtain ⟨hi, hF⟩ := ck_I hF
      refine g_iastore (q := 211) rfl rfl rfl hi rfl ?_
      obtain ⟨h41, e_h41, hF⟩ := hw_I hF
      rw [← e_h41]
      refine g_iinc (q := 214) rfl rfl rfl ?_
      refine g_goto rfl ?_
      refine go_sub (lo' := mm_lf [(0, .inr (.inl (some 55))), (3, .inl (x3 + I 1))]) (mm_subc rfl (mm_subc rfl mm_sub0)) ?_
      exact ih _ _ _ hF KR KX
theorem A_M_carryAll_3 {x2 : Int32} {h h' : MH} (hF : F_M_carryAll_3 x2 h = some h') : Ex 2 193 [.inr (.inl (some 55)), .inr (.inl (some 69)), .inl x2] h (none, h') := by
  unfold F_M_carryAll_3 at hF
  refine ex_of (d := 1) rfl rfl ?_
  refine g_aload_n (q := 1) rfl rfl rfl ?_
  refine g_aload_n (q := 2) rfl rfl rfl ?_
  refine g_putK (q := 5) rfl (fun _ => rfl) rfl ?_
  obtain ⟨h1, e_h1, hF⟩ := hw_I hF
  rw [← e_h1]
  refine g_aload_n (q := 6) rfl rfl rfl ?_
  refine g_iload_n (q := 7) rfl rfl rfl ?_
  obtain ⟨hz, hF⟩ := cd_I hF
  refine g_putZ (q := 10) rfl (fun _ => rfl) hz rfl ?_
  obtain ⟨h2, e_h2, hF⟩ := hw_I hF
  rw [← e_h2]
  refine g_aload_n (q := 11) rfl rfl rfl ?_
  refine g_iconst (q := 12) rfl rfl ?_
  refine g_putI (q := 15) rfl (fun _ => rfl) rfl ?_
  obtain ⟨h3, e_h3, hF⟩ := hw_I hF
  rw [← e_h3]
  refine g_aload_n (q := 16) rfl rfl rfl ?_
  refine g_aload_n (q := 17) rfl rfl rfl ?_
  refine g_aload_n (q := 18) rfl rfl rfl ?_
  refine g_getI (q := 21) rfl (fun _ => rfl) rfl ?_
  obtain ⟨⟨r5, h4⟩, hC, hF⟩ := bd_I hF
  dsimp only at hF
  refine g_ci2 (q := 24) rfl rfl (fun _ => rfl) rfl (A_M_carry_3 hC) (by decide +kernel) rfl ?_
  refine g_putI (q := 27) rfl (fun _ => rfl) rfl ?_
  obtain ⟨h6, e_h6, hF⟩ := hw_I hF
  rw [← e_h6]
  refine g_aload_n (q := 28) rfl rfl rfl ?_
  refine g_aload_n (q := 29) rfl rfl rfl ?_
  refine g_aload_n (q := 30) rfl rfl rfl ?_
  refine g_getI (q := 33) rfl (fun _ => rfl) rfl ?_
  obtain ⟨⟨r8, h7⟩, hC, hF⟩ := bd_I hF
  dsimp only at hF
  refine g_ci2 (q := 36) rfl rfl (fun _ => rfl) rfl (A_M_carry_3 hC) (by decide +kernel) rfl ?_
  refine g_putI (q := 39) rfl (fun _ => rfl) rfl ?_
  obtain ⟨h9, e_h9, hF⟩ := hw_I hF
  rw [← e_h9]
  refine g_aload_n (q := 40) rfl rfl rfl ?_
  refine g_aload_n (q := 41) rfl rfl rfl ?_
  refine g_aload_n (q := 42) rfl rfl rfl ?_
  refine g_getI (q := 45) rfl (fun _ => rfl) rfl ?_
  obtain ⟨⟨r11, h10⟩, hC, hF⟩ := bd_I hF
  dsimp only at hF
  refine g_ci2 (q := 48) rfl rfl (fun _ => rfl) rfl (A_M_carry_3 hC) (by decide +kernel) rfl ?_
  refine g_putI (q := 51) rfl (fun _ => rfl) rfl ?_
  obtain ⟨h12, e_h12, hF⟩ := hw_I hF
  rw [← e_h12]
  refine g_aload_n (q := 52) rfl rfl rfl ?_
  refine g_aload_n (q := 53) rfl rfl rfl ?_
  refine g_aload_n (q := 54) rfl rfl rfl ?_
  refine g_getI (q := 57) rfl (fun _ => rfl) rfl ?_
  obtain ⟨v13, e_v13, hF⟩ := iw_I hF
  suffices K14 : Go 1 193 65 (mm_lf [(0, .inr (.inl (some 55)))]) [.inl v13, .inr (.inl (some 55)), .inr (.inl (some 55))] h12 (none, h') by
    clear hF
    by_cases c45 : (h12.1 55 9) = 0
    · simp only [if_pos c45] at e_v13
      subst e_v13
      refine g_ifT rfl (decide_eq_true c45) ?_
      refine g_iconst (q := 65) rfl rfl ?_
      exact go_sub (mm_subc rfl mm_sub0) K14
    · simp only [if_neg c45] at e_v13
      subst e_v13
      refine g_ifF (q := 60) rfl (decide_eq_false c45) rfl ?_
      refine g_iconst (q := 61) rfl rfl ?_
      refine g_goto rfl ?_
      exact go_sub (mm_subc rfl mm_sub0) K14
  clear e_v13
  obtain ⟨⟨r16, h15⟩, hC, hF⟩ := bd_I hF
  dsimp only at hF
  refine g_ci2 (q := 68) rfl rfl (fun _ => rfl) rfl (A_M_carry_3 hC) (by decide +kernel) rfl ?_
  refine g_iconst (q := 69) rfl rfl ?_
  obtain ⟨v17, e_v17, hF⟩ := iw_I hF
  suffices K18 : Go 1 193 77 (mm_lf [(0, .inr (.inl (some 55)))]) [.inl v17, .inr (.inl (some 55))] h15 (none, h') by
    clear hF
    by_cases c44 : ¬ r16 = (I 1)
    · simp only [if_pos c44] at e_v17
      subst e_v17
      refine g_icmpT rfl (decide_eq_true c44) ?_
      refine g_iconst (q := 77) rfl rfl ?_
      exact go_sub (mm_subc rfl mm_sub0) K18
    · simp only [if_neg c44] at e_v17
      subst e_v17
      refine g_icmpF (q := 72) rfl (decide_eq_false c44) rfl ?_
      refine g_iconst (q := 73) rfl rfl ?_
      refine g_goto rfl ?_
      exact go_sub (mm_subc rfl mm_sub0) K18
  clear e_v17
  obtain ⟨hz, hF⟩ := cd_I hF
  refine g_putZ (q := 80) rfl (fun _ => rfl) hz rfl ?_
  obtain ⟨h19, e_h19, hF⟩ := hw_I hF
  rw [← e_h19]
  refine g_iconst (q := 81) rfl rfl ?_
  refine g_istore_n (q := 82) rfl rfl ?_
  refine go_sub (lo' := mm_lf [(0, .inr (.inl (some 55))), (3, .inl (I 0))]) (mm_subc rfl (mm_subc rfl mm_sub0)) ?_
  obtain ⟨h24, hC, hF⟩ := bd_I hF
  refine A_L_M_carryAll_3_82 5000 _ _ _ hC trivial ?_
  intro _ e2
  cases e2
  refine g_iconst (q := 111) rfl rfl ?_
  refine g_istore_n (q := 112) rfl rfl ?_
  refine go_sub (lo' := mm_lf [(0, .inr (.inl (some 55))), (3, .inl (I 0))]) (mm_subc rfl (mm_subc rfl mm_sub0)) ?_
  obtain ⟨h35, hC, hF⟩ := bd_I hF
  refine A_L_M_carryAll_3_112 5000 _ _ _ hC trivial ?_
  intro _ e2
  cases e2
  refine g_iconst (q := 172) rfl rfl ?_
  refine g_istore_n (q := 173) rfl rfl ?_
  refine go_sub (lo' := mm_lf [(0, .inr (.inl (some 55))), (3, .inl (I 0))]) (mm_subc rfl (mm_subc rfl mm_sub0)) ?_
  obtain ⟨h43, hC, hF⟩ := bd_I hF
  refine A_L_M_carryAll_3_173 5000 _ _ _ hC trivial ?_
  intro _ e2
  cases e2
  injection hF with hF
  subst hF
  exact g_vret rfl
/-- BothCornersModel.image()I -/
def F_M_image (h : MH) : Option (Int32 × MH) := hw (mm_hset h.1 55 10 (I 0), h.2) (fun h1 => hw (mm_hset h1.1 55 24 (I 1), h1.2) (fun h2 => bd (F_M_carryAll_3 (I 1) h2) (fun h3 => some (h3.1 55 0, h3))))
theorem A_M_image {h h' : MH} {v : Int32} (hF : F_M_image h = some (v, h')) : Ex 3 194 [.inr (.inl (some 55))] h (some (.inl v), h') := by
  unfold F_M_image at hF
  refine ex_of (d := 2) rfl rfl ?_
  refine g_aload_n (q := 1) rfl rfl rfl ?_
  refine g_iconst (q := 2) rfl rfl ?_
  refine g_putI (q := 5) rfl (fun _ => rfl) rfl ?_
  obtain ⟨h1, e_h1, hF⟩ := hw_I hF
  rw [← e_h1]
  refine g_aload_n (q := 6) rfl rfl rfl ?_
  refine g_iconst (q := 7) rfl rfl ?_
  refine g_putZ (q := 10) rfl (fun _ => rfl) (by decide +kernel) rfl ?_
  obtain ⟨h2, e_h2, hF⟩ := hw_I hF
  rw [← e_h2]
  refine g_aload_n (q := 11) rfl rfl rfl ?_
  refine g_aload_n (q := 12) rfl rfl rfl ?_
  refine g_getR (q := 15) rfl (fun _ => rfl) rfl ?_
  refine g_iconst (q := 16) rfl rfl ?_
  obtain ⟨h3, hC, hF⟩ := bd_I hF
  refine g_cv3 (q := 19) rfl rfl (fun _ => rfl) rfl (A_M_carryAll_3 hC) (by decide +kernel) rfl ?_
  refine g_aload_n (q := 20) rfl rfl rfl ?_
  refine g_getI (q := 23) rfl (fun _ => rfl) rfl ?_
  injection hF with hF
  injection hF with hv hh
  subst hv
  subst hh
  exact g_iret rfl
/-- BothCornersModel.restore()I -/
def F_M_restore (h : MH) : Option (Int32 × MH) := hw (mm_hset h.1 55 10 (I 0), h.2) (fun h1 => if ¬ (h1.1 55 24) = 0 then bd (F_M_carryAll_3 (I 0) h1) (fun h2 => hw (mm_hset h2.1 55 30 (I 0), h2.2) (fun h3 => some (h3.1 55 0, h3))) else bd (F_M_refuse (I (-3)) h1) (fun (r5, h4) => some (r5, h4)))
theorem A_M_restore {h h' : MH} {v : Int32} (hF : F_M_restore h = some (v, h')) : Ex 3 195 [.inr (.inl (some 55))] h (some (.inl v), h') := by
  unfold F_M_restore at hF
  refine ex_of (d := 2) rfl rfl ?_
  refine g_aload_n (q := 1) rfl rfl rfl ?_
  refine g_iconst (q := 2) rfl rfl ?_
  refine g_putI (q := 5) rfl (fun _ => rfl) rfl ?_
  obtain ⟨h1, e_h1, hF⟩ := hw_I hF
  rw [← e_h1]
  refine g_aload_n (q := 6) rfl rfl rfl ?_
  refine g_getI (q := 9) rfl (fun _ => rfl) rfl ?_
  by_cases c6 : ¬ (h1.1 55 24) = 0
  · rw [if_pos c6] at hF
    refine g_ifT rfl (decide_eq_true c6) ?_
    refine g_aload_n (q := 20) rfl rfl rfl ?_
    refine g_aload_n (q := 21) rfl rfl rfl ?_
    refine g_getR (q := 24) rfl (fun _ => rfl) rfl ?_
    refine g_iconst (q := 25) rfl rfl ?_
    obtain ⟨h2, hC, hF⟩ := bd_I hF
    refine g_cv3 (q := 28) rfl rfl (fun _ => rfl) rfl (A_M_carryAll_3 hC) (by decide +kernel) rfl ?_
    refine g_aload_n (q := 29) rfl rfl rfl ?_
    refine g_iconst (q := 30) rfl rfl ?_
    refine g_putI (q := 33) rfl (fun _ => rfl) rfl ?_
    obtain ⟨h3, e_h3, hF⟩ := hw_I hF
    rw [← e_h3]
    refine g_aload_n (q := 34) rfl rfl rfl ?_
    refine g_getI (q := 37) rfl (fun _ => rfl) rfl ?_
    injection hF with hF
    injection hF with hv hh
    subst hv
    subst hh
    exact g_iret rfl
  · rw [if_neg c6] at hF
    refine g_ifF (q := 12) rfl (decide_eq_false c6) rfl ?_
    refine g_aload_n (q := 13) rfl rfl rfl ?_
    refine g_bipush (q := 15) rfl (by decide +kernel) rfl ?_
    obtain ⟨⟨r5, h4⟩, hC, hF⟩ := bd_I hF
    dsimp only at hF
    refine g_ci2 (q := 18) rfl rfl (fun _ => rfl) rfl (A_M_refuse hC) (by decide +kernel) rfl ?_
    injection hF with hF
    injection hF with hv hh
    subst hv
    subst hh
    exact g_iret rfl
/-- BothCornersModel.count(I)I -/
def F_M_count (x1 : Int32) (h : MH) : Option (Int32 × MH) := hw (mm_hset h.1 55 10 (I 0), h.2) (fun h1 => if x1 = I 0 then some (h1.1 55 0, h1) else if x1 = I 1 then some (h1.1 55 2, h1) else if x1 = I 2 then some (h1.1 55 5, h1) else if x1 = I 3 then bd (F_M_ownMany h1) (fun (r7, h6) => some (r7, h6)) else if x1 = I 4 then iw (if (h1.1 55 9) = 0 then I 0 else I 1) (fun v9 => some (v9, h1)) else if x1 = I 5 then some (h1.1 55 15, h1) else if x1 = I 6 then some (h1.1 55 34, h1) else if x1 = I 7 then some (h1.1 55 30, h1) else bd (F_M_in (Int32.toInt64 x1) (Lg 11) (Lg 16) h1) (fun (r16, h15) => if r16 = 0 then some (I (-9), h15) else ck (mm_in (x1 - (I 10)) 7) (some (h15.1 62 (Int32.toNatClampNeg (x1 - (I 10))), h15))))
theorem A_M_count {x1 : Int32} {h h' : MH} {v : Int32} (hF : F_M_count x1 h = some (v, h')) : Ex 2 270 [.inr (.inl (some 55)), .inl x1] h (some (.inl v), h') := by
  unfold F_M_count at hF
  refine ex_of (d := 1) rfl rfl ?_
  refine g_aload_n (q := 1) rfl rfl rfl ?_
  refine g_iconst (q := 2) rfl rfl ?_
  refine g_putI (q := 5) rfl (fun _ => rfl) rfl ?_
  obtain ⟨h1, e_h1, hF⟩ := hw_I hF
  rw [← e_h1]
  refine g_iload_n (q := 6) rfl rfl rfl ?_
  by_cases c2 : x1 = I 0
  · rw [if_pos c2] at hF
    refine g_tsw (off := 46) (t := 52) rfl (by rw [c2]; decide +kernel) (by decide) ?_
    refine g_aload_n (q := 53) rfl rfl rfl ?_
    refine g_getI (q := 56) rfl (fun _ => rfl) rfl ?_
    injection hF with hF
    injection hF with hv hh
    subst hv
    subst hh
    exact g_iret rfl
  rw [if_neg c2] at hF
  by_cases c3 : x1 = I 1
  · rw [if_pos c3] at hF
    refine g_tsw (off := 51) (t := 57) rfl (by rw [c3]; decide +kernel) (by decide) ?_
    refine g_aload_n (q := 58) rfl rfl rfl ?_
    refine g_getI (q := 61) rfl (fun _ => rfl) rfl ?_
    injection hF with hF
    injection hF with hv hh
    subst hv
    subst hh
    exact g_iret rfl
  rw [if_neg c3] at hF
  by_cases c4 : x1 = I 2
  · rw [if_pos c4] at hF
    refine g_tsw (off := 56) (t := 62) rfl (by rw [c4]; decide +kernel) (by decide) ?_
    refine g_aload_n (q := 63) rfl rfl rfl ?_
    refine g_getI (q := 66) rfl (fun _ => rfl) rfl ?_
    injection hF with hF
    injection hF with hv hh
    subst hv
    subst hh
    exact g_iret rfl
  rw [if_neg c4] at hF
  by_cases c5 : x1 = I 3
  · rw [if_pos c5] at hF
    refine g_tsw (off := 61) (t := 67) rfl (by rw [c5]; decide +kernel) (by decide) ?_
    refine g_aload_n (q := 68) rfl rfl rfl ?_
    obtain ⟨⟨r7, h6⟩, hC, hF⟩ := bd_I hF
    dsimp only at hF
    refine g_ci1 (q := 71) rfl rfl (fun _ => rfl) rfl (A_M_ownMany hC) (by decide +kernel) rfl ?_
    injection hF with hF
    injection hF with hv hh
    subst hv
    subst hh
    exact g_iret rfl
  rw [if_neg c5] at hF
  by_cases c8 : x1 = I 4
  · rw [if_pos c8] at hF
    refine g_tsw (off := 66) (t := 72) rfl (by rw [c8]; decide +kernel) (by decide) ?_
    refine g_aload_n (q := 73) rfl rfl rfl ?_
    refine g_getI (q := 76) rfl (fun _ => rfl) rfl ?_
    obtain ⟨v9, e_v9, hF⟩ := iw_I hF
    suffices K10 : Go 1 270 84 (mm_lf []) [.inl v9] h1 (some (.inl v), h') by
      clear hF
      by_cases c11 : (h1.1 55 9) = 0
      · simp only [if_pos c11] at e_v9
        subst e_v9
        refine g_ifT rfl (decide_eq_true c11) ?_
        refine g_iconst (q := 84) rfl rfl ?_
        exact go_sub mm_sub0 K10
      · simp only [if_neg c11] at e_v9
        subst e_v9
        refine g_ifF (q := 79) rfl (decide_eq_false c11) rfl ?_
        refine g_iconst (q := 80) rfl rfl ?_
        refine g_goto rfl ?_
        exact go_sub mm_sub0 K10
    clear e_v9
    injection hF with hF
    injection hF with hv hh
    subst hv
    subst hh
    exact g_iret rfl
  rw [if_neg c8] at hF
  by_cases c12 : x1 = I 5
  · rw [if_pos c12] at hF
    refine g_tsw (off := 79) (t := 85) rfl (by rw [c12]; decide +kernel) (by decide) ?_
    refine g_aload_n (q := 86) rfl rfl rfl ?_
    refine g_getI (q := 89) rfl (fun _ => rfl) rfl ?_
    injection hF with hF
    injection hF with hv hh
    subst hv
    subst hh
    exact g_iret rfl
  rw [if_neg c12] at hF
  by_cases c13 : x1 = I 6
  · rw [if_pos c13] at hF
    refine g_tsw (off := 84) (t := 90) rfl (by rw [c13]; decide +kernel) (by decide) ?_
    refine g_aload_n (q := 91) rfl rfl rfl ?_
    refine g_getI (q := 94) rfl (fun _ => rfl) rfl ?_
    injection hF with hF
    injection hF with hv hh
    subst hv
    subst hh
    exact g_iret rfl
  rw [if_neg c13] at hF
  by_cases c14 : x1 = I 7
  · rw [if_pos c14] at hF
    refine g_tsw (off := 89) (t := 95) rfl (by rw [c14]; decide +kernel) (by decide) ?_
    refine g_aload_n (q := 96) rfl rfl rfl ?_
    refine g_getI (q := 99) rfl (fun _ => rfl) rfl ?_
    injection hF with hF
    injection hF with hv hh
    subst hv
    subst hh
    exact g_iret rfl
  rw [if_neg c14] at hF
  refine g_tsw (off := 94) (t := 100) rfl (mm_tswD (by decide) (by decide) (fun k h1 h2 => by rcases (show k = 0 ∨ k = 1 ∨ k = 2 ∨ k = 3 ∨ k = 4 ∨ k = 5 ∨ k = 6 ∨ k = 7 by omega) with rfl | rfl | rfl | rfl | rfl | rfl | rfl | rfl <;> assumption)) (by decide) ?_
  refine g_iload_n (q := 101) rfl rfl rfl ?_
  refine g_i2l (q := 102) rfl rfl ?_
  refine g_ldc2_w (q := 105) rfl rfl ?_
  refine g_ldc2_w (q := 108) rfl rfl ?_
  obtain ⟨⟨r16, h15⟩, hC, hF⟩ := bd_I hF
  dsimp only at hF
  refine g_ci3 (q := 111) rfl rfl (fun _ => rfl) rfl (A_M_in hC) (by decide +kernel) rfl ?_
  by_cases c17 : r16 = 0
  · rw [if_pos c17] at hF
    refine g_ifT rfl (decide_eq_true c17) ?_
    refine g_bipush (q := 128) rfl (by decide +kernel) rfl ?_
    injection hF with hF
    injection hF with hv hh
    subst hv
    subst hh
    exact g_iret rfl
  · rw [if_neg c17] at hF
    refine g_ifF (q := 114) rfl (decide_eq_false c17) rfl ?_
    refine g_aload_n (q := 115) rfl rfl rfl ?_
    refine g_getR (q := 118) rfl (fun _ => rfl) rfl ?_
    refine g_iload_n (q := 119) rfl rfl rfl ?_
    refine g_bipush (q := 121) rfl (by decide +kernel) rfl ?_
    refine g_isub (q := 122) rfl rfl ?_
    obtain ⟨hi, hF⟩ := ck_I hF
    refine g_iaload (q := 123) rfl rfl rfl hi rfl ?_
    refine g_goto rfl ?_
    injection hF with hF
    injection hF with hv hh
    subst hv
    subst hh
    exact g_iret rfl
