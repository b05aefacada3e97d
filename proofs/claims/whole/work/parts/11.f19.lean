-- decompiled by wip/whole/dec.py: what a method does (F_), and that the mini machine does it (A_)
def L_M_inTime_80 (x1 : Int32) (x2 : Int32) (x4 : Int32) (x5 : Int32) : Nat → Int32 → Int32 → Int32 → MH → Option (Int32 × Int32 × MH)
  | 0, _, _, _, _ => none
  | n + 1, x6, x7, x8, h => if (h.1 55 0) ≤ x8 then some (x6, x7, h) else bd (F_M_hasBit x5 x8 h) (fun (r11, h10) => kw (fun (z12 : Int32) (h13 : MH) => bd (F_M_hasBit x5 x8 h13) (fun (r16, h15) => iw (if r16 = 0 then I 0 else I 1) (fun v17 => L_M_inTime_80 x1 x2 x4 x5 n (x6 + z12) (x7 + v17) (x8 + I 1) h15))) (fun k14 => if r11 = 0 then k14 (I 0) h10 else bd (F_M_bestTimeOf x8 x1 h10) (fun (r22, h21) => k14 r22 h21)))
def L_M_inTime_60 (x1 : Int32) (x2 : Int32) : Nat → Int32 → Int32 → MH → Option (Int32 × MH)
  | 0, _, _, _ => none
  | n + 1, x4, x5, h => if ((I 1) <<< ((h.1 55 0) &&& 31)) ≤ x5 then some (x4, h) else bd (L_M_inTime_80 x1 x2 x4 x5 5000 (I 0) (I 0) (I 0) h) (fun (y25, y26, h27) => iw (if x2 < y25 then x4 else (if y26 ≤ x4 then x4 else y26)) (fun v28 => L_M_inTime_60 x1 x2 n v28 (x5 + I 1) h27))
/-- BothCornersModel.inTime(II)I -/
def F_M_inTime (x1 : Int32) (x2 : Int32) (h : MH) : Option (Int32 × MH) := hw (mm_hset h.1 55 10 (I 0), h.2) (fun h1 => bd (F_M_isOne x1 h1) (fun (r3, h2) => kw (fun (z4 : Int32) (h5 : MH) => kw (fun (z7 : Int32) (h8 : MH) => if 0 ≤ z7 then bd (L_M_inTime_60 x1 x2 5000 (I 0) (I 0) h8) (fun (y33, h34) => some (y33, h34)) else bd (F_M_refuse z7 h8) (fun (r36, h35) => some (r36, h35))) (fun k9 => if ¬ z4 = 0 then k9 z4 h5 else if ¬ (h5.1 55 5) = 0 then k9 z4 h5 else k9 (I (-3)) h5)) (fun k6 => if r3 = 0 then k6 (I (-1)) h2 else bd (F_M_wrongNumber x2 (I 0) (I 999) h2) (fun (r43, h42) => k6 r43 h42))))
theorem A_L_M_inTime_80 {x1 : Int32} {x2 : Int32} {x4 : Int32} {x5 : Int32} {r : MRs} : ∀ (n : Nat) (x6 : Int32) (x7 : Int32) (x8 : Int32) (h : MH) (x : Int32 × Int32 × MH), L_M_inTime_80 x1 x2 x4 x5 n x6 x7 x8 h = some x → (True) → (∀ (e6 : Int32) (e7 : Int32) (h' : MH), x = (e6, e7, h') → Go 6 252 141 (mm_lf [(0, .inr (.inl (some 55))), (1, .inl x1), (2, .inl x2), (4, .inl x4), (5, .inl x5), (6, .inl e6), (7, .inl e7)]) [] h' r) → Go 6 252 80 (mm_lf [(0, .inr (.inl (some 55))), (1, .inl x1), (2, .inl x2), (4, .inl x4), (5, .inl x5), (6, .inl x6), (7, .inl x7), (8, .inl x8)]) [] h r
  | 0, _, _, _, _, _, hF, _, _ => by cases hF
  | n + 1, x6, x7, x8, h, x, hF, KR, KX => by
    have ih := fun a6 a7 a8 => A_L_M_inTime_80 (x1 := x1) (x2 := x2) (x4 := x4) (x5 := x5) (r := r) n a6 a7 a8 
    unfold L_M_inTime_80 at hF
    refine g_iload (q := 82) rfl rfl rfl ?_
    refine g_aload_n (q := 83) rfl rfl rfl ?_
    refine g_getI (q := 86) rfl (fun _ => rfl) rfl ?_
    by_cases c24 : (h.1 55 0) ≤ x8
    · rw [if_pos c24] at hF
      refine g_icmpT rfl (decide_eq_true c24) ?_
      injection hF with hF
      subst hF
      exact go_sub (mm_subc rfl (mm_subc rfl (mm_subc rfl (mm_subc rfl (mm_subc rfl (mm_subc rfl (mm_subc rfl mm_sub0))))))) (KX _ _ _ rfl)
    · rw [if_neg c24] at hF
      refine g_icmpF (q := 89) rfl (decide_eq_false c24) rfl ?_
      refine g_iload (q := 91) rfl rfl rfl ?_
      refine g_iload (q := 93) rfl rfl rfl ?_
      refine g_iload (q := 95) rfl rfl rfl ?_
      obtain ⟨⟨r11, h10⟩, hC, hF⟩ := bd_I hF
      dsimp only at hF
      refine g_ci2 (q := 98) rfl rfl (fun _ => rfl) rfl (A_M_hasBit hC) (by decide +kernel) rfl ?_
      obtain ⟨k14, e_k14, hF⟩ := kw_I hF
      have K20 : ∀ (z12 : Int32) (h13 : MH), k14 z12 h13 = some x → Go 6 252 112 (mm_lf [(0, .inr (.inl (some 55))), (1, .inl x1), (2, .inl x2), (4, .inl x4), (5, .inl x5), (7, .inl x7), (8, .inl x8)]) [.inl z12, .inl x6] h13 r := by
        intro z12 h13 hF
        rw [e_k14] at hF
        dsimp only at hF
        refine g_iadd (q := 113) rfl rfl ?_
        refine g_istore (q := 115) rfl rfl ?_
        refine g_iload (q := 117) rfl rfl rfl ?_
        refine g_iload (q := 119) rfl rfl rfl ?_
        refine g_iload (q := 121) rfl rfl rfl ?_
        obtain ⟨⟨r16, h15⟩, hC, hF⟩ := bd_I hF
        dsimp only at hF
        refine g_ci2 (q := 124) rfl rfl (fun _ => rfl) rfl (A_M_hasBit hC) (by decide +kernel) rfl ?_
        obtain ⟨v17, e_v17, hF⟩ := iw_I hF
        suffices K18 : Go 6 252 132 (mm_lf [(0, .inr (.inl (some 55))), (1, .inl x1), (2, .inl x2), (4, .inl x4), (5, .inl x5), (6, .inl (x6 + z12)), (8, .inl x8)]) [.inl v17, .inl x7] h15 r by
          clear hF
          by_cases c19 : r16 = 0
          · simp only [if_pos c19] at e_v17
            subst e_v17
            refine g_ifT rfl (decide_eq_true c19) ?_
            refine g_iconst (q := 132) rfl rfl ?_
            exact go_sub (mm_subc rfl (mm_subc rfl (mm_subc rfl (mm_subc rfl (mm_subc rfl (mm_subc rfl (mm_subc rfl mm_sub0))))))) K18
          · simp only [if_neg c19] at e_v17
            subst e_v17
            refine g_ifF (q := 127) rfl (decide_eq_false c19) rfl ?_
            refine g_iconst (q := 128) rfl rfl ?_
            refine g_goto rfl ?_
            exact go_sub (mm_subc rfl (mm_subc rfl (mm_subc rfl (mm_subc rfl (mm_subc rfl (mm_subc rfl (mm_subc rfl mm_sub0))))))) K18
        clear e_v17
        refine g_iadd (q := 133) rfl rfl ?_
        refine g_istore (q := 135) rfl rfl ?_
        refine g_iinc (q := 138) rfl rfl rfl ?_
        refine g_goto rfl ?_
        refine go_sub (lo' := mm_lf [(0, .inr (.inl (some 55))), (1, .inl x1), (2, .inl x2), (4, .inl x4), (5, .inl x5), (6, .inl (x6 + z12)), (7, .inl (x7 + v17)), (8, .inl (x8 + I 1))]) (mm_subc rfl (mm_subc rfl (mm_subc rfl (mm_subc rfl (mm_subc rfl (mm_subc rfl (mm_subc rfl (mm_subc rfl mm_sub0)))))))) ?_
        exact ih _ _ _ _ _ hF KR KX
      clear e_k14
      by_cases c23 : r11 = 0
      · rw [if_pos c23] at hF
        refine g_ifT rfl (decide_eq_true c23) ?_
        refine g_iconst (q := 112) rfl rfl ?_
        exact go_sub (mm_subc rfl (mm_subc rfl (mm_subc rfl (mm_subc rfl (mm_subc rfl (mm_subc rfl (mm_subc rfl mm_sub0))))))) (K20 _ _ hF)
      · rw [if_neg c23] at hF
        refine g_ifF (q := 101) rfl (decide_eq_false c23) rfl ?_
        refine g_aload_n (q := 102) rfl rfl rfl ?_
        refine g_iload (q := 104) rfl rfl rfl ?_
        refine g_iload_n (q := 105) rfl rfl rfl ?_
        obtain ⟨⟨r22, h21⟩, hC, hF⟩ := bd_I hF
        dsimp only at hF
        refine g_ci3 (q := 108) rfl rfl (fun _ => rfl) rfl (A_M_bestTimeOf hC) (by decide +kernel) rfl ?_
        refine g_goto rfl ?_
        exact go_sub (mm_subc rfl (mm_subc rfl (mm_subc rfl (mm_subc rfl (mm_subc rfl (mm_subc rfl (mm_subc rfl mm_sub0))))))) (K20 _ _ hF)
theorem A_L_M_inTime_60 {x1 : Int32} {x2 : Int32} {r : MRs} : ∀ (n : Nat) (x4 : Int32) (x5 : Int32) (h : MH) (x : Int32 × MH), L_M_inTime_60 x1 x2 n x4 x5 h = some x → (True) → (∀ (e4 : Int32) (h' : MH), x = (e4, h') → Go 6 252 169 (mm_lf [(4, .inl e4)]) [] h' r) → Go 6 252 60 (mm_lf [(0, .inr (.inl (some 55))), (1, .inl x1), (2, .inl x2), (4, .inl x4), (5, .inl x5)]) [] h r
  | 0, _, _, _, _, hF, _, _ => by cases hF
  | n + 1, x4, x5, h, x, hF, KR, KX => by
    have ih := fun a4 a5 => A_L_M_inTime_60 (x1 := x1) (x2 := x2) (r := r) n a4 a5 
    unfold L_M_inTime_60 at hF
    refine g_iload (q := 62) rfl rfl rfl ?_
    refine g_iconst (q := 63) rfl rfl ?_
    refine g_aload_n (q := 64) rfl rfl rfl ?_
    refine g_getI (q := 67) rfl (fun _ => rfl) rfl ?_
    refine g_ishl (q := 68) rfl rfl ?_
    by_cases c32 : ((I 1) <<< ((h.1 55 0) &&& 31)) ≤ x5
    · rw [if_pos c32] at hF
      refine g_icmpT rfl (decide_eq_true c32) ?_
      injection hF with hF
      subst hF
      exact go_sub (mm_subc rfl mm_sub0) (KX _ _ rfl)
    · rw [if_neg c32] at hF
      refine g_icmpF (q := 71) rfl (decide_eq_false c32) rfl ?_
      refine g_iconst (q := 72) rfl rfl ?_
      refine g_istore (q := 74) rfl rfl ?_
      refine g_iconst (q := 75) rfl rfl ?_
      refine g_istore (q := 77) rfl rfl ?_
      refine g_iconst (q := 78) rfl rfl ?_
      refine g_istore (q := 80) rfl rfl ?_
      refine go_sub (lo' := mm_lf [(0, .inr (.inl (some 55))), (1, .inl x1), (2, .inl x2), (4, .inl x4), (5, .inl x5), (6, .inl (I 0)), (7, .inl (I 0)), (8, .inl (I 0))]) (mm_subc rfl (mm_subc rfl (mm_subc rfl (mm_subc rfl (mm_subc rfl (mm_subc rfl (mm_subc rfl (mm_subc rfl mm_sub0)))))))) ?_
      obtain ⟨⟨y25, y26, h27⟩, hC, hF⟩ := bd_I hF
      dsimp only at hF
      refine A_L_M_inTime_80 5000 _ _ _ _ _ hC trivial ?_
      intro _ _ _ e2
      cases e2
      refine g_iload (q := 143) rfl rfl rfl ?_
      refine g_iload_n (q := 144) rfl rfl rfl ?_
      obtain ⟨v28, e_v28, hF⟩ := iw_I hF
      suffices K29 : Go 6 252 161 (mm_lf [(0, .inr (.inl (some 55))), (1, .inl x1), (2, .inl x2), (5, .inl x5)]) [.inl v28] h27 r by
        clear hF
        by_cases c30 : x2 < y25
        · simp only [if_pos c30] at e_v28
          subst e_v28
          refine g_icmpT rfl (decide_eq_true c30) ?_
          refine g_iload (q := 161) rfl rfl rfl ?_
          exact go_sub (mm_subc rfl (mm_subc rfl (mm_subc rfl (mm_subc rfl mm_sub0)))) K29
        · simp only [if_neg c30] at e_v28
          refine g_icmpF (q := 147) rfl (decide_eq_false c30) rfl ?_
          refine g_iload (q := 149) rfl rfl rfl ?_
          refine g_iload (q := 151) rfl rfl rfl ?_
          by_cases c31 : y26 ≤ x4
          · simp only [if_pos c31] at e_v28
            subst e_v28
            refine g_icmpT rfl (decide_eq_true c31) ?_
            refine g_iload (q := 161) rfl rfl rfl ?_
            exact go_sub (mm_subc rfl (mm_subc rfl (mm_subc rfl (mm_subc rfl mm_sub0)))) K29
          · simp only [if_neg c31] at e_v28
            subst e_v28
            refine g_icmpF (q := 154) rfl (decide_eq_false c31) rfl ?_
            refine g_iload (q := 156) rfl rfl rfl ?_
            refine g_goto rfl ?_
            exact go_sub (mm_subc rfl (mm_subc rfl (mm_subc rfl (mm_subc rfl mm_sub0)))) K29
      clear e_v28
      refine g_istore (q := 163) rfl rfl ?_
      refine g_iinc (q := 166) rfl rfl rfl ?_
      refine g_goto rfl ?_
      refine go_sub (lo' := mm_lf [(0, .inr (.inl (some 55))), (1, .inl x1), (2, .inl x2), (4, .inl v28), (5, .inl (x5 + I 1))]) (mm_subc rfl (mm_subc rfl (mm_subc rfl (mm_subc rfl (mm_subc rfl mm_sub0))))) ?_
      exact ih _ _ _ _ hF KR KX
theorem A_M_inTime {x1 : Int32} {x2 : Int32} {h h' : MH} {v : Int32} (hF : F_M_inTime x1 x2 h = some (v, h')) : Ex 7 252 [.inr (.inl (some 55)), .inl x1, .inl x2] h (some (.inl v), h') := by
  unfold F_M_inTime at hF
  refine ex_of (d := 6) rfl rfl ?_
  refine g_aload_n (q := 1) rfl rfl rfl ?_
  refine g_iconst (q := 2) rfl rfl ?_
  refine g_putI (q := 5) rfl (fun _ => rfl) rfl ?_
  obtain ⟨h1, e_h1, hF⟩ := hw_I hF
  rw [← e_h1]
  refine g_aload_n (q := 6) rfl rfl rfl ?_
  refine g_iload_n (q := 7) rfl rfl rfl ?_
  obtain ⟨⟨r3, h2⟩, hC, hF⟩ := bd_I hF
  dsimp only at hF
  refine g_ci2 (q := 10) rfl rfl (fun _ => rfl) rfl (A_M_isOne hC) (by decide +kernel) rfl ?_
  obtain ⟨k6, e_k6, hF⟩ := kw_I hF
  have K41 : ∀ (z4 : Int32) (h5 : MH), k6 z4 h5 = some (v, h') → Go 6 252 25 (mm_lf [(0, .inr (.inl (some 55))), (1, .inl x1), (2, .inl x2)]) [.inl z4] h5 (some (.inl v), h') := by
    intro z4 h5 hF
    rw [e_k6] at hF
    dsimp only at hF
    refine g_istore_n (q := 26) rfl rfl ?_
    refine g_iload_n (q := 27) rfl rfl rfl ?_
    obtain ⟨k9, e_k9, hF⟩ := kw_I hF
    have K38 : ∀ (z7 : Int32) (h8 : MH), k9 z7 h8 = some (v, h') → Go 6 252 43 (mm_lf [(0, .inr (.inl (some 55))), (1, .inl x1), (2, .inl x2)]) [.inl z7] h8 (some (.inl v), h') := by
      intro z7 h8 hF
      rw [e_k9] at hF
      dsimp only at hF
      refine g_istore_n (q := 44) rfl rfl ?_
      refine g_iload_n (q := 45) rfl rfl rfl ?_
      by_cases c37 : 0 ≤ z7
      · rw [if_pos c37] at hF
        refine g_ifT rfl (decide_eq_true c37) ?_
        refine g_iconst (q := 55) rfl rfl ?_
        refine g_istore (q := 57) rfl rfl ?_
        refine g_iconst (q := 58) rfl rfl ?_
        refine g_istore (q := 60) rfl rfl ?_
        refine go_sub (lo' := mm_lf [(0, .inr (.inl (some 55))), (1, .inl x1), (2, .inl x2), (4, .inl (I 0)), (5, .inl (I 0))]) (mm_subc rfl (mm_subc rfl (mm_subc rfl (mm_subc rfl (mm_subc rfl mm_sub0))))) ?_
        obtain ⟨⟨y33, h34⟩, hC, hF⟩ := bd_I hF
        dsimp only at hF
        refine A_L_M_inTime_60 5000 _ _ _ _ hC trivial ?_
        intro _ _ e2
        cases e2
        refine g_iload (q := 171) rfl rfl rfl ?_
        injection hF with hF
        injection hF with hv hh
        subst hv
        subst hh
        exact g_iret rfl
      · rw [if_neg c37] at hF
        refine g_ifF (q := 48) rfl (decide_eq_false c37) rfl ?_
        refine g_aload_n (q := 49) rfl rfl rfl ?_
        refine g_iload_n (q := 50) rfl rfl rfl ?_
        obtain ⟨⟨r36, h35⟩, hC, hF⟩ := bd_I hF
        dsimp only at hF
        refine g_ci2 (q := 53) rfl rfl (fun _ => rfl) rfl (A_M_refuse hC) (by decide +kernel) rfl ?_
        injection hF with hF
        injection hF with hv hh
        subst hv
        subst hh
        exact g_iret rfl
    clear e_k9
    by_cases c40 : ¬ z4 = 0
    · rw [if_pos c40] at hF
      refine g_ifT rfl (decide_eq_true c40) ?_
      refine g_iload_n (q := 43) rfl rfl rfl ?_
      exact go_sub (mm_subc rfl (mm_subc rfl (mm_subc rfl mm_sub0))) (K38 _ _ hF)
    · rw [if_neg c40] at hF
      refine g_ifF (q := 30) rfl (decide_eq_false c40) rfl ?_
      refine g_aload_n (q := 31) rfl rfl rfl ?_
      refine g_getI (q := 34) rfl (fun _ => rfl) rfl ?_
      by_cases c39 : ¬ (h5.1 55 5) = 0
      · rw [if_pos c39] at hF
        refine g_ifT rfl (decide_eq_true c39) ?_
        refine g_iload_n (q := 43) rfl rfl rfl ?_
        exact go_sub (mm_subc rfl (mm_subc rfl (mm_subc rfl mm_sub0))) (K38 _ _ hF)
      · rw [if_neg c39] at hF
        refine g_ifF (q := 37) rfl (decide_eq_false c39) rfl ?_
        refine g_bipush (q := 39) rfl (by decide +kernel) rfl ?_
        refine g_goto rfl ?_
        exact go_sub (mm_subc rfl (mm_subc rfl (mm_subc rfl mm_sub0))) (K38 _ _ hF)
  clear e_k6
  by_cases c44 : r3 = 0
  · rw [if_pos c44] at hF
    refine g_ifT rfl (decide_eq_true c44) ?_
    refine g_iconst (q := 25) rfl rfl ?_
    exact go_sub (mm_subc rfl (mm_subc rfl (mm_subc rfl mm_sub0))) (K41 _ _ hF)
  · rw [if_neg c44] at hF
    refine g_ifF (q := 13) rfl (decide_eq_false c44) rfl ?_
    refine g_iload_n (q := 14) rfl rfl rfl ?_
    refine g_iconst (q := 15) rfl rfl ?_
    refine g_sipush (q := 18) rfl (by decide +kernel) rfl ?_
    obtain ⟨⟨r43, h42⟩, hC, hF⟩ := bd_I hF
    dsimp only at hF
    refine g_ci3 (q := 21) rfl rfl (fun _ => rfl) rfl (A_M_wrongNumber hC) (by decide +kernel) rfl ?_
    refine g_goto rfl ?_
    exact go_sub (mm_subc rfl (mm_subc rfl (mm_subc rfl mm_sub0))) (K41 _ _ hF)
def L_M_reach_9 : Nat → Int32 → Int32 → MH → Option (Int32 × MH)
  | 0, _, _, _ => none
  | n + 1, x1, x2, h => if (h.1 55 34) ≤ x2 then some (x1, h) else ck (mm_in x2 12) (if (I 4) ≤ (h.1 74 (Int32.toNatClampNeg x2)) then L_M_reach_9 n (x1 ||| (I 0)) (x2 + I 1) h else ck (mm_in x2 12) (iw (x1 ||| ((I 1) <<< ((h.1 74 (Int32.toNatClampNeg x2)) &&& 31))) (fun v2 => L_M_reach_9 n v2 (x2 + I 1) h)))
/-- BothCornersModel.reach()I -/
def F_M_reach (h : MH) : Option (Int32 × MH) := hw (mm_hset h.1 55 10 (I 0), h.2) (fun h1 => bd (L_M_reach_9 5000 (I 0) (I 0) h1) (fun (y5, h6) => if ¬ (h6.1 55 34) = (I 4) then bd (F_M_refuse (I (-3)) h6) (fun (r8, h7) => some (r8, h7)) else if y5 = (I 15) then bd (F_M_think h6) (fun h9 => bd (F_M_codeNow h9) (fun (r11, h10) => bd (F_M_spread r11 h10) (fun h12 => ck (mm_in (I 0) 12) (ck (mm_in (I 1) 12) (ck (mm_in (I 2) 12) (ck (mm_in (I 3) 12) (ck (mm_in (((((I 64) * (h12.1 74 (Int32.toNatClampNeg (I 0)))) + ((I 16) * (h12.1 74 (Int32.toNatClampNeg (I 1))))) + ((I 4) * (h12.1 74 (Int32.toNatClampNeg (I 2))))) + (h12.1 74 (Int32.toNatClampNeg (I 3)))) 512) (iw (h12.1 75 (Int32.toNatClampNeg (((((I 64) * (h12.1 74 (Int32.toNatClampNeg (I 0)))) + ((I 16) * (h12.1 74 (Int32.toNatClampNeg (I 1))))) + ((I 4) * (h12.1 74 (Int32.toNatClampNeg (I 2))))) + (h12.1 74 (Int32.toNatClampNeg (I 3)))))) (fun v13 => iw (if v13 ≤ (I 8) then v13 else I (-9)) (fun v14 => some (v14, h12))))))))))) else bd (F_M_refuse (I (-3)) h6) (fun (r18, h17) => some (r18, h17))))
theorem A_L_M_reach_9 {r : MRs} : ∀ (n : Nat) (x1 : Int32) (x2 : Int32) (h : MH) (x : Int32 × MH), L_M_reach_9 n x1 x2 h = some x → (True) → (∀ (e1 : Int32) (h' : MH), x = (e1, h') → Go 3 253 48 (mm_lf [(0, .inr (.inl (some 55))), (1, .inl e1)]) [] h' r) → Go 3 253 9 (mm_lf [(0, .inr (.inl (some 55))), (1, .inl x1), (2, .inl x2)]) [] h r
  | 0, _, _, _, _, hF, _, _ => by cases hF
  | n + 1, x1, x2, h, x, hF, KR, KX => by
    have ih := fun a1 a2 => A_L_M_reach_9 (r := r) n a1 a2 
    unfold L_M_reach_9 at hF
    refine g_iload_n (q := 10) rfl rfl rfl ?_
    refine g_aload_n (q := 11) rfl rfl rfl ?_
    refine g_getI (q := 14) rfl (fun _ => rfl) rfl ?_
    by_cases c4 : (h.1 55 34) ≤ x2
    · rw [if_pos c4] at hF
      refine g_icmpT rfl (decide_eq_true c4) ?_
      injection hF with hF
      subst hF
      exact go_sub (mm_subc rfl (mm_subc rfl mm_sub0)) (KX _ _ rfl)
    · rw [if_neg c4] at hF
      refine g_icmpF (q := 17) rfl (decide_eq_false c4) rfl ?_
      refine g_iload_n (q := 18) rfl rfl rfl ?_
      refine g_aload_n (q := 19) rfl rfl rfl ?_
      refine g_getR (q := 22) rfl (fun _ => rfl) rfl ?_
      refine g_iload_n (q := 23) rfl rfl rfl ?_
      obtain ⟨hi, hF⟩ := ck_I hF
      refine g_iaload (q := 24) rfl rfl rfl hi rfl ?_
      refine g_iconst (q := 25) rfl rfl ?_
      by_cases c3 : (I 4) ≤ (h.1 74 (Int32.toNatClampNeg x2))
      · rw [if_pos c3] at hF
        refine g_icmpT rfl (decide_eq_true c3) ?_
        refine g_iconst (q := 40) rfl rfl ?_
        refine g_ior (q := 41) rfl rfl ?_
        refine g_istore_n (q := 42) rfl rfl ?_
        refine g_iinc (q := 45) rfl rfl rfl ?_
        refine g_goto rfl ?_
        refine go_sub (lo' := mm_lf [(0, .inr (.inl (some 55))), (1, .inl (x1 ||| (I 0))), (2, .inl (x2 + I 1))]) (mm_subc rfl (mm_subc rfl (mm_subc rfl mm_sub0))) ?_
        exact ih _ _ _ _ hF KR KX
      · rw [if_neg c3] at hF
        refine g_icmpF (q := 28) rfl (decide_eq_false c3) rfl ?_
        refine g_iconst (q := 29) rfl rfl ?_
        refine g_aload_n (q := 30) rfl rfl rfl ?_
        refine g_getR (q := 33) rfl (fun _ => rfl) rfl ?_
        refine g_iload_n (q := 34) rfl rfl rfl ?_
        obtain ⟨hi, hF⟩ := ck_I hF
        refine g_iaload (q := 35) rfl rfl rfl hi rfl ?_
        refine g_ishl (q := 36) rfl rfl ?_
        refine g_goto rfl ?_
        refine g_ior (q := 41) rfl rfl ?_
        refine g_istore_n (q := 42) rfl rfl ?_
        obtain ⟨v2, e_v2, hF⟩ := iw_I hF
        rw [← e_v2]
        refine g_iinc (q := 45) rfl rfl rfl ?_
        refine g_goto rfl ?_
        refine go_sub (lo' := mm_lf [(0, .inr (.inl (some 55))), (1, .inl v2), (2, .inl (x2 + I 1))]) (mm_subc rfl (mm_subc rfl (mm_subc rfl mm_sub0))) ?_
        exact ih _ _ _ _ hF KR KX
theorem A_M_reach {h h' : MH} {v : Int32} (hF : F_M_reach h = some (v, h')) : Ex 4 253 [.inr (.inl (some 55))] h (some (.inl v), h') := by
  unfold F_M_reach at hF
  refine ex_of (d := 3) rfl rfl ?_
  refine g_aload_n (q := 1) rfl rfl rfl ?_
  refine g_iconst (q := 2) rfl rfl ?_
  refine g_putI (q := 5) rfl (fun _ => rfl) rfl ?_
  obtain ⟨h1, e_h1, hF⟩ := hw_I hF
  rw [← e_h1]
  refine g_iconst (q := 6) rfl rfl ?_
  refine g_istore_n (q := 7) rfl rfl ?_
  refine g_iconst (q := 8) rfl rfl ?_
  refine g_istore_n (q := 9) rfl rfl ?_
  refine go_sub (lo' := mm_lf [(0, .inr (.inl (some 55))), (1, .inl (I 0)), (2, .inl (I 0))]) (mm_subc rfl (mm_subc rfl (mm_subc rfl mm_sub0))) ?_
  obtain ⟨⟨y5, h6⟩, hC, hF⟩ := bd_I hF
  dsimp only at hF
  refine A_L_M_reach_9 5000 _ _ _ _ hC trivial ?_
  intro _ _ e2
  cases e2
  refine g_aload_n (q := 49) rfl rfl rfl ?_
  refine g_getI (q := 52) rfl (fun _ => rfl) rfl ?_
  refine g_iconst (q := 53) rfl rfl ?_
  by_cases c20 : ¬ (h6.1 55 34) = (I 4)
  · rw [if_pos c20] at hF
    refine g_icmpT rfl (decide_eq_true c20) ?_
    refine g_aload_n (q := 63) rfl rfl rfl ?_
    refine g_bipush (q := 65) rfl (by decide +kernel) rfl ?_
    obtain ⟨⟨r8, h7⟩, hC, hF⟩ := bd_I hF
    dsimp only at hF
    refine g_ci2 (q := 68) rfl rfl (fun _ => rfl) rfl (A_M_refuse hC) (by decide +kernel) rfl ?_
    injection hF with hF
    injection hF with hv hh
    subst hv
    subst hh
    exact g_iret rfl
  · rw [if_neg c20] at hF
    refine g_icmpF (q := 56) rfl (decide_eq_false c20) rfl ?_
    refine g_iload_n (q := 57) rfl rfl rfl ?_
    refine g_bipush (q := 59) rfl (by decide +kernel) rfl ?_
    by_cases c19 : y5 = (I 15)
    · rw [if_pos c19] at hF
      refine g_icmpT rfl (decide_eq_true c19) ?_
      refine g_aload_n (q := 70) rfl rfl rfl ?_
      obtain ⟨h9, hC, hF⟩ := bd_I hF
      refine g_cv1 (q := 73) rfl rfl (fun _ => rfl) rfl (A_M_think hC) (by decide +kernel) rfl ?_
      refine g_aload_n (q := 74) rfl rfl rfl ?_
      refine g_aload_n (q := 75) rfl rfl rfl ?_
      obtain ⟨⟨r11, h10⟩, hC, hF⟩ := bd_I hF
      dsimp only at hF
      refine g_ci1 (q := 78) rfl rfl (fun _ => rfl) rfl (A_M_codeNow hC) (by decide +kernel) rfl ?_
      obtain ⟨h12, hC, hF⟩ := bd_I hF
      refine g_cv2 (q := 81) rfl rfl (fun _ => rfl) rfl (A_M_spread hC) (by decide +kernel) rfl ?_
      refine g_aload_n (q := 82) rfl rfl rfl ?_
      refine g_getR (q := 85) rfl (fun _ => rfl) rfl ?_
      refine g_bipush (q := 87) rfl (by decide +kernel) rfl ?_
      refine g_aload_n (q := 88) rfl rfl rfl ?_
      refine g_getR (q := 91) rfl (fun _ => rfl) rfl ?_
      refine g_iconst (q := 92) rfl rfl ?_
      obtain ⟨hi, hF⟩ := ck_I hF
      refine g_iaload (q := 93) rfl rfl rfl hi rfl ?_
      refine g_imul (q := 94) rfl rfl ?_
      refine g_bipush (q := 96) rfl (by decide +kernel) rfl ?_
      refine g_aload_n (q := 97) rfl rfl rfl ?_
      refine g_getR (q := 100) rfl (fun _ => rfl) rfl ?_
      refine g_iconst (q := 101) rfl rfl ?_
      obtain ⟨hi, hF⟩ := ck_I hF
      refine g_iaload (q := 102) rfl rfl rfl hi rfl ?_
      refine g_imul (q := 103) rfl rfl ?_
      refine g_iadd (q := 104) rfl rfl ?_
      refine g_iconst (q := 105) rfl rfl ?_
      refine g_aload_n (q := 106) rfl rfl rfl ?_
      refine g_getR (q := 109) rfl (fun _ => rfl) rfl ?_
      refine g_iconst (q := 110) rfl rfl ?_
      obtain ⟨hi, hF⟩ := ck_I hF
      refine g_iaload (q := 111) rfl rfl rfl hi rfl ?_
      refine g_imul (q := 112) rfl rfl ?_
      refine g_iadd (q := 113) rfl rfl ?_
      refine g_aload_n (q := 114) rfl rfl rfl ?_
      refine g_getR (q := 117) rfl (fun _ => rfl) rfl ?_
      refine g_iconst (q := 118) rfl rfl ?_
      obtain ⟨hi, hF⟩ := ck_I hF
      refine g_iaload (q := 119) rfl rfl rfl hi rfl ?_
      refine g_iadd (q := 120) rfl rfl ?_
      obtain ⟨hi, hF⟩ := ck_I hF
      refine g_iaload (q := 121) rfl rfl rfl hi rfl ?_
      refine g_istore_n (q := 122) rfl rfl ?_
      obtain ⟨v13, e_v13, hF⟩ := iw_I hF
      rw [← e_v13]
      refine g_iload_n (q := 123) rfl rfl rfl ?_
      refine g_bipush (q := 125) rfl (by decide +kernel) rfl ?_
      obtain ⟨v14, e_v14, hF⟩ := iw_I hF
      suffices K15 : Go 3 253 134 (mm_lf []) [.inl v14] h12 (some (.inl v), h') by
        clear hF
        by_cases c16 : v13 ≤ (I 8)
        · simp only [if_pos c16] at e_v14
          subst e_v14
          refine g_icmpT rfl (decide_eq_true c16) ?_
          refine g_iload_n (q := 134) rfl rfl rfl ?_
          exact go_sub mm_sub0 K15
        · simp only [if_neg c16] at e_v14
          subst e_v14
          refine g_icmpF (q := 128) rfl (decide_eq_false c16) rfl ?_
          refine g_bipush (q := 130) rfl (by decide +kernel) rfl ?_
          refine g_goto rfl ?_
          exact go_sub mm_sub0 K15
      clear e_v14
      injection hF with hF
      injection hF with hv hh
      subst hv
      subst hh
      exact g_iret rfl
    · rw [if_neg c19] at hF
      refine g_icmpF (q := 62) rfl (decide_eq_false c19) rfl ?_
      refine g_aload_n (q := 63) rfl rfl rfl ?_
      refine g_bipush (q := 65) rfl (by decide +kernel) rfl ?_
      obtain ⟨⟨r18, h17⟩, hC, hF⟩ := bd_I hF
      dsimp only at hF
      refine g_ci2 (q := 68) rfl rfl (fun _ => rfl) rfl (A_M_refuse hC) (by decide +kernel) rfl ?_
      injection hF with hF
      injection hF with hv hh
      subst hv
      subst hh
      exact g_iret rfl
/-- BothCornersModel.commute(II)I -/
def F_M_commute (x1 : Int32) (x2 : Int32) (h : MH) : Option (Int32 × MH) := hw (mm_hset h.1 55 10 (I 0), h.2) (fun h1 => bd (F_M_in (Int32.toInt64 x1) (Lg 0) (Lg 3) h1) (fun (r3, h2) => if r3 = 0 then bd (F_M_refuse (I (-2)) h2) (fun (r5, h4) => some (r5, h4)) else bd (F_M_in (Int32.toInt64 x2) (Lg 0) (Lg 3) h2) (fun (r7, h6) => if ¬ r7 = 0 then bd (F_M_think h6) (fun h8 => bd (F_M_turnNow x1 h8) (fun h9 => bd (F_M_turnNow x2 h9) (fun h10 => bd (F_M_codeNow h10) (fun (r12, h11) => bd (F_M_think h11) (fun h13 => bd (F_M_turnNow x2 h13) (fun h14 => bd (F_M_turnNow x1 h14) (fun h15 => bd (F_M_codeNow h15) (fun (r17, h16) => iw (if ¬ r12 = r17 then I 0 else I 1) (fun v18 => some (v18, h16)))))))))) else bd (F_M_refuse (I (-2)) h6) (fun (r22, h21) => some (r22, h21)))))
theorem A_M_commute {x1 : Int32} {x2 : Int32} {h h' : MH} {v : Int32} (hF : F_M_commute x1 x2 h = some (v, h')) : Ex 3 254 [.inr (.inl (some 55)), .inl x1, .inl x2] h (some (.inl v), h') := by
  unfold F_M_commute at hF
  refine ex_of (d := 2) rfl rfl ?_
  refine g_aload_n (q := 1) rfl rfl rfl ?_
  refine g_iconst (q := 2) rfl rfl ?_
  refine g_putI (q := 5) rfl (fun _ => rfl) rfl ?_
  obtain ⟨h1, e_h1, hF⟩ := hw_I hF
  rw [← e_h1]
  refine g_iload_n (q := 6) rfl rfl rfl ?_
  refine g_i2l (q := 7) rfl rfl ?_
  refine g_lconst (u := 0) (q := 8) rfl (by decide +kernel) rfl ?_
  refine g_ldc2_w (q := 11) rfl rfl ?_
  obtain ⟨⟨r3, h2⟩, hC, hF⟩ := bd_I hF
  dsimp only at hF
  refine g_ci3 (q := 14) rfl rfl (fun _ => rfl) rfl (A_M_in hC) (by decide +kernel) rfl ?_
  by_cases c24 : r3 = 0
  · rw [if_pos c24] at hF
    refine g_ifT rfl (decide_eq_true c24) ?_
    refine g_aload_n (q := 30) rfl rfl rfl ?_
    refine g_bipush (q := 32) rfl (by decide +kernel) rfl ?_
    obtain ⟨⟨r5, h4⟩, hC, hF⟩ := bd_I hF
    dsimp only at hF
    refine g_ci2 (q := 35) rfl rfl (fun _ => rfl) rfl (A_M_refuse hC) (by decide +kernel) rfl ?_
    injection hF with hF
    injection hF with hv hh
    subst hv
    subst hh
    exact g_iret rfl
  · rw [if_neg c24] at hF
    refine g_ifF (q := 17) rfl (decide_eq_false c24) rfl ?_
    refine g_iload_n (q := 18) rfl rfl rfl ?_
    refine g_i2l (q := 19) rfl rfl ?_
    refine g_lconst (u := 0) (q := 20) rfl (by decide +kernel) rfl ?_
    refine g_ldc2_w (q := 23) rfl rfl ?_
    obtain ⟨⟨r7, h6⟩, hC, hF⟩ := bd_I hF
    dsimp only at hF
    refine g_ci3 (q := 26) rfl rfl (fun _ => rfl) rfl (A_M_in hC) (by decide +kernel) rfl ?_
    by_cases c23 : ¬ r7 = 0
    · rw [if_pos c23] at hF
      refine g_ifT rfl (decide_eq_true c23) ?_
      refine g_aload_n (q := 37) rfl rfl rfl ?_
      obtain ⟨h8, hC, hF⟩ := bd_I hF
      refine g_cv1 (q := 40) rfl rfl (fun _ => rfl) rfl (A_M_think hC) (by decide +kernel) rfl ?_
      refine g_aload_n (q := 41) rfl rfl rfl ?_
      refine g_iload_n (q := 42) rfl rfl rfl ?_
      obtain ⟨h9, hC, hF⟩ := bd_I hF
      refine g_cv2 (q := 45) rfl rfl (fun _ => rfl) rfl (A_M_turnNow hC) (by decide +kernel) rfl ?_
      refine g_aload_n (q := 46) rfl rfl rfl ?_
      refine g_iload_n (q := 47) rfl rfl rfl ?_
      obtain ⟨h10, hC, hF⟩ := bd_I hF
      refine g_cv2 (q := 50) rfl rfl (fun _ => rfl) rfl (A_M_turnNow hC) (by decide +kernel) rfl ?_
      refine g_aload_n (q := 51) rfl rfl rfl ?_
      obtain ⟨⟨r12, h11⟩, hC, hF⟩ := bd_I hF
      dsimp only at hF
      refine g_ci1 (q := 54) rfl rfl (fun _ => rfl) rfl (A_M_codeNow hC) (by decide +kernel) rfl ?_
      refine g_istore_n (q := 55) rfl rfl ?_
      refine g_aload_n (q := 56) rfl rfl rfl ?_
      obtain ⟨h13, hC, hF⟩ := bd_I hF
      refine g_cv1 (q := 59) rfl rfl (fun _ => rfl) rfl (A_M_think hC) (by decide +kernel) rfl ?_
      refine g_aload_n (q := 60) rfl rfl rfl ?_
      refine g_iload_n (q := 61) rfl rfl rfl ?_
      obtain ⟨h14, hC, hF⟩ := bd_I hF
      refine g_cv2 (q := 64) rfl rfl (fun _ => rfl) rfl (A_M_turnNow hC) (by decide +kernel) rfl ?_
      refine g_aload_n (q := 65) rfl rfl rfl ?_
      refine g_iload_n (q := 66) rfl rfl rfl ?_
      obtain ⟨h15, hC, hF⟩ := bd_I hF
      refine g_cv2 (q := 69) rfl rfl (fun _ => rfl) rfl (A_M_turnNow hC) (by decide +kernel) rfl ?_
      refine g_iload_n (q := 70) rfl rfl rfl ?_
      refine g_aload_n (q := 71) rfl rfl rfl ?_
      obtain ⟨⟨r17, h16⟩, hC, hF⟩ := bd_I hF
      dsimp only at hF
      refine g_ci1 (q := 74) rfl rfl (fun _ => rfl) rfl (A_M_codeNow hC) (by decide +kernel) rfl ?_
      obtain ⟨v18, e_v18, hF⟩ := iw_I hF
      suffices K19 : Go 2 254 82 (mm_lf []) [.inl v18] h16 (some (.inl v), h') by
        clear hF
        by_cases c20 : ¬ r12 = r17
        · simp only [if_pos c20] at e_v18
          subst e_v18
          refine g_icmpT rfl (decide_eq_true c20) ?_
          refine g_iconst (q := 82) rfl rfl ?_
          exact go_sub mm_sub0 K19
        · simp only [if_neg c20] at e_v18
          subst e_v18
          refine g_icmpF (q := 77) rfl (decide_eq_false c20) rfl ?_
          refine g_iconst (q := 78) rfl rfl ?_
          refine g_goto rfl ?_
          exact go_sub mm_sub0 K19
      clear e_v18
      injection hF with hF
      injection hF with hv hh
      subst hv
      subst hh
      exact g_iret rfl
    · rw [if_neg c23] at hF
      refine g_ifF (q := 29) rfl (decide_eq_false c23) rfl ?_
      refine g_aload_n (q := 30) rfl rfl rfl ?_
      refine g_bipush (q := 32) rfl (by decide +kernel) rfl ?_
      obtain ⟨⟨r22, h21⟩, hC, hF⟩ := bd_I hF
      dsimp only at hF
      refine g_ci2 (q := 35) rfl rfl (fun _ => rfl) rfl (A_M_refuse hC) (by decide +kernel) rfl ?_
      injection hF with hF
      injection hF with hv hh
      subst hv
      subst hh
      exact g_iret rfl
def L_M_leastShared_4 : Nat → Int32 → Int32 → MH → Option (Int32 × MH)
  | 0, _, _, _ => none
  | n + 1, x1, x2, h => if (h.1 55 0) ≤ x2 then some (x1, h) else L_M_leastShared_4 n (x1 * (h.1 55 2)) (x2 + I 1) h
def L_M_leastShared_33 (x1 : Int32) : Nat → Int32 → Int32 → MH → Option (Int32 × MH)
  | 0, _, _, _ => none
  | n + 1, x2, x3, h => if x1 ≤ x3 then some (x2, h) else bd (F_M_greatestBy x3 h) (fun (r7, h6) => iw (if x2 ≤ r7 then x2 else r7) (fun v8 => L_M_leastShared_33 x1 n v8 (x3 + I 1) h6))
/-- BothCornersModel.leastShared()I -/
def F_M_leastShared (h : MH) : Option (Int32 × MH) := bd (L_M_leastShared_4 5000 (I 1) (I 0) h) (fun (y2, h3) => bd (F_M_greatestBy (I 0) h3) (fun (r5, h4) => bd (L_M_leastShared_33 y2 5000 r5 (I 1) h4) (fun (y12, h13) => some (y12, h13))))
theorem A_L_M_leastShared_4 {r : MRs} : ∀ (n : Nat) (x1 : Int32) (x2 : Int32) (h : MH) (x : Int32 × MH), L_M_leastShared_4 n x1 x2 h = some x → (True) → (∀ (e1 : Int32) (h' : MH), x = (e1, h') → Go 7 255 25 (mm_lf [(0, .inr (.inl (some 55))), (1, .inl e1)]) [] h' r) → Go 7 255 4 (mm_lf [(0, .inr (.inl (some 55))), (1, .inl x1), (2, .inl x2)]) [] h r
  | 0, _, _, _, _, hF, _, _ => by cases hF
  | n + 1, x1, x2, h, x, hF, KR, KX => by
    have ih := fun a1 a2 => A_L_M_leastShared_4 (r := r) n a1 a2 
    unfold L_M_leastShared_4 at hF
    refine g_iload_n (q := 5) rfl rfl rfl ?_
    refine g_aload_n (q := 6) rfl rfl rfl ?_
    refine g_getI (q := 9) rfl (fun _ => rfl) rfl ?_
    by_cases c1 : (h.1 55 0) ≤ x2
    · rw [if_pos c1] at hF
      refine g_icmpT rfl (decide_eq_true c1) ?_
      injection hF with hF
      subst hF
      exact go_sub (mm_subc rfl (mm_subc rfl mm_sub0)) (KX _ _ rfl)
    · rw [if_neg c1] at hF
      refine g_icmpF (q := 12) rfl (decide_eq_false c1) rfl ?_
      refine g_iload_n (q := 13) rfl rfl rfl ?_
      refine g_aload_n (q := 14) rfl rfl rfl ?_
      refine g_getI (q := 17) rfl (fun _ => rfl) rfl ?_
      refine g_imul (q := 18) rfl rfl ?_
      refine g_istore_n (q := 19) rfl rfl ?_
      refine g_iinc (q := 22) rfl rfl rfl ?_
      refine g_goto rfl ?_
      refine go_sub (lo' := mm_lf [(0, .inr (.inl (some 55))), (1, .inl (x1 * (h.1 55 2))), (2, .inl (x2 + I 1))]) (mm_subc rfl (mm_subc rfl (mm_subc rfl mm_sub0))) ?_
      exact ih _ _ _ _ hF KR KX
theorem A_L_M_leastShared_33 {x1 : Int32} {r : MRs} : ∀ (n : Nat) (x2 : Int32) (x3 : Int32) (h : MH) (x : Int32 × MH), L_M_leastShared_33 x1 n x2 x3 h = some x → (True) → (∀ (e2 : Int32) (h' : MH), x = (e2, h') → Go 7 255 64 (mm_lf [(2, .inl e2)]) [] h' r) → Go 7 255 33 (mm_lf [(0, .inr (.inl (some 55))), (1, .inl x1), (2, .inl x2), (3, .inl x3)]) [] h r
  | 0, _, _, _, _, hF, _, _ => by cases hF
  | n + 1, x2, x3, h, x, hF, KR, KX => by
    have ih := fun a2 a3 => A_L_M_leastShared_33 (x1 := x1) (r := r) n a2 a3 
    unfold L_M_leastShared_33 at hF
    refine g_iload_n (q := 34) rfl rfl rfl ?_
    refine g_iload_n (q := 35) rfl rfl rfl ?_
    by_cases c11 : x1 ≤ x3
    · rw [if_pos c11] at hF
      refine g_icmpT rfl (decide_eq_true c11) ?_
      injection hF with hF
      subst hF
      exact go_sub (mm_subc rfl mm_sub0) (KX _ _ rfl)
    · rw [if_neg c11] at hF
      refine g_icmpF (q := 38) rfl (decide_eq_false c11) rfl ?_
      refine g_aload_n (q := 39) rfl rfl rfl ?_
      refine g_iload_n (q := 40) rfl rfl rfl ?_
      obtain ⟨⟨r7, h6⟩, hC, hF⟩ := bd_I hF
      dsimp only at hF
      refine g_ci2 (q := 43) rfl rfl (fun _ => rfl) rfl (A_M_greatestBy hC) (by decide +kernel) rfl ?_
      refine g_istore (q := 45) rfl rfl ?_
      refine g_iload (q := 47) rfl rfl rfl ?_
      refine g_iload_n (q := 48) rfl rfl rfl ?_
      obtain ⟨v8, e_v8, hF⟩ := iw_I hF
      suffices K9 : Go 7 255 57 (mm_lf [(0, .inr (.inl (some 55))), (1, .inl x1), (3, .inl x3)]) [.inl v8] h6 r by
        clear hF
        by_cases c10 : x2 ≤ r7
        · simp only [if_pos c10] at e_v8
          subst e_v8
          refine g_icmpT rfl (decide_eq_true c10) ?_
          refine g_iload_n (q := 57) rfl rfl rfl ?_
          exact go_sub (mm_subc rfl (mm_subc rfl (mm_subc rfl mm_sub0))) K9
        · simp only [if_neg c10] at e_v8
          subst e_v8
          refine g_icmpF (q := 51) rfl (decide_eq_false c10) rfl ?_
          refine g_iload (q := 53) rfl rfl rfl ?_
          refine g_goto rfl ?_
          exact go_sub (mm_subc rfl (mm_subc rfl (mm_subc rfl mm_sub0))) K9
      clear e_v8
      refine g_istore_n (q := 58) rfl rfl ?_
      refine g_iinc (q := 61) rfl rfl rfl ?_
      refine g_goto rfl ?_
      refine go_sub (lo' := mm_lf [(0, .inr (.inl (some 55))), (1, .inl x1), (2, .inl v8), (3, .inl (x3 + I 1))]) (mm_subc rfl (mm_subc rfl (mm_subc rfl (mm_subc rfl mm_sub0)))) ?_
      exact ih _ _ _ _ hF KR KX
theorem A_M_leastShared {h h' : MH} {v : Int32} (hF : F_M_leastShared h = some (v, h')) : Ex 8 255 [.inr (.inl (some 55))] h (some (.inl v), h') := by
  unfold F_M_leastShared at hF
  refine ex_of (d := 7) rfl rfl ?_
  refine g_iconst (q := 1) rfl rfl ?_
  refine g_istore_n (q := 2) rfl rfl ?_
  refine g_iconst (q := 3) rfl rfl ?_
  refine g_istore_n (q := 4) rfl rfl ?_
  refine go_sub (lo' := mm_lf [(0, .inr (.inl (some 55))), (1, .inl (I 1)), (2, .inl (I 0))]) (mm_subc rfl (mm_subc rfl (mm_subc rfl mm_sub0))) ?_
  obtain ⟨⟨y2, h3⟩, hC, hF⟩ := bd_I hF
  dsimp only at hF
  refine A_L_M_leastShared_4 5000 _ _ _ _ hC trivial ?_
  intro _ _ e2
  cases e2
  refine g_aload_n (q := 26) rfl rfl rfl ?_
  refine g_iconst (q := 27) rfl rfl ?_
  obtain ⟨⟨r5, h4⟩, hC, hF⟩ := bd_I hF
  dsimp only at hF
  refine g_ci2 (q := 30) rfl rfl (fun _ => rfl) rfl (A_M_greatestBy hC) (by decide +kernel) rfl ?_
  refine g_istore_n (q := 31) rfl rfl ?_
  refine g_iconst (q := 32) rfl rfl ?_
  refine g_istore_n (q := 33) rfl rfl ?_
  refine go_sub (lo' := mm_lf [(0, .inr (.inl (some 55))), (1, .inl y2), (2, .inl r5), (3, .inl (I 1))]) (mm_subc rfl (mm_subc rfl (mm_subc rfl (mm_subc rfl mm_sub0)))) ?_
  obtain ⟨⟨y12, h13⟩, hC, hF⟩ := bd_I hF
  dsimp only at hF
  refine A_L_M_leastShared_33 5000 _ _ _ _ hC trivial ?_
  intro _ _ e2
  cases e2
  refine g_iload_n (q := 65) rfl rfl rfl ?_
  injection hF with hF
  injection hF with hv hh
  subst hv
  subst hh
  exact g_iret rfl
def L_M_teach_36 : Nat → Int32 → Int32 → Int32 → MH → Option (Int32 × MH)
  | 0, _, _, _, _ => none
  | n + 1, x1, x2, x3, h => if (h.1 55 2) ≤ x3 then some (x2, h) else ck (mm_in x3 4) (bd (F_M_atMost ((h.1 58 (Int32.toNatClampNeg x3)) + (I 1)) (I 9) h) (fun (r7, h6) => ck (mm_in x3 4) (hw (mm_hset h6.1 58 (Int32.toNatClampNeg x3) r7, h6.2) (fun h8 => bd (F_M_leastShared h8) (fun (r10, h9) => ck (mm_in x3 4) (hw (mm_hset h9.1 58 (Int32.toNatClampNeg x3) (h.1 58 (Int32.toNatClampNeg x3)), h9.2) (fun h11 => iw (if x1 ≤ r10 then x2 else x3) (fun v12 => iw (if x1 ≤ r10 then x1 else r10) (fun v14 => L_M_teach_36 n v14 v12 (x3 + I 1) h11)))))))))
/-- BothCornersModel.teach()I -/
def F_M_teach (h : MH) : Option (Int32 × MH) := hw (mm_hset h.1 55 10 (I 0), h.2) (fun h1 => if (h1.1 55 2) = 0 then bd (F_M_refuse (I (-3)) h1) (fun (r3, h2) => some (r3, h2)) else if ¬ (h1.1 55 5) = 0 then bd (F_M_leastShared h1) (fun (r5, h4) => bd (L_M_teach_36 5000 r5 (I (-9)) (I 0) h4) (fun (y19, h20) => some (y19, h20))) else bd (F_M_refuse (I (-3)) h1) (fun (r22, h21) => some (r22, h21)))
theorem A_L_M_teach_36 {r : MRs} : ∀ (n : Nat) (x1 : Int32) (x2 : Int32) (x3 : Int32) (h : MH) (x : Int32 × MH), L_M_teach_36 n x1 x2 x3 h = some x → (True) → (∀ (e2 : Int32) (h' : MH), x = (e2, h') → Go 8 256 112 (mm_lf [(2, .inl e2)]) [] h' r) → Go 8 256 36 (mm_lf [(0, .inr (.inl (some 55))), (1, .inl x1), (2, .inl x2), (3, .inl x3)]) [] h r
  | 0, _, _, _, _, _, hF, _, _ => by cases hF
  | n + 1, x1, x2, x3, h, x, hF, KR, KX => by
    have ih := fun a1 a2 a3 => A_L_M_teach_36 (r := r) n a1 a2 a3 
    unfold L_M_teach_36 at hF
    refine g_iload_n (q := 37) rfl rfl rfl ?_
    refine g_aload_n (q := 38) rfl rfl rfl ?_
    refine g_getI (q := 41) rfl (fun _ => rfl) rfl ?_
    by_cases c18 : (h.1 55 2) ≤ x3
    · rw [if_pos c18] at hF
      refine g_icmpT rfl (decide_eq_true c18) ?_
      injection hF with hF
      subst hF
      exact go_sub (mm_subc rfl mm_sub0) (KX _ _ rfl)
    · rw [if_neg c18] at hF
      refine g_icmpF (q := 44) rfl (decide_eq_false c18) rfl ?_
      refine g_aload_n (q := 45) rfl rfl rfl ?_
      refine g_getR (q := 48) rfl (fun _ => rfl) rfl ?_
      refine g_iload_n (q := 49) rfl rfl rfl ?_
      obtain ⟨hi, hF⟩ := ck_I hF
      refine g_iaload (q := 50) rfl rfl rfl hi rfl ?_
      refine g_istore (q := 52) rfl rfl ?_
      refine g_aload_n (q := 53) rfl rfl rfl ?_
      refine g_getR (q := 56) rfl (fun _ => rfl) rfl ?_
      refine g_iload_n (q := 57) rfl rfl rfl ?_
      refine g_iload (q := 59) rfl rfl rfl ?_
      refine g_iconst (q := 60) rfl rfl ?_
      refine g_iadd (q := 61) rfl rfl ?_
      refine g_bipush (q := 63) rfl (by decide +kernel) rfl ?_
      obtain ⟨⟨r7, h6⟩, hC, hF⟩ := bd_I hF
      dsimp only at hF
      refine g_ci2 (q := 66) rfl rfl (fun _ => rfl) rfl (A_M_atMost hC) (by decide +kernel) rfl ?_
      obtain ⟨hi, hF⟩ := ck_I hF
      refine g_iastore (q := 67) rfl rfl rfl hi rfl ?_
      obtain ⟨h8, e_h8, hF⟩ := hw_I hF
      rw [← e_h8]
      refine g_aload_n (q := 68) rfl rfl rfl ?_
      obtain ⟨⟨r10, h9⟩, hC, hF⟩ := bd_I hF
      dsimp only at hF
      refine g_ci1 (q := 71) rfl rfl (fun _ => rfl) rfl (A_M_leastShared hC) (by decide +kernel) rfl ?_
      refine g_istore (q := 73) rfl rfl ?_
      refine g_aload_n (q := 74) rfl rfl rfl ?_
      refine g_getR (q := 77) rfl (fun _ => rfl) rfl ?_
      refine g_iload_n (q := 78) rfl rfl rfl ?_
      refine g_iload (q := 80) rfl rfl rfl ?_
      obtain ⟨hi, hF⟩ := ck_I hF
      refine g_iastore (q := 81) rfl rfl rfl hi rfl ?_
      obtain ⟨h11, e_h11, hF⟩ := hw_I hF
      rw [← e_h11]
      refine g_iload (q := 83) rfl rfl rfl ?_
      refine g_iload_n (q := 84) rfl rfl rfl ?_
      obtain ⟨v12, e_v12, hF⟩ := iw_I hF
      suffices K13 : Go 8 256 92 (mm_lf [(0, .inr (.inl (some 55))), (1, .inl x1), (3, .inl x3), (5, .inl r10)]) [.inl v12] h11 r by
        clear hF
        by_cases c17 : x1 ≤ r10
        · simp only [if_pos c17] at e_v12
          subst e_v12
          refine g_icmpT rfl (decide_eq_true c17) ?_
          refine g_iload_n (q := 92) rfl rfl rfl ?_
          exact go_sub (mm_subc rfl (mm_subc rfl (mm_subc rfl (mm_subc rfl mm_sub0)))) K13
        · simp only [if_neg c17] at e_v12
          subst e_v12
          refine g_icmpF (q := 87) rfl (decide_eq_false c17) rfl ?_
          refine g_iload_n (q := 88) rfl rfl rfl ?_
          refine g_goto rfl ?_
          exact go_sub (mm_subc rfl (mm_subc rfl (mm_subc rfl (mm_subc rfl mm_sub0)))) K13
      clear e_v12
      refine g_istore_n (q := 93) rfl rfl ?_
      refine g_iload (q := 95) rfl rfl rfl ?_
      refine g_iload_n (q := 96) rfl rfl rfl ?_
      obtain ⟨v14, e_v14, hF⟩ := iw_I hF
      suffices K15 : Go 8 256 105 (mm_lf [(0, .inr (.inl (some 55))), (2, .inl v12), (3, .inl x3)]) [.inl v14] h11 r by
        clear hF
        by_cases c16 : x1 ≤ r10
        · simp only [if_pos c16] at e_v14
          subst e_v14
          refine g_icmpT rfl (decide_eq_true c16) ?_
          refine g_iload_n (q := 105) rfl rfl rfl ?_
          exact go_sub (mm_subc rfl (mm_subc rfl (mm_subc rfl mm_sub0))) K15
        · simp only [if_neg c16] at e_v14
          subst e_v14
          refine g_icmpF (q := 99) rfl (decide_eq_false c16) rfl ?_
          refine g_iload (q := 101) rfl rfl rfl ?_
          refine g_goto rfl ?_
          exact go_sub (mm_subc rfl (mm_subc rfl (mm_subc rfl mm_sub0))) K15
      clear e_v14
      refine g_istore_n (q := 106) rfl rfl ?_
      refine g_iinc (q := 109) rfl rfl rfl ?_
      refine g_goto rfl ?_
      refine go_sub (lo' := mm_lf [(0, .inr (.inl (some 55))), (1, .inl v14), (2, .inl v12), (3, .inl (x3 + I 1))]) (mm_subc rfl (mm_subc rfl (mm_subc rfl (mm_subc rfl mm_sub0)))) ?_
      exact ih _ _ _ _ _ hF KR KX
theorem A_M_teach {h h' : MH} {v : Int32} (hF : F_M_teach h = some (v, h')) : Ex 9 256 [.inr (.inl (some 55))] h (some (.inl v), h') := by
  unfold F_M_teach at hF
  refine ex_of (d := 8) rfl rfl ?_
  refine g_aload_n (q := 1) rfl rfl rfl ?_
  refine g_iconst (q := 2) rfl rfl ?_
  refine g_putI (q := 5) rfl (fun _ => rfl) rfl ?_
  obtain ⟨h1, e_h1, hF⟩ := hw_I hF
  rw [← e_h1]
  refine g_aload_n (q := 6) rfl rfl rfl ?_
  refine g_getI (q := 9) rfl (fun _ => rfl) rfl ?_
  by_cases c24 : (h1.1 55 2) = 0
  · rw [if_pos c24] at hF
    refine g_ifT rfl (decide_eq_true c24) ?_
    refine g_aload_n (q := 20) rfl rfl rfl ?_
    refine g_bipush (q := 22) rfl (by decide +kernel) rfl ?_
    obtain ⟨⟨r3, h2⟩, hC, hF⟩ := bd_I hF
    dsimp only at hF
    refine g_ci2 (q := 25) rfl rfl (fun _ => rfl) rfl (A_M_refuse hC) (by decide +kernel) rfl ?_
    injection hF with hF
    injection hF with hv hh
    subst hv
    subst hh
    exact g_iret rfl
  · rw [if_neg c24] at hF
    refine g_ifF (q := 12) rfl (decide_eq_false c24) rfl ?_
    refine g_aload_n (q := 13) rfl rfl rfl ?_
    refine g_getI (q := 16) rfl (fun _ => rfl) rfl ?_
    by_cases c23 : ¬ (h1.1 55 5) = 0
    · rw [if_pos c23] at hF
      refine g_ifT rfl (decide_eq_true c23) ?_
      refine g_aload_n (q := 27) rfl rfl rfl ?_
      obtain ⟨⟨r5, h4⟩, hC, hF⟩ := bd_I hF
      dsimp only at hF
      refine g_ci1 (q := 30) rfl rfl (fun _ => rfl) rfl (A_M_leastShared hC) (by decide +kernel) rfl ?_
      refine g_istore_n (q := 31) rfl rfl ?_
      refine g_bipush (q := 33) rfl (by decide +kernel) rfl ?_
      refine g_istore_n (q := 34) rfl rfl ?_
      refine g_iconst (q := 35) rfl rfl ?_
      refine g_istore_n (q := 36) rfl rfl ?_
      refine go_sub (lo' := mm_lf [(0, .inr (.inl (some 55))), (1, .inl r5), (2, .inl (I (-9))), (3, .inl (I 0))]) (mm_subc rfl (mm_subc rfl (mm_subc rfl (mm_subc rfl mm_sub0)))) ?_
      obtain ⟨⟨y19, h20⟩, hC, hF⟩ := bd_I hF
      dsimp only at hF
      refine A_L_M_teach_36 5000 _ _ _ _ _ hC trivial ?_
      intro _ _ e2
      cases e2
      refine g_iload_n (q := 113) rfl rfl rfl ?_
      injection hF with hF
      injection hF with hv hh
      subst hv
      subst hh
      exact g_iret rfl
    · rw [if_neg c23] at hF
      refine g_ifF (q := 19) rfl (decide_eq_false c23) rfl ?_
      refine g_aload_n (q := 20) rfl rfl rfl ?_
      refine g_bipush (q := 22) rfl (by decide +kernel) rfl ?_
      obtain ⟨⟨r22, h21⟩, hC, hF⟩ := bd_I hF
      dsimp only at hF
      refine g_ci2 (q := 25) rfl rfl (fun _ => rfl) rfl (A_M_refuse hC) (by decide +kernel) rfl ?_
      injection hF with hF
      injection hF with hv hh
      subst hv
      subst hh
      exact g_iret rfl
/-- BothCornersModel.left(IIII)I -/
def F_M_left (x1 : Int32) (x2 : Int32) (x3 : Int32) (x4 : Int32) (h : MH) : Option (Int32 × MH) := hw (mm_hset h.1 55 10 (I 0), h.2) (fun h1 => bd (F_M_wrongThree x1 x2 x3 h1) (fun (r3, h2) => kw (fun (z4 : Int32) (h5 : MH) => if 0 ≤ z4 then bd (F_M_foldsOf x1 x2 h5) (fun (r8, h7) => ck (mm_in x3 4) (bd (F_M_fewerBy (h7.1 57 (Int32.toNatClampNeg x3)) h7) (fun (r10, h9) => bd (F_M_atLeast (r8 - (x4 * r10)) (I 0) h9) (fun (r12, h11) => some (r12, h11))))) else bd (F_M_refuse z4 h5) (fun (r14, h13) => some (r14, h13))) (fun k6 => if ¬ r3 = 0 then k6 (I (-1)) h2 else bd (F_M_wrongNumber x4 (I 0) (I 40) h2) (fun (r18, h17) => k6 r18 h17))))
theorem A_M_left {x1 : Int32} {x2 : Int32} {x3 : Int32} {x4 : Int32} {h h' : MH} {v : Int32} (hF : F_M_left x1 x2 x3 x4 h = some (v, h')) : Ex 4 257 [.inr (.inl (some 55)), .inl x1, .inl x2, .inl x3, .inl x4] h (some (.inl v), h') := by
  unfold F_M_left at hF
  refine ex_of (d := 3) rfl rfl ?_
  refine g_aload_n (q := 1) rfl rfl rfl ?_
  refine g_iconst (q := 2) rfl rfl ?_
  refine g_putI (q := 5) rfl (fun _ => rfl) rfl ?_
  obtain ⟨h1, e_h1, hF⟩ := hw_I hF
  rw [← e_h1]
  refine g_aload_n (q := 6) rfl rfl rfl ?_
  refine g_iload_n (q := 7) rfl rfl rfl ?_
  refine g_iload_n (q := 8) rfl rfl rfl ?_
  refine g_iload_n (q := 9) rfl rfl rfl ?_
  obtain ⟨⟨r3, h2⟩, hC, hF⟩ := bd_I hF
  dsimp only at hF
  refine g_ci4 (q := 12) rfl rfl (fun _ => rfl) rfl (A_M_wrongThree hC) (by decide +kernel) rfl ?_
  obtain ⟨k6, e_k6, hF⟩ := kw_I hF
  have K16 : ∀ (z4 : Int32) (h5 : MH), k6 z4 h5 = some (v, h') → Go 3 257 27 (mm_lf [(0, .inr (.inl (some 55))), (1, .inl x1), (2, .inl x2), (3, .inl x3), (4, .inl x4)]) [.inl z4] h5 (some (.inl v), h') := by
    intro z4 h5 hF
    rw [e_k6] at hF
    dsimp only at hF
    refine g_istore (q := 29) rfl rfl ?_
    refine g_iload (q := 31) rfl rfl rfl ?_
    by_cases c15 : 0 ≤ z4
    · rw [if_pos c15] at hF
      refine g_ifT rfl (decide_eq_true c15) ?_
      refine g_aload_n (q := 44) rfl rfl rfl ?_
      refine g_iload_n (q := 45) rfl rfl rfl ?_
      refine g_iload_n (q := 46) rfl rfl rfl ?_
      obtain ⟨⟨r8, h7⟩, hC, hF⟩ := bd_I hF
      dsimp only at hF
      refine g_ci3 (q := 49) rfl rfl (fun _ => rfl) rfl (A_M_foldsOf hC) (by decide +kernel) rfl ?_
      refine g_iload (q := 51) rfl rfl rfl ?_
      refine g_aload_n (q := 52) rfl rfl rfl ?_
      refine g_getR (q := 55) rfl (fun _ => rfl) rfl ?_
      refine g_iload_n (q := 56) rfl rfl rfl ?_
      obtain ⟨hi, hF⟩ := ck_I hF
      refine g_iaload (q := 57) rfl rfl rfl hi rfl ?_
      obtain ⟨⟨r10, h9⟩, hC, hF⟩ := bd_I hF
      dsimp only at hF
      refine g_ci1 (q := 60) rfl rfl (fun _ => rfl) rfl (A_M_fewerBy hC) (by decide +kernel) rfl ?_
      refine g_imul (q := 61) rfl rfl ?_
      refine g_isub (q := 62) rfl rfl ?_
      refine g_iconst (q := 63) rfl rfl ?_
      obtain ⟨⟨r12, h11⟩, hC, hF⟩ := bd_I hF
      dsimp only at hF
      refine g_ci2 (q := 66) rfl rfl (fun _ => rfl) rfl (A_M_atLeast hC) (by decide +kernel) rfl ?_
      injection hF with hF
      injection hF with hv hh
      subst hv
      subst hh
      exact g_iret rfl
    · rw [if_neg c15] at hF
      refine g_ifF (q := 34) rfl (decide_eq_false c15) rfl ?_
      refine g_aload_n (q := 35) rfl rfl rfl ?_
      refine g_iload (q := 37) rfl rfl rfl ?_
      obtain ⟨⟨r14, h13⟩, hC, hF⟩ := bd_I hF
      dsimp only at hF
      refine g_ci2 (q := 40) rfl rfl (fun _ => rfl) rfl (A_M_refuse hC) (by decide +kernel) rfl ?_
      refine g_goto rfl ?_
      injection hF with hF
      injection hF with hv hh
      subst hv
      subst hh
      exact g_iret rfl
  clear e_k6
  by_cases c19 : ¬ r3 = 0
  · rw [if_pos c19] at hF
    refine g_ifT rfl (decide_eq_true c19) ?_
    refine g_iconst (q := 27) rfl rfl ?_
    exact go_sub (mm_subc rfl (mm_subc rfl (mm_subc rfl (mm_subc rfl (mm_subc rfl mm_sub0))))) (K16 _ _ hF)
  · rw [if_neg c19] at hF
    refine g_ifF (q := 15) rfl (decide_eq_false c19) rfl ?_
    refine g_iload (q := 17) rfl rfl rfl ?_
    refine g_iconst (q := 18) rfl rfl ?_
    refine g_bipush (q := 20) rfl (by decide +kernel) rfl ?_
    obtain ⟨⟨r18, h17⟩, hC, hF⟩ := bd_I hF
    dsimp only at hF
    refine g_ci3 (q := 23) rfl rfl (fun _ => rfl) rfl (A_M_wrongNumber hC) (by decide +kernel) rfl ?_
    refine g_goto rfl ?_
    exact go_sub (mm_subc rfl (mm_subc rfl (mm_subc rfl (mm_subc rfl (mm_subc rfl mm_sub0))))) (K16 _ _ hF)
def L_M_onesOf_4 : Nat → Int32 → Int32 → MH → Option (Int32 × MH)
  | 0, _, _, _ => none
  | n + 1, x1, x2, h => if x2 = 0 then some (x1, h) else L_M_onesOf_4 n (x1 + I 1) (x2 &&& (x2 - (I 1))) h
/-- BothCornersModel.onesOf(I)I -/
def F_M_onesOf (x0 : Int32) (h : MH) : Option (Int32 × MH) := bd (L_M_onesOf_4 5000 (I 0) x0 h) (fun (y2, h3) => some (y2, h3))
theorem A_L_M_onesOf_4 {r : MRs} : ∀ (n : Nat) (x1 : Int32) (x2 : Int32) (h : MH) (x : Int32 × MH), L_M_onesOf_4 n x1 x2 h = some x → (True) → (∀ (e1 : Int32) (h' : MH), x = (e1, h') → Go 0 258 20 (mm_lf [(1, .inl e1)]) [] h' r) → Go 0 258 4 (mm_lf [(1, .inl x1), (2, .inl x2)]) [] h r
  | 0, _, _, _, _, hF, _, _ => by cases hF
  | n + 1, x1, x2, h, x, hF, KR, KX => by
    have ih := fun a1 a2 => A_L_M_onesOf_4 (r := r) n a1 a2 
    unfold L_M_onesOf_4 at hF
    refine g_iload_n (q := 5) rfl rfl rfl ?_
    by_cases c1 : x2 = 0
    · rw [if_pos c1] at hF
      refine g_ifT rfl (decide_eq_true c1) ?_
      injection hF with hF
      subst hF
      exact go_sub (mm_subc rfl mm_sub0) (KX _ _ rfl)
    · rw [if_neg c1] at hF
      refine g_ifF (q := 8) rfl (decide_eq_false c1) rfl ?_
      refine g_iinc (q := 11) rfl rfl rfl ?_
      refine g_iload_n (q := 12) rfl rfl rfl ?_
      refine g_iload_n (q := 13) rfl rfl rfl ?_
      refine g_iconst (q := 14) rfl rfl ?_
      refine g_isub (q := 15) rfl rfl ?_
      refine g_iand (q := 16) rfl rfl ?_
      refine g_istore_n (q := 17) rfl rfl ?_
      refine g_goto rfl ?_
      refine go_sub (lo' := mm_lf [(1, .inl (x1 + I 1)), (2, .inl (x2 &&& (x2 - (I 1))))]) (mm_subc rfl (mm_subc rfl mm_sub0)) ?_
      exact ih _ _ _ _ hF KR KX
theorem A_M_onesOf {x0 : Int32} {h h' : MH} {v : Int32} (hF : F_M_onesOf x0 h = some (v, h')) : Ex 1 258 [.inl x0] h (some (.inl v), h') := by
  unfold F_M_onesOf at hF
  refine ex_of (d := 0) rfl rfl ?_
  refine g_iconst (q := 1) rfl rfl ?_
  refine g_istore_n (q := 2) rfl rfl ?_
  refine g_iload_n (q := 3) rfl rfl rfl ?_
  refine g_istore_n (q := 4) rfl rfl ?_
  refine go_sub (lo' := mm_lf [(1, .inl (I 0)), (2, .inl x0)]) (mm_subc rfl (mm_subc rfl mm_sub0)) ?_
  obtain ⟨⟨y2, h3⟩, hC, hF⟩ := bd_I hF
  dsimp only at hF
  refine A_L_M_onesOf_4 5000 _ _ _ _ hC trivial ?_
  intro _ _ e2
  cases e2
  refine g_iload_n (q := 21) rfl rfl rfl ?_
  injection hF with hF
  injection hF with hv hh
  subst hv
  subst hh
  exact g_iret rfl
def L_M_isEnough_20 (x1 : Int32) (x2 : Int32) (x3 : Int32) (x4 : Int32) : Nat → Int32 → Int32 → MH → Option (Int32 × MH)
  | 0, _, _, _ => none
  | n + 1, x5, x6, h => if (h.1 55 5) ≤ x6 then some (x5, h) else if ¬ x5 = 0 then L_M_isEnough_20 x1 x2 x3 x4 n (I 1) (x6 + I 1) h else bd (F_M_hasBit x1 x6 h) (fun (r2, h1) => if r2 = 0 then L_M_isEnough_20 x1 x2 x3 x4 n (I 0) (x6 + I 1) h1 else bd (F_M_timeOf x4 x6 x2 h1) (fun (r4, h3) => bd (F_M_bestTimeOf x4 x2 h3) (fun (r6, h5) => iw (if ¬ r4 = r6 then I 0 else I 1) (fun v7 => L_M_isEnough_20 x1 x2 x3 x4 n v7 (x6 + I 1) h5))))
def L_M_isEnough_5 (x1 : Int32) (x2 : Int32) : Nat → Int32 → Int32 → MH → Option (Int32 × MH)
  | 0, _, _, _ => none
  | n + 1, x3, x4, h => if (h.1 55 0) ≤ x4 then some (x3, h) else bd (L_M_isEnough_20 x1 x2 x3 x4 5000 (I 0) (I 0) h) (fun (y13, h14) => iw (if x3 = 0 then I 0 else (if y13 = 0 then I 0 else I 1)) (fun v15 => L_M_isEnough_5 x1 x2 n v15 (x4 + I 1) h14))
/-- BothCornersModel.isEnough(II)Z -/
def F_M_isEnough (x1 : Int32) (x2 : Int32) (h : MH) : Option (Int32 × MH) := bd (L_M_isEnough_5 x1 x2 5000 (I 1) (I 0) h) (fun (y20, h21) => cd (y20 &&& 1 = y20) (some (y20, h21)))
theorem A_L_M_isEnough_20 {x1 : Int32} {x2 : Int32} {x3 : Int32} {x4 : Int32} {r : MRs} : ∀ (n : Nat) (x5 : Int32) (x6 : Int32) (h : MH) (x : Int32 × MH), L_M_isEnough_20 x1 x2 x3 x4 n x5 x6 h = some x → (True) → (∀ (e5 : Int32) (h' : MH), x = (e5, h') → Go 6 259 75 (mm_lf [(0, .inr (.inl (some 55))), (1, .inl x1), (2, .inl x2), (3, .inl x3), (4, .inl x4), (5, .inl e5)]) [] h' r) → Go 6 259 20 (mm_lf [(0, .inr (.inl (some 55))), (1, .inl x1), (2, .inl x2), (3, .inl x3), (4, .inl x4), (5, .inl x5), (6, .inl x6)]) [] h r
  | 0, _, _, _, _, hF, _, _ => by cases hF
  | n + 1, x5, x6, h, x, hF, KR, KX => by
    have ih := fun a5 a6 => A_L_M_isEnough_20 (x1 := x1) (x2 := x2) (x3 := x3) (x4 := x4) (r := r) n a5 a6 
    unfold L_M_isEnough_20 at hF
    refine g_iload (q := 22) rfl rfl rfl ?_
    refine g_aload_n (q := 23) rfl rfl rfl ?_
    refine g_getI (q := 26) rfl (fun _ => rfl) rfl ?_
    by_cases c12 : (h.1 55 5) ≤ x6
    · rw [if_pos c12] at hF
      refine g_icmpT rfl (decide_eq_true c12) ?_
      injection hF with hF
      subst hF
      exact go_sub (mm_subc rfl (mm_subc rfl (mm_subc rfl (mm_subc rfl (mm_subc rfl (mm_subc rfl mm_sub0)))))) (KX _ _ rfl)
    · rw [if_neg c12] at hF
      refine g_icmpF (q := 29) rfl (decide_eq_false c12) rfl ?_
      refine g_iload (q := 31) rfl rfl rfl ?_
      by_cases c11 : ¬ x5 = 0
      · rw [if_pos c11] at hF
        refine g_ifT rfl (decide_eq_true c11) ?_
        refine g_iconst (q := 63) rfl rfl ?_
        refine g_goto rfl ?_
        refine g_istore (q := 69) rfl rfl ?_
        refine g_iinc (q := 72) rfl rfl rfl ?_
        refine g_goto rfl ?_
        refine go_sub (lo' := mm_lf [(0, .inr (.inl (some 55))), (1, .inl x1), (2, .inl x2), (3, .inl x3), (4, .inl x4), (5, .inl (I 1)), (6, .inl (x6 + I 1))]) (mm_subc rfl (mm_subc rfl (mm_subc rfl (mm_subc rfl (mm_subc rfl (mm_subc rfl (mm_subc rfl mm_sub0))))))) ?_
        exact ih _ _ _ _ hF KR KX
      · rw [if_neg c11] at hF
        refine g_ifF (q := 34) rfl (decide_eq_false c11) rfl ?_
        refine g_iload_n (q := 35) rfl rfl rfl ?_
        refine g_iload (q := 37) rfl rfl rfl ?_
        obtain ⟨⟨r2, h1⟩, hC, hF⟩ := bd_I hF
        dsimp only at hF
        refine g_ci2 (q := 40) rfl rfl (fun _ => rfl) rfl (A_M_hasBit hC) (by decide +kernel) rfl ?_
        by_cases c10 : r2 = 0
        · rw [if_pos c10] at hF
          refine g_ifT rfl (decide_eq_true c10) ?_
          refine g_iconst (q := 67) rfl rfl ?_
          refine g_istore (q := 69) rfl rfl ?_
          refine g_iinc (q := 72) rfl rfl rfl ?_
          refine g_goto rfl ?_
          refine go_sub (lo' := mm_lf [(0, .inr (.inl (some 55))), (1, .inl x1), (2, .inl x2), (3, .inl x3), (4, .inl x4), (5, .inl (I 0)), (6, .inl (x6 + I 1))]) (mm_subc rfl (mm_subc rfl (mm_subc rfl (mm_subc rfl (mm_subc rfl (mm_subc rfl (mm_subc rfl mm_sub0))))))) ?_
          exact ih _ _ _ _ hF KR KX
        · rw [if_neg c10] at hF
          refine g_ifF (q := 43) rfl (decide_eq_false c10) rfl ?_
          refine g_aload_n (q := 44) rfl rfl rfl ?_
          refine g_iload (q := 46) rfl rfl rfl ?_
          refine g_iload (q := 48) rfl rfl rfl ?_
          refine g_iload_n (q := 49) rfl rfl rfl ?_
          obtain ⟨⟨r4, h3⟩, hC, hF⟩ := bd_I hF
          dsimp only at hF
          refine g_ci4 (q := 52) rfl rfl (fun _ => rfl) rfl (A_M_timeOf hC) (by decide +kernel) rfl ?_
          refine g_aload_n (q := 53) rfl rfl rfl ?_
          refine g_iload (q := 55) rfl rfl rfl ?_
          refine g_iload_n (q := 56) rfl rfl rfl ?_
          obtain ⟨⟨r6, h5⟩, hC, hF⟩ := bd_I hF
          dsimp only at hF
          refine g_ci3 (q := 59) rfl rfl (fun _ => rfl) rfl (A_M_bestTimeOf hC) (by decide +kernel) rfl ?_
          obtain ⟨v7, e_v7, hF⟩ := iw_I hF
          suffices K8 : Go 6 259 67 (mm_lf [(0, .inr (.inl (some 55))), (1, .inl x1), (2, .inl x2), (3, .inl x3), (4, .inl x4), (6, .inl x6)]) [.inl v7] h5 r by
            clear hF
            by_cases c9 : ¬ r4 = r6
            · simp only [if_pos c9] at e_v7
              subst e_v7
              refine g_icmpT rfl (decide_eq_true c9) ?_
              refine g_iconst (q := 67) rfl rfl ?_
              exact go_sub (mm_subc rfl (mm_subc rfl (mm_subc rfl (mm_subc rfl (mm_subc rfl (mm_subc rfl mm_sub0)))))) K8
            · simp only [if_neg c9] at e_v7
              subst e_v7
              refine g_icmpF (q := 62) rfl (decide_eq_false c9) rfl ?_
              refine g_iconst (q := 63) rfl rfl ?_
              refine g_goto rfl ?_
              exact go_sub (mm_subc rfl (mm_subc rfl (mm_subc rfl (mm_subc rfl (mm_subc rfl (mm_subc rfl mm_sub0)))))) K8
          clear e_v7
          refine g_istore (q := 69) rfl rfl ?_
          refine g_iinc (q := 72) rfl rfl rfl ?_
          refine g_goto rfl ?_
          refine go_sub (lo' := mm_lf [(0, .inr (.inl (some 55))), (1, .inl x1), (2, .inl x2), (3, .inl x3), (4, .inl x4), (5, .inl v7), (6, .inl (x6 + I 1))]) (mm_subc rfl (mm_subc rfl (mm_subc rfl (mm_subc rfl (mm_subc rfl (mm_subc rfl (mm_subc rfl mm_sub0))))))) ?_
          exact ih _ _ _ _ hF KR KX
theorem A_L_M_isEnough_5 {x1 : Int32} {x2 : Int32} {r : MRs} : ∀ (n : Nat) (x3 : Int32) (x4 : Int32) (h : MH) (x : Int32 × MH), L_M_isEnough_5 x1 x2 n x3 x4 h = some x → (True) → (∀ (e3 : Int32) (h' : MH), x = (e3, h') → Go 6 259 96 (mm_lf [(3, .inl e3)]) [] h' r) → Go 6 259 5 (mm_lf [(0, .inr (.inl (some 55))), (1, .inl x1), (2, .inl x2), (3, .inl x3), (4, .inl x4)]) [] h r
  | 0, _, _, _, _, hF, _, _ => by cases hF
  | n + 1, x3, x4, h, x, hF, KR, KX => by
    have ih := fun a3 a4 => A_L_M_isEnough_5 (x1 := x1) (x2 := x2) (r := r) n a3 a4 
    unfold L_M_isEnough_5 at hF
    refine g_iload (q := 7) rfl rfl rfl ?_
    refine g_aload_n (q := 8) rfl rfl rfl ?_
    refine g_getI (q := 11) rfl (fun _ => rfl) rfl ?_
    by_cases c19 : (h.1 55 0) ≤ x4
    · rw [if_pos c19] at hF
      refine g_icmpT rfl (decide_eq_true c19) ?_
      injection hF with hF
      subst hF
      exact go_sub (mm_subc rfl mm_sub0) (KX _ _ rfl)
    · rw [if_neg c19] at hF
      refine g_icmpF (q := 14) rfl (decide_eq_false c19) rfl ?_
      refine g_iconst (q := 15) rfl rfl ?_
      refine g_istore (q := 17) rfl rfl ?_
      refine g_iconst (q := 18) rfl rfl ?_
      refine g_istore (q := 20) rfl rfl ?_
      refine go_sub (lo' := mm_lf [(0, .inr (.inl (some 55))), (1, .inl x1), (2, .inl x2), (3, .inl x3), (4, .inl x4), (5, .inl (I 0)), (6, .inl (I 0))]) (mm_subc rfl (mm_subc rfl (mm_subc rfl (mm_subc rfl (mm_subc rfl (mm_subc rfl (mm_subc rfl mm_sub0))))))) ?_
      obtain ⟨⟨y13, h14⟩, hC, hF⟩ := bd_I hF
      dsimp only at hF
      refine A_L_M_isEnough_20 5000 _ _ _ _ hC trivial ?_
      intro _ _ e2
      cases e2
      refine g_iload_n (q := 76) rfl rfl rfl ?_
      obtain ⟨v15, e_v15, hF⟩ := iw_I hF
      suffices K16 : Go 6 259 89 (mm_lf [(0, .inr (.inl (some 55))), (1, .inl x1), (2, .inl x2), (4, .inl x4)]) [.inl v15] h14 r by
        clear hF
        by_cases c17 : x3 = 0
        · simp only [if_pos c17] at e_v15
          subst e_v15
          refine g_ifT rfl (decide_eq_true c17) ?_
          refine g_iconst (q := 89) rfl rfl ?_
          exact go_sub (mm_subc rfl (mm_subc rfl (mm_subc rfl (mm_subc rfl mm_sub0)))) K16
        · simp only [if_neg c17] at e_v15
          refine g_ifF (q := 79) rfl (decide_eq_false c17) rfl ?_
          refine g_iload (q := 81) rfl rfl rfl ?_
          by_cases c18 : y13 = 0
          · simp only [if_pos c18] at e_v15
            subst e_v15
            refine g_ifT rfl (decide_eq_true c18) ?_
            refine g_iconst (q := 89) rfl rfl ?_
            exact go_sub (mm_subc rfl (mm_subc rfl (mm_subc rfl (mm_subc rfl mm_sub0)))) K16
          · simp only [if_neg c18] at e_v15
            subst e_v15
            refine g_ifF (q := 84) rfl (decide_eq_false c18) rfl ?_
            refine g_iconst (q := 85) rfl rfl ?_
            refine g_goto rfl ?_
            exact go_sub (mm_subc rfl (mm_subc rfl (mm_subc rfl (mm_subc rfl mm_sub0)))) K16
      clear e_v15
      refine g_istore_n (q := 90) rfl rfl ?_
      refine g_iinc (q := 93) rfl rfl rfl ?_
      refine g_goto rfl ?_
      refine go_sub (lo' := mm_lf [(0, .inr (.inl (some 55))), (1, .inl x1), (2, .inl x2), (3, .inl v15), (4, .inl (x4 + I 1))]) (mm_subc rfl (mm_subc rfl (mm_subc rfl (mm_subc rfl (mm_subc rfl mm_sub0))))) ?_
      exact ih _ _ _ _ hF KR KX
theorem A_M_isEnough {x1 : Int32} {x2 : Int32} {h h' : MH} {v : Int32} (hF : F_M_isEnough x1 x2 h = some (v, h')) : Ex 7 259 [.inr (.inl (some 55)), .inl x1, .inl x2] h (some (.inl v), h') := by
  unfold F_M_isEnough at hF
  refine ex_of (d := 6) rfl rfl ?_
  refine g_iconst (q := 1) rfl rfl ?_
  refine g_istore_n (q := 2) rfl rfl ?_
  refine g_iconst (q := 3) rfl rfl ?_
  refine g_istore (q := 5) rfl rfl ?_
  refine go_sub (lo' := mm_lf [(0, .inr (.inl (some 55))), (1, .inl x1), (2, .inl x2), (3, .inl (I 1)), (4, .inl (I 0))]) (mm_subc rfl (mm_subc rfl (mm_subc rfl (mm_subc rfl (mm_subc rfl mm_sub0))))) ?_
  obtain ⟨⟨y20, h21⟩, hC, hF⟩ := bd_I hF
  dsimp only at hF
  refine A_L_M_isEnough_5 5000 _ _ _ _ hC trivial ?_
  intro _ _ e2
  cases e2
  refine g_iload_n (q := 97) rfl rfl rfl ?_
  obtain ⟨hz, hF⟩ := cd_I hF
  injection hF with hF
  injection hF with hv hh
  subst hv
  subst hh
  exact g_zret rfl hz
