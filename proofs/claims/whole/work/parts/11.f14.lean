-- decompiled by wip/whole/dec.py: what a method does (F_), and that the mini machine does it (A_)
def L_M_bestWayOf_6 (x1 : Int32) (x2 : Int32) : Nat → Int32 → Int32 → MH → Option (Int32 × MH)
  | 0, _, _, _ => none
  | n + 1, x3, x4, h => if (h.1 55 5) ≤ x4 then some (x3, h) else if x3 < 0 then L_M_bestWayOf_6 x1 x2 n x4 (x4 + I 1) h else bd (F_M_timeOf x1 x4 x2 h) (fun (r2, h1) => bd (F_M_timeOf x1 x3 x2 h1) (fun (r4, h3) => iw (if r4 ≤ r2 then x3 else x4) (fun v5 => L_M_bestWayOf_6 x1 x2 n v5 (x4 + I 1) h3)))
/-- BothCornersModel.bestWayOf(II)I -/
def F_M_bestWayOf (x1 : Int32) (x2 : Int32) (h : MH) : Option (Int32 × MH) := bd (L_M_bestWayOf_6 x1 x2 5000 (I (-9)) (I 0) h) (fun (y10, h11) => some (y10, h11))
theorem A_L_M_bestWayOf_6 {x1 : Int32} {x2 : Int32} {r : MRs} : ∀ (n : Nat) (x3 : Int32) (x4 : Int32) (h : MH) (x : Int32 × MH), L_M_bestWayOf_6 x1 x2 n x3 x4 h = some x → (True) → (∀ (e3 : Int32) (h' : MH), x = (e3, h') → Go 4 172 50 (mm_lf [(3, .inl e3)]) [] h' r) → Go 4 172 6 (mm_lf [(0, .inr (.inl (some 55))), (1, .inl x1), (2, .inl x2), (3, .inl x3), (4, .inl x4)]) [] h r
  | 0, _, _, _, _, hF, _, _ => by cases hF
  | n + 1, x3, x4, h, x, hF, KR, KX => by
    have ih := fun a3 a4 => A_L_M_bestWayOf_6 (x1 := x1) (x2 := x2) (r := r) n a3 a4 
    unfold L_M_bestWayOf_6 at hF
    refine g_iload (q := 8) rfl rfl rfl ?_
    refine g_aload_n (q := 9) rfl rfl rfl ?_
    refine g_getI (q := 12) rfl (fun _ => rfl) rfl ?_
    by_cases c9 : (h.1 55 5) ≤ x4
    · rw [if_pos c9] at hF
      refine g_icmpT rfl (decide_eq_true c9) ?_
      injection hF with hF
      subst hF
      exact go_sub (mm_subc rfl mm_sub0) (KX _ _ rfl)
    · rw [if_neg c9] at hF
      refine g_icmpF (q := 15) rfl (decide_eq_false c9) rfl ?_
      refine g_iload_n (q := 16) rfl rfl rfl ?_
      by_cases c8 : x3 < 0
      · rw [if_pos c8] at hF
        refine g_ifT rfl (decide_eq_true c8) ?_
        refine g_iload (q := 39) rfl rfl rfl ?_
        refine g_goto rfl ?_
        refine g_istore_n (q := 44) rfl rfl ?_
        refine g_iinc (q := 47) rfl rfl rfl ?_
        refine g_goto rfl ?_
        refine go_sub (lo' := mm_lf [(0, .inr (.inl (some 55))), (1, .inl x1), (2, .inl x2), (3, .inl x4), (4, .inl (x4 + I 1))]) (mm_subc rfl (mm_subc rfl (mm_subc rfl (mm_subc rfl (mm_subc rfl mm_sub0))))) ?_
        exact ih _ _ _ _ hF KR KX
      · rw [if_neg c8] at hF
        refine g_ifF (q := 19) rfl (decide_eq_false c8) rfl ?_
        refine g_aload_n (q := 20) rfl rfl rfl ?_
        refine g_iload_n (q := 21) rfl rfl rfl ?_
        refine g_iload (q := 23) rfl rfl rfl ?_
        refine g_iload_n (q := 24) rfl rfl rfl ?_
        obtain ⟨⟨r2, h1⟩, hC, hF⟩ := bd_I hF
        dsimp only at hF
        refine g_ci4 (q := 27) rfl rfl (fun _ => rfl) rfl (A_M_timeOf hC) (by decide +kernel) rfl ?_
        refine g_aload_n (q := 28) rfl rfl rfl ?_
        refine g_iload_n (q := 29) rfl rfl rfl ?_
        refine g_iload_n (q := 30) rfl rfl rfl ?_
        refine g_iload_n (q := 31) rfl rfl rfl ?_
        obtain ⟨⟨r4, h3⟩, hC, hF⟩ := bd_I hF
        dsimp only at hF
        refine g_ci4 (q := 34) rfl rfl (fun _ => rfl) rfl (A_M_timeOf hC) (by decide +kernel) rfl ?_
        obtain ⟨v5, e_v5, hF⟩ := iw_I hF
        suffices K6 : Go 4 172 43 (mm_lf [(0, .inr (.inl (some 55))), (1, .inl x1), (2, .inl x2), (4, .inl x4)]) [.inl v5] h3 r by
          clear hF
          by_cases c7 : r4 ≤ r2
          · simp only [if_pos c7] at e_v5
            subst e_v5
            refine g_icmpT rfl (decide_eq_true c7) ?_
            refine g_iload_n (q := 43) rfl rfl rfl ?_
            exact go_sub (mm_subc rfl (mm_subc rfl (mm_subc rfl (mm_subc rfl mm_sub0)))) K6
          · simp only [if_neg c7] at e_v5
            subst e_v5
            refine g_icmpF (q := 37) rfl (decide_eq_false c7) rfl ?_
            refine g_iload (q := 39) rfl rfl rfl ?_
            refine g_goto rfl ?_
            exact go_sub (mm_subc rfl (mm_subc rfl (mm_subc rfl (mm_subc rfl mm_sub0)))) K6
        clear e_v5
        refine g_istore_n (q := 44) rfl rfl ?_
        refine g_iinc (q := 47) rfl rfl rfl ?_
        refine g_goto rfl ?_
        refine go_sub (lo' := mm_lf [(0, .inr (.inl (some 55))), (1, .inl x1), (2, .inl x2), (3, .inl v5), (4, .inl (x4 + I 1))]) (mm_subc rfl (mm_subc rfl (mm_subc rfl (mm_subc rfl (mm_subc rfl mm_sub0))))) ?_
        exact ih _ _ _ _ hF KR KX
theorem A_M_bestWayOf {x1 : Int32} {x2 : Int32} {h h' : MH} {v : Int32} (hF : F_M_bestWayOf x1 x2 h = some (v, h')) : Ex 5 172 [.inr (.inl (some 55)), .inl x1, .inl x2] h (some (.inl v), h') := by
  unfold F_M_bestWayOf at hF
  refine ex_of (d := 4) rfl rfl ?_
  refine g_bipush (q := 2) rfl (by decide +kernel) rfl ?_
  refine g_istore_n (q := 3) rfl rfl ?_
  refine g_iconst (q := 4) rfl rfl ?_
  refine g_istore (q := 6) rfl rfl ?_
  refine go_sub (lo' := mm_lf [(0, .inr (.inl (some 55))), (1, .inl x1), (2, .inl x2), (3, .inl (I (-9))), (4, .inl (I 0))]) (mm_subc rfl (mm_subc rfl (mm_subc rfl (mm_subc rfl (mm_subc rfl mm_sub0))))) ?_
  obtain ⟨⟨y10, h11⟩, hC, hF⟩ := bd_I hF
  dsimp only at hF
  refine A_L_M_bestWayOf_6 5000 _ _ _ _ hC trivial ?_
  intro _ _ e2
  cases e2
  refine g_iload_n (q := 51) rfl rfl rfl ?_
  injection hF with hF
  injection hF with hv hh
  subst hv
  subst hh
  exact g_iret rfl
/-- BothCornersModel.bestWay(II)I -/
def F_M_bestWay (x1 : Int32) (x2 : Int32) (h : MH) : Option (Int32 × MH) := hw (mm_hset h.1 55 10 (I 0), h.2) (fun h1 => bd (F_M_isBed x1 h1) (fun (r3, h2) => if r3 = 0 then bd (F_M_refuse (I (-1)) h2) (fun (r5, h4) => some (r5, h4)) else bd (F_M_isOne x2 h2) (fun (r7, h6) => if r7 = 0 then bd (F_M_refuse (I (-1)) h6) (fun (r9, h8) => some (r9, h8)) else bd (F_M_bestWayOf x1 x2 h6) (fun (r11, h10) => some (r11, h10)))))
theorem A_M_bestWay {x1 : Int32} {x2 : Int32} {h h' : MH} {v : Int32} (hF : F_M_bestWay x1 x2 h = some (v, h')) : Ex 6 210 [.inr (.inl (some 55)), .inl x1, .inl x2] h (some (.inl v), h') := by
  unfold F_M_bestWay at hF
  refine ex_of (d := 5) rfl rfl ?_
  refine g_aload_n (q := 1) rfl rfl rfl ?_
  refine g_iconst (q := 2) rfl rfl ?_
  refine g_putI (q := 5) rfl (fun _ => rfl) rfl ?_
  obtain ⟨h1, e_h1, hF⟩ := hw_I hF
  rw [← e_h1]
  refine g_aload_n (q := 6) rfl rfl rfl ?_
  refine g_iload_n (q := 7) rfl rfl rfl ?_
  obtain ⟨⟨r3, h2⟩, hC, hF⟩ := bd_I hF
  dsimp only at hF
  refine g_ci2 (q := 10) rfl rfl (fun _ => rfl) rfl (A_M_isBed hC) (by decide +kernel) rfl ?_
  by_cases c13 : r3 = 0
  · rw [if_pos c13] at hF
    refine g_ifT rfl (decide_eq_true c13) ?_
    refine g_aload_n (q := 31) rfl rfl rfl ?_
    refine g_iconst (q := 32) rfl rfl ?_
    obtain ⟨⟨r5, h4⟩, hC, hF⟩ := bd_I hF
    dsimp only at hF
    refine g_ci2 (q := 35) rfl rfl (fun _ => rfl) rfl (A_M_refuse hC) (by decide +kernel) rfl ?_
    injection hF with hF
    injection hF with hv hh
    subst hv
    subst hh
    exact g_iret rfl
  · rw [if_neg c13] at hF
    refine g_ifF (q := 13) rfl (decide_eq_false c13) rfl ?_
    refine g_aload_n (q := 14) rfl rfl rfl ?_
    refine g_iload_n (q := 15) rfl rfl rfl ?_
    obtain ⟨⟨r7, h6⟩, hC, hF⟩ := bd_I hF
    dsimp only at hF
    refine g_ci2 (q := 18) rfl rfl (fun _ => rfl) rfl (A_M_isOne hC) (by decide +kernel) rfl ?_
    by_cases c12 : r7 = 0
    · rw [if_pos c12] at hF
      refine g_ifT rfl (decide_eq_true c12) ?_
      refine g_aload_n (q := 31) rfl rfl rfl ?_
      refine g_iconst (q := 32) rfl rfl ?_
      obtain ⟨⟨r9, h8⟩, hC, hF⟩ := bd_I hF
      dsimp only at hF
      refine g_ci2 (q := 35) rfl rfl (fun _ => rfl) rfl (A_M_refuse hC) (by decide +kernel) rfl ?_
      injection hF with hF
      injection hF with hv hh
      subst hv
      subst hh
      exact g_iret rfl
    · rw [if_neg c12] at hF
      refine g_ifF (q := 21) rfl (decide_eq_false c12) rfl ?_
      refine g_aload_n (q := 22) rfl rfl rfl ?_
      refine g_iload_n (q := 23) rfl rfl rfl ?_
      refine g_iload_n (q := 24) rfl rfl rfl ?_
      obtain ⟨⟨r11, h10⟩, hC, hF⟩ := bd_I hF
      dsimp only at hF
      refine g_ci3 (q := 27) rfl rfl (fun _ => rfl) rfl (A_M_bestWayOf hC) (by decide +kernel) rfl ?_
      refine g_goto rfl ?_
      injection hF with hF
      injection hF with hv hh
      subst hv
      subst hh
      exact g_iret rfl
/-- BothCornersModel.isAnew(IIIII)Z -/
def F_M_isAnew (x1 : Int32) (x2 : Int32) (x3 : Int32) (x4 : Int32) (x5 : Int32) (h : MH) : Option (Int32 × MH) := ck (mm_in x2 4) (bd (F_M_fewerBy (h.1 57 (Int32.toNatClampNeg x2)) h) (fun (r2, h1) => bd (F_M_foldsOf x1 x3 h1) (fun (r4, h3) => if (r4 - (x5 * r2)) ≤ 0 then some (I 0, h3) else bd (F_M_timeOf x1 x4 x2 h3) (fun (r6, h5) => bd (F_M_shakesFor (r4 - (x5 * r2)) r2 h5) (fun (r8, h7) => iw (if ((I 3) * r8) ≤ r6 then I 0 else I 1) (fun v9 => cd (v9 &&& 1 = v9) (some (v9, h7))))))))
theorem A_M_isAnew {x1 : Int32} {x2 : Int32} {x3 : Int32} {x4 : Int32} {x5 : Int32} {h h' : MH} {v : Int32} (hF : F_M_isAnew x1 x2 x3 x4 x5 h = some (v, h')) : Ex 5 211 [.inr (.inl (some 55)), .inl x1, .inl x2, .inl x3, .inl x4, .inl x5] h (some (.inl v), h') := by
  unfold F_M_isAnew at hF
  refine ex_of (d := 4) rfl rfl ?_
  refine g_aload_n (q := 1) rfl rfl rfl ?_
  refine g_getR (q := 4) rfl (fun _ => rfl) rfl ?_
  refine g_iload_n (q := 5) rfl rfl rfl ?_
  obtain ⟨hi, hF⟩ := ck_I hF
  refine g_iaload (q := 6) rfl rfl rfl hi rfl ?_
  obtain ⟨⟨r2, h1⟩, hC, hF⟩ := bd_I hF
  dsimp only at hF
  refine g_ci1 (q := 9) rfl rfl (fun _ => rfl) rfl (A_M_fewerBy hC) (by decide +kernel) rfl ?_
  refine g_istore (q := 11) rfl rfl ?_
  refine g_aload_n (q := 12) rfl rfl rfl ?_
  refine g_iload_n (q := 13) rfl rfl rfl ?_
  refine g_iload_n (q := 14) rfl rfl rfl ?_
  obtain ⟨⟨r4, h3⟩, hC, hF⟩ := bd_I hF
  dsimp only at hF
  refine g_ci3 (q := 17) rfl rfl (fun _ => rfl) rfl (A_M_foldsOf hC) (by decide +kernel) rfl ?_
  refine g_iload (q := 19) rfl rfl rfl ?_
  refine g_iload (q := 21) rfl rfl rfl ?_
  refine g_imul (q := 22) rfl rfl ?_
  refine g_isub (q := 23) rfl rfl ?_
  refine g_istore (q := 25) rfl rfl ?_
  refine g_iload (q := 27) rfl rfl rfl ?_
  by_cases c12 : (r4 - (x5 * r2)) ≤ 0
  · rw [if_pos c12] at hF
    refine g_ifT rfl (decide_eq_true c12) ?_
    refine g_iconst (q := 55) rfl rfl ?_
    injection hF with hF
    injection hF with hv hh
    subst hv
    subst hh
    exact g_zret rfl (by decide +kernel)
  · rw [if_neg c12] at hF
    refine g_ifF (q := 30) rfl (decide_eq_false c12) rfl ?_
    refine g_aload_n (q := 31) rfl rfl rfl ?_
    refine g_iload_n (q := 32) rfl rfl rfl ?_
    refine g_iload (q := 34) rfl rfl rfl ?_
    refine g_iload_n (q := 35) rfl rfl rfl ?_
    obtain ⟨⟨r6, h5⟩, hC, hF⟩ := bd_I hF
    dsimp only at hF
    refine g_ci4 (q := 38) rfl rfl (fun _ => rfl) rfl (A_M_timeOf hC) (by decide +kernel) rfl ?_
    refine g_iconst (q := 39) rfl rfl ?_
    refine g_iload (q := 41) rfl rfl rfl ?_
    refine g_iload (q := 43) rfl rfl rfl ?_
    obtain ⟨⟨r8, h7⟩, hC, hF⟩ := bd_I hF
    dsimp only at hF
    refine g_ci2 (q := 46) rfl rfl (fun _ => rfl) rfl (A_M_shakesFor hC) (by decide +kernel) rfl ?_
    refine g_imul (q := 47) rfl rfl ?_
    obtain ⟨v9, e_v9, hF⟩ := iw_I hF
    suffices K10 : Go 4 211 55 (mm_lf []) [.inl v9] h7 (some (.inl v), h') by
      clear hF
      by_cases c11 : ((I 3) * r8) ≤ r6
      · simp only [if_pos c11] at e_v9
        subst e_v9
        refine g_icmpT rfl (decide_eq_true c11) ?_
        refine g_iconst (q := 55) rfl rfl ?_
        exact go_sub mm_sub0 K10
      · simp only [if_neg c11] at e_v9
        subst e_v9
        refine g_icmpF (q := 50) rfl (decide_eq_false c11) rfl ?_
        refine g_iconst (q := 51) rfl rfl ?_
        refine g_goto rfl ?_
        exact go_sub mm_sub0 K10
    clear e_v9
    obtain ⟨hz, hF⟩ := cd_I hF
    injection hF with hF
    injection hF with hv hh
    subst hv
    subst hh
    exact g_zret rfl hz
def L_M_anew_99 (x1 : Int32) (x2 : Int32) (x3 : Int32) (x4 : Int32) : Nat → Int32 → MH → Option (Int32 × MH)
  | 0, _, _ => none
  | n + 1, x8, h => bd (F_M_isAnew x1 x2 x3 x4 x8 h) (fun (r13, h12) => if r13 = 0 then some (x8, h12) else L_M_anew_99 x1 x2 x3 x4 n (x8 + I 1) h12)
/-- BothCornersModel.anew(IIIIII)I -/
def F_M_anew (x1 : Int32) (x2 : Int32) (x3 : Int32) (x4 : Int32) (x5 : Int32) (x6 : Int32) (h : MH) : Option (Int32 × MH) := hw (mm_hset h.1 55 10 (I 0), h.2) (fun h1 => bd (F_M_isWay x4 h1) (fun (r3, h2) => kw (fun (z4 : Int32) (h5 : MH) => kw (fun (z7 : Int32) (h8 : MH) => bd (F_M_wrongBit z7 x6 (I 1) h8) (fun (r11, h10) => if 0 ≤ r11 then if ¬ x6 = 0 then bd (L_M_anew_99 x1 x2 x3 x4 5000 (I 0) h10) (fun (y15, h16) => some (y15, h16)) else bd (F_M_isAnew x1 x2 x3 x4 x5 h10) (fun (r18, h17) => iw (if r18 = 0 then I 0 else I 1) (fun v19 => some (v19, h17))) else bd (F_M_refuse r11 h10) (fun (r24, h23) => some (r24, h23)))) (fun k9 => if ¬ z4 = 0 then k9 z4 h5 else bd (F_M_wrongNumber x5 (I 0) (I 40) h5) (fun (r28, h27) => k9 r28 h27))) (fun k6 => if r3 = 0 then k6 (I (-1)) h2 else if x4 = x3 then k6 (I (-1)) h2 else bd (F_M_wrongThree x1 x3 x2 h2) (fun (r32, h31) => k6 r32 h31))))
theorem A_L_M_anew_99 {x1 : Int32} {x2 : Int32} {x3 : Int32} {x4 : Int32} {r : MRs} : ∀ (n : Nat) (x8 : Int32) (h : MH) (x : Int32 × MH), L_M_anew_99 x1 x2 x3 x4 n x8 h = some x → (True) → (∀ (e8 : Int32) (h' : MH), x = (e8, h') → Go 5 212 119 (mm_lf [(8, .inl e8)]) [] h' r) → Go 5 212 99 (mm_lf [(0, .inr (.inl (some 55))), (1, .inl x1), (2, .inl x2), (3, .inl x3), (4, .inl x4), (8, .inl x8)]) [] h r
  | 0, _, _, _, hF, _, _ => by cases hF
  | n + 1, x8, h, x, hF, KR, KX => by
    have ih := fun a8 => A_L_M_anew_99 (x1 := x1) (x2 := x2) (x3 := x3) (x4 := x4) (r := r) n a8 
    unfold L_M_anew_99 at hF
    refine g_aload_n (q := 100) rfl rfl rfl ?_
    refine g_iload_n (q := 101) rfl rfl rfl ?_
    refine g_iload_n (q := 102) rfl rfl rfl ?_
    refine g_iload_n (q := 103) rfl rfl rfl ?_
    refine g_iload (q := 105) rfl rfl rfl ?_
    refine g_iload (q := 107) rfl rfl rfl ?_
    obtain ⟨⟨r13, h12⟩, hC, hF⟩ := bd_I hF
    dsimp only at hF
    refine g_ci6 (q := 110) rfl rfl (fun _ => rfl) rfl (A_M_isAnew hC) (by decide +kernel) rfl ?_
    by_cases c14 : r13 = 0
    · rw [if_pos c14] at hF
      refine g_ifT rfl (decide_eq_true c14) ?_
      injection hF with hF
      subst hF
      exact go_sub (mm_subc rfl mm_sub0) (KX _ _ rfl)
    · rw [if_neg c14] at hF
      refine g_ifF (q := 113) rfl (decide_eq_false c14) rfl ?_
      refine g_iinc (q := 116) rfl rfl rfl ?_
      refine g_goto rfl ?_
      refine go_sub (lo' := mm_lf [(0, .inr (.inl (some 55))), (1, .inl x1), (2, .inl x2), (3, .inl x3), (4, .inl x4), (8, .inl (x8 + I 1))]) (mm_subc rfl (mm_subc rfl (mm_subc rfl (mm_subc rfl (mm_subc rfl (mm_subc rfl mm_sub0)))))) ?_
      exact ih _ _ _ hF KR KX
theorem A_M_anew {x1 : Int32} {x2 : Int32} {x3 : Int32} {x4 : Int32} {x5 : Int32} {x6 : Int32} {h h' : MH} {v : Int32} (hF : F_M_anew x1 x2 x3 x4 x5 x6 h = some (v, h')) : Ex 6 212 [.inr (.inl (some 55)), .inl x1, .inl x2, .inl x3, .inl x4, .inl x5, .inl x6] h (some (.inl v), h') := by
  unfold F_M_anew at hF
  refine ex_of (d := 5) rfl rfl ?_
  refine g_aload_n (q := 1) rfl rfl rfl ?_
  refine g_iconst (q := 2) rfl rfl ?_
  refine g_putI (q := 5) rfl (fun _ => rfl) rfl ?_
  obtain ⟨h1, e_h1, hF⟩ := hw_I hF
  rw [← e_h1]
  refine g_aload_n (q := 6) rfl rfl rfl ?_
  refine g_iload (q := 8) rfl rfl rfl ?_
  obtain ⟨⟨r3, h2⟩, hC, hF⟩ := bd_I hF
  dsimp only at hF
  refine g_ci2 (q := 11) rfl rfl (fun _ => rfl) rfl (A_M_isWay hC) (by decide +kernel) rfl ?_
  obtain ⟨k6, e_k6, hF⟩ := kw_I hF
  have K30 : ∀ (z4 : Int32) (h5 : MH), k6 z4 h5 = some (v, h') → Go 5 212 31 (mm_lf [(0, .inr (.inl (some 55))), (1, .inl x1), (2, .inl x2), (3, .inl x3), (4, .inl x4), (5, .inl x5), (6, .inl x6)]) [.inl z4] h5 (some (.inl v), h') := by
    intro z4 h5 hF
    rw [e_k6] at hF
    dsimp only at hF
    refine g_istore (q := 33) rfl rfl ?_
    refine g_iload (q := 35) rfl rfl rfl ?_
    obtain ⟨k9, e_k9, hF⟩ := kw_I hF
    have K26 : ∀ (z7 : Int32) (h8 : MH), k9 z7 h8 = some (v, h') → Go 5 212 51 (mm_lf [(0, .inr (.inl (some 55))), (1, .inl x1), (2, .inl x2), (3, .inl x3), (4, .inl x4), (5, .inl x5), (6, .inl x6)]) [.inl z7] h8 (some (.inl v), h') := by
      intro z7 h8 hF
      rw [e_k9] at hF
      dsimp only at hF
      refine g_iload (q := 53) rfl rfl rfl ?_
      refine g_iconst (q := 54) rfl rfl ?_
      obtain ⟨⟨r11, h10⟩, hC, hF⟩ := bd_I hF
      dsimp only at hF
      refine g_ci3 (q := 57) rfl rfl (fun _ => rfl) rfl (A_M_wrongBit hC) (by decide +kernel) rfl ?_
      refine g_istore (q := 59) rfl rfl ?_
      refine g_iload (q := 61) rfl rfl rfl ?_
      by_cases c25 : 0 ≤ r11
      · rw [if_pos c25] at hF
        refine g_ifT rfl (decide_eq_true c25) ?_
        refine g_iload (q := 73) rfl rfl rfl ?_
        by_cases c22 : ¬ x6 = 0
        · rw [if_pos c22] at hF
          refine g_ifT rfl (decide_eq_true c22) ?_
          refine g_iconst (q := 97) rfl rfl ?_
          refine g_istore (q := 99) rfl rfl ?_
          refine go_sub (lo' := mm_lf [(0, .inr (.inl (some 55))), (1, .inl x1), (2, .inl x2), (3, .inl x3), (4, .inl x4), (8, .inl (I 0))]) (mm_subc rfl (mm_subc rfl (mm_subc rfl (mm_subc rfl (mm_subc rfl (mm_subc rfl mm_sub0)))))) ?_
          obtain ⟨⟨y15, h16⟩, hC, hF⟩ := bd_I hF
          dsimp only at hF
          refine A_L_M_anew_99 5000 _ _ _ hC trivial ?_
          intro _ _ e2
          cases e2
          refine g_iload (q := 121) rfl rfl rfl ?_
          injection hF with hF
          injection hF with hv hh
          subst hv
          subst hh
          exact g_iret rfl
        · rw [if_neg c22] at hF
          refine g_ifF (q := 76) rfl (decide_eq_false c22) rfl ?_
          refine g_aload_n (q := 77) rfl rfl rfl ?_
          refine g_iload_n (q := 78) rfl rfl rfl ?_
          refine g_iload_n (q := 79) rfl rfl rfl ?_
          refine g_iload_n (q := 80) rfl rfl rfl ?_
          refine g_iload (q := 82) rfl rfl rfl ?_
          refine g_iload (q := 84) rfl rfl rfl ?_
          obtain ⟨⟨r18, h17⟩, hC, hF⟩ := bd_I hF
          dsimp only at hF
          refine g_ci6 (q := 87) rfl rfl (fun _ => rfl) rfl (A_M_isAnew hC) (by decide +kernel) rfl ?_
          obtain ⟨v19, e_v19, hF⟩ := iw_I hF
          suffices K20 : Go 5 212 95 (mm_lf []) [.inl v19] h17 (some (.inl v), h') by
            clear hF
            by_cases c21 : r18 = 0
            · simp only [if_pos c21] at e_v19
              subst e_v19
              refine g_ifT rfl (decide_eq_true c21) ?_
              refine g_iconst (q := 95) rfl rfl ?_
              exact go_sub mm_sub0 K20
            · simp only [if_neg c21] at e_v19
              subst e_v19
              refine g_ifF (q := 90) rfl (decide_eq_false c21) rfl ?_
              refine g_iconst (q := 91) rfl rfl ?_
              refine g_goto rfl ?_
              exact go_sub mm_sub0 K20
          clear e_v19
          injection hF with hF
          injection hF with hv hh
          subst hv
          subst hh
          exact g_iret rfl
      · rw [if_neg c25] at hF
        refine g_ifF (q := 64) rfl (decide_eq_false c25) rfl ?_
        refine g_aload_n (q := 65) rfl rfl rfl ?_
        refine g_iload (q := 67) rfl rfl rfl ?_
        obtain ⟨⟨r24, h23⟩, hC, hF⟩ := bd_I hF
        dsimp only at hF
        refine g_ci2 (q := 70) rfl rfl (fun _ => rfl) rfl (A_M_refuse hC) (by decide +kernel) rfl ?_
        injection hF with hF
        injection hF with hv hh
        subst hv
        subst hh
        exact g_iret rfl
    clear e_k9
    by_cases c29 : ¬ z4 = 0
    · rw [if_pos c29] at hF
      refine g_ifT rfl (decide_eq_true c29) ?_
      refine g_iload (q := 51) rfl rfl rfl ?_
      exact go_sub (mm_subc rfl (mm_subc rfl (mm_subc rfl (mm_subc rfl (mm_subc rfl (mm_subc rfl (mm_subc rfl mm_sub0))))))) (K26 _ _ hF)
    · rw [if_neg c29] at hF
      refine g_ifF (q := 38) rfl (decide_eq_false c29) rfl ?_
      refine g_iload (q := 40) rfl rfl rfl ?_
      refine g_iconst (q := 41) rfl rfl ?_
      refine g_bipush (q := 43) rfl (by decide +kernel) rfl ?_
      obtain ⟨⟨r28, h27⟩, hC, hF⟩ := bd_I hF
      dsimp only at hF
      refine g_ci3 (q := 46) rfl rfl (fun _ => rfl) rfl (A_M_wrongNumber hC) (by decide +kernel) rfl ?_
      refine g_goto rfl ?_
      exact go_sub (mm_subc rfl (mm_subc rfl (mm_subc rfl (mm_subc rfl (mm_subc rfl (mm_subc rfl (mm_subc rfl mm_sub0))))))) (K26 _ _ hF)
  clear e_k6
  by_cases c34 : r3 = 0
  · rw [if_pos c34] at hF
    refine g_ifT rfl (decide_eq_true c34) ?_
    refine g_iconst (q := 31) rfl rfl ?_
    exact go_sub (mm_subc rfl (mm_subc rfl (mm_subc rfl (mm_subc rfl (mm_subc rfl (mm_subc rfl (mm_subc rfl mm_sub0))))))) (K30 _ _ hF)
  · rw [if_neg c34] at hF
    refine g_ifF (q := 14) rfl (decide_eq_false c34) rfl ?_
    refine g_iload (q := 16) rfl rfl rfl ?_
    refine g_iload_n (q := 17) rfl rfl rfl ?_
    by_cases c33 : x4 = x3
    · rw [if_pos c33] at hF
      refine g_icmpT rfl (decide_eq_true c33) ?_
      refine g_iconst (q := 31) rfl rfl ?_
      exact go_sub (mm_subc rfl (mm_subc rfl (mm_subc rfl (mm_subc rfl (mm_subc rfl (mm_subc rfl (mm_subc rfl mm_sub0))))))) (K30 _ _ hF)
    · rw [if_neg c33] at hF
      refine g_icmpF (q := 20) rfl (decide_eq_false c33) rfl ?_
      refine g_aload_n (q := 21) rfl rfl rfl ?_
      refine g_iload_n (q := 22) rfl rfl rfl ?_
      refine g_iload_n (q := 23) rfl rfl rfl ?_
      refine g_iload_n (q := 24) rfl rfl rfl ?_
      obtain ⟨⟨r32, h31⟩, hC, hF⟩ := bd_I hF
      dsimp only at hF
      refine g_ci4 (q := 27) rfl rfl (fun _ => rfl) rfl (A_M_wrongThree hC) (by decide +kernel) rfl ?_
      refine g_goto rfl ?_
      exact go_sub (mm_subc rfl (mm_subc rfl (mm_subc rfl (mm_subc rfl (mm_subc rfl (mm_subc rfl (mm_subc rfl mm_sub0))))))) (K30 _ _ hF)
/-- BothCornersModel.atMost(II)I -/
def F_M_atMost (x0 : Int32) (x1 : Int32) (h : MH) : Option (Int32 × MH) := iw (if x0 ≤ x1 then x0 else x1) (fun v1 => some (v1, h))
theorem A_M_atMost {x0 : Int32} {x1 : Int32} {h h' : MH} {v : Int32} (hF : F_M_atMost x0 x1 h = some (v, h')) : Ex 1 161 [.inl x0, .inl x1] h (some (.inl v), h') := by
  unfold F_M_atMost at hF
  refine ex_of (d := 0) rfl rfl ?_
  refine g_iload_n (q := 1) rfl rfl rfl ?_
  refine g_iload_n (q := 2) rfl rfl rfl ?_
  obtain ⟨v1, e_v1, hF⟩ := iw_I hF
  suffices K2 : Go 0 161 10 (mm_lf []) [.inl v1] h (some (.inl v), h') by
    clear hF
    by_cases c3 : x0 ≤ x1
    · simp only [if_pos c3] at e_v1
      subst e_v1
      refine g_icmpT rfl (decide_eq_true c3) ?_
      refine g_iload_n (q := 10) rfl rfl rfl ?_
      exact go_sub mm_sub0 K2
    · simp only [if_neg c3] at e_v1
      subst e_v1
      refine g_icmpF (q := 5) rfl (decide_eq_false c3) rfl ?_
      refine g_iload_n (q := 6) rfl rfl rfl ?_
      refine g_goto rfl ?_
      exact go_sub mm_sub0 K2
  clear e_v1
  injection hF with hF
  injection hF with hv hh
  subst hv
  subst hh
  exact g_iret rfl
/-- BothCornersModel.onBed(III)I -/
def F_M_onBed (x1 : Int32) (x2 : Int32) (x3 : Int32) (h : MH) : Option (Int32 × MH) := hw (mm_hset h.1 55 10 (I 0), h.2) (fun h1 => bd (F_M_wrongThree x1 x2 x3 h1) (fun (r3, h2) => if 0 ≤ r3 then ck (mm_in x2 6) (ck (mm_in x2 6) (ck (mm_in x3 4) (bd (F_M_atMost ((h2.1 57 (Int32.toNatClampNeg x3)) + (I 3)) (I 12) h2) (fun (r5, h4) => ck (mm_in x3 4) (bd (F_M_timeBy x1 (h2.1 59 (Int32.toNatClampNeg x2)) (h2.1 60 (Int32.toNatClampNeg x2)) r5 (h4.1 58 (Int32.toNatClampNeg x3)) h4) (fun (r7, h6) => bd (F_M_timeOf x1 x2 x3 h6) (fun (r9, h8) => some (r9 - (r7 + (I 8)), h8)))))))) else bd (F_M_refuse (I (-1)) h2) (fun (r11, h10) => some ((I 1000000000) - r11, h10))))
theorem A_M_onBed {x1 : Int32} {x2 : Int32} {x3 : Int32} {h h' : MH} {v : Int32} (hF : F_M_onBed x1 x2 x3 h = some (v, h')) : Ex 5 213 [.inr (.inl (some 55)), .inl x1, .inl x2, .inl x3] h (some (.inl v), h') := by
  unfold F_M_onBed at hF
  refine ex_of (d := 4) rfl rfl ?_
  refine g_aload_n (q := 1) rfl rfl rfl ?_
  refine g_iconst (q := 2) rfl rfl ?_
  refine g_putI (q := 5) rfl (fun _ => rfl) rfl ?_
  obtain ⟨h1, e_h1, hF⟩ := hw_I hF
  rw [← e_h1]
  refine g_aload_n (q := 6) rfl rfl rfl ?_
  refine g_iload_n (q := 7) rfl rfl rfl ?_
  refine g_iload_n (q := 8) rfl rfl rfl ?_
  refine g_iload_n (q := 9) rfl rfl rfl ?_
  obtain ⟨⟨r3, h2⟩, hC, hF⟩ := bd_I hF
  dsimp only at hF
  refine g_ci4 (q := 12) rfl rfl (fun _ => rfl) rfl (A_M_wrongThree hC) (by decide +kernel) rfl ?_
  by_cases c12 : 0 ≤ r3
  · rw [if_pos c12] at hF
    refine g_ifT rfl (decide_eq_true c12) ?_
    refine g_aload_n (q := 26) rfl rfl rfl ?_
    refine g_iload_n (q := 27) rfl rfl rfl ?_
    refine g_aload_n (q := 28) rfl rfl rfl ?_
    refine g_getR (q := 31) rfl (fun _ => rfl) rfl ?_
    refine g_iload_n (q := 32) rfl rfl rfl ?_
    obtain ⟨hi, hF⟩ := ck_I hF
    refine g_iaload (q := 33) rfl rfl rfl hi rfl ?_
    refine g_aload_n (q := 34) rfl rfl rfl ?_
    refine g_getR (q := 37) rfl (fun _ => rfl) rfl ?_
    refine g_iload_n (q := 38) rfl rfl rfl ?_
    obtain ⟨hi, hF⟩ := ck_I hF
    refine g_iaload (q := 39) rfl rfl rfl hi rfl ?_
    refine g_aload_n (q := 40) rfl rfl rfl ?_
    refine g_getR (q := 43) rfl (fun _ => rfl) rfl ?_
    refine g_iload_n (q := 44) rfl rfl rfl ?_
    obtain ⟨hi, hF⟩ := ck_I hF
    refine g_iaload (q := 45) rfl rfl rfl hi rfl ?_
    refine g_iconst (q := 46) rfl rfl ?_
    refine g_iadd (q := 47) rfl rfl ?_
    refine g_bipush (q := 49) rfl (by decide +kernel) rfl ?_
    obtain ⟨⟨r5, h4⟩, hC, hF⟩ := bd_I hF
    dsimp only at hF
    refine g_ci2 (q := 52) rfl rfl (fun _ => rfl) rfl (A_M_atMost hC) (by decide +kernel) rfl ?_
    refine g_aload_n (q := 53) rfl rfl rfl ?_
    refine g_getR (q := 56) rfl (fun _ => rfl) rfl ?_
    refine g_iload_n (q := 57) rfl rfl rfl ?_
    obtain ⟨hi, hF⟩ := ck_I hF
    refine g_iaload (q := 58) rfl rfl rfl hi rfl ?_
    obtain ⟨⟨r7, h6⟩, hC, hF⟩ := bd_I hF
    dsimp only at hF
    refine g_ci6 (q := 61) rfl rfl (fun _ => rfl) rfl (A_M_timeBy hC) (by decide +kernel) rfl ?_
    refine g_bipush (q := 63) rfl (by decide +kernel) rfl ?_
    refine g_iadd (q := 64) rfl rfl ?_
    refine g_istore (q := 66) rfl rfl ?_
    refine g_aload_n (q := 67) rfl rfl rfl ?_
    refine g_iload_n (q := 68) rfl rfl rfl ?_
    refine g_iload_n (q := 69) rfl rfl rfl ?_
    refine g_iload_n (q := 70) rfl rfl rfl ?_
    obtain ⟨⟨r9, h8⟩, hC, hF⟩ := bd_I hF
    dsimp only at hF
    refine g_ci4 (q := 73) rfl rfl (fun _ => rfl) rfl (A_M_timeOf hC) (by decide +kernel) rfl ?_
    refine g_iload (q := 75) rfl rfl rfl ?_
    refine g_isub (q := 76) rfl rfl ?_
    injection hF with hF
    injection hF with hv hh
    subst hv
    subst hh
    exact g_iret rfl
  · rw [if_neg c12] at hF
    refine g_ifF (q := 15) rfl (decide_eq_false c12) rfl ?_
    refine g_ldc_w (q := 18) rfl rfl ?_
    refine g_aload_n (q := 19) rfl rfl rfl ?_
    refine g_iconst (q := 20) rfl rfl ?_
    obtain ⟨⟨r11, h10⟩, hC, hF⟩ := bd_I hF
    dsimp only at hF
    refine g_ci2 (q := 23) rfl rfl (fun _ => rfl) rfl (A_M_refuse hC) (by decide +kernel) rfl ?_
    refine g_isub (q := 24) rfl rfl ?_
    injection hF with hF
    injection hF with hv hh
    subst hv
    subst hh
    exact g_iret rfl
/-- BothCornersModel.wrongBoth(IIII)I -/
def F_M_wrongBoth (x1 : Int32) (x2 : Int32) (x3 : Int32) (x4 : Int32) (h : MH) : Option (Int32 × MH) := bd (F_M_isOne x4 h) (fun (r2, h1) => if r2 = 0 then some (I (-1), h1) else if x3 = x4 then some (I (-1), h1) else bd (F_M_wrongThree x1 x2 x3 h1) (fun (r4, h3) => some (r4, h3)))
theorem A_M_wrongBoth {x1 : Int32} {x2 : Int32} {x3 : Int32} {x4 : Int32} {h h' : MH} {v : Int32} (hF : F_M_wrongBoth x1 x2 x3 x4 h = some (v, h')) : Ex 4 215 [.inr (.inl (some 55)), .inl x1, .inl x2, .inl x3, .inl x4] h (some (.inl v), h') := by
  unfold F_M_wrongBoth at hF
  refine ex_of (d := 3) rfl rfl ?_
  refine g_aload_n (q := 1) rfl rfl rfl ?_
  refine g_iload (q := 3) rfl rfl rfl ?_
  obtain ⟨⟨r2, h1⟩, hC, hF⟩ := bd_I hF
  dsimp only at hF
  refine g_ci2 (q := 6) rfl rfl (fun _ => rfl) rfl (A_M_isOne hC) (by decide +kernel) rfl ?_
  by_cases c6 : r2 = 0
  · rw [if_pos c6] at hF
    refine g_ifT rfl (decide_eq_true c6) ?_
    refine g_iconst (q := 26) rfl rfl ?_
    injection hF with hF
    injection hF with hv hh
    subst hv
    subst hh
    exact g_iret rfl
  · rw [if_neg c6] at hF
    refine g_ifF (q := 9) rfl (decide_eq_false c6) rfl ?_
    refine g_iload_n (q := 10) rfl rfl rfl ?_
    refine g_iload (q := 12) rfl rfl rfl ?_
    by_cases c5 : x3 = x4
    · rw [if_pos c5] at hF
      refine g_icmpT rfl (decide_eq_true c5) ?_
      refine g_iconst (q := 26) rfl rfl ?_
      injection hF with hF
      injection hF with hv hh
      subst hv
      subst hh
      exact g_iret rfl
    · rw [if_neg c5] at hF
      refine g_icmpF (q := 15) rfl (decide_eq_false c5) rfl ?_
      refine g_aload_n (q := 16) rfl rfl rfl ?_
      refine g_iload_n (q := 17) rfl rfl rfl ?_
      refine g_iload_n (q := 18) rfl rfl rfl ?_
      refine g_iload_n (q := 19) rfl rfl rfl ?_
      obtain ⟨⟨r4, h3⟩, hC, hF⟩ := bd_I hF
      dsimp only at hF
      refine g_ci4 (q := 22) rfl rfl (fun _ => rfl) rfl (A_M_wrongThree hC) (by decide +kernel) rfl ?_
      refine g_goto rfl ?_
      injection hF with hF
      injection hF with hv hh
      subst hv
      subst hh
      exact g_iret rfl
/-- BothCornersModel.togetherOf(IIII)I -/
def F_M_togetherOf (x1 : Int32) (x2 : Int32) (x3 : Int32) (x4 : Int32) (h : MH) : Option (Int32 × MH) := ck (mm_in x2 6) (ck (mm_in x2 6) (ck (mm_in x3 4) (bd (F_M_secondsOf x1 (h.1 59 (Int32.toNatClampNeg x2)) (h.1 60 (Int32.toNatClampNeg x2)) (h.1 58 (Int32.toNatClampNeg x3)) h) (fun (r2, h1) => ck (mm_in x2 6) (ck (mm_in x2 6) (ck (mm_in x4 4) (bd (F_M_secondsOf x1 (h1.1 59 (Int32.toNatClampNeg x2)) (h1.1 60 (Int32.toNatClampNeg x2)) (h1.1 58 (Int32.toNatClampNeg x4)) h1) (fun (r4, h3) => ck (mm_in x3 4) (bd (F_M_fewerBy (h3.1 57 (Int32.toNatClampNeg x3)) h3) (fun (r6, h5) => ck (mm_in x4 4) (bd (F_M_fewerBy (h5.1 57 (Int32.toNatClampNeg x4)) h5) (fun (r8, h7) => bd (F_M_atLeast r2 r4 h7) (fun (r10, h9) => bd (F_M_foldsOf x1 x2 h9) (fun (r12, h11) => bd (F_M_shakesFor r12 (r6 + r8) h11) (fun (r14, h13) => some (((r10 / (I 2)) + (I 2)) + ((I 3) * r14), h13))))))))))))))))
theorem A_M_togetherOf {x1 : Int32} {x2 : Int32} {x3 : Int32} {x4 : Int32} {h h' : MH} {v : Int32} (hF : F_M_togetherOf x1 x2 x3 x4 h = some (v, h')) : Ex 4 214 [.inr (.inl (some 55)), .inl x1, .inl x2, .inl x3, .inl x4] h (some (.inl v), h') := by
  unfold F_M_togetherOf at hF
  refine ex_of (d := 3) rfl rfl ?_
  refine g_aload_n (q := 1) rfl rfl rfl ?_
  refine g_iload_n (q := 2) rfl rfl rfl ?_
  refine g_aload_n (q := 3) rfl rfl rfl ?_
  refine g_getR (q := 6) rfl (fun _ => rfl) rfl ?_
  refine g_iload_n (q := 7) rfl rfl rfl ?_
  obtain ⟨hi, hF⟩ := ck_I hF
  refine g_iaload (q := 8) rfl rfl rfl hi rfl ?_
  refine g_aload_n (q := 9) rfl rfl rfl ?_
  refine g_getR (q := 12) rfl (fun _ => rfl) rfl ?_
  refine g_iload_n (q := 13) rfl rfl rfl ?_
  obtain ⟨hi, hF⟩ := ck_I hF
  refine g_iaload (q := 14) rfl rfl rfl hi rfl ?_
  refine g_aload_n (q := 15) rfl rfl rfl ?_
  refine g_getR (q := 18) rfl (fun _ => rfl) rfl ?_
  refine g_iload_n (q := 19) rfl rfl rfl ?_
  obtain ⟨hi, hF⟩ := ck_I hF
  refine g_iaload (q := 20) rfl rfl rfl hi rfl ?_
  obtain ⟨⟨r2, h1⟩, hC, hF⟩ := bd_I hF
  dsimp only at hF
  refine g_ci5 (q := 23) rfl rfl (fun _ => rfl) rfl (A_M_secondsOf hC) (by decide +kernel) rfl ?_
  refine g_istore (q := 25) rfl rfl ?_
  refine g_aload_n (q := 26) rfl rfl rfl ?_
  refine g_iload_n (q := 27) rfl rfl rfl ?_
  refine g_aload_n (q := 28) rfl rfl rfl ?_
  refine g_getR (q := 31) rfl (fun _ => rfl) rfl ?_
  refine g_iload_n (q := 32) rfl rfl rfl ?_
  obtain ⟨hi, hF⟩ := ck_I hF
  refine g_iaload (q := 33) rfl rfl rfl hi rfl ?_
  refine g_aload_n (q := 34) rfl rfl rfl ?_
  refine g_getR (q := 37) rfl (fun _ => rfl) rfl ?_
  refine g_iload_n (q := 38) rfl rfl rfl ?_
  obtain ⟨hi, hF⟩ := ck_I hF
  refine g_iaload (q := 39) rfl rfl rfl hi rfl ?_
  refine g_aload_n (q := 40) rfl rfl rfl ?_
  refine g_getR (q := 43) rfl (fun _ => rfl) rfl ?_
  refine g_iload (q := 45) rfl rfl rfl ?_
  obtain ⟨hi, hF⟩ := ck_I hF
  refine g_iaload (q := 46) rfl rfl rfl hi rfl ?_
  obtain ⟨⟨r4, h3⟩, hC, hF⟩ := bd_I hF
  dsimp only at hF
  refine g_ci5 (q := 49) rfl rfl (fun _ => rfl) rfl (A_M_secondsOf hC) (by decide +kernel) rfl ?_
  refine g_istore (q := 51) rfl rfl ?_
  refine g_aload_n (q := 52) rfl rfl rfl ?_
  refine g_getR (q := 55) rfl (fun _ => rfl) rfl ?_
  refine g_iload_n (q := 56) rfl rfl rfl ?_
  obtain ⟨hi, hF⟩ := ck_I hF
  refine g_iaload (q := 57) rfl rfl rfl hi rfl ?_
  obtain ⟨⟨r6, h5⟩, hC, hF⟩ := bd_I hF
  dsimp only at hF
  refine g_ci1 (q := 60) rfl rfl (fun _ => rfl) rfl (A_M_fewerBy hC) (by decide +kernel) rfl ?_
  refine g_aload_n (q := 61) rfl rfl rfl ?_
  refine g_getR (q := 64) rfl (fun _ => rfl) rfl ?_
  refine g_iload (q := 66) rfl rfl rfl ?_
  obtain ⟨hi, hF⟩ := ck_I hF
  refine g_iaload (q := 67) rfl rfl rfl hi rfl ?_
  obtain ⟨⟨r8, h7⟩, hC, hF⟩ := bd_I hF
  dsimp only at hF
  refine g_ci1 (q := 70) rfl rfl (fun _ => rfl) rfl (A_M_fewerBy hC) (by decide +kernel) rfl ?_
  refine g_iadd (q := 71) rfl rfl ?_
  refine g_istore (q := 73) rfl rfl ?_
  refine g_iload (q := 75) rfl rfl rfl ?_
  refine g_iload (q := 77) rfl rfl rfl ?_
  obtain ⟨⟨r10, h9⟩, hC, hF⟩ := bd_I hF
  dsimp only at hF
  refine g_ci2 (q := 80) rfl rfl (fun _ => rfl) rfl (A_M_atLeast hC) (by decide +kernel) rfl ?_
  refine g_iconst (q := 81) rfl rfl ?_
  refine g_idiv (q := 82) rfl (by decide +kernel) rfl ?_
  refine g_iconst (q := 83) rfl rfl ?_
  refine g_iadd (q := 84) rfl rfl ?_
  refine g_iconst (q := 85) rfl rfl ?_
  refine g_aload_n (q := 86) rfl rfl rfl ?_
  refine g_iload_n (q := 87) rfl rfl rfl ?_
  refine g_iload_n (q := 88) rfl rfl rfl ?_
  obtain ⟨⟨r12, h11⟩, hC, hF⟩ := bd_I hF
  dsimp only at hF
  refine g_ci3 (q := 91) rfl rfl (fun _ => rfl) rfl (A_M_foldsOf hC) (by decide +kernel) rfl ?_
  refine g_iload (q := 93) rfl rfl rfl ?_
  obtain ⟨⟨r14, h13⟩, hC, hF⟩ := bd_I hF
  dsimp only at hF
  refine g_ci2 (q := 96) rfl rfl (fun _ => rfl) rfl (A_M_shakesFor hC) (by decide +kernel) rfl ?_
  refine g_imul (q := 97) rfl rfl ?_
  refine g_iadd (q := 98) rfl rfl ?_
  injection hF with hF
  injection hF with hv hh
  subst hv
  subst hh
  exact g_iret rfl
/-- BothCornersModel.together(IIII)I -/
def F_M_together (x1 : Int32) (x2 : Int32) (x3 : Int32) (x4 : Int32) (h : MH) : Option (Int32 × MH) := hw (mm_hset h.1 55 10 (I 0), h.2) (fun h1 => bd (F_M_wrongBoth x1 x2 x3 x4 h1) (fun (r3, h2) => if 0 ≤ r3 then bd (F_M_togetherOf x1 x2 x3 x4 h2) (fun (r5, h4) => some (r5, h4)) else bd (F_M_refuse (I (-1)) h2) (fun (r7, h6) => some (r7, h6))))
theorem A_M_together {x1 : Int32} {x2 : Int32} {x3 : Int32} {x4 : Int32} {h h' : MH} {v : Int32} (hF : F_M_together x1 x2 x3 x4 h = some (v, h')) : Ex 5 216 [.inr (.inl (some 55)), .inl x1, .inl x2, .inl x3, .inl x4] h (some (.inl v), h') := by
  unfold F_M_together at hF
  refine ex_of (d := 4) rfl rfl ?_
  refine g_aload_n (q := 1) rfl rfl rfl ?_
  refine g_iconst (q := 2) rfl rfl ?_
  refine g_putI (q := 5) rfl (fun _ => rfl) rfl ?_
  obtain ⟨h1, e_h1, hF⟩ := hw_I hF
  rw [← e_h1]
  refine g_aload_n (q := 6) rfl rfl rfl ?_
  refine g_iload_n (q := 7) rfl rfl rfl ?_
  refine g_iload_n (q := 8) rfl rfl rfl ?_
  refine g_iload_n (q := 9) rfl rfl rfl ?_
  refine g_iload (q := 11) rfl rfl rfl ?_
  obtain ⟨⟨r3, h2⟩, hC, hF⟩ := bd_I hF
  dsimp only at hF
  refine g_ci5 (q := 14) rfl rfl (fun _ => rfl) rfl (A_M_wrongBoth hC) (by decide +kernel) rfl ?_
  by_cases c8 : 0 ≤ r3
  · rw [if_pos c8] at hF
    refine g_ifT rfl (decide_eq_true c8) ?_
    refine g_aload_n (q := 26) rfl rfl rfl ?_
    refine g_iload_n (q := 27) rfl rfl rfl ?_
    refine g_iload_n (q := 28) rfl rfl rfl ?_
    refine g_iload_n (q := 29) rfl rfl rfl ?_
    refine g_iload (q := 31) rfl rfl rfl ?_
    obtain ⟨⟨r5, h4⟩, hC, hF⟩ := bd_I hF
    dsimp only at hF
    refine g_ci5 (q := 34) rfl rfl (fun _ => rfl) rfl (A_M_togetherOf hC) (by decide +kernel) rfl ?_
    injection hF with hF
    injection hF with hv hh
    subst hv
    subst hh
    exact g_iret rfl
  · rw [if_neg c8] at hF
    refine g_ifF (q := 17) rfl (decide_eq_false c8) rfl ?_
    refine g_aload_n (q := 18) rfl rfl rfl ?_
    refine g_iconst (q := 19) rfl rfl ?_
    obtain ⟨⟨r7, h6⟩, hC, hF⟩ := bd_I hF
    dsimp only at hF
    refine g_ci2 (q := 22) rfl rfl (fun _ => rfl) rfl (A_M_refuse hC) (by decide +kernel) rfl ?_
    refine g_goto rfl ?_
    injection hF with hF
    injection hF with hv hh
    subst hv
    subst hh
    exact g_iret rfl
/-- BothCornersModel.waits(IIII)I -/
def F_M_waits (x1 : Int32) (x2 : Int32) (x3 : Int32) (x4 : Int32) (h : MH) : Option (Int32 × MH) := hw (mm_hset h.1 55 10 (I 0), h.2) (fun h1 => bd (F_M_wrongBoth x1 x2 x3 x4 h1) (fun (r3, h2) => if 0 ≤ r3 then bd (F_M_timeOf x1 x2 x3 h2) (fun (r5, h4) => bd (F_M_togetherOf x1 x2 x3 x4 h4) (fun (r7, h6) => iw (if 0 ≤ (r5 - r7) then r5 - r7 else I (-9)) (fun v8 => some (v8, h6)))) else bd (F_M_refuse (I (-1)) h2) (fun (r12, h11) => some (r12, h11))))
theorem A_M_waits {x1 : Int32} {x2 : Int32} {x3 : Int32} {x4 : Int32} {h h' : MH} {v : Int32} (hF : F_M_waits x1 x2 x3 x4 h = some (v, h')) : Ex 5 217 [.inr (.inl (some 55)), .inl x1, .inl x2, .inl x3, .inl x4] h (some (.inl v), h') := by
  unfold F_M_waits at hF
  refine ex_of (d := 4) rfl rfl ?_
  refine g_aload_n (q := 1) rfl rfl rfl ?_
  refine g_iconst (q := 2) rfl rfl ?_
  refine g_putI (q := 5) rfl (fun _ => rfl) rfl ?_
  obtain ⟨h1, e_h1, hF⟩ := hw_I hF
  rw [← e_h1]
  refine g_aload_n (q := 6) rfl rfl rfl ?_
  refine g_iload_n (q := 7) rfl rfl rfl ?_
  refine g_iload_n (q := 8) rfl rfl rfl ?_
  refine g_iload_n (q := 9) rfl rfl rfl ?_
  refine g_iload (q := 11) rfl rfl rfl ?_
  obtain ⟨⟨r3, h2⟩, hC, hF⟩ := bd_I hF
  dsimp only at hF
  refine g_ci5 (q := 14) rfl rfl (fun _ => rfl) rfl (A_M_wrongBoth hC) (by decide +kernel) rfl ?_
  by_cases c13 : 0 ≤ r3
  · rw [if_pos c13] at hF
    refine g_ifT rfl (decide_eq_true c13) ?_
    refine g_aload_n (q := 24) rfl rfl rfl ?_
    refine g_iload_n (q := 25) rfl rfl rfl ?_
    refine g_iload_n (q := 26) rfl rfl rfl ?_
    refine g_iload_n (q := 27) rfl rfl rfl ?_
    obtain ⟨⟨r5, h4⟩, hC, hF⟩ := bd_I hF
    dsimp only at hF
    refine g_ci4 (q := 30) rfl rfl (fun _ => rfl) rfl (A_M_timeOf hC) (by decide +kernel) rfl ?_
    refine g_aload_n (q := 31) rfl rfl rfl ?_
    refine g_iload_n (q := 32) rfl rfl rfl ?_
    refine g_iload_n (q := 33) rfl rfl rfl ?_
    refine g_iload_n (q := 34) rfl rfl rfl ?_
    refine g_iload (q := 36) rfl rfl rfl ?_
    obtain ⟨⟨r7, h6⟩, hC, hF⟩ := bd_I hF
    dsimp only at hF
    refine g_ci5 (q := 39) rfl rfl (fun _ => rfl) rfl (A_M_togetherOf hC) (by decide +kernel) rfl ?_
    refine g_isub (q := 40) rfl rfl ?_
    refine g_istore (q := 42) rfl rfl ?_
    refine g_iload (q := 44) rfl rfl rfl ?_
    obtain ⟨v8, e_v8, hF⟩ := iw_I hF
    suffices K9 : Go 4 217 54 (mm_lf []) [.inl v8] h6 (some (.inl v), h') by
      clear hF
      by_cases c10 : 0 ≤ (r5 - r7)
      · simp only [if_pos c10] at e_v8
        subst e_v8
        refine g_ifT rfl (decide_eq_true c10) ?_
        refine g_iload (q := 54) rfl rfl rfl ?_
        exact go_sub mm_sub0 K9
      · simp only [if_neg c10] at e_v8
        subst e_v8
        refine g_ifF (q := 47) rfl (decide_eq_false c10) rfl ?_
        refine g_bipush (q := 49) rfl (by decide +kernel) rfl ?_
        refine g_goto rfl ?_
        exact go_sub mm_sub0 K9
    clear e_v8
    injection hF with hF
    injection hF with hv hh
    subst hv
    subst hh
    exact g_iret rfl
  · rw [if_neg c13] at hF
    refine g_ifF (q := 17) rfl (decide_eq_false c13) rfl ?_
    refine g_aload_n (q := 18) rfl rfl rfl ?_
    refine g_iconst (q := 19) rfl rfl ?_
    obtain ⟨⟨r12, h11⟩, hC, hF⟩ := bd_I hF
    dsimp only at hF
    refine g_ci2 (q := 22) rfl rfl (fun _ => rfl) rfl (A_M_refuse hC) (by decide +kernel) rfl ?_
    injection hF with hF
    injection hF with hv hh
    subst hv
    subst hh
    exact g_iret rfl
/-- BothCornersModel.crosswise(II)I -/
def F_M_crosswise (x1 : Int32) (x2 : Int32) (h : MH) : Option (Int32 × MH) := hw (mm_hset h.1 55 10 (I 0), h.2) (fun h1 => bd (F_M_isBed x1 h1) (fun (r3, h2) => kw (fun (z4 : Int32) (h5 : MH) => if 0 ≤ z4 then ck (mm_in ((I 4) * x1) 24) (ck (mm_in (((I 4) * x1) + (I 2)) 24) (bd (F_M_apart (h5.1 56 (Int32.toNatClampNeg ((I 4) * x1))) (h5.1 56 (Int32.toNatClampNeg (((I 4) * x1) + (I 2)))) h5) (fun (r8, h7) => ck (mm_in ((I 4) * x1) 24) (ck (mm_in (((I 4) * x1) + (I 3)) 24) (bd (F_M_apart (h7.1 56 (Int32.toNatClampNeg ((I 4) * x1))) (h7.1 56 (Int32.toNatClampNeg (((I 4) * x1) + (I 3)))) h7) (fun (r10, h9) => ck (mm_in (((I 4) * x1) + (I 1)) 24) (ck (mm_in (((I 4) * x1) + (I 3)) 24) (bd (F_M_apart (h9.1 56 (Int32.toNatClampNeg (((I 4) * x1) + (I 1)))) (h9.1 56 (Int32.toNatClampNeg (((I 4) * x1) + (I 3)))) h9) (fun (r12, h11) => ck (mm_in (((I 4) * x1) + (I 1)) 24) (ck (mm_in (((I 4) * x1) + (I 2)) 24) (bd (F_M_apart (h11.1 56 (Int32.toNatClampNeg (((I 4) * x1) + (I 1)))) (h11.1 56 (Int32.toNatClampNeg (((I 4) * x1) + (I 2)))) h11) (fun (r14, h13) => if ¬ x2 = 0 then bd (F_M_apart (r12 - r14) (I 0) h13) (fun (r16, h15) => bd (F_M_apart (r8 - r10) (I 0) h15) (fun (r18, h17) => iw (if r16 ≤ r18 then I 0 else I 1) (fun v19 => some (v19, h17)))) else some ((r8 - r10) + (r12 - r14), h13))))))))))))) else bd (F_M_refuse z4 h5) (fun (r24, h23) => some ((I 1000000000) - r24, h23))) (fun k6 => if r3 = 0 then k6 (I (-1)) h2 else bd (F_M_wrongBit (I 0) x2 (I 1) h2) (fun (r28, h27) => k6 r28 h27))))
theorem A_M_crosswise {x1 : Int32} {x2 : Int32} {h h' : MH} {v : Int32} (hF : F_M_crosswise x1 x2 h = some (v, h')) : Ex 3 218 [.inr (.inl (some 55)), .inl x1, .inl x2] h (some (.inl v), h') := by
  unfold F_M_crosswise at hF
  refine ex_of (d := 2) rfl rfl ?_
  refine g_aload_n (q := 1) rfl rfl rfl ?_
  refine g_iconst (q := 2) rfl rfl ?_
  refine g_putI (q := 5) rfl (fun _ => rfl) rfl ?_
  obtain ⟨h1, e_h1, hF⟩ := hw_I hF
  rw [← e_h1]
  refine g_aload_n (q := 6) rfl rfl rfl ?_
  refine g_iload_n (q := 7) rfl rfl rfl ?_
  obtain ⟨⟨r3, h2⟩, hC, hF⟩ := bd_I hF
  dsimp only at hF
  refine g_ci2 (q := 10) rfl rfl (fun _ => rfl) rfl (A_M_isBed hC) (by decide +kernel) rfl ?_
  obtain ⟨k6, e_k6, hF⟩ := kw_I hF
  have K26 : ∀ (z4 : Int32) (h5 : MH), k6 z4 h5 = some (v, h') → Go 2 218 23 (mm_lf [(0, .inr (.inl (some 55))), (1, .inl x1), (2, .inl x2)]) [.inl z4] h5 (some (.inl v), h') := by
    intro z4 h5 hF
    rw [e_k6] at hF
    dsimp only at hF
    refine g_istore_n (q := 24) rfl rfl ?_
    refine g_iload_n (q := 25) rfl rfl rfl ?_
    by_cases c25 : 0 ≤ z4
    · rw [if_pos c25] at hF
      refine g_ifT rfl (decide_eq_true c25) ?_
      refine g_iconst (q := 39) rfl rfl ?_
      refine g_iload_n (q := 40) rfl rfl rfl ?_
      refine g_imul (q := 41) rfl rfl ?_
      refine g_istore (q := 43) rfl rfl ?_
      refine g_aload_n (q := 44) rfl rfl rfl ?_
      refine g_getR (q := 47) rfl (fun _ => rfl) rfl ?_
      refine g_iload (q := 49) rfl rfl rfl ?_
      obtain ⟨hi, hF⟩ := ck_I hF
      refine g_iaload (q := 50) rfl rfl rfl hi rfl ?_
      refine g_aload_n (q := 51) rfl rfl rfl ?_
      refine g_getR (q := 54) rfl (fun _ => rfl) rfl ?_
      refine g_iload (q := 56) rfl rfl rfl ?_
      refine g_iconst (q := 57) rfl rfl ?_
      refine g_iadd (q := 58) rfl rfl ?_
      obtain ⟨hi, hF⟩ := ck_I hF
      refine g_iaload (q := 59) rfl rfl rfl hi rfl ?_
      obtain ⟨⟨r8, h7⟩, hC, hF⟩ := bd_I hF
      dsimp only at hF
      refine g_ci2 (q := 62) rfl rfl (fun _ => rfl) rfl (A_M_apart hC) (by decide +kernel) rfl ?_
      refine g_aload_n (q := 63) rfl rfl rfl ?_
      refine g_getR (q := 66) rfl (fun _ => rfl) rfl ?_
      refine g_iload (q := 68) rfl rfl rfl ?_
      obtain ⟨hi, hF⟩ := ck_I hF
      refine g_iaload (q := 69) rfl rfl rfl hi rfl ?_
      refine g_aload_n (q := 70) rfl rfl rfl ?_
      refine g_getR (q := 73) rfl (fun _ => rfl) rfl ?_
      refine g_iload (q := 75) rfl rfl rfl ?_
      refine g_iconst (q := 76) rfl rfl ?_
      refine g_iadd (q := 77) rfl rfl ?_
      obtain ⟨hi, hF⟩ := ck_I hF
      refine g_iaload (q := 78) rfl rfl rfl hi rfl ?_
      obtain ⟨⟨r10, h9⟩, hC, hF⟩ := bd_I hF
      dsimp only at hF
      refine g_ci2 (q := 81) rfl rfl (fun _ => rfl) rfl (A_M_apart hC) (by decide +kernel) rfl ?_
      refine g_isub (q := 82) rfl rfl ?_
      refine g_istore (q := 84) rfl rfl ?_
      refine g_aload_n (q := 85) rfl rfl rfl ?_
      refine g_getR (q := 88) rfl (fun _ => rfl) rfl ?_
      refine g_iload (q := 90) rfl rfl rfl ?_
      refine g_iconst (q := 91) rfl rfl ?_
      refine g_iadd (q := 92) rfl rfl ?_
      obtain ⟨hi, hF⟩ := ck_I hF
      refine g_iaload (q := 93) rfl rfl rfl hi rfl ?_
      refine g_aload_n (q := 94) rfl rfl rfl ?_
      refine g_getR (q := 97) rfl (fun _ => rfl) rfl ?_
      refine g_iload (q := 99) rfl rfl rfl ?_
      refine g_iconst (q := 100) rfl rfl ?_
      refine g_iadd (q := 101) rfl rfl ?_
      obtain ⟨hi, hF⟩ := ck_I hF
      refine g_iaload (q := 102) rfl rfl rfl hi rfl ?_
      obtain ⟨⟨r12, h11⟩, hC, hF⟩ := bd_I hF
      dsimp only at hF
      refine g_ci2 (q := 105) rfl rfl (fun _ => rfl) rfl (A_M_apart hC) (by decide +kernel) rfl ?_
      refine g_aload_n (q := 106) rfl rfl rfl ?_
      refine g_getR (q := 109) rfl (fun _ => rfl) rfl ?_
      refine g_iload (q := 111) rfl rfl rfl ?_
      refine g_iconst (q := 112) rfl rfl ?_
      refine g_iadd (q := 113) rfl rfl ?_
      obtain ⟨hi, hF⟩ := ck_I hF
      refine g_iaload (q := 114) rfl rfl rfl hi rfl ?_
      refine g_aload_n (q := 115) rfl rfl rfl ?_
      refine g_getR (q := 118) rfl (fun _ => rfl) rfl ?_
      refine g_iload (q := 120) rfl rfl rfl ?_
      refine g_iconst (q := 121) rfl rfl ?_
      refine g_iadd (q := 122) rfl rfl ?_
      obtain ⟨hi, hF⟩ := ck_I hF
      refine g_iaload (q := 123) rfl rfl rfl hi rfl ?_
      obtain ⟨⟨r14, h13⟩, hC, hF⟩ := bd_I hF
      dsimp only at hF
      refine g_ci2 (q := 126) rfl rfl (fun _ => rfl) rfl (A_M_apart hC) (by decide +kernel) rfl ?_
      refine g_isub (q := 127) rfl rfl ?_
      refine g_istore (q := 129) rfl rfl ?_
      refine g_iload_n (q := 130) rfl rfl rfl ?_
      by_cases c22 : ¬ x2 = 0
      · rw [if_pos c22] at hF
        refine g_ifT rfl (decide_eq_true c22) ?_
        refine g_iload (q := 143) rfl rfl rfl ?_
        refine g_iconst (q := 144) rfl rfl ?_
        obtain ⟨⟨r16, h15⟩, hC, hF⟩ := bd_I hF
        dsimp only at hF
        refine g_ci2 (q := 147) rfl rfl (fun _ => rfl) rfl (A_M_apart hC) (by decide +kernel) rfl ?_
        refine g_iload (q := 149) rfl rfl rfl ?_
        refine g_iconst (q := 150) rfl rfl ?_
        obtain ⟨⟨r18, h17⟩, hC, hF⟩ := bd_I hF
        dsimp only at hF
        refine g_ci2 (q := 153) rfl rfl (fun _ => rfl) rfl (A_M_apart hC) (by decide +kernel) rfl ?_
        obtain ⟨v19, e_v19, hF⟩ := iw_I hF
        suffices K20 : Go 2 218 161 (mm_lf []) [.inl v19] h17 (some (.inl v), h') by
          clear hF
          by_cases c21 : r16 ≤ r18
          · simp only [if_pos c21] at e_v19
            subst e_v19
            refine g_icmpT rfl (decide_eq_true c21) ?_
            refine g_iconst (q := 161) rfl rfl ?_
            exact go_sub mm_sub0 K20
          · simp only [if_neg c21] at e_v19
            subst e_v19
            refine g_icmpF (q := 156) rfl (decide_eq_false c21) rfl ?_
            refine g_iconst (q := 157) rfl rfl ?_
            refine g_goto rfl ?_
            exact go_sub mm_sub0 K20
        clear e_v19
        injection hF with hF
        injection hF with hv hh
        subst hv
        subst hh
        exact g_iret rfl
      · rw [if_neg c22] at hF
        refine g_ifF (q := 133) rfl (decide_eq_false c22) rfl ?_
        refine g_iload (q := 135) rfl rfl rfl ?_
        refine g_iload (q := 137) rfl rfl rfl ?_
        refine g_iadd (q := 138) rfl rfl ?_
        refine g_goto rfl ?_
        injection hF with hF
        injection hF with hv hh
        subst hv
        subst hh
        exact g_iret rfl
    · rw [if_neg c25] at hF
      refine g_ifF (q := 28) rfl (decide_eq_false c25) rfl ?_
      refine g_ldc_w (q := 31) rfl rfl ?_
      refine g_aload_n (q := 32) rfl rfl rfl ?_
      refine g_iload_n (q := 33) rfl rfl rfl ?_
      obtain ⟨⟨r24, h23⟩, hC, hF⟩ := bd_I hF
      dsimp only at hF
      refine g_ci2 (q := 36) rfl rfl (fun _ => rfl) rfl (A_M_refuse hC) (by decide +kernel) rfl ?_
      refine g_isub (q := 37) rfl rfl ?_
      injection hF with hF
      injection hF with hv hh
      subst hv
      subst hh
      exact g_iret rfl
  clear e_k6
  by_cases c29 : r3 = 0
  · rw [if_pos c29] at hF
    refine g_ifT rfl (decide_eq_true c29) ?_
    refine g_iconst (q := 23) rfl rfl ?_
    exact go_sub (mm_subc rfl (mm_subc rfl (mm_subc rfl mm_sub0))) (K26 _ _ hF)
  · rw [if_neg c29] at hF
    refine g_ifF (q := 13) rfl (decide_eq_false c29) rfl ?_
    refine g_iconst (q := 14) rfl rfl ?_
    refine g_iload_n (q := 15) rfl rfl rfl ?_
    refine g_iconst (q := 16) rfl rfl ?_
    obtain ⟨⟨r28, h27⟩, hC, hF⟩ := bd_I hF
    dsimp only at hF
    refine g_ci3 (q := 19) rfl rfl (fun _ => rfl) rfl (A_M_wrongBit hC) (by decide +kernel) rfl ?_
    refine g_goto rfl ?_
    exact go_sub (mm_subc rfl (mm_subc rfl (mm_subc rfl mm_sub0))) (K26 _ _ hF)
def L_M_ordersOf_4 (x0 : Int32) : Nat → Int32 → Int32 → MH → Option (Int32 × MH)
  | 0, _, _, _ => none
  | n + 1, x1, x2, h => if x0 < x2 then some (x1, h) else L_M_ordersOf_4 x0 n (x1 * x2) (x2 + I 1) h
/-- BothCornersModel.ordersOf(I)I -/
def F_M_ordersOf (x0 : Int32) (h : MH) : Option (Int32 × MH) := bd (L_M_ordersOf_4 x0 5000 (I 1) (I 2) h) (fun (y2, h3) => some (y2, h3))
theorem A_L_M_ordersOf_4 {x0 : Int32} {r : MRs} : ∀ (n : Nat) (x1 : Int32) (x2 : Int32) (h : MH) (x : Int32 × MH), L_M_ordersOf_4 x0 n x1 x2 h = some x → (True) → (∀ (e1 : Int32) (h' : MH), x = (e1, h') → Go 0 219 19 (mm_lf [(1, .inl e1)]) [] h' r) → Go 0 219 4 (mm_lf [(0, .inl x0), (1, .inl x1), (2, .inl x2)]) [] h r
  | 0, _, _, _, _, hF, _, _ => by cases hF
  | n + 1, x1, x2, h, x, hF, KR, KX => by
    have ih := fun a1 a2 => A_L_M_ordersOf_4 (x0 := x0) (r := r) n a1 a2 
    unfold L_M_ordersOf_4 at hF
    refine g_iload_n (q := 5) rfl rfl rfl ?_
    refine g_iload_n (q := 6) rfl rfl rfl ?_
    by_cases c1 : x0 < x2
    · rw [if_pos c1] at hF
      refine g_icmpT rfl (decide_eq_true c1) ?_
      injection hF with hF
      subst hF
      exact go_sub (mm_subc rfl mm_sub0) (KX _ _ rfl)
    · rw [if_neg c1] at hF
      refine g_icmpF (q := 9) rfl (decide_eq_false c1) rfl ?_
      refine g_iload_n (q := 10) rfl rfl rfl ?_
      refine g_iload_n (q := 11) rfl rfl rfl ?_
      refine g_imul (q := 12) rfl rfl ?_
      refine g_istore_n (q := 13) rfl rfl ?_
      refine g_iinc (q := 16) rfl rfl rfl ?_
      refine g_goto rfl ?_
      refine go_sub (lo' := mm_lf [(0, .inl x0), (1, .inl (x1 * x2)), (2, .inl (x2 + I 1))]) (mm_subc rfl (mm_subc rfl (mm_subc rfl mm_sub0))) ?_
      exact ih _ _ _ _ hF KR KX
theorem A_M_ordersOf {x0 : Int32} {h h' : MH} {v : Int32} (hF : F_M_ordersOf x0 h = some (v, h')) : Ex 1 219 [.inl x0] h (some (.inl v), h') := by
  unfold F_M_ordersOf at hF
  refine ex_of (d := 0) rfl rfl ?_
  refine g_iconst (q := 1) rfl rfl ?_
  refine g_istore_n (q := 2) rfl rfl ?_
  refine g_iconst (q := 3) rfl rfl ?_
  refine g_istore_n (q := 4) rfl rfl ?_
  refine go_sub (lo' := mm_lf [(0, .inl x0), (1, .inl (I 1)), (2, .inl (I 2))]) (mm_subc rfl (mm_subc rfl (mm_subc rfl mm_sub0))) ?_
  obtain ⟨⟨y2, h3⟩, hC, hF⟩ := bd_I hF
  dsimp only at hF
  refine A_L_M_ordersOf_4 5000 _ _ _ _ hC trivial ?_
  intro _ _ e2
  cases e2
  refine g_iload_n (q := 20) rfl rfl rfl ?_
  injection hF with hF
  injection hF with hv hh
  subst hv
  subst hh
  exact g_iret rfl
/-- BothCornersModel.hasBit(II)Z -/
def F_M_hasBit (x0 : Int32) (x1 : Int32) (h : MH) : Option (Int32 × MH) := iw (if ¬ ((x0 >>> (x1 &&& 31)) &&& (I 1)) = (I 1) then I 0 else I 1) (fun v1 => cd (v1 &&& 1 = v1) (some (v1, h)))
theorem A_M_hasBit {x0 : Int32} {x1 : Int32} {h h' : MH} {v : Int32} (hF : F_M_hasBit x0 x1 h = some (v, h')) : Ex 1 163 [.inl x0, .inl x1] h (some (.inl v), h') := by
  unfold F_M_hasBit at hF
  refine ex_of (d := 0) rfl rfl ?_
  refine g_iload_n (q := 1) rfl rfl rfl ?_
  refine g_iload_n (q := 2) rfl rfl rfl ?_
  refine g_ishr (q := 3) rfl rfl ?_
  refine g_iconst (q := 4) rfl rfl ?_
  refine g_iand (q := 5) rfl rfl ?_
  refine g_iconst (q := 6) rfl rfl ?_
  obtain ⟨v1, e_v1, hF⟩ := iw_I hF
  suffices K2 : Go 0 163 14 (mm_lf []) [.inl v1] h (some (.inl v), h') by
    clear hF
    by_cases c3 : ¬ ((x0 >>> (x1 &&& 31)) &&& (I 1)) = (I 1)
    · simp only [if_pos c3] at e_v1
      subst e_v1
      refine g_icmpT rfl (decide_eq_true c3) ?_
      refine g_iconst (q := 14) rfl rfl ?_
      exact go_sub mm_sub0 K2
    · simp only [if_neg c3] at e_v1
      subst e_v1
      refine g_icmpF (q := 9) rfl (decide_eq_false c3) rfl ?_
      refine g_iconst (q := 10) rfl rfl ?_
      refine g_goto rfl ?_
      exact go_sub mm_sub0 K2
  clear e_v1
  obtain ⟨hz, hF⟩ := cd_I hF
  injection hF with hF
  injection hF with hv hh
  subst hv
  subst hh
  exact g_zret rfl hz
def L_M_layOrder_39 (x2 : Int32) (x3 : Int32) (x4 : Int32) (x5 : Int32) : Nat → Int32 → Int32 → MH → Option (Int32 × MH)
  | 0, _, _, _ => none
  | n + 1, x7, x8, h => bd (F_M_hasBit x4 x8 h) (fun (r4, h3) => if ¬ r4 = 0 then bd (F_M_hasBit x4 x8 h3) (fun (r6, h5) => iw (if r6 = 0 then I 1 else I 0) (fun v7 => L_M_layOrder_39 x2 x3 x4 x5 n (x7 - v7) (x8 + I 1) h5)) else if x7 ≤ 0 then some (x8, h3) else bd (F_M_hasBit x4 x8 h3) (fun (r11, h10) => iw (if r11 = 0 then I 1 else I 0) (fun v12 => L_M_layOrder_39 x2 x3 x4 x5 n (x7 - v12) (x8 + I 1) h10)))
def L_M_layOrder_8 (x2 : Int32) : Nat → Int32 → Int32 → Int32 → MH → Option (MH)
  | 0, _, _, _, _ => none
  | n + 1, x3, x4, x5, h => if x2 ≤ x5 then some (h) else bd (F_M_ordersOf ((x2 - (I 1)) - x5) h) (fun (r2, h1) => cd (¬ r2 = 0) (cd (¬ r2 = 0) (bd (L_M_layOrder_39 x2 (irem x3 r2) x4 x5 5000 (x3 / r2) (I 0) h1) (fun (y17, h18) => ck (mm_in x5 6) (hw (mm_hset h18.1 72 (Int32.toNatClampNeg x5) y17, h18.2) (fun h19 => L_M_layOrder_8 x2 n (irem x3 r2) (x4 ||| ((I 1) <<< (y17 &&& 31))) (x5 + I 1) h19))))))
/-- BothCornersModel.layOrder(II)V -/
def F_M_layOrder (x1 : Int32) (x2 : Int32) (h : MH) : Option (MH) := bd (L_M_layOrder_8 x2 5000 x1 (I 0) (I 0) h) (fun h21 => some h21)
theorem A_L_M_layOrder_39 {x2 : Int32} {x3 : Int32} {x4 : Int32} {x5 : Int32} {r : MRs} : ∀ (n : Nat) (x7 : Int32) (x8 : Int32) (h : MH) (x : Int32 × MH), L_M_layOrder_39 x2 x3 x4 x5 n x7 x8 h = some x → (True) → (∀ (e8 : Int32) (h' : MH), x = (e8, h') → Go 1 220 80 (mm_lf [(0, .inr (.inl (some 55))), (2, .inl x2), (3, .inl x3), (4, .inl x4), (5, .inl x5), (8, .inl e8)]) [] h' r) → Go 1 220 39 (mm_lf [(0, .inr (.inl (some 55))), (2, .inl x2), (3, .inl x3), (4, .inl x4), (5, .inl x5), (7, .inl x7), (8, .inl x8)]) [] h r
  | 0, _, _, _, _, hF, _, _ => by cases hF
  | n + 1, x7, x8, h, x, hF, KR, KX => by
    have ih := fun a7 a8 => A_L_M_layOrder_39 (x2 := x2) (x3 := x3) (x4 := x4) (x5 := x5) (r := r) n a7 a8 
    unfold L_M_layOrder_39 at hF
    refine g_iload (q := 41) rfl rfl rfl ?_
    refine g_iload (q := 43) rfl rfl rfl ?_
    obtain ⟨⟨r4, h3⟩, hC, hF⟩ := bd_I hF
    dsimp only at hF
    refine g_ci2 (q := 46) rfl rfl (fun _ => rfl) rfl (A_M_hasBit hC) (by decide +kernel) rfl ?_
    by_cases c16 : ¬ r4 = 0
    · rw [if_pos c16] at hF
      refine g_ifT rfl (decide_eq_true c16) ?_
      refine g_iload (q := 56) rfl rfl rfl ?_
      refine g_iload (q := 58) rfl rfl rfl ?_
      refine g_iload (q := 60) rfl rfl rfl ?_
      obtain ⟨⟨r6, h5⟩, hC, hF⟩ := bd_I hF
      dsimp only at hF
      refine g_ci2 (q := 63) rfl rfl (fun _ => rfl) rfl (A_M_hasBit hC) (by decide +kernel) rfl ?_
      obtain ⟨v7, e_v7, hF⟩ := iw_I hF
      suffices K8 : Go 1 220 71 (mm_lf [(0, .inr (.inl (some 55))), (2, .inl x2), (3, .inl x3), (4, .inl x4), (5, .inl x5), (8, .inl x8)]) [.inl v7, .inl x7] h5 r by
        clear hF
        by_cases c9 : r6 = 0
        · simp only [if_pos c9] at e_v7
          subst e_v7
          refine g_ifT rfl (decide_eq_true c9) ?_
          refine g_iconst (q := 71) rfl rfl ?_
          exact go_sub (mm_subc rfl (mm_subc rfl (mm_subc rfl (mm_subc rfl (mm_subc rfl (mm_subc rfl mm_sub0)))))) K8
        · simp only [if_neg c9] at e_v7
          subst e_v7
          refine g_ifF (q := 66) rfl (decide_eq_false c9) rfl ?_
          refine g_iconst (q := 67) rfl rfl ?_
          refine g_goto rfl ?_
          exact go_sub (mm_subc rfl (mm_subc rfl (mm_subc rfl (mm_subc rfl (mm_subc rfl (mm_subc rfl mm_sub0)))))) K8
      clear e_v7
      refine g_isub (q := 72) rfl rfl ?_
      refine g_istore (q := 74) rfl rfl ?_
      refine g_iinc (q := 77) rfl rfl rfl ?_
      refine g_goto rfl ?_
      refine go_sub (lo' := mm_lf [(0, .inr (.inl (some 55))), (2, .inl x2), (3, .inl x3), (4, .inl x4), (5, .inl x5), (7, .inl (x7 - v7)), (8, .inl (x8 + I 1))]) (mm_subc rfl (mm_subc rfl (mm_subc rfl (mm_subc rfl (mm_subc rfl (mm_subc rfl (mm_subc rfl mm_sub0))))))) ?_
      exact ih _ _ _ _ hF KR KX
    · rw [if_neg c16] at hF
      refine g_ifF (q := 49) rfl (decide_eq_false c16) rfl ?_
      refine g_iload (q := 51) rfl rfl rfl ?_
      by_cases c15 : x7 ≤ 0
      · rw [if_pos c15] at hF
        refine g_ifT rfl (decide_eq_true c15) ?_
        injection hF with hF
        subst hF
        exact go_sub (mm_subc rfl (mm_subc rfl (mm_subc rfl (mm_subc rfl (mm_subc rfl (mm_subc rfl mm_sub0)))))) (KX _ _ rfl)
      · rw [if_neg c15] at hF
        refine g_ifF (q := 54) rfl (decide_eq_false c15) rfl ?_
        refine g_iload (q := 56) rfl rfl rfl ?_
        refine g_iload (q := 58) rfl rfl rfl ?_
        refine g_iload (q := 60) rfl rfl rfl ?_
        obtain ⟨⟨r11, h10⟩, hC, hF⟩ := bd_I hF
        dsimp only at hF
        refine g_ci2 (q := 63) rfl rfl (fun _ => rfl) rfl (A_M_hasBit hC) (by decide +kernel) rfl ?_
        obtain ⟨v12, e_v12, hF⟩ := iw_I hF
        suffices K13 : Go 1 220 71 (mm_lf [(0, .inr (.inl (some 55))), (2, .inl x2), (3, .inl x3), (4, .inl x4), (5, .inl x5), (8, .inl x8)]) [.inl v12, .inl x7] h10 r by
          clear hF
          by_cases c14 : r11 = 0
          · simp only [if_pos c14] at e_v12
            subst e_v12
            refine g_ifT rfl (decide_eq_true c14) ?_
            refine g_iconst (q := 71) rfl rfl ?_
            exact go_sub (mm_subc rfl (mm_subc rfl (mm_subc rfl (mm_subc rfl (mm_subc rfl (mm_subc rfl mm_sub0)))))) K13
          · simp only [if_neg c14] at e_v12
            subst e_v12
            refine g_ifF (q := 66) rfl (decide_eq_false c14) rfl ?_
            refine g_iconst (q := 67) rfl rfl ?_
            refine g_goto rfl ?_
            exact go_sub (mm_subc rfl (mm_subc rfl (mm_subc rfl (mm_subc rfl (mm_subc rfl (mm_subc rfl mm_sub0)))))) K13
        clear e_v12
        refine g_isub (q := 72) rfl rfl ?_
        refine g_istore (q := 74) rfl rfl ?_
        refine g_iinc (q := 77) rfl rfl rfl ?_
        refine g_goto rfl ?_
        refine go_sub (lo' := mm_lf [(0, .inr (.inl (some 55))), (2, .inl x2), (3, .inl x3), (4, .inl x4), (5, .inl x5), (7, .inl (x7 - v12)), (8, .inl (x8 + I 1))]) (mm_subc rfl (mm_subc rfl (mm_subc rfl (mm_subc rfl (mm_subc rfl (mm_subc rfl (mm_subc rfl mm_sub0))))))) ?_
        exact ih _ _ _ _ hF KR KX
theorem A_L_M_layOrder_8 {x2 : Int32} {r : MRs} : ∀ (n : Nat) (x3 : Int32) (x4 : Int32) (x5 : Int32) (h : MH) (x : MH), L_M_layOrder_8 x2 n x3 x4 x5 h = some x → (True) → (∀ (h' : MH), x = (h') → Go 1 220 104 (mm_lf []) [] h' r) → Go 1 220 8 (mm_lf [(0, .inr (.inl (some 55))), (2, .inl x2), (3, .inl x3), (4, .inl x4), (5, .inl x5)]) [] h r
  | 0, _, _, _, _, _, hF, _, _ => by cases hF
  | n + 1, x3, x4, x5, h, x, hF, KR, KX => by
    have ih := fun a3 a4 a5 => A_L_M_layOrder_8 (x2 := x2) (r := r) n a3 a4 a5 
    unfold L_M_layOrder_8 at hF
    refine g_iload (q := 10) rfl rfl rfl ?_
    refine g_iload_n (q := 11) rfl rfl rfl ?_
    by_cases c20 : x2 ≤ x5
    · rw [if_pos c20] at hF
      refine g_icmpT rfl (decide_eq_true c20) ?_
      injection hF with hF
      subst hF
      exact go_sub mm_sub0 (KX  _ rfl)
    · rw [if_neg c20] at hF
      refine g_icmpF (q := 14) rfl (decide_eq_false c20) rfl ?_
      refine g_iload_n (q := 15) rfl rfl rfl ?_
      refine g_iconst (q := 16) rfl rfl ?_
      refine g_isub (q := 17) rfl rfl ?_
      refine g_iload (q := 19) rfl rfl rfl ?_
      refine g_isub (q := 20) rfl rfl ?_
      obtain ⟨⟨r2, h1⟩, hC, hF⟩ := bd_I hF
      dsimp only at hF
      refine g_ci1 (q := 23) rfl rfl (fun _ => rfl) rfl (A_M_ordersOf hC) (by decide +kernel) rfl ?_
      refine g_istore (q := 25) rfl rfl ?_
      refine g_iload_n (q := 26) rfl rfl rfl ?_
      refine g_iload (q := 28) rfl rfl rfl ?_
      obtain ⟨hne, hF⟩ := cd_I hF
      refine g_idiv (q := 29) rfl hne rfl ?_
      refine g_istore (q := 31) rfl rfl ?_
      refine g_iload_n (q := 32) rfl rfl rfl ?_
      refine g_iload (q := 34) rfl rfl rfl ?_
      obtain ⟨hne, hF⟩ := cd_I hF
      refine g_irem (q := 35) rfl hne rfl ?_
      refine g_istore_n (q := 36) rfl rfl ?_
      refine g_iconst (q := 37) rfl rfl ?_
      refine g_istore (q := 39) rfl rfl ?_
      refine go_sub (lo' := mm_lf [(0, .inr (.inl (some 55))), (2, .inl x2), (3, .inl (irem x3 r2)), (4, .inl x4), (5, .inl x5), (7, .inl (x3 / r2)), (8, .inl (I 0))]) (mm_subc rfl (mm_subc rfl (mm_subc rfl (mm_subc rfl (mm_subc rfl (mm_subc rfl (mm_subc rfl mm_sub0))))))) ?_
      obtain ⟨⟨y17, h18⟩, hC, hF⟩ := bd_I hF
      dsimp only at hF
      refine A_L_M_layOrder_39 5000 _ _ _ _ hC trivial ?_
      intro _ _ e2
      cases e2
      refine g_aload_n (q := 81) rfl rfl rfl ?_
      refine g_getR (q := 84) rfl (fun _ => rfl) rfl ?_
      refine g_iload (q := 86) rfl rfl rfl ?_
      refine g_iload (q := 88) rfl rfl rfl ?_
      obtain ⟨hi, hF⟩ := ck_I hF
      refine g_iastore (q := 89) rfl rfl rfl hi rfl ?_
      obtain ⟨h19, e_h19, hF⟩ := hw_I hF
      rw [← e_h19]
      refine g_iload (q := 91) rfl rfl rfl ?_
      refine g_iconst (q := 92) rfl rfl ?_
      refine g_iload (q := 94) rfl rfl rfl ?_
      refine g_ishl (q := 95) rfl rfl ?_
      refine g_ior (q := 96) rfl rfl ?_
      refine g_istore (q := 98) rfl rfl ?_
      refine g_iinc (q := 101) rfl rfl rfl ?_
      refine g_goto rfl ?_
      refine go_sub (lo' := mm_lf [(0, .inr (.inl (some 55))), (2, .inl x2), (3, .inl (irem x3 r2)), (4, .inl (x4 ||| ((I 1) <<< (y17 &&& 31)))), (5, .inl (x5 + I 1))]) (mm_subc rfl (mm_subc rfl (mm_subc rfl (mm_subc rfl (mm_subc rfl mm_sub0))))) ?_
      exact ih _ _ _ _ _ hF KR KX
theorem A_M_layOrder {x1 : Int32} {x2 : Int32} {h h' : MH} (hF : F_M_layOrder x1 x2 h = some h') : Ex 2 220 [.inr (.inl (some 55)), .inl x1, .inl x2] h (none, h') := by
  unfold F_M_layOrder at hF
  refine ex_of (d := 1) rfl rfl ?_
  refine g_iload_n (q := 1) rfl rfl rfl ?_
  refine g_istore_n (q := 2) rfl rfl ?_
  refine g_iconst (q := 3) rfl rfl ?_
  refine g_istore (q := 5) rfl rfl ?_
  refine g_iconst (q := 6) rfl rfl ?_
  refine g_istore (q := 8) rfl rfl ?_
  refine go_sub (lo' := mm_lf [(0, .inr (.inl (some 55))), (2, .inl x2), (3, .inl x1), (4, .inl (I 0)), (5, .inl (I 0))]) (mm_subc rfl (mm_subc rfl (mm_subc rfl (mm_subc rfl (mm_subc rfl mm_sub0))))) ?_
  obtain ⟨h21, hC, hF⟩ := bd_I hF
  refine A_L_M_layOrder_8 5000 _ _ _ _ _ hC trivial ?_
  intro _ e2
  cases e2
  injection hF with hF
  subst hF
  exact g_vret rfl
