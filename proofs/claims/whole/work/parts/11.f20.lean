-- decompiled by wip/whole/dec.py: what a method does (F_), and that the mini machine does it (A_)
def L_M_enough_30 (x1 : Int32) : Nat → Int32 → Int32 → MH → Option (Int32 × MH)
  | 0, _, _, _ => none
  | n + 1, x2, x3, h => if x3 < 0 then some (x2, h) else if (h.1 55 5) ≤ 0 then some (x2, h) else bd (F_M_onesOf x3 h) (fun (r5, h4) => bd (F_M_onesOf x2 h4) (fun (r7, h6) => if r7 < r5 then L_M_enough_30 x1 n x2 (x3 + I (-1)) h6 else bd (F_M_isEnough x3 x1 h6) (fun (r9, h8) => iw (if r9 = 0 then x2 else x3) (fun v10 => L_M_enough_30 x1 n v10 (x3 + I (-1)) h8))))
/-- BothCornersModel.enough(I)I -/
def F_M_enough (x1 : Int32) (h : MH) : Option (Int32 × MH) := hw (mm_hset h.1 55 10 (I 0), h.2) (fun h1 => bd (F_M_isOne x1 h1) (fun (r3, h2) => if ¬ r3 = 0 then bd (L_M_enough_30 x1 5000 (((I 1) <<< ((h2.1 55 5) &&& 31)) - (I 1)) (((I 1) <<< ((h2.1 55 5) &&& 31)) - (I 1)) h2) (fun (y16, h17) => some (y16, h17)) else bd (F_M_refuse (I (-1)) h2) (fun (r19, h18) => some (r19, h18))))
theorem A_L_M_enough_30 {x1 : Int32} {r : MRs} : ∀ (n : Nat) (x2 : Int32) (x3 : Int32) (h : MH) (x : Int32 × MH), L_M_enough_30 x1 n x2 x3 h = some x → (True) → (∀ (e2 : Int32) (h' : MH), x = (e2, h') → Go 7 260 73 (mm_lf [(2, .inl e2)]) [] h' r) → Go 7 260 30 (mm_lf [(0, .inr (.inl (some 55))), (1, .inl x1), (2, .inl x2), (3, .inl x3)]) [] h r
  | 0, _, _, _, _, hF, _, _ => by cases hF
  | n + 1, x2, x3, h, x, hF, KR, KX => by
    have ih := fun a2 a3 => A_L_M_enough_30 (x1 := x1) (r := r) n a2 a3 
    unfold L_M_enough_30 at hF
    refine g_iload_n (q := 31) rfl rfl rfl ?_
    by_cases c15 : x3 < 0
    · rw [if_pos c15] at hF
      refine g_ifT rfl (decide_eq_true c15) ?_
      injection hF with hF
      subst hF
      exact go_sub (mm_subc rfl mm_sub0) (KX _ _ rfl)
    · rw [if_neg c15] at hF
      refine g_ifF (q := 34) rfl (decide_eq_false c15) rfl ?_
      refine g_aload_n (q := 35) rfl rfl rfl ?_
      refine g_getI (q := 38) rfl (fun _ => rfl) rfl ?_
      by_cases c14 : (h.1 55 5) ≤ 0
      · rw [if_pos c14] at hF
        refine g_ifT rfl (decide_eq_true c14) ?_
        injection hF with hF
        subst hF
        exact go_sub (mm_subc rfl mm_sub0) (KX _ _ rfl)
      · rw [if_neg c14] at hF
        refine g_ifF (q := 41) rfl (decide_eq_false c14) rfl ?_
        refine g_iload_n (q := 42) rfl rfl rfl ?_
        obtain ⟨⟨r5, h4⟩, hC, hF⟩ := bd_I hF
        dsimp only at hF
        refine g_ci1 (q := 45) rfl rfl (fun _ => rfl) rfl (A_M_onesOf hC) (by decide +kernel) rfl ?_
        refine g_iload_n (q := 46) rfl rfl rfl ?_
        obtain ⟨⟨r7, h6⟩, hC, hF⟩ := bd_I hF
        dsimp only at hF
        refine g_ci1 (q := 49) rfl rfl (fun _ => rfl) rfl (A_M_onesOf hC) (by decide +kernel) rfl ?_
        by_cases c13 : r7 < r5
        · rw [if_pos c13] at hF
          refine g_icmpT rfl (decide_eq_true c13) ?_
          refine g_iinc (q := 70) rfl rfl rfl ?_
          refine g_goto rfl ?_
          refine go_sub (lo' := mm_lf [(0, .inr (.inl (some 55))), (1, .inl x1), (2, .inl x2), (3, .inl (x3 + I (-1)))]) (mm_subc rfl (mm_subc rfl (mm_subc rfl (mm_subc rfl mm_sub0)))) ?_
          exact ih _ _ _ _ hF KR KX
        · rw [if_neg c13] at hF
          refine g_icmpF (q := 52) rfl (decide_eq_false c13) rfl ?_
          refine g_aload_n (q := 53) rfl rfl rfl ?_
          refine g_iload_n (q := 54) rfl rfl rfl ?_
          refine g_iload_n (q := 55) rfl rfl rfl ?_
          obtain ⟨⟨r9, h8⟩, hC, hF⟩ := bd_I hF
          dsimp only at hF
          refine g_ci3 (q := 58) rfl rfl (fun _ => rfl) rfl (A_M_isEnough hC) (by decide +kernel) rfl ?_
          obtain ⟨v10, e_v10, hF⟩ := iw_I hF
          suffices K11 : Go 7 260 66 (mm_lf [(0, .inr (.inl (some 55))), (1, .inl x1), (3, .inl x3)]) [.inl v10] h8 r by
            clear hF
            by_cases c12 : r9 = 0
            · simp only [if_pos c12] at e_v10
              subst e_v10
              refine g_ifT rfl (decide_eq_true c12) ?_
              refine g_iload_n (q := 66) rfl rfl rfl ?_
              exact go_sub (mm_subc rfl (mm_subc rfl (mm_subc rfl mm_sub0))) K11
            · simp only [if_neg c12] at e_v10
              subst e_v10
              refine g_ifF (q := 61) rfl (decide_eq_false c12) rfl ?_
              refine g_iload_n (q := 62) rfl rfl rfl ?_
              refine g_goto rfl ?_
              exact go_sub (mm_subc rfl (mm_subc rfl (mm_subc rfl mm_sub0))) K11
          clear e_v10
          refine g_istore_n (q := 67) rfl rfl ?_
          refine g_iinc (q := 70) rfl rfl rfl ?_
          refine g_goto rfl ?_
          refine go_sub (lo' := mm_lf [(0, .inr (.inl (some 55))), (1, .inl x1), (2, .inl v10), (3, .inl (x3 + I (-1)))]) (mm_subc rfl (mm_subc rfl (mm_subc rfl (mm_subc rfl mm_sub0)))) ?_
          exact ih _ _ _ _ hF KR KX
theorem A_M_enough {x1 : Int32} {h h' : MH} {v : Int32} (hF : F_M_enough x1 h = some (v, h')) : Ex 8 260 [.inr (.inl (some 55)), .inl x1] h (some (.inl v), h') := by
  unfold F_M_enough at hF
  refine ex_of (d := 7) rfl rfl ?_
  refine g_aload_n (q := 1) rfl rfl rfl ?_
  refine g_iconst (q := 2) rfl rfl ?_
  refine g_putI (q := 5) rfl (fun _ => rfl) rfl ?_
  obtain ⟨h1, e_h1, hF⟩ := hw_I hF
  rw [← e_h1]
  refine g_aload_n (q := 6) rfl rfl rfl ?_
  refine g_iload_n (q := 7) rfl rfl rfl ?_
  obtain ⟨⟨r3, h2⟩, hC, hF⟩ := bd_I hF
  dsimp only at hF
  refine g_ci2 (q := 10) rfl rfl (fun _ => rfl) rfl (A_M_isOne hC) (by decide +kernel) rfl ?_
  by_cases c20 : ¬ r3 = 0
  · rw [if_pos c20] at hF
    refine g_ifT rfl (decide_eq_true c20) ?_
    refine g_iconst (q := 20) rfl rfl ?_
    refine g_aload_n (q := 21) rfl rfl rfl ?_
    refine g_getI (q := 24) rfl (fun _ => rfl) rfl ?_
    refine g_ishl (q := 25) rfl rfl ?_
    refine g_iconst (q := 26) rfl rfl ?_
    refine g_isub (q := 27) rfl rfl ?_
    refine g_istore_n (q := 28) rfl rfl ?_
    refine g_iload_n (q := 29) rfl rfl rfl ?_
    refine g_istore_n (q := 30) rfl rfl ?_
    refine go_sub (lo' := mm_lf [(0, .inr (.inl (some 55))), (1, .inl x1), (2, .inl (((I 1) <<< ((h2.1 55 5) &&& 31)) - (I 1))), (3, .inl (((I 1) <<< ((h2.1 55 5) &&& 31)) - (I 1)))]) (mm_subc rfl (mm_subc rfl (mm_subc rfl (mm_subc rfl mm_sub0)))) ?_
    obtain ⟨⟨y16, h17⟩, hC, hF⟩ := bd_I hF
    dsimp only at hF
    refine A_L_M_enough_30 5000 _ _ _ _ hC trivial ?_
    intro _ _ e2
    cases e2
    refine g_iload_n (q := 74) rfl rfl rfl ?_
    injection hF with hF
    injection hF with hv hh
    subst hv
    subst hh
    exact g_iret rfl
  · rw [if_neg c20] at hF
    refine g_ifF (q := 13) rfl (decide_eq_false c20) rfl ?_
    refine g_aload_n (q := 14) rfl rfl rfl ?_
    refine g_iconst (q := 15) rfl rfl ?_
    obtain ⟨⟨r19, h18⟩, hC, hF⟩ := bd_I hF
    dsimp only at hF
    refine g_ci2 (q := 18) rfl rfl (fun _ => rfl) rfl (A_M_refuse hC) (by decide +kernel) rfl ?_
    injection hF with hF
    injection hF with hv hh
    subst hv
    subst hh
    exact g_iret rfl
def L_M_flowBy_9 (x1 : Int32) (x2 : Int32) (x3 : Int32) : Nat → Int32 → Int32 → Int32 → MH → Option (Int32 × MH)
  | 0, _, _, _, _ => none
  | n + 1, x4, x5, x6, h => if (h.1 55 0) ≤ x6 then some (x5, h) else ck (mm_in x6 6) (ck (mm_in x1 6) (ck (mm_in x1 6) (ck (mm_in x2 4) (bd (F_M_secondsOf (h.1 72 (Int32.toNatClampNeg x6)) (h.1 59 (Int32.toNatClampNeg x1)) (h.1 60 (Int32.toNatClampNeg x1)) (h.1 58 (Int32.toNatClampNeg x2)) h) (fun (r2, h1) => bd (F_M_atLeast x5 (x4 + r2) h1) (fun (r4, h3) => bd (F_M_foldsOf (h.1 72 (Int32.toNatClampNeg x6)) x1 h3) (fun (r6, h5) => ck (mm_in x3 4) (bd (F_M_fewerBy (h5.1 57 (Int32.toNatClampNeg x3)) h5) (fun (r8, h7) => bd (F_M_shakesFor r6 r8 h7) (fun (r10, h9) => L_M_flowBy_9 x1 x2 x3 n (x4 + r2) (r4 + ((I 3) * r10)) (x6 + I 1) h9))))))))))
/-- BothCornersModel.flowBy(III)I -/
def F_M_flowBy (x1 : Int32) (x2 : Int32) (x3 : Int32) (h : MH) : Option (Int32 × MH) := bd (L_M_flowBy_9 x1 x2 x3 5000 (I 0) (I 0) (I 0) h) (fun (y12, h13) => some (y12, h13))
theorem A_L_M_flowBy_9 {x1 : Int32} {x2 : Int32} {x3 : Int32} {r : MRs} : ∀ (n : Nat) (x4 : Int32) (x5 : Int32) (x6 : Int32) (h : MH) (x : Int32 × MH), L_M_flowBy_9 x1 x2 x3 n x4 x5 x6 h = some x → (True) → (∀ (e5 : Int32) (h' : MH), x = (e5, h') → Go 3 261 93 (mm_lf [(5, .inl e5)]) [] h' r) → Go 3 261 9 (mm_lf [(0, .inr (.inl (some 55))), (1, .inl x1), (2, .inl x2), (3, .inl x3), (4, .inl x4), (5, .inl x5), (6, .inl x6)]) [] h r
  | 0, _, _, _, _, _, hF, _, _ => by cases hF
  | n + 1, x4, x5, x6, h, x, hF, KR, KX => by
    have ih := fun a4 a5 a6 => A_L_M_flowBy_9 (x1 := x1) (x2 := x2) (x3 := x3) (r := r) n a4 a5 a6 
    unfold L_M_flowBy_9 at hF
    refine g_iload (q := 11) rfl rfl rfl ?_
    refine g_aload_n (q := 12) rfl rfl rfl ?_
    refine g_getI (q := 15) rfl (fun _ => rfl) rfl ?_
    by_cases c11 : (h.1 55 0) ≤ x6
    · rw [if_pos c11] at hF
      refine g_icmpT rfl (decide_eq_true c11) ?_
      injection hF with hF
      subst hF
      exact go_sub (mm_subc rfl mm_sub0) (KX _ _ rfl)
    · rw [if_neg c11] at hF
      refine g_icmpF (q := 18) rfl (decide_eq_false c11) rfl ?_
      refine g_aload_n (q := 19) rfl rfl rfl ?_
      refine g_getR (q := 22) rfl (fun _ => rfl) rfl ?_
      refine g_iload (q := 24) rfl rfl rfl ?_
      obtain ⟨hi, hF⟩ := ck_I hF
      refine g_iaload (q := 25) rfl rfl rfl hi rfl ?_
      refine g_istore (q := 27) rfl rfl ?_
      refine g_iload (q := 29) rfl rfl rfl ?_
      refine g_aload_n (q := 30) rfl rfl rfl ?_
      refine g_iload (q := 32) rfl rfl rfl ?_
      refine g_aload_n (q := 33) rfl rfl rfl ?_
      refine g_getR (q := 36) rfl (fun _ => rfl) rfl ?_
      refine g_iload_n (q := 37) rfl rfl rfl ?_
      obtain ⟨hi, hF⟩ := ck_I hF
      refine g_iaload (q := 38) rfl rfl rfl hi rfl ?_
      refine g_aload_n (q := 39) rfl rfl rfl ?_
      refine g_getR (q := 42) rfl (fun _ => rfl) rfl ?_
      refine g_iload_n (q := 43) rfl rfl rfl ?_
      obtain ⟨hi, hF⟩ := ck_I hF
      refine g_iaload (q := 44) rfl rfl rfl hi rfl ?_
      refine g_aload_n (q := 45) rfl rfl rfl ?_
      refine g_getR (q := 48) rfl (fun _ => rfl) rfl ?_
      refine g_iload_n (q := 49) rfl rfl rfl ?_
      obtain ⟨hi, hF⟩ := ck_I hF
      refine g_iaload (q := 50) rfl rfl rfl hi rfl ?_
      obtain ⟨⟨r2, h1⟩, hC, hF⟩ := bd_I hF
      dsimp only at hF
      refine g_ci5 (q := 53) rfl rfl (fun _ => rfl) rfl (A_M_secondsOf hC) (by decide +kernel) rfl ?_
      refine g_iadd (q := 54) rfl rfl ?_
      refine g_istore (q := 56) rfl rfl ?_
      refine g_iload (q := 58) rfl rfl rfl ?_
      refine g_iload (q := 60) rfl rfl rfl ?_
      obtain ⟨⟨r4, h3⟩, hC, hF⟩ := bd_I hF
      dsimp only at hF
      refine g_ci2 (q := 63) rfl rfl (fun _ => rfl) rfl (A_M_atLeast hC) (by decide +kernel) rfl ?_
      refine g_iconst (q := 64) rfl rfl ?_
      refine g_aload_n (q := 65) rfl rfl rfl ?_
      refine g_iload (q := 67) rfl rfl rfl ?_
      refine g_iload_n (q := 68) rfl rfl rfl ?_
      obtain ⟨⟨r6, h5⟩, hC, hF⟩ := bd_I hF
      dsimp only at hF
      refine g_ci3 (q := 71) rfl rfl (fun _ => rfl) rfl (A_M_foldsOf hC) (by decide +kernel) rfl ?_
      refine g_aload_n (q := 72) rfl rfl rfl ?_
      refine g_getR (q := 75) rfl (fun _ => rfl) rfl ?_
      refine g_iload_n (q := 76) rfl rfl rfl ?_
      obtain ⟨hi, hF⟩ := ck_I hF
      refine g_iaload (q := 77) rfl rfl rfl hi rfl ?_
      obtain ⟨⟨r8, h7⟩, hC, hF⟩ := bd_I hF
      dsimp only at hF
      refine g_ci1 (q := 80) rfl rfl (fun _ => rfl) rfl (A_M_fewerBy hC) (by decide +kernel) rfl ?_
      obtain ⟨⟨r10, h9⟩, hC, hF⟩ := bd_I hF
      dsimp only at hF
      refine g_ci2 (q := 83) rfl rfl (fun _ => rfl) rfl (A_M_shakesFor hC) (by decide +kernel) rfl ?_
      refine g_imul (q := 84) rfl rfl ?_
      refine g_iadd (q := 85) rfl rfl ?_
      refine g_istore (q := 87) rfl rfl ?_
      refine g_iinc (q := 90) rfl rfl rfl ?_
      refine g_goto rfl ?_
      refine go_sub (lo' := mm_lf [(0, .inr (.inl (some 55))), (1, .inl x1), (2, .inl x2), (3, .inl x3), (4, .inl (x4 + r2)), (5, .inl (r4 + ((I 3) * r10))), (6, .inl (x6 + I 1))]) (mm_subc rfl (mm_subc rfl (mm_subc rfl (mm_subc rfl (mm_subc rfl (mm_subc rfl (mm_subc rfl mm_sub0))))))) ?_
      exact ih _ _ _ _ _ hF KR KX
theorem A_M_flowBy {x1 : Int32} {x2 : Int32} {x3 : Int32} {h h' : MH} {v : Int32} (hF : F_M_flowBy x1 x2 x3 h = some (v, h')) : Ex 4 261 [.inr (.inl (some 55)), .inl x1, .inl x2, .inl x3] h (some (.inl v), h') := by
  unfold F_M_flowBy at hF
  refine ex_of (d := 3) rfl rfl ?_
  refine g_iconst (q := 1) rfl rfl ?_
  refine g_istore (q := 3) rfl rfl ?_
  refine g_iconst (q := 4) rfl rfl ?_
  refine g_istore (q := 6) rfl rfl ?_
  refine g_iconst (q := 7) rfl rfl ?_
  refine g_istore (q := 9) rfl rfl ?_
  refine go_sub (lo' := mm_lf [(0, .inr (.inl (some 55))), (1, .inl x1), (2, .inl x2), (3, .inl x3), (4, .inl (I 0)), (5, .inl (I 0)), (6, .inl (I 0))]) (mm_subc rfl (mm_subc rfl (mm_subc rfl (mm_subc rfl (mm_subc rfl (mm_subc rfl (mm_subc rfl mm_sub0))))))) ?_
  obtain ⟨⟨y12, h13⟩, hC, hF⟩ := bd_I hF
  dsimp only at hF
  refine A_L_M_flowBy_9 5000 _ _ _ _ _ hC trivial ?_
  intro _ _ e2
  cases e2
  refine g_iload (q := 95) rfl rfl rfl ?_
  injection hF with hF
  injection hF with hv hh
  subst hv
  subst hh
  exact g_iret rfl
def L_M_flow_82 (x1 : Int32) (x2 : Int32) (x3 : Int32) (x4 : Int32) (x8 : Int32) : Nat → Int32 → Int32 → Int32 → MH → Option (Int32 × Int32 × MH)
  | 0, _, _, _, _ => none
  | n + 1, x6, x7, x9, h => if x8 ≤ x9 then some (x6, x7, h) else bd (F_M_layOrder x9 (h.1 55 0) h) (fun h9 => bd (F_M_flowBy x1 x2 x3 h9) (fun (r11, h10) => iw (if x7 < 0 then x9 else (if x7 ≤ r11 then x6 else x9)) (fun v12 => iw (if x7 < 0 then r11 else (if x7 ≤ r11 then x7 else r11)) (fun v14 => L_M_flow_82 x1 x2 x3 x4 x8 n v12 v14 (x9 + I 1) h10))))
/-- BothCornersModel.flow(IIII)I -/
def F_M_flow (x1 : Int32) (x2 : Int32) (x3 : Int32) (x4 : Int32) (h : MH) : Option (Int32 × MH) := hw (mm_hset h.1 55 10 (I 0), h.2) (fun h1 => bd (F_M_isWay x1 h1) (fun (r3, h2) => kw (fun (z4 : Int32) (h5 : MH) => if 0 ≤ z4 then bd (F_M_ordersOf (h5.1 55 0) h5) (fun (r8, h7) => bd (L_M_flow_82 x1 x2 x3 x4 r8 5000 (I 0) (I (-1)) (I 0) h7) (fun (y21, y22, h23) => if 0 ≤ x4 then bd (F_M_layOrder y21 (h23.1 55 0) h23) (fun h24 => if (h24.1 55 0) ≤ x4 then some (I (-9), h24) else ck (mm_in x4 6) (some (h24.1 72 (Int32.toNatClampNeg x4), h24))) else some (y22, h23))) else bd (F_M_refuse z4 h5) (fun (r28, h27) => some (r28, h27))) (fun k6 => if r3 = 0 then k6 (I (-1)) h2 else bd (F_M_isOne x2 h2) (fun (r32, h31) => if r32 = 0 then k6 (I (-1)) h31 else bd (F_M_isOne x3 h31) (fun (r34, h33) => if r34 = 0 then k6 (I (-1)) h33 else if x2 = x3 then k6 (I (-1)) h33 else if (I (-1)) ≤ x4 then k6 (I 0) h33 else k6 (I (-4)) h33)))))
theorem A_L_M_flow_82 {x1 : Int32} {x2 : Int32} {x3 : Int32} {x4 : Int32} {x8 : Int32} {r : MRs} : ∀ (n : Nat) (x6 : Int32) (x7 : Int32) (x9 : Int32) (h : MH) (x : Int32 × Int32 × MH), L_M_flow_82 x1 x2 x3 x4 x8 n x6 x7 x9 h = some x → (True) → (∀ (e6 : Int32) (e7 : Int32) (h' : MH), x = (e6, e7, h') → Go 4 262 156 (mm_lf [(0, .inr (.inl (some 55))), (4, .inl x4), (6, .inl e6), (7, .inl e7)]) [] h' r) → Go 4 262 82 (mm_lf [(0, .inr (.inl (some 55))), (1, .inl x1), (2, .inl x2), (3, .inl x3), (4, .inl x4), (6, .inl x6), (7, .inl x7), (8, .inl x8), (9, .inl x9)]) [] h r
  | 0, _, _, _, _, _, hF, _, _ => by cases hF
  | n + 1, x6, x7, x9, h, x, hF, KR, KX => by
    have ih := fun a6 a7 a9 => A_L_M_flow_82 (x1 := x1) (x2 := x2) (x3 := x3) (x4 := x4) (x8 := x8) (r := r) n a6 a7 a9 
    unfold L_M_flow_82 at hF
    refine g_iload (q := 84) rfl rfl rfl ?_
    refine g_iload (q := 86) rfl rfl rfl ?_
    by_cases c20 : x8 ≤ x9
    · rw [if_pos c20] at hF
      refine g_icmpT rfl (decide_eq_true c20) ?_
      injection hF with hF
      subst hF
      exact go_sub (mm_subc rfl (mm_subc rfl (mm_subc rfl (mm_subc rfl mm_sub0)))) (KX _ _ _ rfl)
    · rw [if_neg c20] at hF
      refine g_icmpF (q := 89) rfl (decide_eq_false c20) rfl ?_
      refine g_aload_n (q := 90) rfl rfl rfl ?_
      refine g_iload (q := 92) rfl rfl rfl ?_
      refine g_aload_n (q := 93) rfl rfl rfl ?_
      refine g_getI (q := 96) rfl (fun _ => rfl) rfl ?_
      obtain ⟨h9, hC, hF⟩ := bd_I hF
      refine g_cv3 (q := 99) rfl rfl (fun _ => rfl) rfl (A_M_layOrder hC) (by decide +kernel) rfl ?_
      refine g_aload_n (q := 100) rfl rfl rfl ?_
      refine g_iload_n (q := 101) rfl rfl rfl ?_
      refine g_iload_n (q := 102) rfl rfl rfl ?_
      refine g_iload_n (q := 103) rfl rfl rfl ?_
      obtain ⟨⟨r11, h10⟩, hC, hF⟩ := bd_I hF
      dsimp only at hF
      refine g_ci4 (q := 106) rfl rfl (fun _ => rfl) rfl (A_M_flowBy hC) (by decide +kernel) rfl ?_
      refine g_istore (q := 108) rfl rfl ?_
      refine g_iload (q := 110) rfl rfl rfl ?_
      obtain ⟨v12, e_v12, hF⟩ := iw_I hF
      suffices K13 : Go 4 262 127 (mm_lf [(0, .inr (.inl (some 55))), (1, .inl x1), (2, .inl x2), (3, .inl x3), (4, .inl x4), (7, .inl x7), (8, .inl x8), (9, .inl x9), (10, .inl r11)]) [.inl v12] h10 r by
        clear hF
        by_cases c18 : x7 < 0
        · simp only [if_pos c18] at e_v12
          subst e_v12
          refine g_ifT rfl (decide_eq_true c18) ?_
          refine g_iload (q := 122) rfl rfl rfl ?_
          refine g_goto rfl ?_
          exact go_sub (mm_subc rfl (mm_subc rfl (mm_subc rfl (mm_subc rfl (mm_subc rfl (mm_subc rfl (mm_subc rfl (mm_subc rfl (mm_subc rfl mm_sub0))))))))) K13
        · simp only [if_neg c18] at e_v12
          refine g_ifF (q := 113) rfl (decide_eq_false c18) rfl ?_
          refine g_iload (q := 115) rfl rfl rfl ?_
          refine g_iload (q := 117) rfl rfl rfl ?_
          by_cases c19 : x7 ≤ r11
          · simp only [if_pos c19] at e_v12
            subst e_v12
            refine g_icmpT rfl (decide_eq_true c19) ?_
            refine g_iload (q := 127) rfl rfl rfl ?_
            exact go_sub (mm_subc rfl (mm_subc rfl (mm_subc rfl (mm_subc rfl (mm_subc rfl (mm_subc rfl (mm_subc rfl (mm_subc rfl (mm_subc rfl mm_sub0))))))))) K13
          · simp only [if_neg c19] at e_v12
            subst e_v12
            refine g_icmpF (q := 120) rfl (decide_eq_false c19) rfl ?_
            refine g_iload (q := 122) rfl rfl rfl ?_
            refine g_goto rfl ?_
            exact go_sub (mm_subc rfl (mm_subc rfl (mm_subc rfl (mm_subc rfl (mm_subc rfl (mm_subc rfl (mm_subc rfl (mm_subc rfl (mm_subc rfl mm_sub0))))))))) K13
      clear e_v12
      refine g_istore (q := 129) rfl rfl ?_
      refine g_iload (q := 131) rfl rfl rfl ?_
      obtain ⟨v14, e_v14, hF⟩ := iw_I hF
      suffices K15 : Go 4 262 148 (mm_lf [(0, .inr (.inl (some 55))), (1, .inl x1), (2, .inl x2), (3, .inl x3), (4, .inl x4), (6, .inl v12), (8, .inl x8), (9, .inl x9)]) [.inl v14] h10 r by
        clear hF
        by_cases c16 : x7 < 0
        · simp only [if_pos c16] at e_v14
          subst e_v14
          refine g_ifT rfl (decide_eq_true c16) ?_
          refine g_iload (q := 143) rfl rfl rfl ?_
          refine g_goto rfl ?_
          exact go_sub (mm_subc rfl (mm_subc rfl (mm_subc rfl (mm_subc rfl (mm_subc rfl (mm_subc rfl (mm_subc rfl (mm_subc rfl mm_sub0)))))))) K15
        · simp only [if_neg c16] at e_v14
          refine g_ifF (q := 134) rfl (decide_eq_false c16) rfl ?_
          refine g_iload (q := 136) rfl rfl rfl ?_
          refine g_iload (q := 138) rfl rfl rfl ?_
          by_cases c17 : x7 ≤ r11
          · simp only [if_pos c17] at e_v14
            subst e_v14
            refine g_icmpT rfl (decide_eq_true c17) ?_
            refine g_iload (q := 148) rfl rfl rfl ?_
            exact go_sub (mm_subc rfl (mm_subc rfl (mm_subc rfl (mm_subc rfl (mm_subc rfl (mm_subc rfl (mm_subc rfl (mm_subc rfl mm_sub0)))))))) K15
          · simp only [if_neg c17] at e_v14
            subst e_v14
            refine g_icmpF (q := 141) rfl (decide_eq_false c17) rfl ?_
            refine g_iload (q := 143) rfl rfl rfl ?_
            refine g_goto rfl ?_
            exact go_sub (mm_subc rfl (mm_subc rfl (mm_subc rfl (mm_subc rfl (mm_subc rfl (mm_subc rfl (mm_subc rfl (mm_subc rfl mm_sub0)))))))) K15
      clear e_v14
      refine g_istore (q := 150) rfl rfl ?_
      refine g_iinc (q := 153) rfl rfl rfl ?_
      refine g_goto rfl ?_
      refine go_sub (lo' := mm_lf [(0, .inr (.inl (some 55))), (1, .inl x1), (2, .inl x2), (3, .inl x3), (4, .inl x4), (6, .inl v12), (7, .inl v14), (8, .inl x8), (9, .inl (x9 + I 1))]) (mm_subc rfl (mm_subc rfl (mm_subc rfl (mm_subc rfl (mm_subc rfl (mm_subc rfl (mm_subc rfl (mm_subc rfl (mm_subc rfl mm_sub0))))))))) ?_
      exact ih _ _ _ _ _ hF KR KX
theorem A_M_flow {x1 : Int32} {x2 : Int32} {x3 : Int32} {x4 : Int32} {h h' : MH} {v : Int32} (hF : F_M_flow x1 x2 x3 x4 h = some (v, h')) : Ex 5 262 [.inr (.inl (some 55)), .inl x1, .inl x2, .inl x3, .inl x4] h (some (.inl v), h') := by
  unfold F_M_flow at hF
  refine ex_of (d := 4) rfl rfl ?_
  refine g_aload_n (q := 1) rfl rfl rfl ?_
  refine g_iconst (q := 2) rfl rfl ?_
  refine g_putI (q := 5) rfl (fun _ => rfl) rfl ?_
  obtain ⟨h1, e_h1, hF⟩ := hw_I hF
  rw [← e_h1]
  refine g_aload_n (q := 6) rfl rfl rfl ?_
  refine g_iload_n (q := 7) rfl rfl rfl ?_
  obtain ⟨⟨r3, h2⟩, hC, hF⟩ := bd_I hF
  dsimp only at hF
  refine g_ci2 (q := 10) rfl rfl (fun _ => rfl) rfl (A_M_isWay hC) (by decide +kernel) rfl ?_
  obtain ⟨k6, e_k6, hF⟩ := kw_I hF
  have K30 : ∀ (z4 : Int32) (h5 : MH), k6 z4 h5 = some (v, h') → Go 4 262 50 (mm_lf [(0, .inr (.inl (some 55))), (1, .inl x1), (2, .inl x2), (3, .inl x3), (4, .inl x4)]) [.inl z4] h5 (some (.inl v), h') := by
    intro z4 h5 hF
    rw [e_k6] at hF
    dsimp only at hF
    refine g_istore (q := 52) rfl rfl ?_
    refine g_iload (q := 54) rfl rfl rfl ?_
    by_cases c29 : 0 ≤ z4
    · rw [if_pos c29] at hF
      refine g_ifT rfl (decide_eq_true c29) ?_
      refine g_iconst (q := 65) rfl rfl ?_
      refine g_istore (q := 67) rfl rfl ?_
      refine g_iconst (q := 68) rfl rfl ?_
      refine g_istore (q := 70) rfl rfl ?_
      refine g_aload_n (q := 71) rfl rfl rfl ?_
      refine g_getI (q := 74) rfl (fun _ => rfl) rfl ?_
      obtain ⟨⟨r8, h7⟩, hC, hF⟩ := bd_I hF
      dsimp only at hF
      refine g_ci1 (q := 77) rfl rfl (fun _ => rfl) rfl (A_M_ordersOf hC) (by decide +kernel) rfl ?_
      refine g_istore (q := 79) rfl rfl ?_
      refine g_iconst (q := 80) rfl rfl ?_
      refine g_istore (q := 82) rfl rfl ?_
      refine go_sub (lo' := mm_lf [(0, .inr (.inl (some 55))), (1, .inl x1), (2, .inl x2), (3, .inl x3), (4, .inl x4), (6, .inl (I 0)), (7, .inl (I (-1))), (8, .inl r8), (9, .inl (I 0))]) (mm_subc rfl (mm_subc rfl (mm_subc rfl (mm_subc rfl (mm_subc rfl (mm_subc rfl (mm_subc rfl (mm_subc rfl (mm_subc rfl mm_sub0))))))))) ?_
      obtain ⟨⟨y21, y22, h23⟩, hC, hF⟩ := bd_I hF
      dsimp only at hF
      refine A_L_M_flow_82 5000 _ _ _ _ _ hC trivial ?_
      intro _ _ _ e2
      cases e2
      refine g_iload (q := 158) rfl rfl rfl ?_
      by_cases c26 : 0 ≤ x4
      · rw [if_pos c26] at hF
        refine g_ifT rfl (decide_eq_true c26) ?_
        refine g_aload_n (q := 165) rfl rfl rfl ?_
        refine g_iload (q := 167) rfl rfl rfl ?_
        refine g_aload_n (q := 168) rfl rfl rfl ?_
        refine g_getI (q := 171) rfl (fun _ => rfl) rfl ?_
        obtain ⟨h24, hC, hF⟩ := bd_I hF
        refine g_cv3 (q := 174) rfl rfl (fun _ => rfl) rfl (A_M_layOrder hC) (by decide +kernel) rfl ?_
        refine g_iload (q := 176) rfl rfl rfl ?_
        refine g_aload_n (q := 177) rfl rfl rfl ?_
        refine g_getI (q := 180) rfl (fun _ => rfl) rfl ?_
        by_cases c25 : (h24.1 55 0) ≤ x4
        · rw [if_pos c25] at hF
          refine g_icmpT rfl (decide_eq_true c25) ?_
          refine g_bipush (q := 195) rfl (by decide +kernel) rfl ?_
          injection hF with hF
          injection hF with hv hh
          subst hv
          subst hh
          exact g_iret rfl
        · rw [if_neg c25] at hF
          refine g_icmpF (q := 183) rfl (decide_eq_false c25) rfl ?_
          refine g_aload_n (q := 184) rfl rfl rfl ?_
          refine g_getR (q := 187) rfl (fun _ => rfl) rfl ?_
          refine g_iload (q := 189) rfl rfl rfl ?_
          obtain ⟨hi, hF⟩ := ck_I hF
          refine g_iaload (q := 190) rfl rfl rfl hi rfl ?_
          refine g_goto rfl ?_
          injection hF with hF
          injection hF with hv hh
          subst hv
          subst hh
          exact g_iret rfl
      · rw [if_neg c26] at hF
        refine g_ifF (q := 161) rfl (decide_eq_false c26) rfl ?_
        refine g_iload (q := 163) rfl rfl rfl ?_
        injection hF with hF
        injection hF with hv hh
        subst hv
        subst hh
        exact g_iret rfl
    · rw [if_neg c29] at hF
      refine g_ifF (q := 57) rfl (decide_eq_false c29) rfl ?_
      refine g_aload_n (q := 58) rfl rfl rfl ?_
      refine g_iload (q := 60) rfl rfl rfl ?_
      obtain ⟨⟨r28, h27⟩, hC, hF⟩ := bd_I hF
      dsimp only at hF
      refine g_ci2 (q := 63) rfl rfl (fun _ => rfl) rfl (A_M_refuse hC) (by decide +kernel) rfl ?_
      injection hF with hF
      injection hF with hv hh
      subst hv
      subst hh
      exact g_iret rfl
  clear e_k6
  by_cases c39 : r3 = 0
  · rw [if_pos c39] at hF
    refine g_ifT rfl (decide_eq_true c39) ?_
    refine g_iconst (q := 50) rfl rfl ?_
    exact go_sub (mm_subc rfl (mm_subc rfl (mm_subc rfl (mm_subc rfl (mm_subc rfl mm_sub0))))) (K30 _ _ hF)
  · rw [if_neg c39] at hF
    refine g_ifF (q := 13) rfl (decide_eq_false c39) rfl ?_
    refine g_aload_n (q := 14) rfl rfl rfl ?_
    refine g_iload_n (q := 15) rfl rfl rfl ?_
    obtain ⟨⟨r32, h31⟩, hC, hF⟩ := bd_I hF
    dsimp only at hF
    refine g_ci2 (q := 18) rfl rfl (fun _ => rfl) rfl (A_M_isOne hC) (by decide +kernel) rfl ?_
    by_cases c38 : r32 = 0
    · rw [if_pos c38] at hF
      refine g_ifT rfl (decide_eq_true c38) ?_
      refine g_iconst (q := 50) rfl rfl ?_
      exact go_sub (mm_subc rfl (mm_subc rfl (mm_subc rfl (mm_subc rfl (mm_subc rfl mm_sub0))))) (K30 _ _ hF)
    · rw [if_neg c38] at hF
      refine g_ifF (q := 21) rfl (decide_eq_false c38) rfl ?_
      refine g_aload_n (q := 22) rfl rfl rfl ?_
      refine g_iload_n (q := 23) rfl rfl rfl ?_
      obtain ⟨⟨r34, h33⟩, hC, hF⟩ := bd_I hF
      dsimp only at hF
      refine g_ci2 (q := 26) rfl rfl (fun _ => rfl) rfl (A_M_isOne hC) (by decide +kernel) rfl ?_
      by_cases c37 : r34 = 0
      · rw [if_pos c37] at hF
        refine g_ifT rfl (decide_eq_true c37) ?_
        refine g_iconst (q := 50) rfl rfl ?_
        exact go_sub (mm_subc rfl (mm_subc rfl (mm_subc rfl (mm_subc rfl (mm_subc rfl mm_sub0))))) (K30 _ _ hF)
      · rw [if_neg c37] at hF
        refine g_ifF (q := 29) rfl (decide_eq_false c37) rfl ?_
        refine g_iload_n (q := 30) rfl rfl rfl ?_
        refine g_iload_n (q := 31) rfl rfl rfl ?_
        by_cases c36 : x2 = x3
        · rw [if_pos c36] at hF
          refine g_icmpT rfl (decide_eq_true c36) ?_
          refine g_iconst (q := 50) rfl rfl ?_
          exact go_sub (mm_subc rfl (mm_subc rfl (mm_subc rfl (mm_subc rfl (mm_subc rfl mm_sub0))))) (K30 _ _ hF)
        · rw [if_neg c36] at hF
          refine g_icmpF (q := 34) rfl (decide_eq_false c36) rfl ?_
          refine g_iload (q := 36) rfl rfl rfl ?_
          refine g_iconst (q := 37) rfl rfl ?_
          by_cases c35 : (I (-1)) ≤ x4
          · rw [if_pos c35] at hF
            refine g_icmpT rfl (decide_eq_true c35) ?_
            refine g_iconst (q := 46) rfl rfl ?_
            refine g_goto rfl ?_
            exact go_sub (mm_subc rfl (mm_subc rfl (mm_subc rfl (mm_subc rfl (mm_subc rfl mm_sub0))))) (K30 _ _ hF)
          · rw [if_neg c35] at hF
            refine g_icmpF (q := 40) rfl (decide_eq_false c35) rfl ?_
            refine g_bipush (q := 42) rfl (by decide +kernel) rfl ?_
            refine g_goto rfl ?_
            exact go_sub (mm_subc rfl (mm_subc rfl (mm_subc rfl (mm_subc rfl (mm_subc rfl mm_sub0))))) (K30 _ _ hF)
def L_M_twins_41 (x1 : Int32) (x3 : Int32) : Nat → Int32 → Int32 → MH → Option (Int32 × MH)
  | 0, _, _, _ => none
  | n + 1, x2, x4, h => if ((I 4) * (h.1 55 0)) ≤ x4 then some (x2, h) else ck (mm_in (x3 + (I 2)) 24) (ck (mm_in (x4 + (I 2)) 24) (kw (fun (z4 : Int32) (h5 : MH) => ck (mm_in x3 24) (ck (mm_in x4 24) (kw (fun (z7 : Int32) (h8 : MH) => iw (if z4 = 0 then I 0 else (if x1 = 0 then I 1 else (if z7 = 0 then I 0 else I 1))) (fun v10 => L_M_twins_41 x1 x3 n (x2 + v10) (x4 + I 4) h8)) (fun k9 => if ¬ (h5.1 56 (Int32.toNatClampNeg x3)) = (h5.1 56 (Int32.toNatClampNeg x4)) then k9 (I 0) h5 else ck (mm_in (x3 + (I 1)) 24) (ck (mm_in (x4 + (I 1)) 24) (if ¬ (h5.1 56 (Int32.toNatClampNeg (x3 + (I 1)))) = (h5.1 56 (Int32.toNatClampNeg (x4 + (I 1)))) then k9 (I 0) h5 else k9 (I 1) h5)))))) (fun k6 => if ¬ (h.1 56 (Int32.toNatClampNeg (x3 + (I 2)))) = (h.1 56 (Int32.toNatClampNeg (x4 + (I 2)))) then k6 (I 0) h else ck (mm_in (x3 + (I 3)) 24) (ck (mm_in (x4 + (I 3)) 24) (if ¬ (h.1 56 (Int32.toNatClampNeg (x3 + (I 3)))) = (h.1 56 (Int32.toNatClampNeg (x4 + (I 3)))) then k6 (I 0) h else k6 (I 1) h)))))
def L_M_twins_26 (x1 : Int32) : Nat → Int32 → Int32 → MH → Option (Int32 × MH)
  | 0, _, _, _ => none
  | n + 1, x2, x3, h => if ((I 4) * (h.1 55 0)) ≤ x3 then some (x2, h) else bd (L_M_twins_41 x1 x3 5000 x2 (x3 + (I 4)) h) (fun (y22, h23) => L_M_twins_26 x1 n y22 (x3 + I 4) h23)
/-- BothCornersModel.twins(I)I -/
def F_M_twins (x1 : Int32) (h : MH) : Option (Int32 × MH) := hw (mm_hset h.1 55 10 (I 0), h.2) (fun h1 => bd (F_M_in (Int32.toInt64 x1) (Lg 0) (Lg 1) h1) (fun (r3, h2) => if ¬ r3 = 0 then bd (L_M_twins_26 x1 5000 (I 0) (I 0) h2) (fun (y25, h26) => some (y25, h26)) else bd (F_M_refuse (I (-2)) h2) (fun (r28, h27) => some (r28, h27))))
theorem A_L_M_twins_41 {x1 : Int32} {x3 : Int32} {r : MRs} : ∀ (n : Nat) (x2 : Int32) (x4 : Int32) (h : MH) (x : Int32 × MH), L_M_twins_41 x1 x3 n x2 x4 h = some x → (True) → (∀ (e2 : Int32) (h' : MH), x = (e2, h') → Go 1 263 170 (mm_lf [(0, .inr (.inl (some 55))), (1, .inl x1), (2, .inl e2), (3, .inl x3)]) [] h' r) → Go 1 263 41 (mm_lf [(0, .inr (.inl (some 55))), (1, .inl x1), (2, .inl x2), (3, .inl x3), (4, .inl x4)]) [] h r
  | 0, _, _, _, _, hF, _, _ => by cases hF
  | n + 1, x2, x4, h, x, hF, KR, KX => by
    have ih := fun a2 a4 => A_L_M_twins_41 (x1 := x1) (x3 := x3) (r := r) n a2 a4 
    unfold L_M_twins_41 at hF
    refine g_iload (q := 43) rfl rfl rfl ?_
    refine g_iconst (q := 44) rfl rfl ?_
    refine g_aload_n (q := 45) rfl rfl rfl ?_
    refine g_getI (q := 48) rfl (fun _ => rfl) rfl ?_
    refine g_imul (q := 49) rfl rfl ?_
    by_cases c21 : ((I 4) * (h.1 55 0)) ≤ x4
    · rw [if_pos c21] at hF
      refine g_icmpT rfl (decide_eq_true c21) ?_
      injection hF with hF
      subst hF
      exact go_sub (mm_subc rfl (mm_subc rfl (mm_subc rfl (mm_subc rfl mm_sub0)))) (KX _ _ rfl)
    · rw [if_neg c21] at hF
      refine g_icmpF (q := 52) rfl (decide_eq_false c21) rfl ?_
      refine g_aload_n (q := 53) rfl rfl rfl ?_
      refine g_getR (q := 56) rfl (fun _ => rfl) rfl ?_
      refine g_iload_n (q := 57) rfl rfl rfl ?_
      refine g_iconst (q := 58) rfl rfl ?_
      refine g_iadd (q := 59) rfl rfl ?_
      obtain ⟨hi, hF⟩ := ck_I hF
      refine g_iaload (q := 60) rfl rfl rfl hi rfl ?_
      refine g_aload_n (q := 61) rfl rfl rfl ?_
      refine g_getR (q := 64) rfl (fun _ => rfl) rfl ?_
      refine g_iload (q := 66) rfl rfl rfl ?_
      refine g_iconst (q := 67) rfl rfl ?_
      refine g_iadd (q := 68) rfl rfl ?_
      obtain ⟨hi, hF⟩ := ck_I hF
      refine g_iaload (q := 69) rfl rfl rfl hi rfl ?_
      obtain ⟨k6, e_k6, hF⟩ := kw_I hF
      have K18 : ∀ (z4 : Int32) (h5 : MH), k6 z4 h5 = some x → Go 1 263 97 (mm_lf [(0, .inr (.inl (some 55))), (1, .inl x1), (2, .inl x2), (3, .inl x3), (4, .inl x4)]) [.inl z4] h5 r := by
        intro z4 h5 hF
        rw [e_k6] at hF
        dsimp only at hF
        refine g_istore (q := 99) rfl rfl ?_
        refine g_aload_n (q := 100) rfl rfl rfl ?_
        refine g_getR (q := 103) rfl (fun _ => rfl) rfl ?_
        refine g_iload_n (q := 104) rfl rfl rfl ?_
        obtain ⟨hi, hF⟩ := ck_I hF
        refine g_iaload (q := 105) rfl rfl rfl hi rfl ?_
        refine g_aload_n (q := 106) rfl rfl rfl ?_
        refine g_getR (q := 109) rfl (fun _ => rfl) rfl ?_
        refine g_iload (q := 111) rfl rfl rfl ?_
        obtain ⟨hi, hF⟩ := ck_I hF
        refine g_iaload (q := 112) rfl rfl rfl hi rfl ?_
        obtain ⟨k9, e_k9, hF⟩ := kw_I hF
        have K15 : ∀ (z7 : Int32) (h8 : MH), k9 z7 h8 = some x → Go 1 263 140 (mm_lf [(0, .inr (.inl (some 55))), (1, .inl x1), (2, .inl x2), (3, .inl x3), (4, .inl x4), (5, .inl z4)]) [.inl z7] h8 r := by
          intro z7 h8 hF
          rw [e_k9] at hF
          dsimp only at hF
          refine g_istore (q := 142) rfl rfl ?_
          refine g_iload_n (q := 143) rfl rfl rfl ?_
          refine g_iload (q := 145) rfl rfl rfl ?_
          obtain ⟨v10, e_v10, hF⟩ := iw_I hF
          suffices K11 : Go 1 263 162 (mm_lf [(0, .inr (.inl (some 55))), (1, .inl x1), (3, .inl x3), (4, .inl x4)]) [.inl v10, .inl x2] h8 r by
            clear hF
            by_cases c12 : z4 = 0
            · simp only [if_pos c12] at e_v10
              subst e_v10
              refine g_ifT rfl (decide_eq_true c12) ?_
              refine g_iconst (q := 162) rfl rfl ?_
              exact go_sub (mm_subc rfl (mm_subc rfl (mm_subc rfl (mm_subc rfl mm_sub0)))) K11
            · simp only [if_neg c12] at e_v10
              refine g_ifF (q := 148) rfl (decide_eq_false c12) rfl ?_
              refine g_iload_n (q := 149) rfl rfl rfl ?_
              by_cases c13 : x1 = 0
              · simp only [if_pos c13] at e_v10
                subst e_v10
                refine g_ifT rfl (decide_eq_true c13) ?_
                refine g_iconst (q := 158) rfl rfl ?_
                refine g_goto rfl ?_
                exact go_sub (mm_subc rfl (mm_subc rfl (mm_subc rfl (mm_subc rfl mm_sub0)))) K11
              · simp only [if_neg c13] at e_v10
                refine g_ifF (q := 152) rfl (decide_eq_false c13) rfl ?_
                refine g_iload (q := 154) rfl rfl rfl ?_
                by_cases c14 : z7 = 0
                · simp only [if_pos c14] at e_v10
                  subst e_v10
                  refine g_ifT rfl (decide_eq_true c14) ?_
                  refine g_iconst (q := 162) rfl rfl ?_
                  exact go_sub (mm_subc rfl (mm_subc rfl (mm_subc rfl (mm_subc rfl mm_sub0)))) K11
                · simp only [if_neg c14] at e_v10
                  subst e_v10
                  refine g_ifF (q := 157) rfl (decide_eq_false c14) rfl ?_
                  refine g_iconst (q := 158) rfl rfl ?_
                  refine g_goto rfl ?_
                  exact go_sub (mm_subc rfl (mm_subc rfl (mm_subc rfl (mm_subc rfl mm_sub0)))) K11
          clear e_v10
          refine g_iadd (q := 163) rfl rfl ?_
          refine g_istore_n (q := 164) rfl rfl ?_
          refine g_iinc (q := 167) rfl rfl rfl ?_
          refine g_goto rfl ?_
          refine go_sub (lo' := mm_lf [(0, .inr (.inl (some 55))), (1, .inl x1), (2, .inl (x2 + v10)), (3, .inl x3), (4, .inl (x4 + I 4))]) (mm_subc rfl (mm_subc rfl (mm_subc rfl (mm_subc rfl (mm_subc rfl mm_sub0))))) ?_
          exact ih _ _ _ _ hF KR KX
        clear e_k9
        by_cases c17 : ¬ (h5.1 56 (Int32.toNatClampNeg x3)) = (h5.1 56 (Int32.toNatClampNeg x4))
        · rw [if_pos c17] at hF
          refine g_icmpT rfl (decide_eq_true c17) ?_
          refine g_iconst (q := 140) rfl rfl ?_
          exact go_sub (mm_subc rfl (mm_subc rfl (mm_subc rfl (mm_subc rfl (mm_subc rfl (mm_subc rfl mm_sub0)))))) (K15 _ _ hF)
        · rw [if_neg c17] at hF
          refine g_icmpF (q := 115) rfl (decide_eq_false c17) rfl ?_
          refine g_aload_n (q := 116) rfl rfl rfl ?_
          refine g_getR (q := 119) rfl (fun _ => rfl) rfl ?_
          refine g_iload_n (q := 120) rfl rfl rfl ?_
          refine g_iconst (q := 121) rfl rfl ?_
          refine g_iadd (q := 122) rfl rfl ?_
          obtain ⟨hi, hF⟩ := ck_I hF
          refine g_iaload (q := 123) rfl rfl rfl hi rfl ?_
          refine g_aload_n (q := 124) rfl rfl rfl ?_
          refine g_getR (q := 127) rfl (fun _ => rfl) rfl ?_
          refine g_iload (q := 129) rfl rfl rfl ?_
          refine g_iconst (q := 130) rfl rfl ?_
          refine g_iadd (q := 131) rfl rfl ?_
          obtain ⟨hi, hF⟩ := ck_I hF
          refine g_iaload (q := 132) rfl rfl rfl hi rfl ?_
          by_cases c16 : ¬ (h5.1 56 (Int32.toNatClampNeg (x3 + (I 1)))) = (h5.1 56 (Int32.toNatClampNeg (x4 + (I 1))))
          · rw [if_pos c16] at hF
            refine g_icmpT rfl (decide_eq_true c16) ?_
            refine g_iconst (q := 140) rfl rfl ?_
            exact go_sub (mm_subc rfl (mm_subc rfl (mm_subc rfl (mm_subc rfl (mm_subc rfl (mm_subc rfl mm_sub0)))))) (K15 _ _ hF)
          · rw [if_neg c16] at hF
            refine g_icmpF (q := 135) rfl (decide_eq_false c16) rfl ?_
            refine g_iconst (q := 136) rfl rfl ?_
            refine g_goto rfl ?_
            exact go_sub (mm_subc rfl (mm_subc rfl (mm_subc rfl (mm_subc rfl (mm_subc rfl (mm_subc rfl mm_sub0)))))) (K15 _ _ hF)
      clear e_k6
      by_cases c20 : ¬ (h.1 56 (Int32.toNatClampNeg (x3 + (I 2)))) = (h.1 56 (Int32.toNatClampNeg (x4 + (I 2))))
      · rw [if_pos c20] at hF
        refine g_icmpT rfl (decide_eq_true c20) ?_
        refine g_iconst (q := 97) rfl rfl ?_
        exact go_sub (mm_subc rfl (mm_subc rfl (mm_subc rfl (mm_subc rfl (mm_subc rfl mm_sub0))))) (K18 _ _ hF)
      · rw [if_neg c20] at hF
        refine g_icmpF (q := 72) rfl (decide_eq_false c20) rfl ?_
        refine g_aload_n (q := 73) rfl rfl rfl ?_
        refine g_getR (q := 76) rfl (fun _ => rfl) rfl ?_
        refine g_iload_n (q := 77) rfl rfl rfl ?_
        refine g_iconst (q := 78) rfl rfl ?_
        refine g_iadd (q := 79) rfl rfl ?_
        obtain ⟨hi, hF⟩ := ck_I hF
        refine g_iaload (q := 80) rfl rfl rfl hi rfl ?_
        refine g_aload_n (q := 81) rfl rfl rfl ?_
        refine g_getR (q := 84) rfl (fun _ => rfl) rfl ?_
        refine g_iload (q := 86) rfl rfl rfl ?_
        refine g_iconst (q := 87) rfl rfl ?_
        refine g_iadd (q := 88) rfl rfl ?_
        obtain ⟨hi, hF⟩ := ck_I hF
        refine g_iaload (q := 89) rfl rfl rfl hi rfl ?_
        by_cases c19 : ¬ (h.1 56 (Int32.toNatClampNeg (x3 + (I 3)))) = (h.1 56 (Int32.toNatClampNeg (x4 + (I 3))))
        · rw [if_pos c19] at hF
          refine g_icmpT rfl (decide_eq_true c19) ?_
          refine g_iconst (q := 97) rfl rfl ?_
          exact go_sub (mm_subc rfl (mm_subc rfl (mm_subc rfl (mm_subc rfl (mm_subc rfl mm_sub0))))) (K18 _ _ hF)
        · rw [if_neg c19] at hF
          refine g_icmpF (q := 92) rfl (decide_eq_false c19) rfl ?_
          refine g_iconst (q := 93) rfl rfl ?_
          refine g_goto rfl ?_
          exact go_sub (mm_subc rfl (mm_subc rfl (mm_subc rfl (mm_subc rfl (mm_subc rfl mm_sub0))))) (K18 _ _ hF)
theorem A_L_M_twins_26 {x1 : Int32} {r : MRs} : ∀ (n : Nat) (x2 : Int32) (x3 : Int32) (h : MH) (x : Int32 × MH), L_M_twins_26 x1 n x2 x3 h = some x → (True) → (∀ (e2 : Int32) (h' : MH), x = (e2, h') → Go 1 263 176 (mm_lf [(2, .inl e2)]) [] h' r) → Go 1 263 26 (mm_lf [(0, .inr (.inl (some 55))), (1, .inl x1), (2, .inl x2), (3, .inl x3)]) [] h r
  | 0, _, _, _, _, hF, _, _ => by cases hF
  | n + 1, x2, x3, h, x, hF, KR, KX => by
    have ih := fun a2 a3 => A_L_M_twins_26 (x1 := x1) (r := r) n a2 a3 
    unfold L_M_twins_26 at hF
    refine g_iload_n (q := 27) rfl rfl rfl ?_
    refine g_iconst (q := 28) rfl rfl ?_
    refine g_aload_n (q := 29) rfl rfl rfl ?_
    refine g_getI (q := 32) rfl (fun _ => rfl) rfl ?_
    refine g_imul (q := 33) rfl rfl ?_
    by_cases c24 : ((I 4) * (h.1 55 0)) ≤ x3
    · rw [if_pos c24] at hF
      refine g_icmpT rfl (decide_eq_true c24) ?_
      injection hF with hF
      subst hF
      exact go_sub (mm_subc rfl mm_sub0) (KX _ _ rfl)
    · rw [if_neg c24] at hF
      refine g_icmpF (q := 36) rfl (decide_eq_false c24) rfl ?_
      refine g_iload_n (q := 37) rfl rfl rfl ?_
      refine g_iconst (q := 38) rfl rfl ?_
      refine g_iadd (q := 39) rfl rfl ?_
      refine g_istore (q := 41) rfl rfl ?_
      refine go_sub (lo' := mm_lf [(0, .inr (.inl (some 55))), (1, .inl x1), (2, .inl x2), (3, .inl x3), (4, .inl (x3 + (I 4)))]) (mm_subc rfl (mm_subc rfl (mm_subc rfl (mm_subc rfl (mm_subc rfl mm_sub0))))) ?_
      obtain ⟨⟨y22, h23⟩, hC, hF⟩ := bd_I hF
      dsimp only at hF
      refine A_L_M_twins_41 5000 _ _ _ _ hC trivial ?_
      intro _ _ e2
      cases e2
      refine g_iinc (q := 173) rfl rfl rfl ?_
      refine g_goto rfl ?_
      refine go_sub (lo' := mm_lf [(0, .inr (.inl (some 55))), (1, .inl x1), (2, .inl y22), (3, .inl (x3 + I 4))]) (mm_subc rfl (mm_subc rfl (mm_subc rfl (mm_subc rfl mm_sub0)))) ?_
      exact ih _ _ _ _ hF KR KX
theorem A_M_twins {x1 : Int32} {h h' : MH} {v : Int32} (hF : F_M_twins x1 h = some (v, h')) : Ex 2 263 [.inr (.inl (some 55)), .inl x1] h (some (.inl v), h') := by
  unfold F_M_twins at hF
  refine ex_of (d := 1) rfl rfl ?_
  refine g_aload_n (q := 1) rfl rfl rfl ?_
  refine g_iconst (q := 2) rfl rfl ?_
  refine g_putI (q := 5) rfl (fun _ => rfl) rfl ?_
  obtain ⟨h1, e_h1, hF⟩ := hw_I hF
  rw [← e_h1]
  refine g_iload_n (q := 6) rfl rfl rfl ?_
  refine g_i2l (q := 7) rfl rfl ?_
  refine g_lconst (u := 0) (q := 8) rfl (by decide +kernel) rfl ?_
  refine g_lconst (u := 1) (q := 9) rfl (by decide +kernel) rfl ?_
  obtain ⟨⟨r3, h2⟩, hC, hF⟩ := bd_I hF
  dsimp only at hF
  refine g_ci3 (q := 12) rfl rfl (fun _ => rfl) rfl (A_M_in hC) (by decide +kernel) rfl ?_
  by_cases c29 : ¬ r3 = 0
  · rw [if_pos c29] at hF
    refine g_ifT rfl (decide_eq_true c29) ?_
    refine g_iconst (q := 23) rfl rfl ?_
    refine g_istore_n (q := 24) rfl rfl ?_
    refine g_iconst (q := 25) rfl rfl ?_
    refine g_istore_n (q := 26) rfl rfl ?_
    refine go_sub (lo' := mm_lf [(0, .inr (.inl (some 55))), (1, .inl x1), (2, .inl (I 0)), (3, .inl (I 0))]) (mm_subc rfl (mm_subc rfl (mm_subc rfl (mm_subc rfl mm_sub0)))) ?_
    obtain ⟨⟨y25, h26⟩, hC, hF⟩ := bd_I hF
    dsimp only at hF
    refine A_L_M_twins_26 5000 _ _ _ _ hC trivial ?_
    intro _ _ e2
    cases e2
    refine g_iload_n (q := 177) rfl rfl rfl ?_
    injection hF with hF
    injection hF with hv hh
    subst hv
    subst hh
    exact g_iret rfl
  · rw [if_neg c29] at hF
    refine g_ifF (q := 15) rfl (decide_eq_false c29) rfl ?_
    refine g_aload_n (q := 16) rfl rfl rfl ?_
    refine g_bipush (q := 18) rfl (by decide +kernel) rfl ?_
    obtain ⟨⟨r28, h27⟩, hC, hF⟩ := bd_I hF
    dsimp only at hF
    refine g_ci2 (q := 21) rfl rfl (fun _ => rfl) rfl (A_M_refuse hC) (by decide +kernel) rfl ?_
    injection hF with hF
    injection hF with hv hh
    subst hv
    subst hh
    exact g_iret rfl
def L_M_range_51 (x1 : Int32) : Nat → Int32 → Int32 → Int32 → MH → Option (Int32 × Int32 × MH)
  | 0, _, _, _, _ => none
  | n + 1, x3, x4, x5, h => if (h.1 55 0) ≤ x5 then some (x3, x4, h) else bd (F_M_bestTimeOf x5 x1 h) (fun (r8, h7) => iw (if x3 ≤ r8 then x3 else r8) (fun v9 => iw (if r8 ≤ x4 then x4 else r8) (fun v11 => L_M_range_51 x1 n v9 v11 (x5 + I 1) h7)))
/-- BothCornersModel.range(I)I -/
def F_M_range (x1 : Int32) (h : MH) : Option (Int32 × MH) := hw (mm_hset h.1 55 10 (I 0), h.2) (fun h1 => bd (F_M_isOne x1 h1) (fun (r3, h2) => kw (fun (z4 : Int32) (h5 : MH) => if 0 ≤ z4 then bd (L_M_range_51 x1 5000 (I 9999) (I 0) (I 0) h5) (fun (y16, y17, h18) => iw (if ¬ (h18.1 55 0) = 0 then y17 - y16 else I 0) (fun v19 => some (v19, h18))) else bd (F_M_refuse z4 h5) (fun (r23, h22) => some (r23, h22))) (fun k6 => if ¬ r3 = 0 then if ¬ (h2.1 55 5) = 0 then k6 (I 0) h2 else k6 (I (-3)) h2 else k6 (I (-1)) h2)))
theorem A_L_M_range_51 {x1 : Int32} {r : MRs} : ∀ (n : Nat) (x3 : Int32) (x4 : Int32) (x5 : Int32) (h : MH) (x : Int32 × Int32 × MH), L_M_range_51 x1 n x3 x4 x5 h = some x → (True) → (∀ (e3 : Int32) (e4 : Int32) (h' : MH), x = (e3, e4, h') → Go 6 264 104 (mm_lf [(0, .inr (.inl (some 55))), (3, .inl e3), (4, .inl e4)]) [] h' r) → Go 6 264 51 (mm_lf [(0, .inr (.inl (some 55))), (1, .inl x1), (3, .inl x3), (4, .inl x4), (5, .inl x5)]) [] h r
  | 0, _, _, _, _, _, hF, _, _ => by cases hF
  | n + 1, x3, x4, x5, h, x, hF, KR, KX => by
    have ih := fun a3 a4 a5 => A_L_M_range_51 (x1 := x1) (r := r) n a3 a4 a5 
    unfold L_M_range_51 at hF
    refine g_iload (q := 53) rfl rfl rfl ?_
    refine g_aload_n (q := 54) rfl rfl rfl ?_
    refine g_getI (q := 57) rfl (fun _ => rfl) rfl ?_
    by_cases c15 : (h.1 55 0) ≤ x5
    · rw [if_pos c15] at hF
      refine g_icmpT rfl (decide_eq_true c15) ?_
      injection hF with hF
      subst hF
      exact go_sub (mm_subc rfl (mm_subc rfl (mm_subc rfl mm_sub0))) (KX _ _ _ rfl)
    · rw [if_neg c15] at hF
      refine g_icmpF (q := 60) rfl (decide_eq_false c15) rfl ?_
      refine g_aload_n (q := 61) rfl rfl rfl ?_
      refine g_iload (q := 63) rfl rfl rfl ?_
      refine g_iload_n (q := 64) rfl rfl rfl ?_
      obtain ⟨⟨r8, h7⟩, hC, hF⟩ := bd_I hF
      dsimp only at hF
      refine g_ci3 (q := 67) rfl rfl (fun _ => rfl) rfl (A_M_bestTimeOf hC) (by decide +kernel) rfl ?_
      refine g_istore (q := 69) rfl rfl ?_
      refine g_iload (q := 71) rfl rfl rfl ?_
      refine g_iload_n (q := 72) rfl rfl rfl ?_
      obtain ⟨v9, e_v9, hF⟩ := iw_I hF
      suffices K10 : Go 6 264 81 (mm_lf [(0, .inr (.inl (some 55))), (1, .inl x1), (4, .inl x4), (5, .inl x5), (6, .inl r8)]) [.inl v9] h7 r by
        clear hF
        by_cases c14 : x3 ≤ r8
        · simp only [if_pos c14] at e_v9
          subst e_v9
          refine g_icmpT rfl (decide_eq_true c14) ?_
          refine g_iload_n (q := 81) rfl rfl rfl ?_
          exact go_sub (mm_subc rfl (mm_subc rfl (mm_subc rfl (mm_subc rfl (mm_subc rfl mm_sub0))))) K10
        · simp only [if_neg c14] at e_v9
          subst e_v9
          refine g_icmpF (q := 75) rfl (decide_eq_false c14) rfl ?_
          refine g_iload (q := 77) rfl rfl rfl ?_
          refine g_goto rfl ?_
          exact go_sub (mm_subc rfl (mm_subc rfl (mm_subc rfl (mm_subc rfl (mm_subc rfl mm_sub0))))) K10
      clear e_v9
      refine g_istore_n (q := 82) rfl rfl ?_
      refine g_iload (q := 84) rfl rfl rfl ?_
      refine g_iload (q := 86) rfl rfl rfl ?_
      obtain ⟨v11, e_v11, hF⟩ := iw_I hF
      suffices K12 : Go 6 264 96 (mm_lf [(0, .inr (.inl (some 55))), (1, .inl x1), (3, .inl v9), (5, .inl x5)]) [.inl v11] h7 r by
        clear hF
        by_cases c13 : r8 ≤ x4
        · simp only [if_pos c13] at e_v11
          subst e_v11
          refine g_icmpT rfl (decide_eq_true c13) ?_
          refine g_iload (q := 96) rfl rfl rfl ?_
          exact go_sub (mm_subc rfl (mm_subc rfl (mm_subc rfl (mm_subc rfl mm_sub0)))) K12
        · simp only [if_neg c13] at e_v11
          subst e_v11
          refine g_icmpF (q := 89) rfl (decide_eq_false c13) rfl ?_
          refine g_iload (q := 91) rfl rfl rfl ?_
          refine g_goto rfl ?_
          exact go_sub (mm_subc rfl (mm_subc rfl (mm_subc rfl (mm_subc rfl mm_sub0)))) K12
      clear e_v11
      refine g_istore (q := 98) rfl rfl ?_
      refine g_iinc (q := 101) rfl rfl rfl ?_
      refine g_goto rfl ?_
      refine go_sub (lo' := mm_lf [(0, .inr (.inl (some 55))), (1, .inl x1), (3, .inl v9), (4, .inl v11), (5, .inl (x5 + I 1))]) (mm_subc rfl (mm_subc rfl (mm_subc rfl (mm_subc rfl (mm_subc rfl mm_sub0))))) ?_
      exact ih _ _ _ _ _ hF KR KX
theorem A_M_range {x1 : Int32} {h h' : MH} {v : Int32} (hF : F_M_range x1 h = some (v, h')) : Ex 7 264 [.inr (.inl (some 55)), .inl x1] h (some (.inl v), h') := by
  unfold F_M_range at hF
  refine ex_of (d := 6) rfl rfl ?_
  refine g_aload_n (q := 1) rfl rfl rfl ?_
  refine g_iconst (q := 2) rfl rfl ?_
  refine g_putI (q := 5) rfl (fun _ => rfl) rfl ?_
  obtain ⟨h1, e_h1, hF⟩ := hw_I hF
  rw [← e_h1]
  refine g_aload_n (q := 6) rfl rfl rfl ?_
  refine g_iload_n (q := 7) rfl rfl rfl ?_
  obtain ⟨⟨r3, h2⟩, hC, hF⟩ := bd_I hF
  dsimp only at hF
  refine g_ci2 (q := 10) rfl rfl (fun _ => rfl) rfl (A_M_isOne hC) (by decide +kernel) rfl ?_
  obtain ⟨k6, e_k6, hF⟩ := kw_I hF
  have K25 : ∀ (z4 : Int32) (h5 : MH), k6 z4 h5 = some (v, h') → Go 6 264 30 (mm_lf [(0, .inr (.inl (some 55))), (1, .inl x1)]) [.inl z4] h5 (some (.inl v), h') := by
    intro z4 h5 hF
    rw [e_k6] at hF
    dsimp only at hF
    refine g_istore_n (q := 31) rfl rfl ?_
    refine g_iload_n (q := 32) rfl rfl rfl ?_
    by_cases c24 : 0 ≤ z4
    · rw [if_pos c24] at hF
      refine g_ifT rfl (decide_eq_true c24) ?_
      refine g_sipush (q := 44) rfl (by decide +kernel) rfl ?_
      refine g_istore_n (q := 45) rfl rfl ?_
      refine g_iconst (q := 46) rfl rfl ?_
      refine g_istore (q := 48) rfl rfl ?_
      refine g_iconst (q := 49) rfl rfl ?_
      refine g_istore (q := 51) rfl rfl ?_
      refine go_sub (lo' := mm_lf [(0, .inr (.inl (some 55))), (1, .inl x1), (3, .inl (I 9999)), (4, .inl (I 0)), (5, .inl (I 0))]) (mm_subc rfl (mm_subc rfl (mm_subc rfl (mm_subc rfl (mm_subc rfl mm_sub0))))) ?_
      obtain ⟨⟨y16, y17, h18⟩, hC, hF⟩ := bd_I hF
      dsimp only at hF
      refine A_L_M_range_51 5000 _ _ _ _ _ hC trivial ?_
      intro _ _ _ e2
      cases e2
      refine g_aload_n (q := 105) rfl rfl rfl ?_
      refine g_getI (q := 108) rfl (fun _ => rfl) rfl ?_
      obtain ⟨v19, e_v19, hF⟩ := iw_I hF
      suffices K20 : Go 6 264 119 (mm_lf []) [.inl v19] h18 (some (.inl v), h') by
        clear hF
        by_cases c21 : ¬ (h18.1 55 0) = 0
        · simp only [if_pos c21] at e_v19
          subst e_v19
          refine g_ifT rfl (decide_eq_true c21) ?_
          refine g_iload (q := 117) rfl rfl rfl ?_
          refine g_iload_n (q := 118) rfl rfl rfl ?_
          refine g_isub (q := 119) rfl rfl ?_
          exact go_sub mm_sub0 K20
        · simp only [if_neg c21] at e_v19
          subst e_v19
          refine g_ifF (q := 111) rfl (decide_eq_false c21) rfl ?_
          refine g_iconst (q := 112) rfl rfl ?_
          refine g_goto rfl ?_
          exact go_sub mm_sub0 K20
      clear e_v19
      injection hF with hF
      injection hF with hv hh
      subst hv
      subst hh
      exact g_iret rfl
    · rw [if_neg c24] at hF
      refine g_ifF (q := 35) rfl (decide_eq_false c24) rfl ?_
      refine g_aload_n (q := 36) rfl rfl rfl ?_
      refine g_iload_n (q := 37) rfl rfl rfl ?_
      obtain ⟨⟨r23, h22⟩, hC, hF⟩ := bd_I hF
      dsimp only at hF
      refine g_ci2 (q := 40) rfl rfl (fun _ => rfl) rfl (A_M_refuse hC) (by decide +kernel) rfl ?_
      injection hF with hF
      injection hF with hv hh
      subst hv
      subst hh
      exact g_iret rfl
  clear e_k6
  by_cases c27 : ¬ r3 = 0
  · rw [if_pos c27] at hF
    refine g_ifT rfl (decide_eq_true c27) ?_
    refine g_aload_n (q := 18) rfl rfl rfl ?_
    refine g_getI (q := 21) rfl (fun _ => rfl) rfl ?_
    by_cases c26 : ¬ (h2.1 55 5) = 0
    · rw [if_pos c26] at hF
      refine g_ifT rfl (decide_eq_true c26) ?_
      refine g_iconst (q := 30) rfl rfl ?_
      exact go_sub (mm_subc rfl (mm_subc rfl mm_sub0)) (K25 _ _ hF)
    · rw [if_neg c26] at hF
      refine g_ifF (q := 24) rfl (decide_eq_false c26) rfl ?_
      refine g_bipush (q := 26) rfl (by decide +kernel) rfl ?_
      refine g_goto rfl ?_
      exact go_sub (mm_subc rfl (mm_subc rfl mm_sub0)) (K25 _ _ hF)
  · rw [if_neg c27] at hF
    refine g_ifF (q := 13) rfl (decide_eq_false c27) rfl ?_
    refine g_iconst (q := 14) rfl rfl ?_
    refine g_goto rfl ?_
    exact go_sub (mm_subc rfl (mm_subc rfl mm_sub0)) (K25 _ _ hF)
/-- BothCornersModel.row(I)I -/
def F_M_row (x1 : Int32) (h : MH) : Option (Int32 × MH) := hw (mm_hset h.1 55 10 (I 0), h.2) (fun h1 => if 0 ≤ x1 then if (I 99) < x1 then bd (F_M_refuse (I (-6)) h1) (fun (r3, h2) => some (r3, h2)) else if ¬ (h1.1 55 34) = (I 12) then ck (mm_in (h1.1 55 34) 12) (hw (mm_hset h1.1 74 (Int32.toNatClampNeg (h1.1 55 34)) x1, h1.2) (fun h4 => hw (mm_hset h4.1 55 34 ((h4.1 55 34) + (I 1)), h4.2) (fun h5 => some (h5.1 55 34, h5)))) else bd (F_M_refuse (I (-6)) h1) (fun (r7, h6) => some (r7, h6)) else bd (F_M_refuse (I (-4)) h1) (fun (r11, h10) => some (r11, h10)))
theorem A_M_row {x1 : Int32} {h h' : MH} {v : Int32} (hF : F_M_row x1 h = some (v, h')) : Ex 2 265 [.inr (.inl (some 55)), .inl x1] h (some (.inl v), h') := by
  unfold F_M_row at hF
  refine ex_of (d := 1) rfl rfl ?_
  refine g_aload_n (q := 1) rfl rfl rfl ?_
  refine g_iconst (q := 2) rfl rfl ?_
  refine g_putI (q := 5) rfl (fun _ => rfl) rfl ?_
  obtain ⟨h1, e_h1, hF⟩ := hw_I hF
  rw [← e_h1]
  refine g_iload_n (q := 6) rfl rfl rfl ?_
  by_cases c12 : 0 ≤ x1
  · rw [if_pos c12] at hF
    refine g_ifT rfl (decide_eq_true c12) ?_
    refine g_iload_n (q := 17) rfl rfl rfl ?_
    refine g_bipush (q := 19) rfl (by decide +kernel) rfl ?_
    by_cases c9 : (I 99) < x1
    · rw [if_pos c9] at hF
      refine g_icmpT rfl (decide_eq_true c9) ?_
      refine g_aload_n (q := 32) rfl rfl rfl ?_
      refine g_bipush (q := 34) rfl (by decide +kernel) rfl ?_
      obtain ⟨⟨r3, h2⟩, hC, hF⟩ := bd_I hF
      dsimp only at hF
      refine g_ci2 (q := 37) rfl rfl (fun _ => rfl) rfl (A_M_refuse hC) (by decide +kernel) rfl ?_
      injection hF with hF
      injection hF with hv hh
      subst hv
      subst hh
      exact g_iret rfl
    · rw [if_neg c9] at hF
      refine g_icmpF (q := 22) rfl (decide_eq_false c9) rfl ?_
      refine g_aload_n (q := 23) rfl rfl rfl ?_
      refine g_getI (q := 26) rfl (fun _ => rfl) rfl ?_
      refine g_bipush (q := 28) rfl (by decide +kernel) rfl ?_
      by_cases c8 : ¬ (h1.1 55 34) = (I 12)
      · rw [if_pos c8] at hF
        refine g_icmpT rfl (decide_eq_true c8) ?_
        refine g_aload_n (q := 39) rfl rfl rfl ?_
        refine g_getR (q := 42) rfl (fun _ => rfl) rfl ?_
        refine g_aload_n (q := 43) rfl rfl rfl ?_
        refine g_getI (q := 46) rfl (fun _ => rfl) rfl ?_
        refine g_iload_n (q := 47) rfl rfl rfl ?_
        obtain ⟨hi, hF⟩ := ck_I hF
        refine g_iastore (q := 48) rfl rfl rfl hi rfl ?_
        obtain ⟨h4, e_h4, hF⟩ := hw_I hF
        rw [← e_h4]
        refine g_aload_n (q := 49) rfl rfl rfl ?_
        refine g_dup (q := 50) rfl rfl rfl ?_
        refine g_getI (q := 53) rfl (fun _ => rfl) rfl ?_
        refine g_iconst (q := 54) rfl rfl ?_
        refine g_iadd (q := 55) rfl rfl ?_
        refine g_putI (q := 58) rfl (fun _ => rfl) rfl ?_
        obtain ⟨h5, e_h5, hF⟩ := hw_I hF
        rw [← e_h5]
        refine g_aload_n (q := 59) rfl rfl rfl ?_
        refine g_getI (q := 62) rfl (fun _ => rfl) rfl ?_
        injection hF with hF
        injection hF with hv hh
        subst hv
        subst hh
        exact g_iret rfl
      · rw [if_neg c8] at hF
        refine g_icmpF (q := 31) rfl (decide_eq_false c8) rfl ?_
        refine g_aload_n (q := 32) rfl rfl rfl ?_
        refine g_bipush (q := 34) rfl (by decide +kernel) rfl ?_
        obtain ⟨⟨r7, h6⟩, hC, hF⟩ := bd_I hF
        dsimp only at hF
        refine g_ci2 (q := 37) rfl rfl (fun _ => rfl) rfl (A_M_refuse hC) (by decide +kernel) rfl ?_
        injection hF with hF
        injection hF with hv hh
        subst hv
        subst hh
        exact g_iret rfl
  · rw [if_neg c12] at hF
    refine g_ifF (q := 9) rfl (decide_eq_false c12) rfl ?_
    refine g_aload_n (q := 10) rfl rfl rfl ?_
    refine g_bipush (q := 12) rfl (by decide +kernel) rfl ?_
    obtain ⟨⟨r11, h10⟩, hC, hF⟩ := bd_I hF
    dsimp only at hF
    refine g_ci2 (q := 15) rfl rfl (fun _ => rfl) rfl (A_M_refuse hC) (by decide +kernel) rfl ?_
    injection hF with hF
    injection hF with hv hh
    subst hv
    subst hh
    exact g_iret rfl
def L_M_judge_40 (x1 : Int32) (x2 : Int32) (x3 : Int32) : Nat → Int32 → MH → Option ((Int32 × MH) ⊕ (MH))
  | 0, _, _ => none
  | n + 1, x4, h => if x3 ≤ x4 then some (.inr (h)) else if (h.1 55 0) ≤ x4 then some (.inl (x4, h)) else bd (F_M_timeOf x4 x1 x2 h) (fun (r10, h9) => bd (F_M_atMost r10 (I 99) h9) (fun (r12, h11) => ck (mm_in x4 12) (if r12 = (h11.1 74 (Int32.toNatClampNeg x4)) then L_M_judge_40 x1 x2 x3 n (x4 + I 1) h11 else some (.inl (x4, h11)))))
/-- BothCornersModel.judge(II)I -/
def F_M_judge (x1 : Int32) (x2 : Int32) (h : MH) : Option (Int32 × MH) := hw (mm_hset h.1 55 10 (I 0), h.2) (fun h1 => bd (F_M_isWay x1 h1) (fun (r3, h2) => if r3 = 0 then bd (F_M_refuse (I (-1)) h2) (fun (r5, h4) => some (r5, h4)) else bd (F_M_isOne x2 h2) (fun (r7, h6) => if ¬ r7 = 0 then hw (mm_hset h6.1 55 34 (I 0), h6.2) (fun h8 => be (L_M_judge_40 x1 x2 (h6.1 55 34) 5000 (I 0) h8) (fun u17 => some u17) (fun h16 => some (I (-9), h16))) else bd (F_M_refuse (I (-1)) h6) (fun (r19, h18) => some (r19, h18)))))
theorem A_L_M_judge_40 {x1 : Int32} {x2 : Int32} {x3 : Int32} {r : MRs} : ∀ (n : Nat) (x4 : Int32) (h : MH) (x : (Int32 × MH) ⊕ (MH)), L_M_judge_40 x1 x2 x3 n x4 h = some x → (∀ (u : Int32) (h' : MH), x = .inl (u, h') → r = (some (.inl u), h')) → (∀ (h' : MH), x = .inr (h') → Go 4 266 87 (mm_lf []) [] h' r) → Go 4 266 40 (mm_lf [(0, .inr (.inl (some 55))), (1, .inl x1), (2, .inl x2), (3, .inl x3), (4, .inl x4)]) [] h r
  | 0, _, _, _, hF, _, _ => by cases hF
  | n + 1, x4, h, x, hF, KR, KX => by
    have ih := fun a4 => A_L_M_judge_40 (x1 := x1) (x2 := x2) (x3 := x3) (r := r) n a4 
    unfold L_M_judge_40 at hF
    refine g_iload (q := 42) rfl rfl rfl ?_
    refine g_iload_n (q := 43) rfl rfl rfl ?_
    by_cases c15 : x3 ≤ x4
    · rw [if_pos c15] at hF
      refine g_icmpT rfl (decide_eq_true c15) ?_
      injection hF with hF
      subst hF
      exact go_sub mm_sub0 (KX  _ rfl)
    · rw [if_neg c15] at hF
      refine g_icmpF (q := 46) rfl (decide_eq_false c15) rfl ?_
      refine g_iload (q := 48) rfl rfl rfl ?_
      refine g_aload_n (q := 49) rfl rfl rfl ?_
      refine g_getI (q := 52) rfl (fun _ => rfl) rfl ?_
      by_cases c14 : (h.1 55 0) ≤ x4
      · rw [if_pos c14] at hF
        refine g_icmpT rfl (decide_eq_true c14) ?_
        refine g_iload (q := 80) rfl rfl rfl ?_
        injection hF with hF
        subst hF
        rw [KR _ _ rfl]
        exact g_iret rfl
      · rw [if_neg c14] at hF
        refine g_icmpF (q := 55) rfl (decide_eq_false c14) rfl ?_
        refine g_aload_n (q := 56) rfl rfl rfl ?_
        refine g_iload (q := 58) rfl rfl rfl ?_
        refine g_iload_n (q := 59) rfl rfl rfl ?_
        refine g_iload_n (q := 60) rfl rfl rfl ?_
        obtain ⟨⟨r10, h9⟩, hC, hF⟩ := bd_I hF
        dsimp only at hF
        refine g_ci4 (q := 63) rfl rfl (fun _ => rfl) rfl (A_M_timeOf hC) (by decide +kernel) rfl ?_
        refine g_bipush (q := 65) rfl (by decide +kernel) rfl ?_
        obtain ⟨⟨r12, h11⟩, hC, hF⟩ := bd_I hF
        dsimp only at hF
        refine g_ci2 (q := 68) rfl rfl (fun _ => rfl) rfl (A_M_atMost hC) (by decide +kernel) rfl ?_
        refine g_aload_n (q := 69) rfl rfl rfl ?_
        refine g_getR (q := 72) rfl (fun _ => rfl) rfl ?_
        refine g_iload (q := 74) rfl rfl rfl ?_
        obtain ⟨hi, hF⟩ := ck_I hF
        refine g_iaload (q := 75) rfl rfl rfl hi rfl ?_
        by_cases c13 : r12 = (h11.1 74 (Int32.toNatClampNeg x4))
        · rw [if_pos c13] at hF
          refine g_icmpT rfl (decide_eq_true c13) ?_
          refine g_iinc (q := 84) rfl rfl rfl ?_
          refine g_goto rfl ?_
          refine go_sub (lo' := mm_lf [(0, .inr (.inl (some 55))), (1, .inl x1), (2, .inl x2), (3, .inl x3), (4, .inl (x4 + I 1))]) (mm_subc rfl (mm_subc rfl (mm_subc rfl (mm_subc rfl (mm_subc rfl mm_sub0))))) ?_
          exact ih _ _ _ hF KR KX
        · rw [if_neg c13] at hF
          refine g_icmpF (q := 78) rfl (decide_eq_false c13) rfl ?_
          refine g_iload (q := 80) rfl rfl rfl ?_
          injection hF with hF
          subst hF
          rw [KR _ _ rfl]
          exact g_iret rfl
theorem A_M_judge {x1 : Int32} {x2 : Int32} {h h' : MH} {v : Int32} (hF : F_M_judge x1 x2 h = some (v, h')) : Ex 5 266 [.inr (.inl (some 55)), .inl x1, .inl x2] h (some (.inl v), h') := by
  unfold F_M_judge at hF
  refine ex_of (d := 4) rfl rfl ?_
  refine g_aload_n (q := 1) rfl rfl rfl ?_
  refine g_iconst (q := 2) rfl rfl ?_
  refine g_putI (q := 5) rfl (fun _ => rfl) rfl ?_
  obtain ⟨h1, e_h1, hF⟩ := hw_I hF
  rw [← e_h1]
  refine g_aload_n (q := 6) rfl rfl rfl ?_
  refine g_iload_n (q := 7) rfl rfl rfl ?_
  obtain ⟨⟨r3, h2⟩, hC, hF⟩ := bd_I hF
  dsimp only at hF
  refine g_ci2 (q := 10) rfl rfl (fun _ => rfl) rfl (A_M_isWay hC) (by decide +kernel) rfl ?_
  by_cases c21 : r3 = 0
  · rw [if_pos c21] at hF
    refine g_ifT rfl (decide_eq_true c21) ?_
    refine g_aload_n (q := 22) rfl rfl rfl ?_
    refine g_iconst (q := 23) rfl rfl ?_
    obtain ⟨⟨r5, h4⟩, hC, hF⟩ := bd_I hF
    dsimp only at hF
    refine g_ci2 (q := 26) rfl rfl (fun _ => rfl) rfl (A_M_refuse hC) (by decide +kernel) rfl ?_
    injection hF with hF
    injection hF with hv hh
    subst hv
    subst hh
    exact g_iret rfl
  · rw [if_neg c21] at hF
    refine g_ifF (q := 13) rfl (decide_eq_false c21) rfl ?_
    refine g_aload_n (q := 14) rfl rfl rfl ?_
    refine g_iload_n (q := 15) rfl rfl rfl ?_
    obtain ⟨⟨r7, h6⟩, hC, hF⟩ := bd_I hF
    dsimp only at hF
    refine g_ci2 (q := 18) rfl rfl (fun _ => rfl) rfl (A_M_isOne hC) (by decide +kernel) rfl ?_
    by_cases c20 : ¬ r7 = 0
    · rw [if_pos c20] at hF
      refine g_ifT rfl (decide_eq_true c20) ?_
      refine g_aload_n (q := 28) rfl rfl rfl ?_
      refine g_getI (q := 31) rfl (fun _ => rfl) rfl ?_
      refine g_istore_n (q := 32) rfl rfl ?_
      refine g_aload_n (q := 33) rfl rfl rfl ?_
      refine g_iconst (q := 34) rfl rfl ?_
      refine g_putI (q := 37) rfl (fun _ => rfl) rfl ?_
      obtain ⟨h8, e_h8, hF⟩ := hw_I hF
      rw [← e_h8]
      refine g_iconst (q := 38) rfl rfl ?_
      refine g_istore (q := 40) rfl rfl ?_
      refine go_sub (lo' := mm_lf [(0, .inr (.inl (some 55))), (1, .inl x1), (2, .inl x2), (3, .inl (h6.1 55 34)), (4, .inl (I 0))]) (mm_subc rfl (mm_subc rfl (mm_subc rfl (mm_subc rfl (mm_subc rfl mm_sub0))))) ?_
      rcases be_I hF with ⟨u, hC, hF⟩ | ⟨h16, hC, hF⟩
      · refine A_L_M_judge_40 5000 _ _ _ hC ?_ ?_
        · intro u2 h2 e2
          cases e2
          injection hF with hF
          injection hF with hv hh
          subst hv
          subst hh
          rfl
        · intro _ e2
          cases e2
      refine A_L_M_judge_40 5000 _ _ _ hC ?_ ?_
      · intro u2 h2 e2
        cases e2
      intro _ e2
      cases e2
      refine g_bipush (q := 89) rfl (by decide +kernel) rfl ?_
      injection hF with hF
      injection hF with hv hh
      subst hv
      subst hh
      exact g_iret rfl
    · rw [if_neg c20] at hF
      refine g_ifF (q := 21) rfl (decide_eq_false c20) rfl ?_
      refine g_aload_n (q := 22) rfl rfl rfl ?_
      refine g_iconst (q := 23) rfl rfl ?_
      obtain ⟨⟨r19, h18⟩, hC, hF⟩ := bd_I hF
      dsimp only at hF
      refine g_ci2 (q := 26) rfl rfl (fun _ => rfl) rfl (A_M_refuse hC) (by decide +kernel) rfl ?_
      injection hF with hF
      injection hF with hv hh
      subst hv
      subst hh
      exact g_iret rfl
