-- decompiled by wip/whole/dec.py: what a method does (F_), and that the mini machine does it (A_)
def L_M_areTurns_4 : Nat → Int32 → Int32 → MH → Option (Int32 × MH)
  | 0, _, _, _ => none
  | n + 1, x1, x2, h => if (h.1 55 34) ≤ x2 then some (x1, h) else if x1 = 0 then L_M_areTurns_4 n (I 0) (x2 + I 1) h else ck (mm_in x2 12) (iw (if (I 4) ≤ (h.1 74 (Int32.toNatClampNeg x2)) then I 0 else I 1) (fun v1 => L_M_areTurns_4 n v1 (x2 + I 1) h))
/-- BothCornersModel.areTurns()Z -/
def F_M_areTurns (h : MH) : Option (Int32 × MH) := bd (L_M_areTurns_4 5000 (I 1) (I 0) h) (fun (y6, h7) => cd (y6 &&& 1 = y6) (some (y6, h7)))
theorem A_L_M_areTurns_4 {r : MRs} : ∀ (n : Nat) (x1 : Int32) (x2 : Int32) (h : MH) (x : Int32 × MH), L_M_areTurns_4 n x1 x2 h = some x → (True) → (∀ (e1 : Int32) (h' : MH), x = (e1, h') → Go 0 235 38 (mm_lf [(1, .inl e1)]) [] h' r) → Go 0 235 4 (mm_lf [(0, .inr (.inl (some 55))), (1, .inl x1), (2, .inl x2)]) [] h r
  | 0, _, _, _, _, hF, _, _ => by cases hF
  | n + 1, x1, x2, h, x, hF, KR, KX => by
    have ih := fun a1 a2 => A_L_M_areTurns_4 (r := r) n a1 a2 
    unfold L_M_areTurns_4 at hF
    refine g_iload_n (q := 5) rfl rfl rfl ?_
    refine g_aload_n (q := 6) rfl rfl rfl ?_
    refine g_getI (q := 9) rfl (fun _ => rfl) rfl ?_
    by_cases c5 : (h.1 55 34) ≤ x2
    · rw [if_pos c5] at hF
      refine g_icmpT rfl (decide_eq_true c5) ?_
      injection hF with hF
      subst hF
      exact go_sub (mm_subc rfl mm_sub0) (KX _ _ rfl)
    · rw [if_neg c5] at hF
      refine g_icmpF (q := 12) rfl (decide_eq_false c5) rfl ?_
      refine g_iload_n (q := 13) rfl rfl rfl ?_
      by_cases c4 : x1 = 0
      · rw [if_pos c4] at hF
        refine g_ifT rfl (decide_eq_true c4) ?_
        refine g_iconst (q := 31) rfl rfl ?_
        refine g_istore_n (q := 32) rfl rfl ?_
        refine g_iinc (q := 35) rfl rfl rfl ?_
        refine g_goto rfl ?_
        refine go_sub (lo' := mm_lf [(0, .inr (.inl (some 55))), (1, .inl (I 0)), (2, .inl (x2 + I 1))]) (mm_subc rfl (mm_subc rfl (mm_subc rfl mm_sub0))) ?_
        exact ih _ _ _ _ hF KR KX
      · rw [if_neg c4] at hF
        refine g_ifF (q := 16) rfl (decide_eq_false c4) rfl ?_
        refine g_aload_n (q := 17) rfl rfl rfl ?_
        refine g_getR (q := 20) rfl (fun _ => rfl) rfl ?_
        refine g_iload_n (q := 21) rfl rfl rfl ?_
        obtain ⟨hi, hF⟩ := ck_I hF
        refine g_iaload (q := 22) rfl rfl rfl hi rfl ?_
        refine g_iconst (q := 23) rfl rfl ?_
        obtain ⟨v1, e_v1, hF⟩ := iw_I hF
        suffices K2 : Go 0 235 31 (mm_lf [(0, .inr (.inl (some 55))), (2, .inl x2)]) [.inl v1] h r by
          clear hF
          by_cases c3 : (I 4) ≤ (h.1 74 (Int32.toNatClampNeg x2))
          · simp only [if_pos c3] at e_v1
            subst e_v1
            refine g_icmpT rfl (decide_eq_true c3) ?_
            refine g_iconst (q := 31) rfl rfl ?_
            exact go_sub (mm_subc rfl (mm_subc rfl mm_sub0)) K2
          · simp only [if_neg c3] at e_v1
            subst e_v1
            refine g_icmpF (q := 26) rfl (decide_eq_false c3) rfl ?_
            refine g_iconst (q := 27) rfl rfl ?_
            refine g_goto rfl ?_
            exact go_sub (mm_subc rfl (mm_subc rfl mm_sub0)) K2
        clear e_v1
        refine g_istore_n (q := 32) rfl rfl ?_
        refine g_iinc (q := 35) rfl rfl rfl ?_
        refine g_goto rfl ?_
        refine go_sub (lo' := mm_lf [(0, .inr (.inl (some 55))), (1, .inl v1), (2, .inl (x2 + I 1))]) (mm_subc rfl (mm_subc rfl (mm_subc rfl mm_sub0))) ?_
        exact ih _ _ _ _ hF KR KX
theorem A_M_areTurns {h h' : MH} {v : Int32} (hF : F_M_areTurns h = some (v, h')) : Ex 1 235 [.inr (.inl (some 55))] h (some (.inl v), h') := by
  unfold F_M_areTurns at hF
  refine ex_of (d := 0) rfl rfl ?_
  refine g_iconst (q := 1) rfl rfl ?_
  refine g_istore_n (q := 2) rfl rfl ?_
  refine g_iconst (q := 3) rfl rfl ?_
  refine g_istore_n (q := 4) rfl rfl ?_
  refine go_sub (lo' := mm_lf [(0, .inr (.inl (some 55))), (1, .inl (I 1)), (2, .inl (I 0))]) (mm_subc rfl (mm_subc rfl (mm_subc rfl mm_sub0))) ?_
  obtain ⟨⟨y6, h7⟩, hC, hF⟩ := bd_I hF
  dsimp only at hF
  refine A_L_M_areTurns_4 5000 _ _ _ _ hC trivial ?_
  intro _ _ e2
  cases e2
  refine g_iload_n (q := 39) rfl rfl rfl ?_
  obtain ⟨hz, hF⟩ := cd_I hF
  injection hF with hF
  injection hF with hv hh
  subst hv
  subst hh
  exact g_zret rfl hz
def L_M_lands_51 (x1 : Int32) : Nat → Int32 → MH → Option (MH)
  | 0, _, _ => none
  | n + 1, x3, h => if (h.1 55 34) ≤ x3 then some (h) else ck (mm_in x3 12) (bd (F_M_turnNow (h.1 74 (Int32.toNatClampNeg x3)) h) (fun h8 => L_M_lands_51 x1 n (x3 + I 1) h8))
def L_M_lands_77 (x1 : Int32) : Nat → Int32 → MH → Option (Int32 × MH)
  | 0, _, _ => none
  | n + 1, x3, h => ck (mm_in x3 4) (if (h.1 63 (Int32.toNatClampNeg x3)) = x1 then some (x3, h) else L_M_lands_77 x1 n (x3 + I 1) h)
/-- BothCornersModel.lands(I)I -/
def F_M_lands (x1 : Int32) (h : MH) : Option (Int32 × MH) := hw (mm_hset h.1 55 10 (I 0), h.2) (fun h1 => bd (F_M_in (Int32.toInt64 x1) (Lg 0) (Lg 3) h1) (fun (r3, h2) => kw (fun (z4 : Int32) (h5 : MH) => if 0 ≤ z4 then bd (F_M_think h5) (fun h7 => bd (L_M_lands_51 x1 5000 (I 0) h7) (fun h10 => bd (L_M_lands_77 x1 5000 (I 0) h10) (fun (y12, h13) => some (y12, h13)))) else bd (F_M_refuse z4 h5) (fun (r15, h14) => some (r15, h14))) (fun k6 => if ¬ r3 = 0 then bd (F_M_areTurns h2) (fun (r19, h18) => if r19 = 0 then k6 (I (-3)) h18 else k6 (I 0) h18) else k6 (I (-1)) h2)))
theorem A_L_M_lands_51 {x1 : Int32} {r : MRs} : ∀ (n : Nat) (x3 : Int32) (h : MH) (x : MH), L_M_lands_51 x1 n x3 h = some x → (True) → (∀ (h' : MH), x = (h') → Go 2 236 75 (mm_lf [(0, .inr (.inl (some 55))), (1, .inl x1)]) [] h' r) → Go 2 236 51 (mm_lf [(0, .inr (.inl (some 55))), (1, .inl x1), (3, .inl x3)]) [] h r
  | 0, _, _, _, hF, _, _ => by cases hF
  | n + 1, x3, h, x, hF, KR, KX => by
    have ih := fun a3 => A_L_M_lands_51 (x1 := x1) (r := r) n a3 
    unfold L_M_lands_51 at hF
    refine g_iload_n (q := 52) rfl rfl rfl ?_
    refine g_aload_n (q := 53) rfl rfl rfl ?_
    refine g_getI (q := 56) rfl (fun _ => rfl) rfl ?_
    by_cases c9 : (h.1 55 34) ≤ x3
    · rw [if_pos c9] at hF
      refine g_icmpT rfl (decide_eq_true c9) ?_
      injection hF with hF
      subst hF
      exact go_sub (mm_subc rfl (mm_subc rfl mm_sub0)) (KX  _ rfl)
    · rw [if_neg c9] at hF
      refine g_icmpF (q := 59) rfl (decide_eq_false c9) rfl ?_
      refine g_aload_n (q := 60) rfl rfl rfl ?_
      refine g_aload_n (q := 61) rfl rfl rfl ?_
      refine g_getR (q := 64) rfl (fun _ => rfl) rfl ?_
      refine g_iload_n (q := 65) rfl rfl rfl ?_
      obtain ⟨hi, hF⟩ := ck_I hF
      refine g_iaload (q := 66) rfl rfl rfl hi rfl ?_
      obtain ⟨h8, hC, hF⟩ := bd_I hF
      refine g_cv2 (q := 69) rfl rfl (fun _ => rfl) rfl (A_M_turnNow hC) (by decide +kernel) rfl ?_
      refine g_iinc (q := 72) rfl rfl rfl ?_
      refine g_goto rfl ?_
      refine go_sub (lo' := mm_lf [(0, .inr (.inl (some 55))), (1, .inl x1), (3, .inl (x3 + I 1))]) (mm_subc rfl (mm_subc rfl (mm_subc rfl mm_sub0))) ?_
      exact ih _ _ _ hF KR KX
theorem A_L_M_lands_77 {x1 : Int32} {r : MRs} : ∀ (n : Nat) (x3 : Int32) (h : MH) (x : Int32 × MH), L_M_lands_77 x1 n x3 h = some x → (True) → (∀ (e3 : Int32) (h' : MH), x = (e3, h') → Go 2 236 93 (mm_lf [(3, .inl e3)]) [] h' r) → Go 2 236 77 (mm_lf [(0, .inr (.inl (some 55))), (1, .inl x1), (3, .inl x3)]) [] h r
  | 0, _, _, _, hF, _, _ => by cases hF
  | n + 1, x3, h, x, hF, KR, KX => by
    have ih := fun a3 => A_L_M_lands_77 (x1 := x1) (r := r) n a3 
    unfold L_M_lands_77 at hF
    refine g_aload_n (q := 78) rfl rfl rfl ?_
    refine g_getR (q := 81) rfl (fun _ => rfl) rfl ?_
    refine g_iload_n (q := 82) rfl rfl rfl ?_
    obtain ⟨hi, hF⟩ := ck_I hF
    refine g_iaload (q := 83) rfl rfl rfl hi rfl ?_
    refine g_iload_n (q := 84) rfl rfl rfl ?_
    by_cases c11 : (h.1 63 (Int32.toNatClampNeg x3)) = x1
    · rw [if_pos c11] at hF
      refine g_icmpT rfl (decide_eq_true c11) ?_
      injection hF with hF
      subst hF
      exact go_sub (mm_subc rfl mm_sub0) (KX _ _ rfl)
    · rw [if_neg c11] at hF
      refine g_icmpF (q := 87) rfl (decide_eq_false c11) rfl ?_
      refine g_iinc (q := 90) rfl rfl rfl ?_
      refine g_goto rfl ?_
      refine go_sub (lo' := mm_lf [(0, .inr (.inl (some 55))), (1, .inl x1), (3, .inl (x3 + I 1))]) (mm_subc rfl (mm_subc rfl (mm_subc rfl mm_sub0))) ?_
      exact ih _ _ _ hF KR KX
theorem A_M_lands {x1 : Int32} {h h' : MH} {v : Int32} (hF : F_M_lands x1 h = some (v, h')) : Ex 3 236 [.inr (.inl (some 55)), .inl x1] h (some (.inl v), h') := by
  unfold F_M_lands at hF
  refine ex_of (d := 2) rfl rfl ?_
  refine g_aload_n (q := 1) rfl rfl rfl ?_
  refine g_iconst (q := 2) rfl rfl ?_
  refine g_putI (q := 5) rfl (fun _ => rfl) rfl ?_
  obtain ⟨h1, e_h1, hF⟩ := hw_I hF
  rw [← e_h1]
  refine g_iload_n (q := 6) rfl rfl rfl ?_
  refine g_i2l (q := 7) rfl rfl ?_
  refine g_lconst (u := 0) (q := 8) rfl (by decide +kernel) rfl ?_
  refine g_ldc2_w (q := 11) rfl rfl ?_
  obtain ⟨⟨r3, h2⟩, hC, hF⟩ := bd_I hF
  dsimp only at hF
  refine g_ci3 (q := 14) rfl rfl (fun _ => rfl) rfl (A_M_in hC) (by decide +kernel) rfl ?_
  obtain ⟨k6, e_k6, hF⟩ := kw_I hF
  have K17 : ∀ (z4 : Int32) (h5 : MH), k6 z4 h5 = some (v, h') → Go 2 236 34 (mm_lf [(0, .inr (.inl (some 55))), (1, .inl x1)]) [.inl z4] h5 (some (.inl v), h') := by
    intro z4 h5 hF
    rw [e_k6] at hF
    dsimp only at hF
    refine g_istore_n (q := 35) rfl rfl ?_
    refine g_iload_n (q := 36) rfl rfl rfl ?_
    by_cases c16 : 0 ≤ z4
    · rw [if_pos c16] at hF
      refine g_ifT rfl (decide_eq_true c16) ?_
      refine g_aload_n (q := 46) rfl rfl rfl ?_
      obtain ⟨h7, hC, hF⟩ := bd_I hF
      refine g_cv1 (q := 49) rfl rfl (fun _ => rfl) rfl (A_M_think hC) (by decide +kernel) rfl ?_
      refine g_iconst (q := 50) rfl rfl ?_
      refine g_istore_n (q := 51) rfl rfl ?_
      refine go_sub (lo' := mm_lf [(0, .inr (.inl (some 55))), (1, .inl x1), (3, .inl (I 0))]) (mm_subc rfl (mm_subc rfl (mm_subc rfl mm_sub0))) ?_
      obtain ⟨h10, hC, hF⟩ := bd_I hF
      refine A_L_M_lands_51 5000 _ _ _ hC trivial ?_
      intro _ e2
      cases e2
      refine g_iconst (q := 76) rfl rfl ?_
      refine g_istore_n (q := 77) rfl rfl ?_
      refine go_sub (lo' := mm_lf [(0, .inr (.inl (some 55))), (1, .inl x1), (3, .inl (I 0))]) (mm_subc rfl (mm_subc rfl (mm_subc rfl mm_sub0))) ?_
      obtain ⟨⟨y12, h13⟩, hC, hF⟩ := bd_I hF
      dsimp only at hF
      refine A_L_M_lands_77 5000 _ _ _ hC trivial ?_
      intro _ _ e2
      cases e2
      refine g_iload_n (q := 94) rfl rfl rfl ?_
      injection hF with hF
      injection hF with hv hh
      subst hv
      subst hh
      exact g_iret rfl
    · rw [if_neg c16] at hF
      refine g_ifF (q := 39) rfl (decide_eq_false c16) rfl ?_
      refine g_aload_n (q := 40) rfl rfl rfl ?_
      refine g_iload_n (q := 41) rfl rfl rfl ?_
      obtain ⟨⟨r15, h14⟩, hC, hF⟩ := bd_I hF
      dsimp only at hF
      refine g_ci2 (q := 44) rfl rfl (fun _ => rfl) rfl (A_M_refuse hC) (by decide +kernel) rfl ?_
      injection hF with hF
      injection hF with hv hh
      subst hv
      subst hh
      exact g_iret rfl
  clear e_k6
  by_cases c21 : ¬ r3 = 0
  · rw [if_pos c21] at hF
    refine g_ifT rfl (decide_eq_true c21) ?_
    refine g_aload_n (q := 22) rfl rfl rfl ?_
    obtain ⟨⟨r19, h18⟩, hC, hF⟩ := bd_I hF
    dsimp only at hF
    refine g_ci1 (q := 25) rfl rfl (fun _ => rfl) rfl (A_M_areTurns hC) (by decide +kernel) rfl ?_
    by_cases c20 : r19 = 0
    · rw [if_pos c20] at hF
      refine g_ifT rfl (decide_eq_true c20) ?_
      refine g_bipush (q := 34) rfl (by decide +kernel) rfl ?_
      exact go_sub (mm_subc rfl (mm_subc rfl mm_sub0)) (K17 _ _ hF)
    · rw [if_neg c20] at hF
      refine g_ifF (q := 28) rfl (decide_eq_false c20) rfl ?_
      refine g_iconst (q := 29) rfl rfl ?_
      refine g_goto rfl ?_
      exact go_sub (mm_subc rfl (mm_subc rfl mm_sub0)) (K17 _ _ hF)
  · rw [if_neg c21] at hF
    refine g_ifF (q := 17) rfl (decide_eq_false c21) rfl ?_
    refine g_iconst (q := 18) rfl rfl ?_
    refine g_goto rfl ?_
    exact go_sub (mm_subc rfl (mm_subc rfl mm_sub0)) (K17 _ _ hF)
def L_M_orderOf_32 (x1 : Int32) (x2 : Int32) : Nat → Int32 → MH → Option (MH)
  | 0, _, _ => none
  | n + 1, x3, h => if (h.1 55 34) ≤ x3 then some (h) else ck (mm_in x3 12) (bd (F_M_turnNow (h.1 74 (Int32.toNatClampNeg x3)) h) (fun h7 => L_M_orderOf_32 x1 x2 n (x3 + I 1) h7))
def L_M_orderOf_30 (x1 : Int32) : Nat → Int32 → MH → Option (Int32 × MH)
  | 0, _, _ => none
  | n + 1, x2, h => bd (L_M_orderOf_32 x1 x2 5000 (I 0) h) (fun h9 => bd (F_M_codeNow h9) (fun (r11, h10) => if ¬ r11 = x1 then L_M_orderOf_30 x1 n (x2 + I 1) h10 else some (x2 + I 1, h10)))
/-- BothCornersModel.orderOf()I -/
def F_M_orderOf (h : MH) : Option (Int32 × MH) := hw (mm_hset h.1 55 10 (I 0), h.2) (fun h1 => bd (F_M_areTurns h1) (fun (r3, h2) => if ¬ r3 = 0 then bd (F_M_think h2) (fun h4 => bd (F_M_codeNow h4) (fun (r6, h5) => bd (L_M_orderOf_30 r6 5000 (I 0) h5) (fun (y13, h14) => some (y13, h14)))) else bd (F_M_refuse (I (-3)) h2) (fun (r16, h15) => some (r16, h15))))
theorem A_L_M_orderOf_32 {x1 : Int32} {x2 : Int32} {r : MRs} : ∀ (n : Nat) (x3 : Int32) (h : MH) (x : MH), L_M_orderOf_32 x1 x2 n x3 h = some x → (True) → (∀ (h' : MH), x = (h') → Go 2 237 56 (mm_lf [(0, .inr (.inl (some 55))), (1, .inl x1), (2, .inl x2)]) [] h' r) → Go 2 237 32 (mm_lf [(0, .inr (.inl (some 55))), (1, .inl x1), (2, .inl x2), (3, .inl x3)]) [] h r
  | 0, _, _, _, hF, _, _ => by cases hF
  | n + 1, x3, h, x, hF, KR, KX => by
    have ih := fun a3 => A_L_M_orderOf_32 (x1 := x1) (x2 := x2) (r := r) n a3 
    unfold L_M_orderOf_32 at hF
    refine g_iload_n (q := 33) rfl rfl rfl ?_
    refine g_aload_n (q := 34) rfl rfl rfl ?_
    refine g_getI (q := 37) rfl (fun _ => rfl) rfl ?_
    by_cases c8 : (h.1 55 34) ≤ x3
    · rw [if_pos c8] at hF
      refine g_icmpT rfl (decide_eq_true c8) ?_
      injection hF with hF
      subst hF
      exact go_sub (mm_subc rfl (mm_subc rfl (mm_subc rfl mm_sub0))) (KX  _ rfl)
    · rw [if_neg c8] at hF
      refine g_icmpF (q := 40) rfl (decide_eq_false c8) rfl ?_
      refine g_aload_n (q := 41) rfl rfl rfl ?_
      refine g_aload_n (q := 42) rfl rfl rfl ?_
      refine g_getR (q := 45) rfl (fun _ => rfl) rfl ?_
      refine g_iload_n (q := 46) rfl rfl rfl ?_
      obtain ⟨hi, hF⟩ := ck_I hF
      refine g_iaload (q := 47) rfl rfl rfl hi rfl ?_
      obtain ⟨h7, hC, hF⟩ := bd_I hF
      refine g_cv2 (q := 50) rfl rfl (fun _ => rfl) rfl (A_M_turnNow hC) (by decide +kernel) rfl ?_
      refine g_iinc (q := 53) rfl rfl rfl ?_
      refine g_goto rfl ?_
      refine go_sub (lo' := mm_lf [(0, .inr (.inl (some 55))), (1, .inl x1), (2, .inl x2), (3, .inl (x3 + I 1))]) (mm_subc rfl (mm_subc rfl (mm_subc rfl (mm_subc rfl mm_sub0)))) ?_
      exact ih _ _ _ hF KR KX
theorem A_L_M_orderOf_30 {x1 : Int32} {r : MRs} : ∀ (n : Nat) (x2 : Int32) (h : MH) (x : Int32 × MH), L_M_orderOf_30 x1 n x2 h = some x → (True) → (∀ (e2 : Int32) (h' : MH), x = (e2, h') → Go 2 237 67 (mm_lf [(2, .inl e2)]) [] h' r) → Go 2 237 30 (mm_lf [(0, .inr (.inl (some 55))), (1, .inl x1), (2, .inl x2)]) [] h r
  | 0, _, _, _, hF, _, _ => by cases hF
  | n + 1, x2, h, x, hF, KR, KX => by
    have ih := fun a2 => A_L_M_orderOf_30 (x1 := x1) (r := r) n a2 
    unfold L_M_orderOf_30 at hF
    refine g_iconst (q := 31) rfl rfl ?_
    refine g_istore_n (q := 32) rfl rfl ?_
    refine go_sub (lo' := mm_lf [(0, .inr (.inl (some 55))), (1, .inl x1), (2, .inl x2), (3, .inl (I 0))]) (mm_subc rfl (mm_subc rfl (mm_subc rfl (mm_subc rfl mm_sub0)))) ?_
    obtain ⟨h9, hC, hF⟩ := bd_I hF
    refine A_L_M_orderOf_32 5000 _ _ _ hC trivial ?_
    intro _ e2
    cases e2
    refine g_iinc (q := 59) rfl rfl rfl ?_
    refine g_aload_n (q := 60) rfl rfl rfl ?_
    obtain ⟨⟨r11, h10⟩, hC, hF⟩ := bd_I hF
    dsimp only at hF
    refine g_ci1 (q := 63) rfl rfl (fun _ => rfl) rfl (A_M_codeNow hC) (by decide +kernel) rfl ?_
    refine g_iload_n (q := 64) rfl rfl rfl ?_
    by_cases c12 : ¬ r11 = x1
    · rw [if_pos c12] at hF
      refine g_icmpT rfl (decide_eq_true c12) ?_
      refine go_sub (lo' := mm_lf [(0, .inr (.inl (some 55))), (1, .inl x1), (2, .inl (x2 + I 1))]) (mm_subc rfl (mm_subc rfl (mm_subc rfl mm_sub0))) ?_
      exact ih _ _ _ hF KR KX
    · rw [if_neg c12] at hF
      refine g_icmpF (q := 67) rfl (decide_eq_false c12) rfl ?_
      injection hF with hF
      subst hF
      exact go_sub (mm_subc rfl mm_sub0) (KX _ _ rfl)
theorem A_M_orderOf {h h' : MH} {v : Int32} (hF : F_M_orderOf h = some (v, h')) : Ex 3 237 [.inr (.inl (some 55))] h (some (.inl v), h') := by
  unfold F_M_orderOf at hF
  refine ex_of (d := 2) rfl rfl ?_
  refine g_aload_n (q := 1) rfl rfl rfl ?_
  refine g_iconst (q := 2) rfl rfl ?_
  refine g_putI (q := 5) rfl (fun _ => rfl) rfl ?_
  obtain ⟨h1, e_h1, hF⟩ := hw_I hF
  rw [← e_h1]
  refine g_aload_n (q := 6) rfl rfl rfl ?_
  obtain ⟨⟨r3, h2⟩, hC, hF⟩ := bd_I hF
  dsimp only at hF
  refine g_ci1 (q := 9) rfl rfl (fun _ => rfl) rfl (A_M_areTurns hC) (by decide +kernel) rfl ?_
  by_cases c17 : ¬ r3 = 0
  · rw [if_pos c17] at hF
    refine g_ifT rfl (decide_eq_true c17) ?_
    refine g_aload_n (q := 20) rfl rfl rfl ?_
    obtain ⟨h4, hC, hF⟩ := bd_I hF
    refine g_cv1 (q := 23) rfl rfl (fun _ => rfl) rfl (A_M_think hC) (by decide +kernel) rfl ?_
    refine g_aload_n (q := 24) rfl rfl rfl ?_
    obtain ⟨⟨r6, h5⟩, hC, hF⟩ := bd_I hF
    dsimp only at hF
    refine g_ci1 (q := 27) rfl rfl (fun _ => rfl) rfl (A_M_codeNow hC) (by decide +kernel) rfl ?_
    refine g_istore_n (q := 28) rfl rfl ?_
    refine g_iconst (q := 29) rfl rfl ?_
    refine g_istore_n (q := 30) rfl rfl ?_
    refine go_sub (lo' := mm_lf [(0, .inr (.inl (some 55))), (1, .inl r6), (2, .inl (I 0))]) (mm_subc rfl (mm_subc rfl (mm_subc rfl mm_sub0))) ?_
    obtain ⟨⟨y13, h14⟩, hC, hF⟩ := bd_I hF
    dsimp only at hF
    refine A_L_M_orderOf_30 5000 _ _ _ hC trivial ?_
    intro _ _ e2
    cases e2
    refine g_iload_n (q := 68) rfl rfl rfl ?_
    injection hF with hF
    injection hF with hv hh
    subst hv
    subst hh
    exact g_iret rfl
  · rw [if_neg c17] at hF
    refine g_ifF (q := 12) rfl (decide_eq_false c17) rfl ?_
    refine g_aload_n (q := 13) rfl rfl rfl ?_
    refine g_bipush (q := 15) rfl (by decide +kernel) rfl ?_
    obtain ⟨⟨r16, h15⟩, hC, hF⟩ := bd_I hF
    dsimp only at hF
    refine g_ci2 (q := 18) rfl rfl (fun _ => rfl) rfl (A_M_refuse hC) (by decide +kernel) rfl ?_
    injection hF with hF
    injection hF with hv hh
    subst hv
    subst hh
    exact g_iret rfl
/-- BothCornersModel.mixed()I -/
def F_M_mixed (h : MH) : Option (Int32 × MH) := hw (mm_hset h.1 55 10 (I 0), h.2) (fun h1 => bd (F_M_ownMany h1) (fun (r3, h2) => some ((I 4) - r3, h2)))
theorem A_M_mixed {h h' : MH} {v : Int32} (hF : F_M_mixed h = some (v, h')) : Ex 2 238 [.inr (.inl (some 55))] h (some (.inl v), h') := by
  unfold F_M_mixed at hF
  refine ex_of (d := 1) rfl rfl ?_
  refine g_aload_n (q := 1) rfl rfl rfl ?_
  refine g_iconst (q := 2) rfl rfl ?_
  refine g_putI (q := 5) rfl (fun _ => rfl) rfl ?_
  obtain ⟨h1, e_h1, hF⟩ := hw_I hF
  rw [← e_h1]
  refine g_iconst (q := 6) rfl rfl ?_
  refine g_aload_n (q := 7) rfl rfl rfl ?_
  obtain ⟨⟨r3, h2⟩, hC, hF⟩ := bd_I hF
  dsimp only at hF
  refine g_ci1 (q := 10) rfl rfl (fun _ => rfl) rfl (A_M_ownMany hC) (by decide +kernel) rfl ?_
  refine g_isub (q := 11) rfl rfl ?_
  injection hF with hF
  injection hF with hv hh
  subst hv
  subst hh
  exact g_iret rfl
def L_M_spread_2 (x1 : Int32) : Nat → Int32 → MH → Option (MH)
  | 0, _, _ => none
  | n + 1, x2, h => if (I 512) ≤ x2 then some (h) else iw (if ¬ x2 = x1 then I 99 else I 0) (fun v1 => ck (mm_in x2 512) (hw (mm_hset h.1 75 (Int32.toNatClampNeg x2) v1, h.2) (fun h3 => L_M_spread_2 x1 n (x2 + I 1) h3)))
def L_M_spread_56 (x3 : Int32) (x4 : Int32) : Nat → Int32 → Int32 → MH → Option (Int32 × MH)
  | 0, _, _, _ => none
  | n + 1, x2, x5, h => if (I 4) ≤ x5 then some (x2, h) else ck (mm_in x4 512) (if ¬ (h.1 75 (Int32.toNatClampNeg x4)) = x3 then some (x2, h) else bd (F_M_thinkCode x4 h) (fun h7 => bd (F_M_turnNow x5 h7) (fun h8 => bd (F_M_codeNow h8) (fun (r10, h9) => ck (mm_in r10 512) (if ¬ (h9.1 75 (Int32.toNatClampNeg r10)) = (I 99) then L_M_spread_56 x3 x4 n x2 (x5 + I 1) h9 else ck (mm_in r10 512) (hw (mm_hset h9.1 75 (Int32.toNatClampNeg r10) (x3 + (I 1)), h9.2) (fun h11 => L_M_spread_56 x3 x4 n (I 1) (x5 + I 1) h11)))))))
def L_M_spread_45 (x3 : Int32) : Nat → Int32 → Int32 → MH → Option (Int32 × MH)
  | 0, _, _, _ => none
  | n + 1, x2, x4, h => if (I 512) ≤ x4 then some (x2, h) else bd (L_M_spread_56 x3 x4 5000 x2 (I 0) h) (fun (y15, h16) => L_M_spread_45 x3 n y15 (x4 + I 1) h16)
def L_M_spread_36 : Nat → Int32 → Int32 → MH → Option (MH)
  | 0, _, _, _ => none
  | n + 1, x2, x3, h => if x2 = 0 then some (h) else bd (L_M_spread_45 x3 5000 (I 0) (I 0) h) (fun (y18, h19) => L_M_spread_36 n y18 (x3 + I 1) h19)
/-- BothCornersModel.spread(I)V -/
def F_M_spread (x1 : Int32) (h : MH) : Option (MH) := bd (L_M_spread_2 x1 5000 (I 0) h) (fun h6 => bd (L_M_spread_36 5000 (I 1) (I 0) h6) (fun h21 => some h21))
theorem A_L_M_spread_2 {x1 : Int32} {r : MRs} : ∀ (n : Nat) (x2 : Int32) (h : MH) (x : MH), L_M_spread_2 x1 n x2 h = some x → (True) → (∀ (h' : MH), x = (h') → Go 2 232 32 (mm_lf [(0, .inr (.inl (some 55)))]) [] h' r) → Go 2 232 2 (mm_lf [(0, .inr (.inl (some 55))), (1, .inl x1), (2, .inl x2)]) [] h r
  | 0, _, _, _, hF, _, _ => by cases hF
  | n + 1, x2, h, x, hF, KR, KX => by
    have ih := fun a2 => A_L_M_spread_2 (x1 := x1) (r := r) n a2 
    unfold L_M_spread_2 at hF
    refine g_iload_n (q := 3) rfl rfl rfl ?_
    refine g_sipush (q := 6) rfl (by decide +kernel) rfl ?_
    by_cases c5 : (I 512) ≤ x2
    · rw [if_pos c5] at hF
      refine g_icmpT rfl (decide_eq_true c5) ?_
      injection hF with hF
      subst hF
      exact go_sub (mm_subc rfl mm_sub0) (KX  _ rfl)
    · rw [if_neg c5] at hF
      refine g_icmpF (q := 9) rfl (decide_eq_false c5) rfl ?_
      refine g_aload_n (q := 10) rfl rfl rfl ?_
      refine g_getR (q := 13) rfl (fun _ => rfl) rfl ?_
      refine g_iload_n (q := 14) rfl rfl rfl ?_
      refine g_iload_n (q := 15) rfl rfl rfl ?_
      refine g_iload_n (q := 16) rfl rfl rfl ?_
      obtain ⟨v1, e_v1, hF⟩ := iw_I hF
      suffices K2 : Go 2 232 25 (mm_lf [(0, .inr (.inl (some 55))), (1, .inl x1), (2, .inl x2)]) [.inl v1, .inl x2, .inr (.inl (some 75))] h r by
        clear hF
        by_cases c4 : ¬ x2 = x1
        · simp only [if_pos c4] at e_v1
          subst e_v1
          refine g_icmpT rfl (decide_eq_true c4) ?_
          refine g_bipush (q := 25) rfl (by decide +kernel) rfl ?_
          exact go_sub (mm_subc rfl (mm_subc rfl (mm_subc rfl mm_sub0))) K2
        · simp only [if_neg c4] at e_v1
          subst e_v1
          refine g_icmpF (q := 19) rfl (decide_eq_false c4) rfl ?_
          refine g_iconst (q := 20) rfl rfl ?_
          refine g_goto rfl ?_
          exact go_sub (mm_subc rfl (mm_subc rfl (mm_subc rfl mm_sub0))) K2
      clear e_v1
      obtain ⟨hi, hF⟩ := ck_I hF
      refine g_iastore (q := 26) rfl rfl rfl hi rfl ?_
      obtain ⟨h3, e_h3, hF⟩ := hw_I hF
      rw [← e_h3]
      refine g_iinc (q := 29) rfl rfl rfl ?_
      refine g_goto rfl ?_
      refine go_sub (lo' := mm_lf [(0, .inr (.inl (some 55))), (1, .inl x1), (2, .inl (x2 + I 1))]) (mm_subc rfl (mm_subc rfl (mm_subc rfl mm_sub0))) ?_
      exact ih _ _ _ hF KR KX
theorem A_L_M_spread_56 {x3 : Int32} {x4 : Int32} {r : MRs} : ∀ (n : Nat) (x2 : Int32) (x5 : Int32) (h : MH) (x : Int32 × MH), L_M_spread_56 x3 x4 n x2 x5 h = some x → (True) → (∀ (e2 : Int32) (h' : MH), x = (e2, h') → Go 2 232 121 (mm_lf [(0, .inr (.inl (some 55))), (2, .inl e2), (3, .inl x3), (4, .inl x4)]) [] h' r) → Go 2 232 56 (mm_lf [(0, .inr (.inl (some 55))), (2, .inl x2), (3, .inl x3), (4, .inl x4), (5, .inl x5)]) [] h r
  | 0, _, _, _, _, hF, _, _ => by cases hF
  | n + 1, x2, x5, h, x, hF, KR, KX => by
    have ih := fun a2 a5 => A_L_M_spread_56 (x3 := x3) (x4 := x4) (r := r) n a2 a5 
    unfold L_M_spread_56 at hF
    refine g_iload (q := 58) rfl rfl rfl ?_
    refine g_iconst (q := 59) rfl rfl ?_
    by_cases c14 : (I 4) ≤ x5
    · rw [if_pos c14] at hF
      refine g_icmpT rfl (decide_eq_true c14) ?_
      injection hF with hF
      subst hF
      exact go_sub (mm_subc rfl (mm_subc rfl (mm_subc rfl (mm_subc rfl mm_sub0)))) (KX _ _ rfl)
    · rw [if_neg c14] at hF
      refine g_icmpF (q := 62) rfl (decide_eq_false c14) rfl ?_
      refine g_aload_n (q := 63) rfl rfl rfl ?_
      refine g_getR (q := 66) rfl (fun _ => rfl) rfl ?_
      refine g_iload (q := 68) rfl rfl rfl ?_
      obtain ⟨hi, hF⟩ := ck_I hF
      refine g_iaload (q := 69) rfl rfl rfl hi rfl ?_
      refine g_iload_n (q := 70) rfl rfl rfl ?_
      by_cases c13 : ¬ (h.1 75 (Int32.toNatClampNeg x4)) = x3
      · rw [if_pos c13] at hF
        refine g_icmpT rfl (decide_eq_true c13) ?_
        injection hF with hF
        subst hF
        exact go_sub (mm_subc rfl (mm_subc rfl (mm_subc rfl (mm_subc rfl mm_sub0)))) (KX _ _ rfl)
      · rw [if_neg c13] at hF
        refine g_icmpF (q := 73) rfl (decide_eq_false c13) rfl ?_
        refine g_aload_n (q := 74) rfl rfl rfl ?_
        refine g_iload (q := 76) rfl rfl rfl ?_
        obtain ⟨h7, hC, hF⟩ := bd_I hF
        refine g_cv2 (q := 79) rfl rfl (fun _ => rfl) rfl (A_M_thinkCode hC) (by decide +kernel) rfl ?_
        refine g_aload_n (q := 80) rfl rfl rfl ?_
        refine g_iload (q := 82) rfl rfl rfl ?_
        obtain ⟨h8, hC, hF⟩ := bd_I hF
        refine g_cv2 (q := 85) rfl rfl (fun _ => rfl) rfl (A_M_turnNow hC) (by decide +kernel) rfl ?_
        refine g_aload_n (q := 86) rfl rfl rfl ?_
        obtain ⟨⟨r10, h9⟩, hC, hF⟩ := bd_I hF
        dsimp only at hF
        refine g_ci1 (q := 89) rfl rfl (fun _ => rfl) rfl (A_M_codeNow hC) (by decide +kernel) rfl ?_
        refine g_istore (q := 91) rfl rfl ?_
        refine g_aload_n (q := 92) rfl rfl rfl ?_
        refine g_getR (q := 95) rfl (fun _ => rfl) rfl ?_
        refine g_iload (q := 97) rfl rfl rfl ?_
        obtain ⟨hi, hF⟩ := ck_I hF
        refine g_iaload (q := 98) rfl rfl rfl hi rfl ?_
        refine g_bipush (q := 100) rfl (by decide +kernel) rfl ?_
        by_cases c12 : ¬ (h9.1 75 (Int32.toNatClampNeg r10)) = (I 99)
        · rw [if_pos c12] at hF
          refine g_icmpT rfl (decide_eq_true c12) ?_
          refine g_iinc (q := 118) rfl rfl rfl ?_
          refine g_goto rfl ?_
          refine go_sub (lo' := mm_lf [(0, .inr (.inl (some 55))), (2, .inl x2), (3, .inl x3), (4, .inl x4), (5, .inl (x5 + I 1))]) (mm_subc rfl (mm_subc rfl (mm_subc rfl (mm_subc rfl (mm_subc rfl mm_sub0))))) ?_
          exact ih _ _ _ _ hF KR KX
        · rw [if_neg c12] at hF
          refine g_icmpF (q := 103) rfl (decide_eq_false c12) rfl ?_
          refine g_aload_n (q := 104) rfl rfl rfl ?_
          refine g_getR (q := 107) rfl (fun _ => rfl) rfl ?_
          refine g_iload (q := 109) rfl rfl rfl ?_
          refine g_iload_n (q := 110) rfl rfl rfl ?_
          refine g_iconst (q := 111) rfl rfl ?_
          refine g_iadd (q := 112) rfl rfl ?_
          obtain ⟨hi, hF⟩ := ck_I hF
          refine g_iastore (q := 113) rfl rfl rfl hi rfl ?_
          obtain ⟨h11, e_h11, hF⟩ := hw_I hF
          rw [← e_h11]
          refine g_iconst (q := 114) rfl rfl ?_
          refine g_istore_n (q := 115) rfl rfl ?_
          refine g_iinc (q := 118) rfl rfl rfl ?_
          refine g_goto rfl ?_
          refine go_sub (lo' := mm_lf [(0, .inr (.inl (some 55))), (2, .inl (I 1)), (3, .inl x3), (4, .inl x4), (5, .inl (x5 + I 1))]) (mm_subc rfl (mm_subc rfl (mm_subc rfl (mm_subc rfl (mm_subc rfl mm_sub0))))) ?_
          exact ih _ _ _ _ hF KR KX
theorem A_L_M_spread_45 {x3 : Int32} {r : MRs} : ∀ (n : Nat) (x2 : Int32) (x4 : Int32) (h : MH) (x : Int32 × MH), L_M_spread_45 x3 n x2 x4 h = some x → (True) → (∀ (e2 : Int32) (h' : MH), x = (e2, h') → Go 2 232 127 (mm_lf [(0, .inr (.inl (some 55))), (2, .inl e2), (3, .inl x3)]) [] h' r) → Go 2 232 45 (mm_lf [(0, .inr (.inl (some 55))), (2, .inl x2), (3, .inl x3), (4, .inl x4)]) [] h r
  | 0, _, _, _, _, hF, _, _ => by cases hF
  | n + 1, x2, x4, h, x, hF, KR, KX => by
    have ih := fun a2 a4 => A_L_M_spread_45 (x3 := x3) (r := r) n a2 a4 
    unfold L_M_spread_45 at hF
    refine g_iload (q := 47) rfl rfl rfl ?_
    refine g_sipush (q := 50) rfl (by decide +kernel) rfl ?_
    by_cases c17 : (I 512) ≤ x4
    · rw [if_pos c17] at hF
      refine g_icmpT rfl (decide_eq_true c17) ?_
      injection hF with hF
      subst hF
      exact go_sub (mm_subc rfl (mm_subc rfl (mm_subc rfl mm_sub0))) (KX _ _ rfl)
    · rw [if_neg c17] at hF
      refine g_icmpF (q := 53) rfl (decide_eq_false c17) rfl ?_
      refine g_iconst (q := 54) rfl rfl ?_
      refine g_istore (q := 56) rfl rfl ?_
      refine go_sub (lo' := mm_lf [(0, .inr (.inl (some 55))), (2, .inl x2), (3, .inl x3), (4, .inl x4), (5, .inl (I 0))]) (mm_subc rfl (mm_subc rfl (mm_subc rfl (mm_subc rfl (mm_subc rfl mm_sub0))))) ?_
      obtain ⟨⟨y15, h16⟩, hC, hF⟩ := bd_I hF
      dsimp only at hF
      refine A_L_M_spread_56 5000 _ _ _ _ hC trivial ?_
      intro _ _ e2
      cases e2
      refine g_iinc (q := 124) rfl rfl rfl ?_
      refine g_goto rfl ?_
      refine go_sub (lo' := mm_lf [(0, .inr (.inl (some 55))), (2, .inl y15), (3, .inl x3), (4, .inl (x4 + I 1))]) (mm_subc rfl (mm_subc rfl (mm_subc rfl (mm_subc rfl mm_sub0)))) ?_
      exact ih _ _ _ _ hF KR KX
theorem A_L_M_spread_36 {r : MRs} : ∀ (n : Nat) (x2 : Int32) (x3 : Int32) (h : MH) (x : MH), L_M_spread_36 n x2 x3 h = some x → (True) → (∀ (h' : MH), x = (h') → Go 2 232 133 (mm_lf []) [] h' r) → Go 2 232 36 (mm_lf [(0, .inr (.inl (some 55))), (2, .inl x2), (3, .inl x3)]) [] h r
  | 0, _, _, _, _, hF, _, _ => by cases hF
  | n + 1, x2, x3, h, x, hF, KR, KX => by
    have ih := fun a2 a3 => A_L_M_spread_36 (r := r) n a2 a3 
    unfold L_M_spread_36 at hF
    refine g_iload_n (q := 37) rfl rfl rfl ?_
    by_cases c20 : x2 = 0
    · rw [if_pos c20] at hF
      refine g_ifT rfl (decide_eq_true c20) ?_
      injection hF with hF
      subst hF
      exact go_sub mm_sub0 (KX  _ rfl)
    · rw [if_neg c20] at hF
      refine g_ifF (q := 40) rfl (decide_eq_false c20) rfl ?_
      refine g_iconst (q := 41) rfl rfl ?_
      refine g_istore_n (q := 42) rfl rfl ?_
      refine g_iconst (q := 43) rfl rfl ?_
      refine g_istore (q := 45) rfl rfl ?_
      refine go_sub (lo' := mm_lf [(0, .inr (.inl (some 55))), (2, .inl (I 0)), (3, .inl x3), (4, .inl (I 0))]) (mm_subc rfl (mm_subc rfl (mm_subc rfl (mm_subc rfl mm_sub0)))) ?_
      obtain ⟨⟨y18, h19⟩, hC, hF⟩ := bd_I hF
      dsimp only at hF
      refine A_L_M_spread_45 5000 _ _ _ _ hC trivial ?_
      intro _ _ e2
      cases e2
      refine g_iinc (q := 130) rfl rfl rfl ?_
      refine g_goto rfl ?_
      refine go_sub (lo' := mm_lf [(0, .inr (.inl (some 55))), (2, .inl y18), (3, .inl (x3 + I 1))]) (mm_subc rfl (mm_subc rfl (mm_subc rfl mm_sub0))) ?_
      exact ih _ _ _ _ hF KR KX
theorem A_M_spread {x1 : Int32} {h h' : MH} (hF : F_M_spread x1 h = some h') : Ex 3 232 [.inr (.inl (some 55)), .inl x1] h (none, h') := by
  unfold F_M_spread at hF
  refine ex_of (d := 2) rfl rfl ?_
  refine g_iconst (q := 1) rfl rfl ?_
  refine g_istore_n (q := 2) rfl rfl ?_
  refine go_sub (lo' := mm_lf [(0, .inr (.inl (some 55))), (1, .inl x1), (2, .inl (I 0))]) (mm_subc rfl (mm_subc rfl (mm_subc rfl mm_sub0))) ?_
  obtain ⟨h6, hC, hF⟩ := bd_I hF
  refine A_L_M_spread_2 5000 _ _ _ hC trivial ?_
  intro _ e2
  cases e2
  refine g_iconst (q := 33) rfl rfl ?_
  refine g_istore_n (q := 34) rfl rfl ?_
  refine g_iconst (q := 35) rfl rfl ?_
  refine g_istore_n (q := 36) rfl rfl ?_
  refine go_sub (lo' := mm_lf [(0, .inr (.inl (some 55))), (2, .inl (I 1)), (3, .inl (I 0))]) (mm_subc rfl (mm_subc rfl (mm_subc rfl mm_sub0))) ?_
  obtain ⟨h21, hC, hF⟩ := bd_I hF
  refine A_L_M_spread_36 5000 _ _ _ _ hC trivial ?_
  intro _ e2
  cases e2
  injection hF with hF
  subst hF
  exact g_vret rfl
def L_M_waysToLie_43 (x1 : Int32) : Nat → Int32 → Int32 → MH → Option (Int32 × MH)
  | 0, _, _, _ => none
  | n + 1, x2, x3, h => if (I 512) ≤ x3 then some (x2, h) else ck (mm_in x3 512) (iw (if x1 < (h.1 75 (Int32.toNatClampNeg x3)) then I 0 else I 1) (fun v8 => L_M_waysToLie_43 x1 n (x2 + v8) (x3 + I 1) h))
/-- BothCornersModel.waysToLie(I)I -/
def F_M_waysToLie (x1 : Int32) (h : MH) : Option (Int32 × MH) := hw (mm_hset h.1 55 10 (I 0), h.2) (fun h1 => bd (F_M_wrongNumber x1 (I 0) (I 8) h1) (fun (r3, h2) => if 0 ≤ r3 then bd (F_M_think h2) (fun h4 => bd (F_M_codeNow h4) (fun (r6, h5) => bd (F_M_spread r6 h5) (fun h7 => bd (L_M_waysToLie_43 x1 5000 (I 0) (I 0) h7) (fun (y12, h13) => some (y12, h13))))) else bd (F_M_wrongNumber x1 (I 0) (I 8) h2) (fun (r15, h14) => bd (F_M_refuse r15 h14) (fun (r17, h16) => some (r17, h16)))))
theorem A_L_M_waysToLie_43 {x1 : Int32} {r : MRs} : ∀ (n : Nat) (x2 : Int32) (x3 : Int32) (h : MH) (x : Int32 × MH), L_M_waysToLie_43 x1 n x2 x3 h = some x → (True) → (∀ (e2 : Int32) (h' : MH), x = (e2, h') → Go 3 239 74 (mm_lf [(2, .inl e2)]) [] h' r) → Go 3 239 43 (mm_lf [(0, .inr (.inl (some 55))), (1, .inl x1), (2, .inl x2), (3, .inl x3)]) [] h r
  | 0, _, _, _, _, hF, _, _ => by cases hF
  | n + 1, x2, x3, h, x, hF, KR, KX => by
    have ih := fun a2 a3 => A_L_M_waysToLie_43 (x1 := x1) (r := r) n a2 a3 
    unfold L_M_waysToLie_43 at hF
    refine g_iload_n (q := 44) rfl rfl rfl ?_
    refine g_sipush (q := 47) rfl (by decide +kernel) rfl ?_
    by_cases c11 : (I 512) ≤ x3
    · rw [if_pos c11] at hF
      refine g_icmpT rfl (decide_eq_true c11) ?_
      injection hF with hF
      subst hF
      exact go_sub (mm_subc rfl mm_sub0) (KX _ _ rfl)
    · rw [if_neg c11] at hF
      refine g_icmpF (q := 50) rfl (decide_eq_false c11) rfl ?_
      refine g_iload_n (q := 51) rfl rfl rfl ?_
      refine g_aload_n (q := 52) rfl rfl rfl ?_
      refine g_getR (q := 55) rfl (fun _ => rfl) rfl ?_
      refine g_iload_n (q := 56) rfl rfl rfl ?_
      obtain ⟨hi, hF⟩ := ck_I hF
      refine g_iaload (q := 57) rfl rfl rfl hi rfl ?_
      refine g_iload_n (q := 58) rfl rfl rfl ?_
      obtain ⟨v8, e_v8, hF⟩ := iw_I hF
      suffices K9 : Go 3 239 66 (mm_lf [(0, .inr (.inl (some 55))), (1, .inl x1), (3, .inl x3)]) [.inl v8, .inl x2] h r by
        clear hF
        by_cases c10 : x1 < (h.1 75 (Int32.toNatClampNeg x3))
        · simp only [if_pos c10] at e_v8
          subst e_v8
          refine g_icmpT rfl (decide_eq_true c10) ?_
          refine g_iconst (q := 66) rfl rfl ?_
          exact go_sub (mm_subc rfl (mm_subc rfl (mm_subc rfl mm_sub0))) K9
        · simp only [if_neg c10] at e_v8
          subst e_v8
          refine g_icmpF (q := 61) rfl (decide_eq_false c10) rfl ?_
          refine g_iconst (q := 62) rfl rfl ?_
          refine g_goto rfl ?_
          exact go_sub (mm_subc rfl (mm_subc rfl (mm_subc rfl mm_sub0))) K9
      clear e_v8
      refine g_iadd (q := 67) rfl rfl ?_
      refine g_istore_n (q := 68) rfl rfl ?_
      refine g_iinc (q := 71) rfl rfl rfl ?_
      refine g_goto rfl ?_
      refine go_sub (lo' := mm_lf [(0, .inr (.inl (some 55))), (1, .inl x1), (2, .inl (x2 + v8)), (3, .inl (x3 + I 1))]) (mm_subc rfl (mm_subc rfl (mm_subc rfl (mm_subc rfl mm_sub0)))) ?_
      exact ih _ _ _ _ hF KR KX
theorem A_M_waysToLie {x1 : Int32} {h h' : MH} {v : Int32} (hF : F_M_waysToLie x1 h = some (v, h')) : Ex 4 239 [.inr (.inl (some 55)), .inl x1] h (some (.inl v), h') := by
  unfold F_M_waysToLie at hF
  refine ex_of (d := 3) rfl rfl ?_
  refine g_aload_n (q := 1) rfl rfl rfl ?_
  refine g_iconst (q := 2) rfl rfl ?_
  refine g_putI (q := 5) rfl (fun _ => rfl) rfl ?_
  obtain ⟨h1, e_h1, hF⟩ := hw_I hF
  rw [← e_h1]
  refine g_iload_n (q := 6) rfl rfl rfl ?_
  refine g_iconst (q := 7) rfl rfl ?_
  refine g_bipush (q := 9) rfl (by decide +kernel) rfl ?_
  obtain ⟨⟨r3, h2⟩, hC, hF⟩ := bd_I hF
  dsimp only at hF
  refine g_ci3 (q := 12) rfl rfl (fun _ => rfl) rfl (A_M_wrongNumber hC) (by decide +kernel) rfl ?_
  by_cases c18 : 0 ≤ r3
  · rw [if_pos c18] at hF
    refine g_ifT rfl (decide_eq_true c18) ?_
    refine g_aload_n (q := 28) rfl rfl rfl ?_
    obtain ⟨h4, hC, hF⟩ := bd_I hF
    refine g_cv1 (q := 31) rfl rfl (fun _ => rfl) rfl (A_M_think hC) (by decide +kernel) rfl ?_
    refine g_aload_n (q := 32) rfl rfl rfl ?_
    refine g_aload_n (q := 33) rfl rfl rfl ?_
    obtain ⟨⟨r6, h5⟩, hC, hF⟩ := bd_I hF
    dsimp only at hF
    refine g_ci1 (q := 36) rfl rfl (fun _ => rfl) rfl (A_M_codeNow hC) (by decide +kernel) rfl ?_
    obtain ⟨h7, hC, hF⟩ := bd_I hF
    refine g_cv2 (q := 39) rfl rfl (fun _ => rfl) rfl (A_M_spread hC) (by decide +kernel) rfl ?_
    refine g_iconst (q := 40) rfl rfl ?_
    refine g_istore_n (q := 41) rfl rfl ?_
    refine g_iconst (q := 42) rfl rfl ?_
    refine g_istore_n (q := 43) rfl rfl ?_
    refine go_sub (lo' := mm_lf [(0, .inr (.inl (some 55))), (1, .inl x1), (2, .inl (I 0)), (3, .inl (I 0))]) (mm_subc rfl (mm_subc rfl (mm_subc rfl (mm_subc rfl mm_sub0)))) ?_
    obtain ⟨⟨y12, h13⟩, hC, hF⟩ := bd_I hF
    dsimp only at hF
    refine A_L_M_waysToLie_43 5000 _ _ _ _ hC trivial ?_
    intro _ _ e2
    cases e2
    refine g_iload_n (q := 75) rfl rfl rfl ?_
    injection hF with hF
    injection hF with hv hh
    subst hv
    subst hh
    exact g_iret rfl
  · rw [if_neg c18] at hF
    refine g_ifF (q := 15) rfl (decide_eq_false c18) rfl ?_
    refine g_aload_n (q := 16) rfl rfl rfl ?_
    refine g_iload_n (q := 17) rfl rfl rfl ?_
    refine g_iconst (q := 18) rfl rfl ?_
    refine g_bipush (q := 20) rfl (by decide +kernel) rfl ?_
    obtain ⟨⟨r15, h14⟩, hC, hF⟩ := bd_I hF
    dsimp only at hF
    refine g_ci3 (q := 23) rfl rfl (fun _ => rfl) rfl (A_M_wrongNumber hC) (by decide +kernel) rfl ?_
    obtain ⟨⟨r17, h16⟩, hC, hF⟩ := bd_I hF
    dsimp only at hF
    refine g_ci2 (q := 26) rfl rfl (fun _ => rfl) rfl (A_M_refuse hC) (by decide +kernel) rfl ?_
    injection hF with hF
    injection hF with hv hh
    subst hv
    subst hh
    exact g_iret rfl
def L_M_timeOfAll_5 (x1 : Int32) (x2 : Int32) : Nat → Int32 → Int32 → MH → Option (Int32 × MH)
  | 0, _, _, _ => none
  | n + 1, x3, x4, h => if (h.1 55 0) ≤ x4 then some (x3, h) else bd (F_M_timeOf x4 x1 x2 h) (fun (r2, h1) => L_M_timeOfAll_5 x1 x2 n (x3 + r2) (x4 + I 1) h1)
/-- BothCornersModel.timeOfAll(II)I -/
def F_M_timeOfAll (x1 : Int32) (x2 : Int32) (h : MH) : Option (Int32 × MH) := bd (L_M_timeOfAll_5 x1 x2 5000 (I 0) (I 0) h) (fun (y4, h5) => some (y4, h5))
theorem A_L_M_timeOfAll_5 {x1 : Int32} {x2 : Int32} {r : MRs} : ∀ (n : Nat) (x3 : Int32) (x4 : Int32) (h : MH) (x : Int32 × MH), L_M_timeOfAll_5 x1 x2 n x3 x4 h = some x → (True) → (∀ (e3 : Int32) (h' : MH), x = (e3, h') → Go 4 241 31 (mm_lf [(3, .inl e3)]) [] h' r) → Go 4 241 5 (mm_lf [(0, .inr (.inl (some 55))), (1, .inl x1), (2, .inl x2), (3, .inl x3), (4, .inl x4)]) [] h r
  | 0, _, _, _, _, hF, _, _ => by cases hF
  | n + 1, x3, x4, h, x, hF, KR, KX => by
    have ih := fun a3 a4 => A_L_M_timeOfAll_5 (x1 := x1) (x2 := x2) (r := r) n a3 a4 
    unfold L_M_timeOfAll_5 at hF
    refine g_iload (q := 7) rfl rfl rfl ?_
    refine g_aload_n (q := 8) rfl rfl rfl ?_
    refine g_getI (q := 11) rfl (fun _ => rfl) rfl ?_
    by_cases c3 : (h.1 55 0) ≤ x4
    · rw [if_pos c3] at hF
      refine g_icmpT rfl (decide_eq_true c3) ?_
      injection hF with hF
      subst hF
      exact go_sub (mm_subc rfl mm_sub0) (KX _ _ rfl)
    · rw [if_neg c3] at hF
      refine g_icmpF (q := 14) rfl (decide_eq_false c3) rfl ?_
      refine g_iload_n (q := 15) rfl rfl rfl ?_
      refine g_aload_n (q := 16) rfl rfl rfl ?_
      refine g_iload (q := 18) rfl rfl rfl ?_
      refine g_iload_n (q := 19) rfl rfl rfl ?_
      refine g_iload_n (q := 20) rfl rfl rfl ?_
      obtain ⟨⟨r2, h1⟩, hC, hF⟩ := bd_I hF
      dsimp only at hF
      refine g_ci4 (q := 23) rfl rfl (fun _ => rfl) rfl (A_M_timeOf hC) (by decide +kernel) rfl ?_
      refine g_iadd (q := 24) rfl rfl ?_
      refine g_istore_n (q := 25) rfl rfl ?_
      refine g_iinc (q := 28) rfl rfl rfl ?_
      refine g_goto rfl ?_
      refine go_sub (lo' := mm_lf [(0, .inr (.inl (some 55))), (1, .inl x1), (2, .inl x2), (3, .inl (x3 + r2)), (4, .inl (x4 + I 1))]) (mm_subc rfl (mm_subc rfl (mm_subc rfl (mm_subc rfl (mm_subc rfl mm_sub0))))) ?_
      exact ih _ _ _ _ hF KR KX
theorem A_M_timeOfAll {x1 : Int32} {x2 : Int32} {h h' : MH} {v : Int32} (hF : F_M_timeOfAll x1 x2 h = some (v, h')) : Ex 5 241 [.inr (.inl (some 55)), .inl x1, .inl x2] h (some (.inl v), h') := by
  unfold F_M_timeOfAll at hF
  refine ex_of (d := 4) rfl rfl ?_
  refine g_iconst (q := 1) rfl rfl ?_
  refine g_istore_n (q := 2) rfl rfl ?_
  refine g_iconst (q := 3) rfl rfl ?_
  refine g_istore (q := 5) rfl rfl ?_
  refine go_sub (lo' := mm_lf [(0, .inr (.inl (some 55))), (1, .inl x1), (2, .inl x2), (3, .inl (I 0)), (4, .inl (I 0))]) (mm_subc rfl (mm_subc rfl (mm_subc rfl (mm_subc rfl (mm_subc rfl mm_sub0))))) ?_
  obtain ⟨⟨y4, h5⟩, hC, hF⟩ := bd_I hF
  dsimp only at hF
  refine A_L_M_timeOfAll_5 5000 _ _ _ _ hC trivial ?_
  intro _ _ e2
  cases e2
  refine g_iload_n (q := 32) rfl rfl rfl ?_
  injection hF with hF
  injection hF with hv hh
  subst hv
  subst hh
  exact g_iret rfl
def L_M_divisor_6 : Nat → Int64 → Int64 → MH → Option (Int64 × MH)
  | 0, _, _, _ => none
  | n + 1, x4, x6, h => if (lg_cmp x6 (Lg 0)) = 0 then some (x4, h) else cd (¬ x6 = 0) (L_M_divisor_6 n x6 (lrem x4 x6) h)
/-- BothCornersModel.divisor(JJ)J -/
def F_M_divisor (x0 : Int64) (x2 : Int64) (h : MH) : Option (Int64 × MH) := bd (L_M_divisor_6 5000 x0 x2 h) (fun (y2, h3) => some (y2, h3))
theorem A_L_M_divisor_6 {r : MRs} : ∀ (n : Nat) (x4 : Int64) (x6 : Int64) (h : MH) (x : Int64 × MH), L_M_divisor_6 n x4 x6 h = some x → (True) → (∀ (e4 : Int64) (h' : MH), x = (e4, h') → Go 0 240 31 (mm_lf [(4, .inr (.inr (e4)))]) [] h' r) → Go 0 240 6 (mm_lf [(4, .inr (.inr (x4))), (6, .inr (.inr (x6)))]) [] h r
  | 0, _, _, _, _, hF, _, _ => by cases hF
  | n + 1, x4, x6, h, x, hF, KR, KX => by
    have ih := fun a4 a6 => A_L_M_divisor_6 (r := r) n a4 a6 
    unfold L_M_divisor_6 at hF
    refine g_lload (q := 8) rfl rfl rfl ?_
    refine g_lconst (u := 0) (q := 9) rfl (by decide +kernel) rfl ?_
    refine g_lcmp (q := 10) rfl rfl ?_
    by_cases c1 : (lg_cmp x6 (Lg 0)) = 0
    · rw [if_pos c1] at hF
      refine g_ifT rfl (decide_eq_true c1) ?_
      injection hF with hF
      subst hF
      exact go_sub (mm_subc rfl mm_sub0) (KX _ _ rfl)
    · rw [if_neg c1] at hF
      refine g_ifF (q := 13) rfl (decide_eq_false c1) rfl ?_
      refine g_lload (q := 15) rfl rfl rfl ?_
      refine g_lload (q := 17) rfl rfl rfl ?_
      obtain ⟨hne, hF⟩ := cd_I hF
      refine g_lrem (q := 18) rfl hne rfl ?_
      refine g_lstore (q := 20) rfl rfl ?_
      refine g_lload (q := 22) rfl rfl rfl ?_
      refine g_lstore (q := 24) rfl rfl ?_
      refine g_lload (q := 26) rfl rfl rfl ?_
      refine g_lstore (q := 28) rfl rfl ?_
      refine g_goto rfl ?_
      refine go_sub (lo' := mm_lf [(4, .inr (.inr (x6))), (6, .inr (.inr (lrem x4 x6)))]) (mm_subc rfl (mm_subc rfl mm_sub0)) ?_
      exact ih _ _ _ _ hF KR KX
theorem A_M_divisor {x0 : Int64} {x2 : Int64} {h h' : MH} {v : Int64} (hF : F_M_divisor x0 x2 h = some (v, h')) : Ex 1 240 [.inr (.inr (x0)), .inr (.inr (x2))] h (some (.inr (.inr v)), h') := by
  unfold F_M_divisor at hF
  refine ex_of (d := 0) rfl rfl ?_
  refine g_lload_n (q := 1) rfl rfl rfl ?_
  refine g_lstore (q := 3) rfl rfl ?_
  refine g_lload_n (q := 4) rfl rfl rfl ?_
  refine g_lstore (q := 6) rfl rfl ?_
  refine go_sub (lo' := mm_lf [(4, .inr (.inr (x0))), (6, .inr (.inr (x2)))]) (mm_subc rfl (mm_subc rfl mm_sub0)) ?_
  obtain ⟨⟨y2, h3⟩, hC, hF⟩ := bd_I hF
  dsimp only at hF
  refine A_L_M_divisor_6 5000 _ _ _ _ hC trivial ?_
  intro _ _ e2
  cases e2
  refine g_lload (q := 33) rfl rfl rfl ?_
  injection hF with hF
  injection hF with hv hh
  subst hv
  subst hh
  exact g_lret rfl
/-- BothCornersModel.cat(IIII)J -/
def F_M_cat (x1 : Int32) (x2 : Int32) (x3 : Int32) (x4 : Int32) (h : MH) : Option (Int64 × MH) := hw (mm_hset h.1 55 10 (I 0), h.2) (fun h1 => bd (F_M_isWay x1 h1) (fun (r3, h2) => kw (fun (z4 : Int32) (h5 : MH) => bd (F_M_wrongBit z4 x4 (I 1) h5) (fun (r8, h7) => if 0 ≤ r8 then bd (F_M_timeOfAll x1 x2 h7) (fun (r10, h9) => if ¬ (lg_cmp ((Int32.toInt64 r10) * (Int32.toInt64 (x3 + (I 1)))) (Lg 0)) = 0 then bd (F_M_divisor ((Int32.toInt64 r10) * (Int32.toInt64 (x3 + (I 1)))) (Int32.toInt64 x3) h9) (fun (r12, h11) => if ¬ x4 = 0 then cd (¬ r12 = 0) (some ((Int32.toInt64 x3) / r12, h11)) else cd (¬ r12 = 0) (some (((Int32.toInt64 r10) * (Int32.toInt64 (x3 + (I 1)))) / r12, h11))) else some (Int32.toInt64 x4, h9)) else bd (F_M_refuse r8 h7) (fun (r16, h15) => some ((Lg 4000000000000000000) - (Int32.toInt64 r16), h15)))) (fun k6 => if r3 = 0 then k6 (I (-1)) h2 else bd (F_M_isOne x2 h2) (fun (r20, h19) => if r20 = 0 then k6 (I (-1)) h19 else bd (F_M_wrongNumber x3 (I 2) (I 20) h19) (fun (r22, h21) => k6 r22 h21)))))
theorem A_M_cat {x1 : Int32} {x2 : Int32} {x3 : Int32} {x4 : Int32} {h h' : MH} {v : Int64} (hF : F_M_cat x1 x2 x3 x4 h = some (v, h')) : Ex 6 242 [.inr (.inl (some 55)), .inl x1, .inl x2, .inl x3, .inl x4] h (some (.inr (.inr v)), h') := by
  unfold F_M_cat at hF
  refine ex_of (d := 5) rfl rfl ?_
  refine g_aload_n (q := 1) rfl rfl rfl ?_
  refine g_iconst (q := 2) rfl rfl ?_
  refine g_putI (q := 5) rfl (fun _ => rfl) rfl ?_
  obtain ⟨h1, e_h1, hF⟩ := hw_I hF
  rw [← e_h1]
  refine g_aload_n (q := 6) rfl rfl rfl ?_
  refine g_iload_n (q := 7) rfl rfl rfl ?_
  obtain ⟨⟨r3, h2⟩, hC, hF⟩ := bd_I hF
  dsimp only at hF
  refine g_ci2 (q := 10) rfl rfl (fun _ => rfl) rfl (A_M_isWay hC) (by decide +kernel) rfl ?_
  obtain ⟨k6, e_k6, hF⟩ := kw_I hF
  have K18 : ∀ (z4 : Int32) (h5 : MH), k6 z4 h5 = some (v, h') → Go 5 242 32 (mm_lf [(0, .inr (.inl (some 55))), (1, .inl x1), (2, .inl x2), (3, .inl x3), (4, .inl x4)]) [.inl z4] h5 (some (.inr (.inr v)), h') := by
    intro z4 h5 hF
    rw [e_k6] at hF
    dsimp only at hF
    refine g_iload (q := 34) rfl rfl rfl ?_
    refine g_iconst (q := 35) rfl rfl ?_
    obtain ⟨⟨r8, h7⟩, hC, hF⟩ := bd_I hF
    dsimp only at hF
    refine g_ci3 (q := 38) rfl rfl (fun _ => rfl) rfl (A_M_wrongBit hC) (by decide +kernel) rfl ?_
    refine g_istore (q := 40) rfl rfl ?_
    refine g_iload (q := 42) rfl rfl rfl ?_
    by_cases c17 : 0 ≤ r8
    · rw [if_pos c17] at hF
      refine g_ifT rfl (decide_eq_true c17) ?_
      refine g_aload_n (q := 58) rfl rfl rfl ?_
      refine g_iload_n (q := 59) rfl rfl rfl ?_
      refine g_iload_n (q := 60) rfl rfl rfl ?_
      obtain ⟨⟨r10, h9⟩, hC, hF⟩ := bd_I hF
      dsimp only at hF
      refine g_ci3 (q := 63) rfl rfl (fun _ => rfl) rfl (A_M_timeOfAll hC) (by decide +kernel) rfl ?_
      refine g_i2l (q := 64) rfl rfl ?_
      refine g_iload_n (q := 65) rfl rfl rfl ?_
      refine g_iconst (q := 66) rfl rfl ?_
      refine g_iadd (q := 67) rfl rfl ?_
      refine g_i2l (q := 68) rfl rfl ?_
      refine g_lmul (q := 69) rfl rfl ?_
      refine g_lstore (q := 71) rfl rfl ?_
      refine g_lload (q := 73) rfl rfl rfl ?_
      refine g_lconst (u := 0) (q := 74) rfl (by decide +kernel) rfl ?_
      refine g_lcmp (q := 75) rfl rfl ?_
      by_cases c14 : ¬ (lg_cmp ((Int32.toInt64 r10) * (Int32.toInt64 (x3 + (I 1)))) (Lg 0)) = 0
      · rw [if_pos c14] at hF
        refine g_ifT rfl (decide_eq_true c14) ?_
        refine g_lload (q := 84) rfl rfl rfl ?_
        refine g_iload_n (q := 85) rfl rfl rfl ?_
        refine g_i2l (q := 86) rfl rfl ?_
        obtain ⟨⟨r12, h11⟩, hC, hF⟩ := bd_I hF
        dsimp only at hF
        refine g_cl2 (q := 89) rfl rfl (fun _ => rfl) rfl (A_M_divisor hC) (by decide +kernel) rfl ?_
        refine g_lstore (q := 91) rfl rfl ?_
        refine g_iload (q := 93) rfl rfl rfl ?_
        by_cases c13 : ¬ x4 = 0
        · rw [if_pos c13] at hF
          refine g_ifT rfl (decide_eq_true c13) ?_
          refine g_iload_n (q := 105) rfl rfl rfl ?_
          refine g_i2l (q := 106) rfl rfl ?_
          refine g_lload (q := 108) rfl rfl rfl ?_
          obtain ⟨hne, hF⟩ := cd_I hF
          refine g_ldiv (q := 109) rfl hne rfl ?_
          injection hF with hF
          injection hF with hv hh
          subst hv
          subst hh
          exact g_lret rfl
        · rw [if_neg c13] at hF
          refine g_ifF (q := 96) rfl (decide_eq_false c13) rfl ?_
          refine g_lload (q := 98) rfl rfl rfl ?_
          refine g_lload (q := 100) rfl rfl rfl ?_
          obtain ⟨hne, hF⟩ := cd_I hF
          refine g_ldiv (q := 101) rfl hne rfl ?_
          refine g_goto rfl ?_
          injection hF with hF
          injection hF with hv hh
          subst hv
          subst hh
          exact g_lret rfl
      · rw [if_neg c14] at hF
        refine g_ifF (q := 78) rfl (decide_eq_false c14) rfl ?_
        refine g_iload (q := 80) rfl rfl rfl ?_
        refine g_i2l (q := 81) rfl rfl ?_
        injection hF with hF
        injection hF with hv hh
        subst hv
        subst hh
        exact g_lret rfl
    · rw [if_neg c17] at hF
      refine g_ifF (q := 45) rfl (decide_eq_false c17) rfl ?_
      refine g_ldc2_w (q := 48) rfl rfl ?_
      refine g_aload_n (q := 49) rfl rfl rfl ?_
      refine g_iload (q := 51) rfl rfl rfl ?_
      obtain ⟨⟨r16, h15⟩, hC, hF⟩ := bd_I hF
      dsimp only at hF
      refine g_ci2 (q := 54) rfl rfl (fun _ => rfl) rfl (A_M_refuse hC) (by decide +kernel) rfl ?_
      refine g_i2l (q := 55) rfl rfl ?_
      refine g_lsub (q := 56) rfl rfl ?_
      injection hF with hF
      injection hF with hv hh
      subst hv
      subst hh
      exact g_lret rfl
  clear e_k6
  by_cases c24 : r3 = 0
  · rw [if_pos c24] at hF
    refine g_ifT rfl (decide_eq_true c24) ?_
    refine g_iconst (q := 32) rfl rfl ?_
    exact go_sub (mm_subc rfl (mm_subc rfl (mm_subc rfl (mm_subc rfl (mm_subc rfl mm_sub0))))) (K18 _ _ hF)
  · rw [if_neg c24] at hF
    refine g_ifF (q := 13) rfl (decide_eq_false c24) rfl ?_
    refine g_aload_n (q := 14) rfl rfl rfl ?_
    refine g_iload_n (q := 15) rfl rfl rfl ?_
    obtain ⟨⟨r20, h19⟩, hC, hF⟩ := bd_I hF
    dsimp only at hF
    refine g_ci2 (q := 18) rfl rfl (fun _ => rfl) rfl (A_M_isOne hC) (by decide +kernel) rfl ?_
    by_cases c23 : r20 = 0
    · rw [if_pos c23] at hF
      refine g_ifT rfl (decide_eq_true c23) ?_
      refine g_iconst (q := 32) rfl rfl ?_
      exact go_sub (mm_subc rfl (mm_subc rfl (mm_subc rfl (mm_subc rfl (mm_subc rfl mm_sub0))))) (K18 _ _ hF)
    · rw [if_neg c23] at hF
      refine g_ifF (q := 21) rfl (decide_eq_false c23) rfl ?_
      refine g_iload_n (q := 22) rfl rfl rfl ?_
      refine g_iconst (q := 23) rfl rfl ?_
      refine g_bipush (q := 25) rfl (by decide +kernel) rfl ?_
      obtain ⟨⟨r22, h21⟩, hC, hF⟩ := bd_I hF
      dsimp only at hF
      refine g_ci3 (q := 28) rfl rfl (fun _ => rfl) rfl (A_M_wrongNumber hC) (by decide +kernel) rfl ?_
      refine g_goto rfl ?_
      exact go_sub (mm_subc rfl (mm_subc rfl (mm_subc rfl (mm_subc rfl (mm_subc rfl mm_sub0))))) (K18 _ _ hF)
/-- BothCornersModel.look(III)I -/
def F_M_look (x1 : Int32) (x2 : Int32) (x3 : Int32) (h : MH) : Option (Int32 × MH) := hw (mm_hset h.1 55 10 (I 0), h.2) (fun h1 => bd (F_M_isWay x1 h1) (fun (r3, h2) => kw (fun (z4 : Int32) (h5 : MH) => if 0 ≤ z4 then bd (F_M_timeOfAll x1 x2 h5) (fun (r8, h7) => iw (if (r8 * (x3 + (I 1))) ≤ ((r8 + ((I 5) * (h7.1 55 0))) * x3) then I 0 else I 1) (fun v9 => some (v9, h7))) else bd (F_M_refuse z4 h5) (fun (r13, h12) => some (r13, h12))) (fun k6 => if r3 = 0 then k6 (I (-1)) h2 else bd (F_M_isOne x2 h2) (fun (r17, h16) => if r17 = 0 then k6 (I (-1)) h16 else bd (F_M_wrongNumber x3 (I 2) (I 20) h16) (fun (r19, h18) => k6 r19 h18)))))
theorem A_M_look {x1 : Int32} {x2 : Int32} {x3 : Int32} {h h' : MH} {v : Int32} (hF : F_M_look x1 x2 x3 h = some (v, h')) : Ex 6 243 [.inr (.inl (some 55)), .inl x1, .inl x2, .inl x3] h (some (.inl v), h') := by
  unfold F_M_look at hF
  refine ex_of (d := 5) rfl rfl ?_
  refine g_aload_n (q := 1) rfl rfl rfl ?_
  refine g_iconst (q := 2) rfl rfl ?_
  refine g_putI (q := 5) rfl (fun _ => rfl) rfl ?_
  obtain ⟨h1, e_h1, hF⟩ := hw_I hF
  rw [← e_h1]
  refine g_aload_n (q := 6) rfl rfl rfl ?_
  refine g_iload_n (q := 7) rfl rfl rfl ?_
  obtain ⟨⟨r3, h2⟩, hC, hF⟩ := bd_I hF
  dsimp only at hF
  refine g_ci2 (q := 10) rfl rfl (fun _ => rfl) rfl (A_M_isWay hC) (by decide +kernel) rfl ?_
  obtain ⟨k6, e_k6, hF⟩ := kw_I hF
  have K15 : ∀ (z4 : Int32) (h5 : MH), k6 z4 h5 = some (v, h') → Go 5 243 32 (mm_lf [(0, .inr (.inl (some 55))), (1, .inl x1), (2, .inl x2), (3, .inl x3)]) [.inl z4] h5 (some (.inl v), h') := by
    intro z4 h5 hF
    rw [e_k6] at hF
    dsimp only at hF
    refine g_istore (q := 34) rfl rfl ?_
    refine g_iload (q := 36) rfl rfl rfl ?_
    by_cases c14 : 0 ≤ z4
    · rw [if_pos c14] at hF
      refine g_ifT rfl (decide_eq_true c14) ?_
      refine g_aload_n (q := 47) rfl rfl rfl ?_
      refine g_iload_n (q := 48) rfl rfl rfl ?_
      refine g_iload_n (q := 49) rfl rfl rfl ?_
      obtain ⟨⟨r8, h7⟩, hC, hF⟩ := bd_I hF
      dsimp only at hF
      refine g_ci3 (q := 52) rfl rfl (fun _ => rfl) rfl (A_M_timeOfAll hC) (by decide +kernel) rfl ?_
      refine g_istore (q := 54) rfl rfl ?_
      refine g_iload (q := 56) rfl rfl rfl ?_
      refine g_iconst (q := 57) rfl rfl ?_
      refine g_aload_n (q := 58) rfl rfl rfl ?_
      refine g_getI (q := 61) rfl (fun _ => rfl) rfl ?_
      refine g_imul (q := 62) rfl rfl ?_
      refine g_iadd (q := 63) rfl rfl ?_
      refine g_iload_n (q := 64) rfl rfl rfl ?_
      refine g_imul (q := 65) rfl rfl ?_
      refine g_iload (q := 67) rfl rfl rfl ?_
      refine g_iload_n (q := 68) rfl rfl rfl ?_
      refine g_iconst (q := 69) rfl rfl ?_
      refine g_iadd (q := 70) rfl rfl ?_
      refine g_imul (q := 71) rfl rfl ?_
      obtain ⟨v9, e_v9, hF⟩ := iw_I hF
      suffices K10 : Go 5 243 79 (mm_lf []) [.inl v9] h7 (some (.inl v), h') by
        clear hF
        by_cases c11 : (r8 * (x3 + (I 1))) ≤ ((r8 + ((I 5) * (h7.1 55 0))) * x3)
        · simp only [if_pos c11] at e_v9
          subst e_v9
          refine g_icmpT rfl (decide_eq_true c11) ?_
          refine g_iconst (q := 79) rfl rfl ?_
          exact go_sub mm_sub0 K10
        · simp only [if_neg c11] at e_v9
          subst e_v9
          refine g_icmpF (q := 74) rfl (decide_eq_false c11) rfl ?_
          refine g_iconst (q := 75) rfl rfl ?_
          refine g_goto rfl ?_
          exact go_sub mm_sub0 K10
      clear e_v9
      injection hF with hF
      injection hF with hv hh
      subst hv
      subst hh
      exact g_iret rfl
    · rw [if_neg c14] at hF
      refine g_ifF (q := 39) rfl (decide_eq_false c14) rfl ?_
      refine g_aload_n (q := 40) rfl rfl rfl ?_
      refine g_iload (q := 42) rfl rfl rfl ?_
      obtain ⟨⟨r13, h12⟩, hC, hF⟩ := bd_I hF
      dsimp only at hF
      refine g_ci2 (q := 45) rfl rfl (fun _ => rfl) rfl (A_M_refuse hC) (by decide +kernel) rfl ?_
      injection hF with hF
      injection hF with hv hh
      subst hv
      subst hh
      exact g_iret rfl
  clear e_k6
  by_cases c21 : r3 = 0
  · rw [if_pos c21] at hF
    refine g_ifT rfl (decide_eq_true c21) ?_
    refine g_iconst (q := 32) rfl rfl ?_
    exact go_sub (mm_subc rfl (mm_subc rfl (mm_subc rfl (mm_subc rfl mm_sub0)))) (K15 _ _ hF)
  · rw [if_neg c21] at hF
    refine g_ifF (q := 13) rfl (decide_eq_false c21) rfl ?_
    refine g_aload_n (q := 14) rfl rfl rfl ?_
    refine g_iload_n (q := 15) rfl rfl rfl ?_
    obtain ⟨⟨r17, h16⟩, hC, hF⟩ := bd_I hF
    dsimp only at hF
    refine g_ci2 (q := 18) rfl rfl (fun _ => rfl) rfl (A_M_isOne hC) (by decide +kernel) rfl ?_
    by_cases c20 : r17 = 0
    · rw [if_pos c20] at hF
      refine g_ifT rfl (decide_eq_true c20) ?_
      refine g_iconst (q := 32) rfl rfl ?_
      exact go_sub (mm_subc rfl (mm_subc rfl (mm_subc rfl (mm_subc rfl mm_sub0)))) (K15 _ _ hF)
    · rw [if_neg c20] at hF
      refine g_ifF (q := 21) rfl (decide_eq_false c20) rfl ?_
      refine g_iload_n (q := 22) rfl rfl rfl ?_
      refine g_iconst (q := 23) rfl rfl ?_
      refine g_bipush (q := 25) rfl (by decide +kernel) rfl ?_
      obtain ⟨⟨r19, h18⟩, hC, hF⟩ := bd_I hF
      dsimp only at hF
      refine g_ci3 (q := 28) rfl rfl (fun _ => rfl) rfl (A_M_wrongNumber hC) (by decide +kernel) rfl ?_
      refine g_goto rfl ?_
      exact go_sub (mm_subc rfl (mm_subc rfl (mm_subc rfl (mm_subc rfl mm_sub0)))) (K15 _ _ hF)
def L_M_needs_60 (x1 : Int32) (x2 : Int32) (x3 : Int32) (x4 : Int32) (x5 : Int32) : Nat → Int32 → MH → Option ((Int32 × MH) ⊕ (MH))
  | 0, _, _ => none
  | n + 1, x7, h => iw (if ¬ x5 = 0 then I 9 else I 12) (fun v11 => if v11 < x7 then some (.inr (h)) else ck (mm_in x2 6) (ck (mm_in x2 6) (kw (fun (z13 : Int32) (h14 : MH) => kw (fun (z16 : Int32) (h17 : MH) => bd (F_M_timeBy x1 (h.1 59 (Int32.toNatClampNeg x2)) (h.1 60 (Int32.toNatClampNeg x2)) z13 z16 h17) (fun (r20, h19) => if x4 < r20 then L_M_needs_60 x1 x2 x3 x4 x5 n (x7 + I 1) h19 else some (.inl (x7, h19)))) (fun k18 => if ¬ x5 = (I 1) then ck (mm_in x3 4) (k18 (h14.1 58 (Int32.toNatClampNeg x3)) h14) else k18 x7 h14)) (fun k15 => if ¬ x5 = 0 then ck (mm_in x3 4) (k15 (h.1 57 (Int32.toNatClampNeg x3)) h) else k15 x7 h))))
/-- BothCornersModel.needs(IIIII)I -/
def F_M_needs (x1 : Int32) (x2 : Int32) (x3 : Int32) (x4 : Int32) (x5 : Int32) (h : MH) : Option (Int32 × MH) := hw (mm_hset h.1 55 10 (I 0), h.2) (fun h1 => bd (F_M_wrongThree x1 x2 x3 h1) (fun (r3, h2) => kw (fun (z4 : Int32) (h5 : MH) => bd (F_M_wrongBit z4 x5 (I 1) h5) (fun (r8, h7) => if 0 ≤ r8 then iw (if ¬ x5 = 0 then I 0 else I 1) (fun v9 => be (L_M_needs_60 x1 x2 x3 x4 x5 5000 v9 h7) (fun u29 => some u29) (fun h28 => some (I (-9), h28))) else bd (F_M_refuse r8 h7) (fun (r32, h31) => some (r32, h31)))) (fun k6 => if ¬ r3 = 0 then k6 (I (-1)) h2 else bd (F_M_wrongNumber x4 (I 0) (I 999) h2) (fun (r36, h35) => k6 r36 h35))))
theorem A_L_M_needs_60 {x1 : Int32} {x2 : Int32} {x3 : Int32} {x4 : Int32} {x5 : Int32} {r : MRs} : ∀ (n : Nat) (x7 : Int32) (h : MH) (x : (Int32 × MH) ⊕ (MH)), L_M_needs_60 x1 x2 x3 x4 x5 n x7 h = some x → (∀ (u : Int32) (h' : MH), x = .inl (u, h') → r = (some (.inl u), h')) → (∀ (h' : MH), x = .inr (h') → Go 3 244 141 (mm_lf []) [] h' r) → Go 3 244 60 (mm_lf [(0, .inr (.inl (some 55))), (1, .inl x1), (2, .inl x2), (3, .inl x3), (4, .inl x4), (5, .inl x5), (7, .inl x7)]) [] h r
  | 0, _, _, _, hF, _, _ => by cases hF
  | n + 1, x7, h, x, hF, KR, KX => by
    have ih := fun a7 => A_L_M_needs_60 (x1 := x1) (x2 := x2) (x3 := x3) (x4 := x4) (x5 := x5) (r := r) n a7 
    unfold L_M_needs_60 at hF
    refine g_iload (q := 62) rfl rfl rfl ?_
    refine g_iload (q := 64) rfl rfl rfl ?_
    obtain ⟨v11, e_v11, hF⟩ := iw_I hF
    suffices K12 : Go 3 244 74 (mm_lf [(0, .inr (.inl (some 55))), (1, .inl x1), (2, .inl x2), (3, .inl x3), (4, .inl x4), (5, .inl x5), (7, .inl x7)]) [.inl v11, .inl x7] h r by
      clear hF
      by_cases c27 : ¬ x5 = 0
      · simp only [if_pos c27] at e_v11
        subst e_v11
        refine g_ifT rfl (decide_eq_true c27) ?_
        refine g_bipush (q := 74) rfl (by decide +kernel) rfl ?_
        exact go_sub (mm_subc rfl (mm_subc rfl (mm_subc rfl (mm_subc rfl (mm_subc rfl (mm_subc rfl (mm_subc rfl mm_sub0))))))) K12
      · simp only [if_neg c27] at e_v11
        subst e_v11
        refine g_ifF (q := 67) rfl (decide_eq_false c27) rfl ?_
        refine g_bipush (q := 69) rfl (by decide +kernel) rfl ?_
        refine g_goto rfl ?_
        exact go_sub (mm_subc rfl (mm_subc rfl (mm_subc rfl (mm_subc rfl (mm_subc rfl (mm_subc rfl (mm_subc rfl mm_sub0))))))) K12
    clear e_v11
    by_cases c26 : v11 < x7
    · rw [if_pos c26] at hF
      refine g_icmpT rfl (decide_eq_true c26) ?_
      injection hF with hF
      subst hF
      exact go_sub mm_sub0 (KX  _ rfl)
    · rw [if_neg c26] at hF
      refine g_icmpF (q := 77) rfl (decide_eq_false c26) rfl ?_
      refine g_aload_n (q := 78) rfl rfl rfl ?_
      refine g_iload_n (q := 79) rfl rfl rfl ?_
      refine g_aload_n (q := 80) rfl rfl rfl ?_
      refine g_getR (q := 83) rfl (fun _ => rfl) rfl ?_
      refine g_iload_n (q := 84) rfl rfl rfl ?_
      obtain ⟨hi, hF⟩ := ck_I hF
      refine g_iaload (q := 85) rfl rfl rfl hi rfl ?_
      refine g_aload_n (q := 86) rfl rfl rfl ?_
      refine g_getR (q := 89) rfl (fun _ => rfl) rfl ?_
      refine g_iload_n (q := 90) rfl rfl rfl ?_
      obtain ⟨hi, hF⟩ := ck_I hF
      refine g_iaload (q := 91) rfl rfl rfl hi rfl ?_
      refine g_iload (q := 93) rfl rfl rfl ?_
      obtain ⟨k15, e_k15, hF⟩ := kw_I hF
      have K24 : ∀ (z13 : Int32) (h14 : MH), k15 z13 h14 = some x → Go 3 244 107 (mm_lf [(0, .inr (.inl (some 55))), (1, .inl x1), (2, .inl x2), (3, .inl x3), (4, .inl x4), (5, .inl x5), (7, .inl x7)]) [.inl z13, .inl (h.1 60 (Int32.toNatClampNeg x2)), .inl (h.1 59 (Int32.toNatClampNeg x2)), .inl x1, .inr (.inl (some 55))] h14 r := by
        intro z13 h14 hF
        rw [e_k15] at hF
        dsimp only at hF
        refine g_iload (q := 109) rfl rfl rfl ?_
        refine g_iconst (q := 110) rfl rfl ?_
        obtain ⟨k18, e_k18, hF⟩ := kw_I hF
        have K22 : ∀ (z16 : Int32) (h17 : MH), k18 z16 h17 = some x → Go 3 244 124 (mm_lf [(0, .inr (.inl (some 55))), (1, .inl x1), (2, .inl x2), (3, .inl x3), (4, .inl x4), (5, .inl x5), (7, .inl x7)]) [.inl z16, .inl z13, .inl (h.1 60 (Int32.toNatClampNeg x2)), .inl (h.1 59 (Int32.toNatClampNeg x2)), .inl x1, .inr (.inl (some 55))] h17 r := by
          intro z16 h17 hF
          rw [e_k18] at hF
          dsimp only at hF
          obtain ⟨⟨r20, h19⟩, hC, hF⟩ := bd_I hF
          dsimp only at hF
          refine g_ci6 (q := 127) rfl rfl (fun _ => rfl) rfl (A_M_timeBy hC) (by decide +kernel) rfl ?_
          refine g_iload (q := 129) rfl rfl rfl ?_
          by_cases c21 : x4 < r20
          · rw [if_pos c21] at hF
            refine g_icmpT rfl (decide_eq_true c21) ?_
            refine g_iinc (q := 138) rfl rfl rfl ?_
            refine g_goto rfl ?_
            refine go_sub (lo' := mm_lf [(0, .inr (.inl (some 55))), (1, .inl x1), (2, .inl x2), (3, .inl x3), (4, .inl x4), (5, .inl x5), (7, .inl (x7 + I 1))]) (mm_subc rfl (mm_subc rfl (mm_subc rfl (mm_subc rfl (mm_subc rfl (mm_subc rfl (mm_subc rfl mm_sub0))))))) ?_
            exact ih _ _ _ hF KR KX
          · rw [if_neg c21] at hF
            refine g_icmpF (q := 132) rfl (decide_eq_false c21) rfl ?_
            refine g_iload (q := 134) rfl rfl rfl ?_
            injection hF with hF
            subst hF
            rw [KR _ _ rfl]
            exact g_iret rfl
        clear e_k18
        by_cases c23 : ¬ x5 = (I 1)
        · rw [if_pos c23] at hF
          refine g_icmpT rfl (decide_eq_true c23) ?_
          refine g_aload_n (q := 119) rfl rfl rfl ?_
          refine g_getR (q := 122) rfl (fun _ => rfl) rfl ?_
          refine g_iload_n (q := 123) rfl rfl rfl ?_
          obtain ⟨hi, hF⟩ := ck_I hF
          refine g_iaload (q := 124) rfl rfl rfl hi rfl ?_
          exact go_sub (mm_subc rfl (mm_subc rfl (mm_subc rfl (mm_subc rfl (mm_subc rfl (mm_subc rfl (mm_subc rfl mm_sub0))))))) (K22 _ _ hF)
        · rw [if_neg c23] at hF
          refine g_icmpF (q := 113) rfl (decide_eq_false c23) rfl ?_
          refine g_iload (q := 115) rfl rfl rfl ?_
          refine g_goto rfl ?_
          exact go_sub (mm_subc rfl (mm_subc rfl (mm_subc rfl (mm_subc rfl (mm_subc rfl (mm_subc rfl (mm_subc rfl mm_sub0))))))) (K22 _ _ hF)
      clear e_k15
      by_cases c25 : ¬ x5 = 0
      · rw [if_pos c25] at hF
        refine g_ifT rfl (decide_eq_true c25) ?_
        refine g_aload_n (q := 102) rfl rfl rfl ?_
        refine g_getR (q := 105) rfl (fun _ => rfl) rfl ?_
        refine g_iload_n (q := 106) rfl rfl rfl ?_
        obtain ⟨hi, hF⟩ := ck_I hF
        refine g_iaload (q := 107) rfl rfl rfl hi rfl ?_
        exact go_sub (mm_subc rfl (mm_subc rfl (mm_subc rfl (mm_subc rfl (mm_subc rfl (mm_subc rfl (mm_subc rfl mm_sub0))))))) (K24 _ _ hF)
      · rw [if_neg c25] at hF
        refine g_ifF (q := 96) rfl (decide_eq_false c25) rfl ?_
        refine g_iload (q := 98) rfl rfl rfl ?_
        refine g_goto rfl ?_
        exact go_sub (mm_subc rfl (mm_subc rfl (mm_subc rfl (mm_subc rfl (mm_subc rfl (mm_subc rfl (mm_subc rfl mm_sub0))))))) (K24 _ _ hF)
theorem A_M_needs {x1 : Int32} {x2 : Int32} {x3 : Int32} {x4 : Int32} {x5 : Int32} {h h' : MH} {v : Int32} (hF : F_M_needs x1 x2 x3 x4 x5 h = some (v, h')) : Ex 4 244 [.inr (.inl (some 55)), .inl x1, .inl x2, .inl x3, .inl x4, .inl x5] h (some (.inl v), h') := by
  unfold F_M_needs at hF
  refine ex_of (d := 3) rfl rfl ?_
  refine g_aload_n (q := 1) rfl rfl rfl ?_
  refine g_iconst (q := 2) rfl rfl ?_
  refine g_putI (q := 5) rfl (fun _ => rfl) rfl ?_
  obtain ⟨h1, e_h1, hF⟩ := hw_I hF
  rw [← e_h1]
  refine g_aload_n (q := 6) rfl rfl rfl ?_
  refine g_iload_n (q := 7) rfl rfl rfl ?_
  refine g_iload_n (q := 8) rfl rfl rfl ?_
  refine g_iload_n (q := 9) rfl rfl rfl ?_
  obtain ⟨⟨r3, h2⟩, hC, hF⟩ := bd_I hF
  dsimp only at hF
  refine g_ci4 (q := 12) rfl rfl (fun _ => rfl) rfl (A_M_wrongThree hC) (by decide +kernel) rfl ?_
  obtain ⟨k6, e_k6, hF⟩ := kw_I hF
  have K34 : ∀ (z4 : Int32) (h5 : MH), k6 z4 h5 = some (v, h') → Go 3 244 28 (mm_lf [(0, .inr (.inl (some 55))), (1, .inl x1), (2, .inl x2), (3, .inl x3), (4, .inl x4), (5, .inl x5)]) [.inl z4] h5 (some (.inl v), h') := by
    intro z4 h5 hF
    rw [e_k6] at hF
    dsimp only at hF
    refine g_iload (q := 30) rfl rfl rfl ?_
    refine g_iconst (q := 31) rfl rfl ?_
    obtain ⟨⟨r8, h7⟩, hC, hF⟩ := bd_I hF
    dsimp only at hF
    refine g_ci3 (q := 34) rfl rfl (fun _ => rfl) rfl (A_M_wrongBit hC) (by decide +kernel) rfl ?_
    refine g_istore (q := 36) rfl rfl ?_
    refine g_iload (q := 38) rfl rfl rfl ?_
    by_cases c33 : 0 ≤ r8
    · rw [if_pos c33] at hF
      refine g_ifT rfl (decide_eq_true c33) ?_
      refine g_iload (q := 50) rfl rfl rfl ?_
      obtain ⟨v9, e_v9, hF⟩ := iw_I hF
      suffices K10 : Go 3 244 58 (mm_lf [(0, .inr (.inl (some 55))), (1, .inl x1), (2, .inl x2), (3, .inl x3), (4, .inl x4), (5, .inl x5)]) [.inl v9] h7 (some (.inl v), h') by
        clear hF
        by_cases c30 : ¬ x5 = 0
        · simp only [if_pos c30] at e_v9
          subst e_v9
          refine g_ifT rfl (decide_eq_true c30) ?_
          refine g_iconst (q := 58) rfl rfl ?_
          exact go_sub (mm_subc rfl (mm_subc rfl (mm_subc rfl (mm_subc rfl (mm_subc rfl (mm_subc rfl mm_sub0)))))) K10
        · simp only [if_neg c30] at e_v9
          subst e_v9
          refine g_ifF (q := 53) rfl (decide_eq_false c30) rfl ?_
          refine g_iconst (q := 54) rfl rfl ?_
          refine g_goto rfl ?_
          exact go_sub (mm_subc rfl (mm_subc rfl (mm_subc rfl (mm_subc rfl (mm_subc rfl (mm_subc rfl mm_sub0)))))) K10
      clear e_v9
      refine g_istore (q := 60) rfl rfl ?_
      refine go_sub (lo' := mm_lf [(0, .inr (.inl (some 55))), (1, .inl x1), (2, .inl x2), (3, .inl x3), (4, .inl x4), (5, .inl x5), (7, .inl v9)]) (mm_subc rfl (mm_subc rfl (mm_subc rfl (mm_subc rfl (mm_subc rfl (mm_subc rfl (mm_subc rfl mm_sub0))))))) ?_
      rcases be_I hF with ⟨u, hC, hF⟩ | ⟨h28, hC, hF⟩
      · refine A_L_M_needs_60 5000 _ _ _ hC ?_ ?_
        · intro u2 h2 e2
          cases e2
          injection hF with hF
          injection hF with hv hh
          subst hv
          subst hh
          rfl
        · intro _ e2
          cases e2
      refine A_L_M_needs_60 5000 _ _ _ hC ?_ ?_
      · intro u2 h2 e2
        cases e2
      intro _ e2
      cases e2
      refine g_bipush (q := 143) rfl (by decide +kernel) rfl ?_
      injection hF with hF
      injection hF with hv hh
      subst hv
      subst hh
      exact g_iret rfl
    · rw [if_neg c33] at hF
      refine g_ifF (q := 41) rfl (decide_eq_false c33) rfl ?_
      refine g_aload_n (q := 42) rfl rfl rfl ?_
      refine g_iload (q := 44) rfl rfl rfl ?_
      obtain ⟨⟨r32, h31⟩, hC, hF⟩ := bd_I hF
      dsimp only at hF
      refine g_ci2 (q := 47) rfl rfl (fun _ => rfl) rfl (A_M_refuse hC) (by decide +kernel) rfl ?_
      injection hF with hF
      injection hF with hv hh
      subst hv
      subst hh
      exact g_iret rfl
  clear e_k6
  by_cases c37 : ¬ r3 = 0
  · rw [if_pos c37] at hF
    refine g_ifT rfl (decide_eq_true c37) ?_
    refine g_iconst (q := 28) rfl rfl ?_
    exact go_sub (mm_subc rfl (mm_subc rfl (mm_subc rfl (mm_subc rfl (mm_subc rfl (mm_subc rfl mm_sub0)))))) (K34 _ _ hF)
  · rw [if_neg c37] at hF
    refine g_ifF (q := 15) rfl (decide_eq_false c37) rfl ?_
    refine g_iload (q := 17) rfl rfl rfl ?_
    refine g_iconst (q := 18) rfl rfl ?_
    refine g_sipush (q := 21) rfl (by decide +kernel) rfl ?_
    obtain ⟨⟨r36, h35⟩, hC, hF⟩ := bd_I hF
    dsimp only at hF
    refine g_ci3 (q := 24) rfl rfl (fun _ => rfl) rfl (A_M_wrongNumber hC) (by decide +kernel) rfl ?_
    refine g_goto rfl ?_
    exact go_sub (mm_subc rfl (mm_subc rfl (mm_subc rfl (mm_subc rfl (mm_subc rfl (mm_subc rfl mm_sub0)))))) (K34 _ _ hF)
