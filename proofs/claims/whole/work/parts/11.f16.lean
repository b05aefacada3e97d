-- decompiled by wip/whole/dec.py: what a method does (F_), and that the mini machine does it (A_)
def L_M_tapes_74 (x4 : Int32) (x6 : Int32) : Nat → Int32 → MH → Option ((Int32 × MH) ⊕ (MH))
  | 0, _, _ => none
  | n + 1, x7, h => if (I 999) < x7 then some (.inr (h)) else if (x7 * x6) ≤ x4 then L_M_tapes_74 x4 x6 n (x7 + I 1) h else some (.inl (x7, h))
/-- BothCornersModel.tapes(IIII)I -/
def F_M_tapes (x1 : Int32) (x2 : Int32) (x3 : Int32) (x4 : Int32) (h : MH) : Option (Int32 × MH) := hw (mm_hset h.1 55 10 (I 0), h.2) (fun h1 => bd (F_M_wrongThree x1 x2 x3 h1) (fun (r3, h2) => kw (fun (z4 : Int32) (h5 : MH) => if 0 ≤ z4 then bd (F_M_timeOf x1 x2 x3 h5) (fun (r8, h7) => ck (mm_in x3 4) (ck (mm_in x3 4) (bd (F_M_timeBy x1 (I 5) (I 0) (h7.1 57 (Int32.toNatClampNeg x3)) (h7.1 58 (Int32.toNatClampNeg x3)) h7) (fun (r10, h9) => be (L_M_tapes_74 x4 (r8 - r10) 5000 (I 1) h9) (fun u14 => some u14) (fun h13 => some (I (-9), h13)))))) else bd (F_M_refuse z4 h5) (fun (r16, h15) => some (r16, h15))) (fun k6 => if ¬ r3 = 0 then k6 (I (-1)) h2 else bd (F_M_wrongNumber x4 (I 0) (I 9999) h2) (fun (r20, h19) => k6 r20 h19))))
theorem A_L_M_tapes_74 {x4 : Int32} {x6 : Int32} {r : MRs} : ∀ (n : Nat) (x7 : Int32) (h : MH) (x : (Int32 × MH) ⊕ (MH)), L_M_tapes_74 x4 x6 n x7 h = some x → (∀ (u : Int32) (h' : MH), x = .inl (u, h') → r = (some (.inl u), h')) → (∀ (h' : MH), x = .inr (h') → Go 4 228 101 (mm_lf []) [] h' r) → Go 4 228 74 (mm_lf [(4, .inl x4), (6, .inl x6), (7, .inl x7)]) [] h r
  | 0, _, _, _, hF, _, _ => by cases hF
  | n + 1, x7, h, x, hF, KR, KX => by
    have ih := fun a7 => A_L_M_tapes_74 (x4 := x4) (x6 := x6) (r := r) n a7 
    unfold L_M_tapes_74 at hF
    refine g_iload (q := 76) rfl rfl rfl ?_
    refine g_sipush (q := 79) rfl (by decide +kernel) rfl ?_
    by_cases c12 : (I 999) < x7
    · rw [if_pos c12] at hF
      refine g_icmpT rfl (decide_eq_true c12) ?_
      injection hF with hF
      subst hF
      exact go_sub mm_sub0 (KX  _ rfl)
    · rw [if_neg c12] at hF
      refine g_icmpF (q := 82) rfl (decide_eq_false c12) rfl ?_
      refine g_iload (q := 84) rfl rfl rfl ?_
      refine g_iload (q := 86) rfl rfl rfl ?_
      refine g_iload (q := 88) rfl rfl rfl ?_
      refine g_imul (q := 89) rfl rfl ?_
      by_cases c11 : (x7 * x6) ≤ x4
      · rw [if_pos c11] at hF
        refine g_icmpT rfl (decide_eq_true c11) ?_
        refine g_iinc (q := 98) rfl rfl rfl ?_
        refine g_goto rfl ?_
        refine go_sub (lo' := mm_lf [(4, .inl x4), (6, .inl x6), (7, .inl (x7 + I 1))]) (mm_subc rfl (mm_subc rfl (mm_subc rfl mm_sub0))) ?_
        exact ih _ _ _ hF KR KX
      · rw [if_neg c11] at hF
        refine g_icmpF (q := 92) rfl (decide_eq_false c11) rfl ?_
        refine g_iload (q := 94) rfl rfl rfl ?_
        injection hF with hF
        subst hF
        rw [KR _ _ rfl]
        exact g_iret rfl
theorem A_M_tapes {x1 : Int32} {x2 : Int32} {x3 : Int32} {x4 : Int32} {h h' : MH} {v : Int32} (hF : F_M_tapes x1 x2 x3 x4 h = some (v, h')) : Ex 5 228 [.inr (.inl (some 55)), .inl x1, .inl x2, .inl x3, .inl x4] h (some (.inl v), h') := by
  unfold F_M_tapes at hF
  refine ex_of (d := 4) rfl rfl ?_
  refine g_aload_n (q := 1) rfl rfl rfl ?_
  refine g_iconst (q := 2) rfl rfl ?_
  refine g_putI (q := 5) rfl (fun _ => rfl) rfl ?_
  obtain ⟨h1, e_h1, hF⟩ := hw_I hF
  rw [← e_h1]
  refine g_aload_n (q := 6) rfl rfl rfl ?_
  refine g_iload_n (q := 7) rfl rfl rfl ?_
  refine g_iload_n (q := 8) rfl rfl rfl ?_
  refine g_iload_n (q := 9) rfl rfl rfl ?_
  obtain ⟨⟨r3, h2⟩, hC, hF⟩ := bd_I hF
  dsimp only at hF
  refine g_ci4 (q := 12) rfl rfl (fun _ => rfl) rfl (A_M_wrongThree hC) (by decide +kernel) rfl ?_
  obtain ⟨k6, e_k6, hF⟩ := kw_I hF
  have K18 : ∀ (z4 : Int32) (h5 : MH), k6 z4 h5 = some (v, h') → Go 4 228 28 (mm_lf [(0, .inr (.inl (some 55))), (1, .inl x1), (2, .inl x2), (3, .inl x3), (4, .inl x4)]) [.inl z4] h5 (some (.inl v), h') := by
    intro z4 h5 hF
    rw [e_k6] at hF
    dsimp only at hF
    refine g_istore (q := 30) rfl rfl ?_
    refine g_iload (q := 32) rfl rfl rfl ?_
    by_cases c17 : 0 ≤ z4
    · rw [if_pos c17] at hF
      refine g_ifT rfl (decide_eq_true c17) ?_
      refine g_aload_n (q := 43) rfl rfl rfl ?_
      refine g_iload_n (q := 44) rfl rfl rfl ?_
      refine g_iload_n (q := 45) rfl rfl rfl ?_
      refine g_iload_n (q := 46) rfl rfl rfl ?_
      obtain ⟨⟨r8, h7⟩, hC, hF⟩ := bd_I hF
      dsimp only at hF
      refine g_ci4 (q := 49) rfl rfl (fun _ => rfl) rfl (A_M_timeOf hC) (by decide +kernel) rfl ?_
      refine g_aload_n (q := 50) rfl rfl rfl ?_
      refine g_iload_n (q := 51) rfl rfl rfl ?_
      refine g_iconst (q := 52) rfl rfl ?_
      refine g_iconst (q := 53) rfl rfl ?_
      refine g_aload_n (q := 54) rfl rfl rfl ?_
      refine g_getR (q := 57) rfl (fun _ => rfl) rfl ?_
      refine g_iload_n (q := 58) rfl rfl rfl ?_
      obtain ⟨hi, hF⟩ := ck_I hF
      refine g_iaload (q := 59) rfl rfl rfl hi rfl ?_
      refine g_aload_n (q := 60) rfl rfl rfl ?_
      refine g_getR (q := 63) rfl (fun _ => rfl) rfl ?_
      refine g_iload_n (q := 64) rfl rfl rfl ?_
      obtain ⟨hi, hF⟩ := ck_I hF
      refine g_iaload (q := 65) rfl rfl rfl hi rfl ?_
      obtain ⟨⟨r10, h9⟩, hC, hF⟩ := bd_I hF
      dsimp only at hF
      refine g_ci6 (q := 68) rfl rfl (fun _ => rfl) rfl (A_M_timeBy hC) (by decide +kernel) rfl ?_
      refine g_isub (q := 69) rfl rfl ?_
      refine g_istore (q := 71) rfl rfl ?_
      refine g_iconst (q := 72) rfl rfl ?_
      refine g_istore (q := 74) rfl rfl ?_
      refine go_sub (lo' := mm_lf [(4, .inl x4), (6, .inl (r8 - r10)), (7, .inl (I 1))]) (mm_subc rfl (mm_subc rfl (mm_subc rfl mm_sub0))) ?_
      rcases be_I hF with ⟨u, hC, hF⟩ | ⟨h13, hC, hF⟩
      · refine A_L_M_tapes_74 5000 _ _ _ hC ?_ ?_
        · intro u2 h2 e2
          cases e2
          injection hF with hF
          injection hF with hv hh
          subst hv
          subst hh
          rfl
        · intro _ e2
          cases e2
      refine A_L_M_tapes_74 5000 _ _ _ hC ?_ ?_
      · intro u2 h2 e2
        cases e2
      intro _ e2
      cases e2
      refine g_bipush (q := 103) rfl (by decide +kernel) rfl ?_
      injection hF with hF
      injection hF with hv hh
      subst hv
      subst hh
      exact g_iret rfl
    · rw [if_neg c17] at hF
      refine g_ifF (q := 35) rfl (decide_eq_false c17) rfl ?_
      refine g_aload_n (q := 36) rfl rfl rfl ?_
      refine g_iload (q := 38) rfl rfl rfl ?_
      obtain ⟨⟨r16, h15⟩, hC, hF⟩ := bd_I hF
      dsimp only at hF
      refine g_ci2 (q := 41) rfl rfl (fun _ => rfl) rfl (A_M_refuse hC) (by decide +kernel) rfl ?_
      injection hF with hF
      injection hF with hv hh
      subst hv
      subst hh
      exact g_iret rfl
  clear e_k6
  by_cases c21 : ¬ r3 = 0
  · rw [if_pos c21] at hF
    refine g_ifT rfl (decide_eq_true c21) ?_
    refine g_iconst (q := 28) rfl rfl ?_
    exact go_sub (mm_subc rfl (mm_subc rfl (mm_subc rfl (mm_subc rfl (mm_subc rfl mm_sub0))))) (K18 _ _ hF)
  · rw [if_neg c21] at hF
    refine g_ifF (q := 15) rfl (decide_eq_false c21) rfl ?_
    refine g_iload (q := 17) rfl rfl rfl ?_
    refine g_iconst (q := 18) rfl rfl ?_
    refine g_sipush (q := 21) rfl (by decide +kernel) rfl ?_
    obtain ⟨⟨r20, h19⟩, hC, hF⟩ := bd_I hF
    dsimp only at hF
    refine g_ci3 (q := 24) rfl rfl (fun _ => rfl) rfl (A_M_wrongNumber hC) (by decide +kernel) rfl ?_
    refine g_goto rfl ?_
    exact go_sub (mm_subc rfl (mm_subc rfl (mm_subc rfl (mm_subc rfl (mm_subc rfl mm_sub0))))) (K18 _ _ hF)
def L_M_lumpy_40 (x1 : Int32) (x2 : Int32) : Nat → Int32 → Int32 → MH → Option (Int32 × MH)
  | 0, _, _, _ => none
  | n + 1, x3, x4, h => if (h.1 55 34) ≤ x4 then some (x3, h) else if x3 = 0 then L_M_lumpy_40 x1 x2 n (I 0) (x4 + I 1) h else ck (mm_in x4 12) (if (h.1 74 (Int32.toNatClampNeg x4)) = (I 99) then L_M_lumpy_40 x1 x2 n (I 1) (x4 + I 1) h else ck (mm_in x4 12) (bd (F_M_foldsOf x4 x2 h) (fun (r3, h2) => iw (if ¬ (h.1 74 (Int32.toNatClampNeg x4)) = r3 then I 0 else I 1) (fun v4 => L_M_lumpy_40 x1 x2 n v4 (x4 + I 1) h2))))
def L_M_lumpy_27 : Nat → Int32 → Int32 → MH → Option (Int32 × MH)
  | 0, _, _, _ => none
  | n + 1, x1, x2, h => if (h.1 55 5) ≤ x2 then some (x1, h) else bd (L_M_lumpy_40 x1 x2 5000 (I 1) (I 0) h) (fun (y10, h11) => iw (if y10 = 0 then I 0 else (I 1) <<< (x2 &&& 31)) (fun v12 => L_M_lumpy_27 n (x1 ||| v12) (x2 + I 1) h11))
/-- BothCornersModel.lumpy()I -/
def F_M_lumpy (h : MH) : Option (Int32 × MH) := hw (mm_hset h.1 55 10 (I 0), h.2) (fun h1 => if (h1.1 55 34) ≤ (h1.1 55 0) then bd (L_M_lumpy_27 5000 (I 0) (I 0) h1) (fun (y16, h17) => some (y16, h17)) else bd (F_M_refuse (I (-3)) h1) (fun (r19, h18) => some (r19, h18)))
theorem A_L_M_lumpy_40 {x1 : Int32} {x2 : Int32} {r : MRs} : ∀ (n : Nat) (x3 : Int32) (x4 : Int32) (h : MH) (x : Int32 × MH), L_M_lumpy_40 x1 x2 n x3 x4 h = some x → (True) → (∀ (e3 : Int32) (h' : MH), x = (e3, h') → Go 3 229 94 (mm_lf [(0, .inr (.inl (some 55))), (1, .inl x1), (2, .inl x2), (3, .inl e3)]) [] h' r) → Go 3 229 40 (mm_lf [(0, .inr (.inl (some 55))), (1, .inl x1), (2, .inl x2), (3, .inl x3), (4, .inl x4)]) [] h r
  | 0, _, _, _, _, hF, _, _ => by cases hF
  | n + 1, x3, x4, h, x, hF, KR, KX => by
    have ih := fun a3 a4 => A_L_M_lumpy_40 (x1 := x1) (x2 := x2) (r := r) n a3 a4 
    unfold L_M_lumpy_40 at hF
    refine g_iload (q := 42) rfl rfl rfl ?_
    refine g_aload_n (q := 43) rfl rfl rfl ?_
    refine g_getI (q := 46) rfl (fun _ => rfl) rfl ?_
    by_cases c9 : (h.1 55 34) ≤ x4
    · rw [if_pos c9] at hF
      refine g_icmpT rfl (decide_eq_true c9) ?_
      injection hF with hF
      subst hF
      exact go_sub (mm_subc rfl (mm_subc rfl (mm_subc rfl (mm_subc rfl mm_sub0)))) (KX _ _ rfl)
    · rw [if_neg c9] at hF
      refine g_icmpF (q := 49) rfl (decide_eq_false c9) rfl ?_
      refine g_iload_n (q := 50) rfl rfl rfl ?_
      by_cases c8 : x3 = 0
      · rw [if_pos c8] at hF
        refine g_ifT rfl (decide_eq_true c8) ?_
        refine g_iconst (q := 87) rfl rfl ?_
        refine g_istore_n (q := 88) rfl rfl ?_
        refine g_iinc (q := 91) rfl rfl rfl ?_
        refine g_goto rfl ?_
        refine go_sub (lo' := mm_lf [(0, .inr (.inl (some 55))), (1, .inl x1), (2, .inl x2), (3, .inl (I 0)), (4, .inl (x4 + I 1))]) (mm_subc rfl (mm_subc rfl (mm_subc rfl (mm_subc rfl (mm_subc rfl mm_sub0))))) ?_
        exact ih _ _ _ _ hF KR KX
      · rw [if_neg c8] at hF
        refine g_ifF (q := 53) rfl (decide_eq_false c8) rfl ?_
        refine g_aload_n (q := 54) rfl rfl rfl ?_
        refine g_getR (q := 57) rfl (fun _ => rfl) rfl ?_
        refine g_iload (q := 59) rfl rfl rfl ?_
        obtain ⟨hi, hF⟩ := ck_I hF
        refine g_iaload (q := 60) rfl rfl rfl hi rfl ?_
        refine g_bipush (q := 62) rfl (by decide +kernel) rfl ?_
        by_cases c7 : (h.1 74 (Int32.toNatClampNeg x4)) = (I 99)
        · rw [if_pos c7] at hF
          refine g_icmpT rfl (decide_eq_true c7) ?_
          refine g_iconst (q := 83) rfl rfl ?_
          refine g_goto rfl ?_
          refine g_istore_n (q := 88) rfl rfl ?_
          refine g_iinc (q := 91) rfl rfl rfl ?_
          refine g_goto rfl ?_
          refine go_sub (lo' := mm_lf [(0, .inr (.inl (some 55))), (1, .inl x1), (2, .inl x2), (3, .inl (I 1)), (4, .inl (x4 + I 1))]) (mm_subc rfl (mm_subc rfl (mm_subc rfl (mm_subc rfl (mm_subc rfl mm_sub0))))) ?_
          exact ih _ _ _ _ hF KR KX
        · rw [if_neg c7] at hF
          refine g_icmpF (q := 65) rfl (decide_eq_false c7) rfl ?_
          refine g_aload_n (q := 66) rfl rfl rfl ?_
          refine g_getR (q := 69) rfl (fun _ => rfl) rfl ?_
          refine g_iload (q := 71) rfl rfl rfl ?_
          obtain ⟨hi, hF⟩ := ck_I hF
          refine g_iaload (q := 72) rfl rfl rfl hi rfl ?_
          refine g_aload_n (q := 73) rfl rfl rfl ?_
          refine g_iload (q := 75) rfl rfl rfl ?_
          refine g_iload_n (q := 76) rfl rfl rfl ?_
          obtain ⟨⟨r3, h2⟩, hC, hF⟩ := bd_I hF
          dsimp only at hF
          refine g_ci3 (q := 79) rfl rfl (fun _ => rfl) rfl (A_M_foldsOf hC) (by decide +kernel) rfl ?_
          obtain ⟨v4, e_v4, hF⟩ := iw_I hF
          suffices K5 : Go 3 229 87 (mm_lf [(0, .inr (.inl (some 55))), (1, .inl x1), (2, .inl x2), (4, .inl x4)]) [.inl v4] h2 r by
            clear hF
            by_cases c6 : ¬ (h.1 74 (Int32.toNatClampNeg x4)) = r3
            · simp only [if_pos c6] at e_v4
              subst e_v4
              refine g_icmpT rfl (decide_eq_true c6) ?_
              refine g_iconst (q := 87) rfl rfl ?_
              exact go_sub (mm_subc rfl (mm_subc rfl (mm_subc rfl (mm_subc rfl mm_sub0)))) K5
            · simp only [if_neg c6] at e_v4
              subst e_v4
              refine g_icmpF (q := 82) rfl (decide_eq_false c6) rfl ?_
              refine g_iconst (q := 83) rfl rfl ?_
              refine g_goto rfl ?_
              exact go_sub (mm_subc rfl (mm_subc rfl (mm_subc rfl (mm_subc rfl mm_sub0)))) K5
          clear e_v4
          refine g_istore_n (q := 88) rfl rfl ?_
          refine g_iinc (q := 91) rfl rfl rfl ?_
          refine g_goto rfl ?_
          refine go_sub (lo' := mm_lf [(0, .inr (.inl (some 55))), (1, .inl x1), (2, .inl x2), (3, .inl v4), (4, .inl (x4 + I 1))]) (mm_subc rfl (mm_subc rfl (mm_subc rfl (mm_subc rfl (mm_subc rfl mm_sub0))))) ?_
          exact ih _ _ _ _ hF KR KX
theorem A_L_M_lumpy_27 {r : MRs} : ∀ (n : Nat) (x1 : Int32) (x2 : Int32) (h : MH) (x : Int32 × MH), L_M_lumpy_27 n x1 x2 h = some x → (True) → (∀ (e1 : Int32) (h' : MH), x = (e1, h') → Go 3 229 114 (mm_lf [(1, .inl e1)]) [] h' r) → Go 3 229 27 (mm_lf [(0, .inr (.inl (some 55))), (1, .inl x1), (2, .inl x2)]) [] h r
  | 0, _, _, _, _, hF, _, _ => by cases hF
  | n + 1, x1, x2, h, x, hF, KR, KX => by
    have ih := fun a1 a2 => A_L_M_lumpy_27 (r := r) n a1 a2 
    unfold L_M_lumpy_27 at hF
    refine g_iload_n (q := 28) rfl rfl rfl ?_
    refine g_aload_n (q := 29) rfl rfl rfl ?_
    refine g_getI (q := 32) rfl (fun _ => rfl) rfl ?_
    by_cases c15 : (h.1 55 5) ≤ x2
    · rw [if_pos c15] at hF
      refine g_icmpT rfl (decide_eq_true c15) ?_
      injection hF with hF
      subst hF
      exact go_sub (mm_subc rfl mm_sub0) (KX _ _ rfl)
    · rw [if_neg c15] at hF
      refine g_icmpF (q := 35) rfl (decide_eq_false c15) rfl ?_
      refine g_iconst (q := 36) rfl rfl ?_
      refine g_istore_n (q := 37) rfl rfl ?_
      refine g_iconst (q := 38) rfl rfl ?_
      refine g_istore (q := 40) rfl rfl ?_
      refine go_sub (lo' := mm_lf [(0, .inr (.inl (some 55))), (1, .inl x1), (2, .inl x2), (3, .inl (I 1)), (4, .inl (I 0))]) (mm_subc rfl (mm_subc rfl (mm_subc rfl (mm_subc rfl (mm_subc rfl mm_sub0))))) ?_
      obtain ⟨⟨y10, h11⟩, hC, hF⟩ := bd_I hF
      dsimp only at hF
      refine A_L_M_lumpy_40 5000 _ _ _ _ hC trivial ?_
      intro _ _ e2
      cases e2
      refine g_iload_n (q := 95) rfl rfl rfl ?_
      refine g_iload_n (q := 96) rfl rfl rfl ?_
      obtain ⟨v12, e_v12, hF⟩ := iw_I hF
      suffices K13 : Go 3 229 106 (mm_lf [(0, .inr (.inl (some 55))), (2, .inl x2)]) [.inl v12, .inl x1] h11 r by
        clear hF
        by_cases c14 : y10 = 0
        · simp only [if_pos c14] at e_v12
          subst e_v12
          refine g_ifT rfl (decide_eq_true c14) ?_
          refine g_iconst (q := 106) rfl rfl ?_
          exact go_sub (mm_subc rfl (mm_subc rfl mm_sub0)) K13
        · simp only [if_neg c14] at e_v12
          subst e_v12
          refine g_ifF (q := 99) rfl (decide_eq_false c14) rfl ?_
          refine g_iconst (q := 100) rfl rfl ?_
          refine g_iload_n (q := 101) rfl rfl rfl ?_
          refine g_ishl (q := 102) rfl rfl ?_
          refine g_goto rfl ?_
          exact go_sub (mm_subc rfl (mm_subc rfl mm_sub0)) K13
      clear e_v12
      refine g_ior (q := 107) rfl rfl ?_
      refine g_istore_n (q := 108) rfl rfl ?_
      refine g_iinc (q := 111) rfl rfl rfl ?_
      refine g_goto rfl ?_
      refine go_sub (lo' := mm_lf [(0, .inr (.inl (some 55))), (1, .inl (x1 ||| v12)), (2, .inl (x2 + I 1))]) (mm_subc rfl (mm_subc rfl (mm_subc rfl mm_sub0))) ?_
      exact ih _ _ _ _ hF KR KX
theorem A_M_lumpy {h h' : MH} {v : Int32} (hF : F_M_lumpy h = some (v, h')) : Ex 4 229 [.inr (.inl (some 55))] h (some (.inl v), h') := by
  unfold F_M_lumpy at hF
  refine ex_of (d := 3) rfl rfl ?_
  refine g_aload_n (q := 1) rfl rfl rfl ?_
  refine g_iconst (q := 2) rfl rfl ?_
  refine g_putI (q := 5) rfl (fun _ => rfl) rfl ?_
  obtain ⟨h1, e_h1, hF⟩ := hw_I hF
  rw [← e_h1]
  refine g_aload_n (q := 6) rfl rfl rfl ?_
  refine g_getI (q := 9) rfl (fun _ => rfl) rfl ?_
  refine g_aload_n (q := 10) rfl rfl rfl ?_
  refine g_getI (q := 13) rfl (fun _ => rfl) rfl ?_
  by_cases c20 : (h1.1 55 34) ≤ (h1.1 55 0)
  · rw [if_pos c20] at hF
    refine g_icmpT rfl (decide_eq_true c20) ?_
    refine g_iconst (q := 24) rfl rfl ?_
    refine g_istore_n (q := 25) rfl rfl ?_
    refine g_iconst (q := 26) rfl rfl ?_
    refine g_istore_n (q := 27) rfl rfl ?_
    refine go_sub (lo' := mm_lf [(0, .inr (.inl (some 55))), (1, .inl (I 0)), (2, .inl (I 0))]) (mm_subc rfl (mm_subc rfl (mm_subc rfl mm_sub0))) ?_
    obtain ⟨⟨y16, h17⟩, hC, hF⟩ := bd_I hF
    dsimp only at hF
    refine A_L_M_lumpy_27 5000 _ _ _ _ hC trivial ?_
    intro _ _ e2
    cases e2
    refine g_iload_n (q := 115) rfl rfl rfl ?_
    injection hF with hF
    injection hF with hv hh
    subst hv
    subst hh
    exact g_iret rfl
  · rw [if_neg c20] at hF
    refine g_icmpF (q := 16) rfl (decide_eq_false c20) rfl ?_
    refine g_aload_n (q := 17) rfl rfl rfl ?_
    refine g_bipush (q := 19) rfl (by decide +kernel) rfl ?_
    obtain ⟨⟨r19, h18⟩, hC, hF⟩ := bd_I hF
    dsimp only at hF
    refine g_ci2 (q := 22) rfl rfl (fun _ => rfl) rfl (A_M_refuse hC) (by decide +kernel) rfl ?_
    injection hF with hF
    injection hF with hv hh
    subst hv
    subst hh
    exact g_iret rfl
def L_M_forged_52 (x1 : Int32) : Nat → Int32 → Int32 → MH → Option (Int32 × MH)
  | 0, _, _, _ => none
  | n + 1, x2, x3, h => if (h.1 55 5) ≤ x3 then some (x2, h) else if ¬ x2 = 0 then L_M_forged_52 x1 n (I 1) (x3 + I 1) h else ck (mm_in x1 12) (bd (F_M_foldsOf x1 x3 h) (fun (r5, h4) => iw (if ¬ (h.1 74 (Int32.toNatClampNeg x1)) = r5 then I 0 else I 1) (fun v6 => L_M_forged_52 x1 n v6 (x3 + I 1) h4)))
def L_M_forged_25 : Nat → Int32 → MH → Option ((Int32 × MH) ⊕ (MH))
  | 0, _, _ => none
  | n + 1, x1, h => if (h.1 55 34) ≤ x1 then some (.inr (h)) else ck (mm_in x1 12) (iw (if ¬ (h.1 74 (Int32.toNatClampNeg x1)) = (I 99) then I 0 else I 1) (fun v2 => bd (L_M_forged_52 x1 5000 v2 (I 0) h) (fun (y11, h12) => if ¬ y11 = 0 then L_M_forged_25 n (x1 + I 1) h12 else some (.inl (x1, h12)))))
/-- BothCornersModel.forged()I -/
def F_M_forged (h : MH) : Option (Int32 × MH) := hw (mm_hset h.1 55 10 (I 0), h.2) (fun h1 => if (h1.1 55 34) ≤ (h1.1 55 0) then be (L_M_forged_25 5000 (I 0) h1) (fun u17 => some u17) (fun h16 => some (I (-9), h16)) else bd (F_M_refuse (I (-3)) h1) (fun (r19, h18) => some (r19, h18)))
theorem A_L_M_forged_52 {x1 : Int32} {r : MRs} : ∀ (n : Nat) (x2 : Int32) (x3 : Int32) (h : MH) (x : Int32 × MH), L_M_forged_52 x1 n x2 x3 h = some x → (True) → (∀ (e2 : Int32) (h' : MH), x = (e2, h') → Go 3 230 91 (mm_lf [(0, .inr (.inl (some 55))), (1, .inl x1), (2, .inl e2)]) [] h' r) → Go 3 230 52 (mm_lf [(0, .inr (.inl (some 55))), (1, .inl x1), (2, .inl x2), (3, .inl x3)]) [] h r
  | 0, _, _, _, _, hF, _, _ => by cases hF
  | n + 1, x2, x3, h, x, hF, KR, KX => by
    have ih := fun a2 a3 => A_L_M_forged_52 (x1 := x1) (r := r) n a2 a3 
    unfold L_M_forged_52 at hF
    refine g_iload_n (q := 53) rfl rfl rfl ?_
    refine g_aload_n (q := 54) rfl rfl rfl ?_
    refine g_getI (q := 57) rfl (fun _ => rfl) rfl ?_
    by_cases c10 : (h.1 55 5) ≤ x3
    · rw [if_pos c10] at hF
      refine g_icmpT rfl (decide_eq_true c10) ?_
      injection hF with hF
      subst hF
      exact go_sub (mm_subc rfl (mm_subc rfl (mm_subc rfl mm_sub0))) (KX _ _ rfl)
    · rw [if_neg c10] at hF
      refine g_icmpF (q := 60) rfl (decide_eq_false c10) rfl ?_
      refine g_iload_n (q := 61) rfl rfl rfl ?_
      by_cases c9 : ¬ x2 = 0
      · rw [if_pos c9] at hF
        refine g_ifT rfl (decide_eq_true c9) ?_
        refine g_iconst (q := 80) rfl rfl ?_
        refine g_goto rfl ?_
        refine g_istore_n (q := 85) rfl rfl ?_
        refine g_iinc (q := 88) rfl rfl rfl ?_
        refine g_goto rfl ?_
        refine go_sub (lo' := mm_lf [(0, .inr (.inl (some 55))), (1, .inl x1), (2, .inl (I 1)), (3, .inl (x3 + I 1))]) (mm_subc rfl (mm_subc rfl (mm_subc rfl (mm_subc rfl mm_sub0)))) ?_
        exact ih _ _ _ _ hF KR KX
      · rw [if_neg c9] at hF
        refine g_ifF (q := 64) rfl (decide_eq_false c9) rfl ?_
        refine g_aload_n (q := 65) rfl rfl rfl ?_
        refine g_getR (q := 68) rfl (fun _ => rfl) rfl ?_
        refine g_iload_n (q := 69) rfl rfl rfl ?_
        obtain ⟨hi, hF⟩ := ck_I hF
        refine g_iaload (q := 70) rfl rfl rfl hi rfl ?_
        refine g_aload_n (q := 71) rfl rfl rfl ?_
        refine g_iload_n (q := 72) rfl rfl rfl ?_
        refine g_iload_n (q := 73) rfl rfl rfl ?_
        obtain ⟨⟨r5, h4⟩, hC, hF⟩ := bd_I hF
        dsimp only at hF
        refine g_ci3 (q := 76) rfl rfl (fun _ => rfl) rfl (A_M_foldsOf hC) (by decide +kernel) rfl ?_
        obtain ⟨v6, e_v6, hF⟩ := iw_I hF
        suffices K7 : Go 3 230 84 (mm_lf [(0, .inr (.inl (some 55))), (1, .inl x1), (3, .inl x3)]) [.inl v6] h4 r by
          clear hF
          by_cases c8 : ¬ (h.1 74 (Int32.toNatClampNeg x1)) = r5
          · simp only [if_pos c8] at e_v6
            subst e_v6
            refine g_icmpT rfl (decide_eq_true c8) ?_
            refine g_iconst (q := 84) rfl rfl ?_
            exact go_sub (mm_subc rfl (mm_subc rfl (mm_subc rfl mm_sub0))) K7
          · simp only [if_neg c8] at e_v6
            subst e_v6
            refine g_icmpF (q := 79) rfl (decide_eq_false c8) rfl ?_
            refine g_iconst (q := 80) rfl rfl ?_
            refine g_goto rfl ?_
            exact go_sub (mm_subc rfl (mm_subc rfl (mm_subc rfl mm_sub0))) K7
        clear e_v6
        refine g_istore_n (q := 85) rfl rfl ?_
        refine g_iinc (q := 88) rfl rfl rfl ?_
        refine g_goto rfl ?_
        refine go_sub (lo' := mm_lf [(0, .inr (.inl (some 55))), (1, .inl x1), (2, .inl v6), (3, .inl (x3 + I 1))]) (mm_subc rfl (mm_subc rfl (mm_subc rfl (mm_subc rfl mm_sub0)))) ?_
        exact ih _ _ _ _ hF KR KX
theorem A_L_M_forged_25 {r : MRs} : ∀ (n : Nat) (x1 : Int32) (h : MH) (x : (Int32 × MH) ⊕ (MH)), L_M_forged_25 n x1 h = some x → (∀ (u : Int32) (h' : MH), x = .inl (u, h') → r = (some (.inl u), h')) → (∀ (h' : MH), x = .inr (h') → Go 3 230 103 (mm_lf []) [] h' r) → Go 3 230 25 (mm_lf [(0, .inr (.inl (some 55))), (1, .inl x1)]) [] h r
  | 0, _, _, _, hF, _, _ => by cases hF
  | n + 1, x1, h, x, hF, KR, KX => by
    have ih := fun a1 => A_L_M_forged_25 (r := r) n a1 
    unfold L_M_forged_25 at hF
    refine g_iload_n (q := 26) rfl rfl rfl ?_
    refine g_aload_n (q := 27) rfl rfl rfl ?_
    refine g_getI (q := 30) rfl (fun _ => rfl) rfl ?_
    by_cases c15 : (h.1 55 34) ≤ x1
    · rw [if_pos c15] at hF
      refine g_icmpT rfl (decide_eq_true c15) ?_
      injection hF with hF
      subst hF
      exact go_sub mm_sub0 (KX  _ rfl)
    · rw [if_neg c15] at hF
      refine g_icmpF (q := 33) rfl (decide_eq_false c15) rfl ?_
      refine g_aload_n (q := 34) rfl rfl rfl ?_
      refine g_getR (q := 37) rfl (fun _ => rfl) rfl ?_
      refine g_iload_n (q := 38) rfl rfl rfl ?_
      obtain ⟨hi, hF⟩ := ck_I hF
      refine g_iaload (q := 39) rfl rfl rfl hi rfl ?_
      refine g_bipush (q := 41) rfl (by decide +kernel) rfl ?_
      obtain ⟨v2, e_v2, hF⟩ := iw_I hF
      suffices K3 : Go 3 230 49 (mm_lf [(0, .inr (.inl (some 55))), (1, .inl x1)]) [.inl v2] h r by
        clear hF
        by_cases c14 : ¬ (h.1 74 (Int32.toNatClampNeg x1)) = (I 99)
        · simp only [if_pos c14] at e_v2
          subst e_v2
          refine g_icmpT rfl (decide_eq_true c14) ?_
          refine g_iconst (q := 49) rfl rfl ?_
          exact go_sub (mm_subc rfl (mm_subc rfl mm_sub0)) K3
        · simp only [if_neg c14] at e_v2
          subst e_v2
          refine g_icmpF (q := 44) rfl (decide_eq_false c14) rfl ?_
          refine g_iconst (q := 45) rfl rfl ?_
          refine g_goto rfl ?_
          exact go_sub (mm_subc rfl (mm_subc rfl mm_sub0)) K3
      clear e_v2
      refine g_istore_n (q := 50) rfl rfl ?_
      refine g_iconst (q := 51) rfl rfl ?_
      refine g_istore_n (q := 52) rfl rfl ?_
      refine go_sub (lo' := mm_lf [(0, .inr (.inl (some 55))), (1, .inl x1), (2, .inl v2), (3, .inl (I 0))]) (mm_subc rfl (mm_subc rfl (mm_subc rfl (mm_subc rfl mm_sub0)))) ?_
      obtain ⟨⟨y11, h12⟩, hC, hF⟩ := bd_I hF
      dsimp only at hF
      refine A_L_M_forged_52 5000 _ _ _ _ hC trivial ?_
      intro _ _ e2
      cases e2
      refine g_iload_n (q := 92) rfl rfl rfl ?_
      by_cases c13 : ¬ y11 = 0
      · rw [if_pos c13] at hF
        refine g_ifT rfl (decide_eq_true c13) ?_
        refine g_iinc (q := 100) rfl rfl rfl ?_
        refine g_goto rfl ?_
        refine go_sub (lo' := mm_lf [(0, .inr (.inl (some 55))), (1, .inl (x1 + I 1))]) (mm_subc rfl (mm_subc rfl mm_sub0)) ?_
        exact ih _ _ _ hF KR KX
      · rw [if_neg c13] at hF
        refine g_ifF (q := 95) rfl (decide_eq_false c13) rfl ?_
        refine g_iload_n (q := 96) rfl rfl rfl ?_
        injection hF with hF
        subst hF
        rw [KR _ _ rfl]
        exact g_iret rfl
theorem A_M_forged {h h' : MH} {v : Int32} (hF : F_M_forged h = some (v, h')) : Ex 4 230 [.inr (.inl (some 55))] h (some (.inl v), h') := by
  unfold F_M_forged at hF
  refine ex_of (d := 3) rfl rfl ?_
  refine g_aload_n (q := 1) rfl rfl rfl ?_
  refine g_iconst (q := 2) rfl rfl ?_
  refine g_putI (q := 5) rfl (fun _ => rfl) rfl ?_
  obtain ⟨h1, e_h1, hF⟩ := hw_I hF
  rw [← e_h1]
  refine g_aload_n (q := 6) rfl rfl rfl ?_
  refine g_getI (q := 9) rfl (fun _ => rfl) rfl ?_
  refine g_aload_n (q := 10) rfl rfl rfl ?_
  refine g_getI (q := 13) rfl (fun _ => rfl) rfl ?_
  by_cases c20 : (h1.1 55 34) ≤ (h1.1 55 0)
  · rw [if_pos c20] at hF
    refine g_icmpT rfl (decide_eq_true c20) ?_
    refine g_iconst (q := 24) rfl rfl ?_
    refine g_istore_n (q := 25) rfl rfl ?_
    refine go_sub (lo' := mm_lf [(0, .inr (.inl (some 55))), (1, .inl (I 0))]) (mm_subc rfl (mm_subc rfl mm_sub0)) ?_
    rcases be_I hF with ⟨u, hC, hF⟩ | ⟨h16, hC, hF⟩
    · refine A_L_M_forged_25 5000 _ _ _ hC ?_ ?_
      · intro u2 h2 e2
        cases e2
        injection hF with hF
        injection hF with hv hh
        subst hv
        subst hh
        rfl
      · intro _ e2
        cases e2
    refine A_L_M_forged_25 5000 _ _ _ hC ?_ ?_
    · intro u2 h2 e2
      cases e2
    intro _ e2
    cases e2
    refine g_bipush (q := 105) rfl (by decide +kernel) rfl ?_
    injection hF with hF
    injection hF with hv hh
    subst hv
    subst hh
    exact g_iret rfl
  · rw [if_neg c20] at hF
    refine g_icmpF (q := 16) rfl (decide_eq_false c20) rfl ?_
    refine g_aload_n (q := 17) rfl rfl rfl ?_
    refine g_bipush (q := 19) rfl (by decide +kernel) rfl ?_
    obtain ⟨⟨r19, h18⟩, hC, hF⟩ := bd_I hF
    dsimp only at hF
    refine g_ci2 (q := 22) rfl rfl (fun _ => rfl) rfl (A_M_refuse hC) (by decide +kernel) rfl ?_
    injection hF with hF
    injection hF with hv hh
    subst hv
    subst hh
    exact g_iret rfl
def L_M_corner_64 (x1 : Int32) (x2 : Int32) : Nat → Int32 → MH → Option (Int32 × MH)
  | 0, _, _ => none
  | n + 1, x4, h => ck (mm_in x4 4) (if (h.1 61 (Int32.toNatClampNeg x4)) = x1 then some (x4, h) else L_M_corner_64 x1 x2 n (x4 + I 1) h)
/-- BothCornersModel.corner(II)I -/
def F_M_corner (x1 : Int32) (x2 : Int32) (h : MH) : Option (Int32 × MH) := hw (mm_hset h.1 55 10 (I 0), h.2) (fun h1 => kw (fun (z2 : Int32) (h3 : MH) => if 0 ≤ z2 then if ¬ x2 = (I 2) then bd (L_M_corner_64 x1 x2 5000 (I 0) h3) (fun (y6, h7) => if ¬ x2 = 0 then ck (mm_in x1 4) (some (h7.1 61 (Int32.toNatClampNeg x1), h7)) else some (y6, h7)) else iw (if (h3.1 55 9) = 0 then I 0 else I 1) (fun v9 => some (v9, h3)) else bd (F_M_refuse z2 h3) (fun (r14, h13) => some (r14, h13))) (fun k4 => if x2 = (I 2) then bd (F_M_wrongBit (I 0) x2 (I 2) h1) (fun (r18, h17) => k4 r18 h17) else bd (F_M_in (Int32.toInt64 x1) (Lg 0) (Lg 3) h1) (fun (r20, h19) => if r20 = 0 then k4 (I (-1)) h19 else bd (F_M_wrongBit (I 0) x2 (I 2) h19) (fun (r22, h21) => k4 r22 h21))))
theorem A_L_M_corner_64 {x1 : Int32} {x2 : Int32} {r : MRs} : ∀ (n : Nat) (x4 : Int32) (h : MH) (x : Int32 × MH), L_M_corner_64 x1 x2 n x4 h = some x → (True) → (∀ (e4 : Int32) (h' : MH), x = (e4, h') → Go 2 231 81 (mm_lf [(0, .inr (.inl (some 55))), (1, .inl x1), (2, .inl x2), (4, .inl e4)]) [] h' r) → Go 2 231 64 (mm_lf [(0, .inr (.inl (some 55))), (1, .inl x1), (2, .inl x2), (4, .inl x4)]) [] h r
  | 0, _, _, _, hF, _, _ => by cases hF
  | n + 1, x4, h, x, hF, KR, KX => by
    have ih := fun a4 => A_L_M_corner_64 (x1 := x1) (x2 := x2) (r := r) n a4 
    unfold L_M_corner_64 at hF
    refine g_aload_n (q := 65) rfl rfl rfl ?_
    refine g_getR (q := 68) rfl (fun _ => rfl) rfl ?_
    refine g_iload (q := 70) rfl rfl rfl ?_
    obtain ⟨hi, hF⟩ := ck_I hF
    refine g_iaload (q := 71) rfl rfl rfl hi rfl ?_
    refine g_iload_n (q := 72) rfl rfl rfl ?_
    by_cases c5 : (h.1 61 (Int32.toNatClampNeg x4)) = x1
    · rw [if_pos c5] at hF
      refine g_icmpT rfl (decide_eq_true c5) ?_
      injection hF with hF
      subst hF
      exact go_sub (mm_subc rfl (mm_subc rfl (mm_subc rfl (mm_subc rfl mm_sub0)))) (KX _ _ rfl)
    · rw [if_neg c5] at hF
      refine g_icmpF (q := 75) rfl (decide_eq_false c5) rfl ?_
      refine g_iinc (q := 78) rfl rfl rfl ?_
      refine g_goto rfl ?_
      refine go_sub (lo' := mm_lf [(0, .inr (.inl (some 55))), (1, .inl x1), (2, .inl x2), (4, .inl (x4 + I 1))]) (mm_subc rfl (mm_subc rfl (mm_subc rfl (mm_subc rfl mm_sub0)))) ?_
      exact ih _ _ _ hF KR KX
theorem A_M_corner {x1 : Int32} {x2 : Int32} {h h' : MH} {v : Int32} (hF : F_M_corner x1 x2 h = some (v, h')) : Ex 3 231 [.inr (.inl (some 55)), .inl x1, .inl x2] h (some (.inl v), h') := by
  unfold F_M_corner at hF
  refine ex_of (d := 2) rfl rfl ?_
  refine g_aload_n (q := 1) rfl rfl rfl ?_
  refine g_iconst (q := 2) rfl rfl ?_
  refine g_putI (q := 5) rfl (fun _ => rfl) rfl ?_
  obtain ⟨h1, e_h1, hF⟩ := hw_I hF
  rw [← e_h1]
  refine g_iload_n (q := 6) rfl rfl rfl ?_
  refine g_iconst (q := 7) rfl rfl ?_
  obtain ⟨k4, e_k4, hF⟩ := kw_I hF
  have K16 : ∀ (z2 : Int32) (h3 : MH), k4 z2 h3 = some (v, h') → Go 2 231 32 (mm_lf [(0, .inr (.inl (some 55))), (1, .inl x1), (2, .inl x2)]) [.inl z2] h3 (some (.inl v), h') := by
    intro z2 h3 hF
    rw [e_k4] at hF
    dsimp only at hF
    refine g_istore_n (q := 33) rfl rfl ?_
    refine g_iload_n (q := 34) rfl rfl rfl ?_
    by_cases c15 : 0 ≤ z2
    · rw [if_pos c15] at hF
      refine g_ifT rfl (decide_eq_true c15) ?_
      refine g_iload_n (q := 44) rfl rfl rfl ?_
      refine g_iconst (q := 45) rfl rfl ?_
      by_cases c12 : ¬ x2 = (I 2)
      · rw [if_pos c12] at hF
        refine g_icmpT rfl (decide_eq_true c12) ?_
        refine g_iconst (q := 62) rfl rfl ?_
        refine g_istore (q := 64) rfl rfl ?_
        refine go_sub (lo' := mm_lf [(0, .inr (.inl (some 55))), (1, .inl x1), (2, .inl x2), (4, .inl (I 0))]) (mm_subc rfl (mm_subc rfl (mm_subc rfl (mm_subc rfl mm_sub0)))) ?_
        obtain ⟨⟨y6, h7⟩, hC, hF⟩ := bd_I hF
        dsimp only at hF
        refine A_L_M_corner_64 5000 _ _ _ hC trivial ?_
        intro _ _ e2
        cases e2
        refine g_iload_n (q := 82) rfl rfl rfl ?_
        by_cases c8 : ¬ x2 = 0
        · rw [if_pos c8] at hF
          refine g_ifT rfl (decide_eq_true c8) ?_
          refine g_aload_n (q := 91) rfl rfl rfl ?_
          refine g_getR (q := 94) rfl (fun _ => rfl) rfl ?_
          refine g_iload_n (q := 95) rfl rfl rfl ?_
          obtain ⟨hi, hF⟩ := ck_I hF
          refine g_iaload (q := 96) rfl rfl rfl hi rfl ?_
          injection hF with hF
          injection hF with hv hh
          subst hv
          subst hh
          exact g_iret rfl
        · rw [if_neg c8] at hF
          refine g_ifF (q := 85) rfl (decide_eq_false c8) rfl ?_
          refine g_iload (q := 87) rfl rfl rfl ?_
          refine g_goto rfl ?_
          injection hF with hF
          injection hF with hv hh
          subst hv
          subst hh
          exact g_iret rfl
      · rw [if_neg c12] at hF
        refine g_icmpF (q := 48) rfl (decide_eq_false c12) rfl ?_
        refine g_aload_n (q := 49) rfl rfl rfl ?_
        refine g_getI (q := 52) rfl (fun _ => rfl) rfl ?_
        obtain ⟨v9, e_v9, hF⟩ := iw_I hF
        suffices K10 : Go 2 231 60 (mm_lf []) [.inl v9] h3 (some (.inl v), h') by
          clear hF
          by_cases c11 : (h3.1 55 9) = 0
          · simp only [if_pos c11] at e_v9
            subst e_v9
            refine g_ifT rfl (decide_eq_true c11) ?_
            refine g_iconst (q := 60) rfl rfl ?_
            exact go_sub mm_sub0 K10
          · simp only [if_neg c11] at e_v9
            subst e_v9
            refine g_ifF (q := 55) rfl (decide_eq_false c11) rfl ?_
            refine g_iconst (q := 56) rfl rfl ?_
            refine g_goto rfl ?_
            exact go_sub mm_sub0 K10
        clear e_v9
        injection hF with hF
        injection hF with hv hh
        subst hv
        subst hh
        exact g_iret rfl
    · rw [if_neg c15] at hF
      refine g_ifF (q := 37) rfl (decide_eq_false c15) rfl ?_
      refine g_aload_n (q := 38) rfl rfl rfl ?_
      refine g_iload_n (q := 39) rfl rfl rfl ?_
      obtain ⟨⟨r14, h13⟩, hC, hF⟩ := bd_I hF
      dsimp only at hF
      refine g_ci2 (q := 42) rfl rfl (fun _ => rfl) rfl (A_M_refuse hC) (by decide +kernel) rfl ?_
      injection hF with hF
      injection hF with hv hh
      subst hv
      subst hh
      exact g_iret rfl
  clear e_k4
  by_cases c24 : x2 = (I 2)
  · rw [if_pos c24] at hF
    refine g_icmpT rfl (decide_eq_true c24) ?_
    refine g_iconst (q := 23) rfl rfl ?_
    refine g_iload_n (q := 24) rfl rfl rfl ?_
    refine g_iconst (q := 25) rfl rfl ?_
    obtain ⟨⟨r18, h17⟩, hC, hF⟩ := bd_I hF
    dsimp only at hF
    refine g_ci3 (q := 28) rfl rfl (fun _ => rfl) rfl (A_M_wrongBit hC) (by decide +kernel) rfl ?_
    refine g_goto rfl ?_
    exact go_sub (mm_subc rfl (mm_subc rfl (mm_subc rfl mm_sub0))) (K16 _ _ hF)
  · rw [if_neg c24] at hF
    refine g_icmpF (q := 10) rfl (decide_eq_false c24) rfl ?_
    refine g_iload_n (q := 11) rfl rfl rfl ?_
    refine g_i2l (q := 12) rfl rfl ?_
    refine g_lconst (u := 0) (q := 13) rfl (by decide +kernel) rfl ?_
    refine g_ldc2_w (q := 16) rfl rfl ?_
    obtain ⟨⟨r20, h19⟩, hC, hF⟩ := bd_I hF
    dsimp only at hF
    refine g_ci3 (q := 19) rfl rfl (fun _ => rfl) rfl (A_M_in hC) (by decide +kernel) rfl ?_
    by_cases c23 : r20 = 0
    · rw [if_pos c23] at hF
      refine g_ifT rfl (decide_eq_true c23) ?_
      refine g_iconst (q := 32) rfl rfl ?_
      exact go_sub (mm_subc rfl (mm_subc rfl (mm_subc rfl mm_sub0))) (K16 _ _ hF)
    · rw [if_neg c23] at hF
      refine g_ifF (q := 22) rfl (decide_eq_false c23) rfl ?_
      refine g_iconst (q := 23) rfl rfl ?_
      refine g_iload_n (q := 24) rfl rfl rfl ?_
      refine g_iconst (q := 25) rfl rfl ?_
      obtain ⟨⟨r22, h21⟩, hC, hF⟩ := bd_I hF
      dsimp only at hF
      refine g_ci3 (q := 28) rfl rfl (fun _ => rfl) rfl (A_M_wrongBit hC) (by decide +kernel) rfl ?_
      refine g_goto rfl ?_
      exact go_sub (mm_subc rfl (mm_subc rfl (mm_subc rfl mm_sub0))) (K16 _ _ hF)
def L_M_thinkCode_4 : Nat → Int32 → Int32 → MH → Option (Int32 × MH)
  | 0, _, _, _ => none
  | n + 1, x2, x3, h => if x3 < 0 then some (x2, h) else ck (mm_in x3 4) (hw (mm_hset h.1 63 (Int32.toNatClampNeg x3) (irem x2 (I 4)), h.2) (fun h1 => L_M_thinkCode_4 n (x2 / (I 4)) (x3 + I (-1)) h1))
/-- BothCornersModel.thinkCode(I)V -/
def F_M_thinkCode (x1 : Int32) (h : MH) : Option (MH) := bd (L_M_thinkCode_4 5000 x1 (I 3) h) (fun (y3, h4) => iw (if ¬ y3 = (I 1) then I 0 else I 1) (fun v5 => cd (v5 &&& 1 = v5) (hw (mm_hset h4.1 55 13 v5, h4.2) (fun h7 => some h7))))
theorem A_L_M_thinkCode_4 {r : MRs} : ∀ (n : Nat) (x2 : Int32) (x3 : Int32) (h : MH) (x : Int32 × MH), L_M_thinkCode_4 n x2 x3 h = some x → (True) → (∀ (e2 : Int32) (h' : MH), x = (e2, h') → Go 0 180 27 (mm_lf [(0, .inr (.inl (some 55))), (2, .inl e2)]) [] h' r) → Go 0 180 4 (mm_lf [(0, .inr (.inl (some 55))), (2, .inl x2), (3, .inl x3)]) [] h r
  | 0, _, _, _, _, hF, _, _ => by cases hF
  | n + 1, x2, x3, h, x, hF, KR, KX => by
    have ih := fun a2 a3 => A_L_M_thinkCode_4 (r := r) n a2 a3 
    unfold L_M_thinkCode_4 at hF
    refine g_iload_n (q := 5) rfl rfl rfl ?_
    by_cases c2 : x3 < 0
    · rw [if_pos c2] at hF
      refine g_ifT rfl (decide_eq_true c2) ?_
      injection hF with hF
      subst hF
      exact go_sub (mm_subc rfl (mm_subc rfl mm_sub0)) (KX _ _ rfl)
    · rw [if_neg c2] at hF
      refine g_ifF (q := 8) rfl (decide_eq_false c2) rfl ?_
      refine g_aload_n (q := 9) rfl rfl rfl ?_
      refine g_getR (q := 12) rfl (fun _ => rfl) rfl ?_
      refine g_iload_n (q := 13) rfl rfl rfl ?_
      refine g_iload_n (q := 14) rfl rfl rfl ?_
      refine g_iconst (q := 15) rfl rfl ?_
      refine g_irem (q := 16) rfl (by decide +kernel) rfl ?_
      obtain ⟨hi, hF⟩ := ck_I hF
      refine g_iastore (q := 17) rfl rfl rfl hi rfl ?_
      obtain ⟨h1, e_h1, hF⟩ := hw_I hF
      rw [← e_h1]
      refine g_iload_n (q := 18) rfl rfl rfl ?_
      refine g_iconst (q := 19) rfl rfl ?_
      refine g_idiv (q := 20) rfl (by decide +kernel) rfl ?_
      refine g_istore_n (q := 21) rfl rfl ?_
      refine g_iinc (q := 24) rfl rfl rfl ?_
      refine g_goto rfl ?_
      refine go_sub (lo' := mm_lf [(0, .inr (.inl (some 55))), (2, .inl (x2 / (I 4))), (3, .inl (x3 + I (-1)))]) (mm_subc rfl (mm_subc rfl (mm_subc rfl mm_sub0))) ?_
      exact ih _ _ _ _ hF KR KX
theorem A_M_thinkCode {x1 : Int32} {h h' : MH} (hF : F_M_thinkCode x1 h = some h') : Ex 1 180 [.inr (.inl (some 55)), .inl x1] h (none, h') := by
  unfold F_M_thinkCode at hF
  refine ex_of (d := 0) rfl rfl ?_
  refine g_iload_n (q := 1) rfl rfl rfl ?_
  refine g_istore_n (q := 2) rfl rfl ?_
  refine g_iconst (q := 3) rfl rfl ?_
  refine g_istore_n (q := 4) rfl rfl ?_
  refine go_sub (lo' := mm_lf [(0, .inr (.inl (some 55))), (2, .inl x1), (3, .inl (I 3))]) (mm_subc rfl (mm_subc rfl (mm_subc rfl mm_sub0))) ?_
  obtain ⟨⟨y3, h4⟩, hC, hF⟩ := bd_I hF
  dsimp only at hF
  refine A_L_M_thinkCode_4 5000 _ _ _ _ hC trivial ?_
  intro _ _ e2
  cases e2
  refine g_aload_n (q := 28) rfl rfl rfl ?_
  refine g_iload_n (q := 29) rfl rfl rfl ?_
  refine g_iconst (q := 30) rfl rfl ?_
  obtain ⟨v5, e_v5, hF⟩ := iw_I hF
  suffices K6 : Go 0 180 38 (mm_lf []) [.inl v5, .inr (.inl (some 55))] h4 (none, h') by
    clear hF
    by_cases c8 : ¬ y3 = (I 1)
    · simp only [if_pos c8] at e_v5
      subst e_v5
      refine g_icmpT rfl (decide_eq_true c8) ?_
      refine g_iconst (q := 38) rfl rfl ?_
      exact go_sub mm_sub0 K6
    · simp only [if_neg c8] at e_v5
      subst e_v5
      refine g_icmpF (q := 33) rfl (decide_eq_false c8) rfl ?_
      refine g_iconst (q := 34) rfl rfl ?_
      refine g_goto rfl ?_
      exact go_sub mm_sub0 K6
  clear e_v5
  obtain ⟨hz, hF⟩ := cd_I hF
  refine g_putZ (q := 41) rfl (fun _ => rfl) hz rfl ?_
  obtain ⟨h7, e_h7, hF⟩ := hw_I hF
  rw [← e_h7]
  injection hF with hF
  subst hF
  exact g_vret rfl
def L_M_codeNow_15 : Nat → Int32 → Int32 → MH → Option (Int32 × MH)
  | 0, _, _, _ => none
  | n + 1, x1, x2, h => if (I 4) ≤ x2 then some (x1, h) else ck (mm_in x2 4) (iw (((I 4) * x1) + (h.1 63 (Int32.toNatClampNeg x2))) (fun v3 => L_M_codeNow_15 n v3 (x2 + I 1) h))
/-- BothCornersModel.codeNow()I -/
def F_M_codeNow (h : MH) : Option (Int32 × MH) := iw (if (h.1 55 13) = 0 then I 0 else I 1) (fun v1 => bd (L_M_codeNow_15 5000 v1 (I 0) h) (fun (y5, h6) => some (y5, h6)))
theorem A_L_M_codeNow_15 {r : MRs} : ∀ (n : Nat) (x1 : Int32) (x2 : Int32) (h : MH) (x : Int32 × MH), L_M_codeNow_15 n x1 x2 h = some x → (True) → (∀ (e1 : Int32) (h' : MH), x = (e1, h') → Go 0 179 37 (mm_lf [(1, .inl e1)]) [] h' r) → Go 0 179 15 (mm_lf [(0, .inr (.inl (some 55))), (1, .inl x1), (2, .inl x2)]) [] h r
  | 0, _, _, _, _, hF, _, _ => by cases hF
  | n + 1, x1, x2, h, x, hF, KR, KX => by
    have ih := fun a1 a2 => A_L_M_codeNow_15 (r := r) n a1 a2 
    unfold L_M_codeNow_15 at hF
    refine g_iload_n (q := 16) rfl rfl rfl ?_
    refine g_iconst (q := 17) rfl rfl ?_
    by_cases c4 : (I 4) ≤ x2
    · rw [if_pos c4] at hF
      refine g_icmpT rfl (decide_eq_true c4) ?_
      injection hF with hF
      subst hF
      exact go_sub (mm_subc rfl mm_sub0) (KX _ _ rfl)
    · rw [if_neg c4] at hF
      refine g_icmpF (q := 20) rfl (decide_eq_false c4) rfl ?_
      refine g_iconst (q := 21) rfl rfl ?_
      refine g_iload_n (q := 22) rfl rfl rfl ?_
      refine g_imul (q := 23) rfl rfl ?_
      refine g_aload_n (q := 24) rfl rfl rfl ?_
      refine g_getR (q := 27) rfl (fun _ => rfl) rfl ?_
      refine g_iload_n (q := 28) rfl rfl rfl ?_
      obtain ⟨hi, hF⟩ := ck_I hF
      refine g_iaload (q := 29) rfl rfl rfl hi rfl ?_
      refine g_iadd (q := 30) rfl rfl ?_
      refine g_istore_n (q := 31) rfl rfl ?_
      obtain ⟨v3, e_v3, hF⟩ := iw_I hF
      rw [← e_v3]
      refine g_iinc (q := 34) rfl rfl rfl ?_
      refine g_goto rfl ?_
      refine go_sub (lo' := mm_lf [(0, .inr (.inl (some 55))), (1, .inl v3), (2, .inl (x2 + I 1))]) (mm_subc rfl (mm_subc rfl (mm_subc rfl mm_sub0))) ?_
      exact ih _ _ _ _ hF KR KX
theorem A_M_codeNow {h h' : MH} {v : Int32} (hF : F_M_codeNow h = some (v, h')) : Ex 1 179 [.inr (.inl (some 55))] h (some (.inl v), h') := by
  unfold F_M_codeNow at hF
  refine ex_of (d := 0) rfl rfl ?_
  refine g_aload_n (q := 1) rfl rfl rfl ?_
  refine g_getI (q := 4) rfl (fun _ => rfl) rfl ?_
  obtain ⟨v1, e_v1, hF⟩ := iw_I hF
  suffices K2 : Go 0 179 12 (mm_lf [(0, .inr (.inl (some 55)))]) [.inl v1] h (some (.inl v), h') by
    clear hF
    by_cases c7 : (h.1 55 13) = 0
    · simp only [if_pos c7] at e_v1
      subst e_v1
      refine g_ifT rfl (decide_eq_true c7) ?_
      refine g_iconst (q := 12) rfl rfl ?_
      exact go_sub (mm_subc rfl mm_sub0) K2
    · simp only [if_neg c7] at e_v1
      subst e_v1
      refine g_ifF (q := 7) rfl (decide_eq_false c7) rfl ?_
      refine g_iconst (q := 8) rfl rfl ?_
      refine g_goto rfl ?_
      exact go_sub (mm_subc rfl mm_sub0) K2
  clear e_v1
  refine g_istore_n (q := 13) rfl rfl ?_
  refine g_iconst (q := 14) rfl rfl ?_
  refine g_istore_n (q := 15) rfl rfl ?_
  refine go_sub (lo' := mm_lf [(0, .inr (.inl (some 55))), (1, .inl v1), (2, .inl (I 0))]) (mm_subc rfl (mm_subc rfl (mm_subc rfl mm_sub0))) ?_
  obtain ⟨⟨y5, h6⟩, hC, hF⟩ := bd_I hF
  dsimp only at hF
  refine A_L_M_codeNow_15 5000 _ _ _ _ hC trivial ?_
  intro _ _ e2
  cases e2
  refine g_iload_n (q := 38) rfl rfl rfl ?_
  injection hF with hF
  injection hF with hv hh
  subst hv
  subst hh
  exact g_iret rfl
def L_M_layPath_5 (x1 : Int32) : Nat → Int32 → MH → Option (MH)
  | 0, _, _ => none
  | n + 1, x2, h => if (I 512) ≤ x2 then some (h) else iw (if ¬ x2 = x1 then I 99 else I 0) (fun v1 => ck (mm_in x2 512) (hw (mm_hset h.1 76 (Int32.toNatClampNeg x2) v1, h.2) (fun h3 => L_M_layPath_5 x1 n (x2 + I 1) h3)))
def L_M_layPath_55 (x3 : Int32) : Nat → Int32 → Int32 → MH → Option (Int32 × MH)
  | 0, _, _, _ => none
  | n + 1, x2, x4, h => if (I 4) ≤ x4 then some (x2, h) else bd (F_M_thinkCode x3 h) (fun h7 => bd (F_M_turnNow x4 h7) (fun h8 => bd (F_M_codeNow h8) (fun (r10, h9) => ck (mm_in r10 512) (iw ((h9.1 76 (Int32.toNatClampNeg r10)) + (I 1)) (fun v11 => kw (fun (z12 : Int32) (h13 : MH) => ck (mm_in x3 512) (kw (fun (z15 : Int32) (h16 : MH) => ck (mm_in x3 512) (hw (mm_hset h16.1 76 (Int32.toNatClampNeg x3) z15, h16.2) (fun h18 => L_M_layPath_55 x3 n z12 (x4 + I 1) h18))) (fun k17 => if (h13.1 76 (Int32.toNatClampNeg x3)) ≤ v11 then ck (mm_in x3 512) (k17 (h13.1 76 (Int32.toNatClampNeg x3)) h13) else k17 v11 h13))) (fun k14 => if ¬ x2 = 0 then k14 (I 1) h9 else ck (mm_in x3 512) (if (h9.1 76 (Int32.toNatClampNeg x3)) ≤ v11 then k14 (I 0) h9 else k14 (I 1) h9)))))))
def L_M_layPath_45 : Nat → Int32 → Int32 → MH → Option (Int32 × MH)
  | 0, _, _, _ => none
  | n + 1, x2, x3, h => if (I 512) ≤ x3 then some (x2, h) else bd (L_M_layPath_55 x3 5000 x2 (I 0) h) (fun (y25, h26) => L_M_layPath_45 n y25 (x3 + I 1) h26)
def L_M_layPath_37 : Nat → Int32 → MH → Option (MH)
  | 0, _, _ => none
  | n + 1, x2, h => if x2 = 0 then some (h) else bd (L_M_layPath_45 5000 (I 0) (I 0) h) (fun (y28, h29) => L_M_layPath_37 n y28 h29)
/-- BothCornersModel.layPath()V -/
def F_M_layPath (h : MH) : Option (MH) := bd (L_M_layPath_5 (I 27) 5000 (I 0) h) (fun h6 => bd (L_M_layPath_37 5000 (I 1) h6) (fun h31 => some h31))
theorem A_L_M_layPath_5 {x1 : Int32} {r : MRs} : ∀ (n : Nat) (x2 : Int32) (h : MH) (x : MH), L_M_layPath_5 x1 n x2 h = some x → (True) → (∀ (h' : MH), x = (h') → Go 2 233 35 (mm_lf [(0, .inr (.inl (some 55)))]) [] h' r) → Go 2 233 5 (mm_lf [(0, .inr (.inl (some 55))), (1, .inl x1), (2, .inl x2)]) [] h r
  | 0, _, _, _, hF, _, _ => by cases hF
  | n + 1, x2, h, x, hF, KR, KX => by
    have ih := fun a2 => A_L_M_layPath_5 (x1 := x1) (r := r) n a2 
    unfold L_M_layPath_5 at hF
    refine g_iload_n (q := 6) rfl rfl rfl ?_
    refine g_sipush (q := 9) rfl (by decide +kernel) rfl ?_
    by_cases c5 : (I 512) ≤ x2
    · rw [if_pos c5] at hF
      refine g_icmpT rfl (decide_eq_true c5) ?_
      injection hF with hF
      subst hF
      exact go_sub (mm_subc rfl mm_sub0) (KX  _ rfl)
    · rw [if_neg c5] at hF
      refine g_icmpF (q := 12) rfl (decide_eq_false c5) rfl ?_
      refine g_aload_n (q := 13) rfl rfl rfl ?_
      refine g_getR (q := 16) rfl (fun _ => rfl) rfl ?_
      refine g_iload_n (q := 17) rfl rfl rfl ?_
      refine g_iload_n (q := 18) rfl rfl rfl ?_
      refine g_iload_n (q := 19) rfl rfl rfl ?_
      obtain ⟨v1, e_v1, hF⟩ := iw_I hF
      suffices K2 : Go 2 233 28 (mm_lf [(0, .inr (.inl (some 55))), (1, .inl x1), (2, .inl x2)]) [.inl v1, .inl x2, .inr (.inl (some 76))] h r by
        clear hF
        by_cases c4 : ¬ x2 = x1
        · simp only [if_pos c4] at e_v1
          subst e_v1
          refine g_icmpT rfl (decide_eq_true c4) ?_
          refine g_bipush (q := 28) rfl (by decide +kernel) rfl ?_
          exact go_sub (mm_subc rfl (mm_subc rfl (mm_subc rfl mm_sub0))) K2
        · simp only [if_neg c4] at e_v1
          subst e_v1
          refine g_icmpF (q := 22) rfl (decide_eq_false c4) rfl ?_
          refine g_iconst (q := 23) rfl rfl ?_
          refine g_goto rfl ?_
          exact go_sub (mm_subc rfl (mm_subc rfl (mm_subc rfl mm_sub0))) K2
      clear e_v1
      obtain ⟨hi, hF⟩ := ck_I hF
      refine g_iastore (q := 29) rfl rfl rfl hi rfl ?_
      obtain ⟨h3, e_h3, hF⟩ := hw_I hF
      rw [← e_h3]
      refine g_iinc (q := 32) rfl rfl rfl ?_
      refine g_goto rfl ?_
      refine go_sub (lo' := mm_lf [(0, .inr (.inl (some 55))), (1, .inl x1), (2, .inl (x2 + I 1))]) (mm_subc rfl (mm_subc rfl (mm_subc rfl mm_sub0))) ?_
      exact ih _ _ _ hF KR KX
theorem A_L_M_layPath_55 {x3 : Int32} {r : MRs} : ∀ (n : Nat) (x2 : Int32) (x4 : Int32) (h : MH) (x : Int32 × MH), L_M_layPath_55 x3 n x2 x4 h = some x → (True) → (∀ (e2 : Int32) (h' : MH), x = (e2, h') → Go 2 233 140 (mm_lf [(0, .inr (.inl (some 55))), (2, .inl e2), (3, .inl x3)]) [] h' r) → Go 2 233 55 (mm_lf [(0, .inr (.inl (some 55))), (2, .inl x2), (3, .inl x3), (4, .inl x4)]) [] h r
  | 0, _, _, _, _, hF, _, _ => by cases hF
  | n + 1, x2, x4, h, x, hF, KR, KX => by
    have ih := fun a2 a4 => A_L_M_layPath_55 (x3 := x3) (r := r) n a2 a4 
    unfold L_M_layPath_55 at hF
    refine g_iload (q := 57) rfl rfl rfl ?_
    refine g_iconst (q := 58) rfl rfl ?_
    by_cases c24 : (I 4) ≤ x4
    · rw [if_pos c24] at hF
      refine g_icmpT rfl (decide_eq_true c24) ?_
      injection hF with hF
      subst hF
      exact go_sub (mm_subc rfl (mm_subc rfl (mm_subc rfl mm_sub0))) (KX _ _ rfl)
    · rw [if_neg c24] at hF
      refine g_icmpF (q := 61) rfl (decide_eq_false c24) rfl ?_
      refine g_aload_n (q := 62) rfl rfl rfl ?_
      refine g_iload_n (q := 63) rfl rfl rfl ?_
      obtain ⟨h7, hC, hF⟩ := bd_I hF
      refine g_cv2 (q := 66) rfl rfl (fun _ => rfl) rfl (A_M_thinkCode hC) (by decide +kernel) rfl ?_
      refine g_aload_n (q := 67) rfl rfl rfl ?_
      refine g_iload (q := 69) rfl rfl rfl ?_
      obtain ⟨h8, hC, hF⟩ := bd_I hF
      refine g_cv2 (q := 72) rfl rfl (fun _ => rfl) rfl (A_M_turnNow hC) (by decide +kernel) rfl ?_
      refine g_aload_n (q := 73) rfl rfl rfl ?_
      refine g_getR (q := 76) rfl (fun _ => rfl) rfl ?_
      refine g_aload_n (q := 77) rfl rfl rfl ?_
      obtain ⟨⟨r10, h9⟩, hC, hF⟩ := bd_I hF
      dsimp only at hF
      refine g_ci1 (q := 80) rfl rfl (fun _ => rfl) rfl (A_M_codeNow hC) (by decide +kernel) rfl ?_
      obtain ⟨hi, hF⟩ := ck_I hF
      refine g_iaload (q := 81) rfl rfl rfl hi rfl ?_
      refine g_iconst (q := 82) rfl rfl ?_
      refine g_iadd (q := 83) rfl rfl ?_
      refine g_istore (q := 85) rfl rfl ?_
      obtain ⟨v11, e_v11, hF⟩ := iw_I hF
      rw [← e_v11]
      refine g_iload_n (q := 86) rfl rfl rfl ?_
      obtain ⟨k14, e_k14, hF⟩ := kw_I hF
      have K21 : ∀ (z12 : Int32) (h13 : MH), k14 z12 h13 = some x → Go 2 233 105 (mm_lf [(0, .inr (.inl (some 55))), (3, .inl x3), (4, .inl x4), (5, .inl v11)]) [.inl z12] h13 r := by
        intro z12 h13 hF
        rw [e_k14] at hF
        dsimp only at hF
        refine g_istore_n (q := 106) rfl rfl ?_
        refine g_aload_n (q := 107) rfl rfl rfl ?_
        refine g_getR (q := 110) rfl (fun _ => rfl) rfl ?_
        refine g_iload_n (q := 111) rfl rfl rfl ?_
        refine g_iload (q := 113) rfl rfl rfl ?_
        refine g_aload_n (q := 114) rfl rfl rfl ?_
        refine g_getR (q := 117) rfl (fun _ => rfl) rfl ?_
        refine g_iload_n (q := 118) rfl rfl rfl ?_
        obtain ⟨hi, hF⟩ := ck_I hF
        refine g_iaload (q := 119) rfl rfl rfl hi rfl ?_
        obtain ⟨k17, e_k17, hF⟩ := kw_I hF
        have K19 : ∀ (z15 : Int32) (h16 : MH), k17 z15 h16 = some x → Go 2 233 133 (mm_lf [(0, .inr (.inl (some 55))), (2, .inl z12), (3, .inl x3), (4, .inl x4)]) [.inl z15, .inl x3, .inr (.inl (some 76))] h16 r := by
          intro z15 h16 hF
          rw [e_k17] at hF
          dsimp only at hF
          obtain ⟨hi, hF⟩ := ck_I hF
          refine g_iastore (q := 134) rfl rfl rfl hi rfl ?_
          obtain ⟨h18, e_h18, hF⟩ := hw_I hF
          rw [← e_h18]
          refine g_iinc (q := 137) rfl rfl rfl ?_
          refine g_goto rfl ?_
          refine go_sub (lo' := mm_lf [(0, .inr (.inl (some 55))), (2, .inl z12), (3, .inl x3), (4, .inl (x4 + I 1))]) (mm_subc rfl (mm_subc rfl (mm_subc rfl (mm_subc rfl mm_sub0)))) ?_
          exact ih _ _ _ _ hF KR KX
        clear e_k17
        by_cases c20 : (h13.1 76 (Int32.toNatClampNeg x3)) ≤ v11
        · rw [if_pos c20] at hF
          refine g_icmpT rfl (decide_eq_true c20) ?_
          refine g_aload_n (q := 128) rfl rfl rfl ?_
          refine g_getR (q := 131) rfl (fun _ => rfl) rfl ?_
          refine g_iload_n (q := 132) rfl rfl rfl ?_
          obtain ⟨hi, hF⟩ := ck_I hF
          refine g_iaload (q := 133) rfl rfl rfl hi rfl ?_
          exact go_sub (mm_subc rfl (mm_subc rfl (mm_subc rfl (mm_subc rfl mm_sub0)))) (K19 _ _ hF)
        · rw [if_neg c20] at hF
          refine g_icmpF (q := 122) rfl (decide_eq_false c20) rfl ?_
          refine g_iload (q := 124) rfl rfl rfl ?_
          refine g_goto rfl ?_
          exact go_sub (mm_subc rfl (mm_subc rfl (mm_subc rfl (mm_subc rfl mm_sub0)))) (K19 _ _ hF)
      clear e_k14
      by_cases c23 : ¬ x2 = 0
      · rw [if_pos c23] at hF
        refine g_ifT rfl (decide_eq_true c23) ?_
        refine g_iconst (q := 101) rfl rfl ?_
        refine g_goto rfl ?_
        exact go_sub (mm_subc rfl (mm_subc rfl (mm_subc rfl (mm_subc rfl mm_sub0)))) (K21 _ _ hF)
      · rw [if_neg c23] at hF
        refine g_ifF (q := 89) rfl (decide_eq_false c23) rfl ?_
        refine g_iload (q := 91) rfl rfl rfl ?_
        refine g_aload_n (q := 92) rfl rfl rfl ?_
        refine g_getR (q := 95) rfl (fun _ => rfl) rfl ?_
        refine g_iload_n (q := 96) rfl rfl rfl ?_
        obtain ⟨hi, hF⟩ := ck_I hF
        refine g_iaload (q := 97) rfl rfl rfl hi rfl ?_
        by_cases c22 : (h9.1 76 (Int32.toNatClampNeg x3)) ≤ v11
        · rw [if_pos c22] at hF
          refine g_icmpT rfl (decide_eq_true c22) ?_
          refine g_iconst (q := 105) rfl rfl ?_
          exact go_sub (mm_subc rfl (mm_subc rfl (mm_subc rfl (mm_subc rfl mm_sub0)))) (K21 _ _ hF)
        · rw [if_neg c22] at hF
          refine g_icmpF (q := 100) rfl (decide_eq_false c22) rfl ?_
          refine g_iconst (q := 101) rfl rfl ?_
          refine g_goto rfl ?_
          exact go_sub (mm_subc rfl (mm_subc rfl (mm_subc rfl (mm_subc rfl mm_sub0)))) (K21 _ _ hF)
theorem A_L_M_layPath_45 {r : MRs} : ∀ (n : Nat) (x2 : Int32) (x3 : Int32) (h : MH) (x : Int32 × MH), L_M_layPath_45 n x2 x3 h = some x → (True) → (∀ (e2 : Int32) (h' : MH), x = (e2, h') → Go 2 233 146 (mm_lf [(0, .inr (.inl (some 55))), (2, .inl e2)]) [] h' r) → Go 2 233 45 (mm_lf [(0, .inr (.inl (some 55))), (2, .inl x2), (3, .inl x3)]) [] h r
  | 0, _, _, _, _, hF, _, _ => by cases hF
  | n + 1, x2, x3, h, x, hF, KR, KX => by
    have ih := fun a2 a3 => A_L_M_layPath_45 (r := r) n a2 a3 
    unfold L_M_layPath_45 at hF
    refine g_iload_n (q := 46) rfl rfl rfl ?_
    refine g_sipush (q := 49) rfl (by decide +kernel) rfl ?_
    by_cases c27 : (I 512) ≤ x3
    · rw [if_pos c27] at hF
      refine g_icmpT rfl (decide_eq_true c27) ?_
      injection hF with hF
      subst hF
      exact go_sub (mm_subc rfl (mm_subc rfl mm_sub0)) (KX _ _ rfl)
    · rw [if_neg c27] at hF
      refine g_icmpF (q := 52) rfl (decide_eq_false c27) rfl ?_
      refine g_iconst (q := 53) rfl rfl ?_
      refine g_istore (q := 55) rfl rfl ?_
      refine go_sub (lo' := mm_lf [(0, .inr (.inl (some 55))), (2, .inl x2), (3, .inl x3), (4, .inl (I 0))]) (mm_subc rfl (mm_subc rfl (mm_subc rfl (mm_subc rfl mm_sub0)))) ?_
      obtain ⟨⟨y25, h26⟩, hC, hF⟩ := bd_I hF
      dsimp only at hF
      refine A_L_M_layPath_55 5000 _ _ _ _ hC trivial ?_
      intro _ _ e2
      cases e2
      refine g_iinc (q := 143) rfl rfl rfl ?_
      refine g_goto rfl ?_
      refine go_sub (lo' := mm_lf [(0, .inr (.inl (some 55))), (2, .inl y25), (3, .inl (x3 + I 1))]) (mm_subc rfl (mm_subc rfl (mm_subc rfl mm_sub0))) ?_
      exact ih _ _ _ _ hF KR KX
theorem A_L_M_layPath_37 {r : MRs} : ∀ (n : Nat) (x2 : Int32) (h : MH) (x : MH), L_M_layPath_37 n x2 h = some x → (True) → (∀ (h' : MH), x = (h') → Go 2 233 149 (mm_lf []) [] h' r) → Go 2 233 37 (mm_lf [(0, .inr (.inl (some 55))), (2, .inl x2)]) [] h r
  | 0, _, _, _, hF, _, _ => by cases hF
  | n + 1, x2, h, x, hF, KR, KX => by
    have ih := fun a2 => A_L_M_layPath_37 (r := r) n a2 
    unfold L_M_layPath_37 at hF
    refine g_iload_n (q := 38) rfl rfl rfl ?_
    by_cases c30 : x2 = 0
    · rw [if_pos c30] at hF
      refine g_ifT rfl (decide_eq_true c30) ?_
      injection hF with hF
      subst hF
      exact go_sub mm_sub0 (KX  _ rfl)
    · rw [if_neg c30] at hF
      refine g_ifF (q := 41) rfl (decide_eq_false c30) rfl ?_
      refine g_iconst (q := 42) rfl rfl ?_
      refine g_istore_n (q := 43) rfl rfl ?_
      refine g_iconst (q := 44) rfl rfl ?_
      refine g_istore_n (q := 45) rfl rfl ?_
      refine go_sub (lo' := mm_lf [(0, .inr (.inl (some 55))), (2, .inl (I 0)), (3, .inl (I 0))]) (mm_subc rfl (mm_subc rfl (mm_subc rfl mm_sub0))) ?_
      obtain ⟨⟨y28, h29⟩, hC, hF⟩ := bd_I hF
      dsimp only at hF
      refine A_L_M_layPath_45 5000 _ _ _ _ hC trivial ?_
      intro _ _ e2
      cases e2
      refine g_goto rfl ?_
      refine go_sub (lo' := mm_lf [(0, .inr (.inl (some 55))), (2, .inl y28)]) (mm_subc rfl (mm_subc rfl mm_sub0)) ?_
      exact ih _ _ _ hF KR KX
theorem A_M_layPath {h h' : MH} (hF : F_M_layPath h = some h') : Ex 3 233 [.inr (.inl (some 55))] h (none, h') := by
  unfold F_M_layPath at hF
  refine ex_of (d := 2) rfl rfl ?_
  refine g_bipush (q := 2) rfl (by decide +kernel) rfl ?_
  refine g_istore_n (q := 3) rfl rfl ?_
  refine g_iconst (q := 4) rfl rfl ?_
  refine g_istore_n (q := 5) rfl rfl ?_
  refine go_sub (lo' := mm_lf [(0, .inr (.inl (some 55))), (1, .inl (I 27)), (2, .inl (I 0))]) (mm_subc rfl (mm_subc rfl (mm_subc rfl mm_sub0))) ?_
  obtain ⟨h6, hC, hF⟩ := bd_I hF
  refine A_L_M_layPath_5 5000 _ _ _ hC trivial ?_
  intro _ e2
  cases e2
  refine g_iconst (q := 36) rfl rfl ?_
  refine g_istore_n (q := 37) rfl rfl ?_
  refine go_sub (lo' := mm_lf [(0, .inr (.inl (some 55))), (2, .inl (I 1))]) (mm_subc rfl (mm_subc rfl mm_sub0)) ?_
  obtain ⟨h31, hC, hF⟩ := bd_I hF
  refine A_L_M_layPath_37 5000 _ _ _ hC trivial ?_
  intro _ e2
  cases e2
  injection hF with hF
  subst hF
  exact g_vret rfl
def L_M_right_68 (x1 : Int32) (x2 : Int32) (x3 : Int32) (x5 : Int32) : Nat → Int32 → Int32 → Int32 → MH → Option (Int32 × Int32 × MH)
  | 0, _, _, _, _ => none
  | n + 1, x4, x6, x7, h => if x7 < 0 then some (x4, x6, h) else bd (F_M_thinkCode x2 h) (fun h6 => bd (F_M_turnNow x7 h6) (fun h7 => bd (F_M_codeNow h7) (fun (r9, h8) => ck (mm_in r9 512) (ck (mm_in x2 512) (iw (if ¬ (h8.1 76 (Int32.toNatClampNeg r9)) = ((h8.1 76 (Int32.toNatClampNeg x2)) - (I 1)) then I 0 else I 1) (fun v10 => iw (if v10 = 0 then x4 else x7) (fun v12 => if v10 = 0 then L_M_right_68 x1 x2 x3 x5 n v12 x6 (x7 + I (-1)) h8 else bd (F_M_codeNow h8) (fun (r15, h14) => L_M_right_68 x1 x2 x3 x5 n v12 r15 (x7 + I (-1)) h14))))))))
def L_M_right_50 (x1 : Int32) (x3 : Int32) : Nat → Int32 → Int32 → Int32 → MH → Option (Int32 × MH)
  | 0, _, _, _, _ => none
  | n + 1, x2, x4, x5, h => if x1 < x5 then some (x4, h) else if x3 ≤ x5 then some (x4, h) else bd (L_M_right_68 x1 x2 x3 x5 5000 x4 (I (-1)) (I 3) h) (fun (y20, y21, h22) => L_M_right_50 x1 x3 n y21 y20 (x5 + I 1) h22)
/-- BothCornersModel.right(I)I -/
def F_M_right (x1 : Int32) (h : MH) : Option (Int32 × MH) := hw (mm_hset h.1 55 10 (I 0), h.2) (fun h1 => if (I (-1)) ≤ x1 then bd (F_M_layPath h1) (fun h2 => bd (F_M_think h2) (fun h3 => bd (F_M_codeNow h3) (fun (r5, h4) => ck (mm_in r5 512) (if 0 ≤ x1 then bd (L_M_right_50 x1 (h4.1 76 (Int32.toNatClampNeg r5)) 5000 r5 (I (-9)) (I 0) h4) (fun (y25, h26) => iw (if (h4.1 76 (Int32.toNatClampNeg r5)) ≤ x1 then I (-9) else y25) (fun v27 => some (v27, h26))) else some (h4.1 76 (Int32.toNatClampNeg r5), h4))))) else bd (F_M_refuse (I (-4)) h1) (fun (r32, h31) => some (r32, h31)))
theorem A_L_M_right_68 {x1 : Int32} {x2 : Int32} {x3 : Int32} {x5 : Int32} {r : MRs} : ∀ (n : Nat) (x4 : Int32) (x6 : Int32) (x7 : Int32) (h : MH) (x : Int32 × Int32 × MH), L_M_right_68 x1 x2 x3 x5 n x4 x6 x7 h = some x → (True) → (∀ (e4 : Int32) (e6 : Int32) (h' : MH), x = (e4, e6, h') → Go 3 234 147 (mm_lf [(0, .inr (.inl (some 55))), (1, .inl x1), (3, .inl x3), (4, .inl e4), (5, .inl x5), (6, .inl e6)]) [] h' r) → Go 3 234 68 (mm_lf [(0, .inr (.inl (some 55))), (1, .inl x1), (2, .inl x2), (3, .inl x3), (4, .inl x4), (5, .inl x5), (6, .inl x6), (7, .inl x7)]) [] h r
  | 0, _, _, _, _, _, hF, _, _ => by cases hF
  | n + 1, x4, x6, x7, h, x, hF, KR, KX => by
    have ih := fun a4 a6 a7 => A_L_M_right_68 (x1 := x1) (x2 := x2) (x3 := x3) (x5 := x5) (r := r) n a4 a6 a7 
    unfold L_M_right_68 at hF
    refine g_iload (q := 70) rfl rfl rfl ?_
    by_cases c19 : x7 < 0
    · rw [if_pos c19] at hF
      refine g_ifT rfl (decide_eq_true c19) ?_
      injection hF with hF
      subst hF
      exact go_sub (mm_subc rfl (mm_subc rfl (mm_subc rfl (mm_subc rfl (mm_subc rfl (mm_subc rfl mm_sub0)))))) (KX _ _ _ rfl)
    · rw [if_neg c19] at hF
      refine g_ifF (q := 73) rfl (decide_eq_false c19) rfl ?_
      refine g_aload_n (q := 74) rfl rfl rfl ?_
      refine g_iload_n (q := 75) rfl rfl rfl ?_
      obtain ⟨h6, hC, hF⟩ := bd_I hF
      refine g_cv2 (q := 78) rfl rfl (fun _ => rfl) rfl (A_M_thinkCode hC) (by decide +kernel) rfl ?_
      refine g_aload_n (q := 79) rfl rfl rfl ?_
      refine g_iload (q := 81) rfl rfl rfl ?_
      obtain ⟨h7, hC, hF⟩ := bd_I hF
      refine g_cv2 (q := 84) rfl rfl (fun _ => rfl) rfl (A_M_turnNow hC) (by decide +kernel) rfl ?_
      refine g_aload_n (q := 85) rfl rfl rfl ?_
      refine g_getR (q := 88) rfl (fun _ => rfl) rfl ?_
      refine g_aload_n (q := 89) rfl rfl rfl ?_
      obtain ⟨⟨r9, h8⟩, hC, hF⟩ := bd_I hF
      dsimp only at hF
      refine g_ci1 (q := 92) rfl rfl (fun _ => rfl) rfl (A_M_codeNow hC) (by decide +kernel) rfl ?_
      obtain ⟨hi, hF⟩ := ck_I hF
      refine g_iaload (q := 93) rfl rfl rfl hi rfl ?_
      refine g_aload_n (q := 94) rfl rfl rfl ?_
      refine g_getR (q := 97) rfl (fun _ => rfl) rfl ?_
      refine g_iload_n (q := 98) rfl rfl rfl ?_
      obtain ⟨hi, hF⟩ := ck_I hF
      refine g_iaload (q := 99) rfl rfl rfl hi rfl ?_
      refine g_iconst (q := 100) rfl rfl ?_
      refine g_isub (q := 101) rfl rfl ?_
      obtain ⟨v10, e_v10, hF⟩ := iw_I hF
      suffices K11 : Go 3 234 109 (mm_lf [(0, .inr (.inl (some 55))), (1, .inl x1), (2, .inl x2), (3, .inl x3), (4, .inl x4), (5, .inl x5), (6, .inl x6), (7, .inl x7)]) [.inl v10] h8 r by
        clear hF
        by_cases c18 : ¬ (h8.1 76 (Int32.toNatClampNeg r9)) = ((h8.1 76 (Int32.toNatClampNeg x2)) - (I 1))
        · simp only [if_pos c18] at e_v10
          subst e_v10
          refine g_icmpT rfl (decide_eq_true c18) ?_
          refine g_iconst (q := 109) rfl rfl ?_
          exact go_sub (mm_subc rfl (mm_subc rfl (mm_subc rfl (mm_subc rfl (mm_subc rfl (mm_subc rfl (mm_subc rfl (mm_subc rfl mm_sub0)))))))) K11
        · simp only [if_neg c18] at e_v10
          subst e_v10
          refine g_icmpF (q := 104) rfl (decide_eq_false c18) rfl ?_
          refine g_iconst (q := 105) rfl rfl ?_
          refine g_goto rfl ?_
          exact go_sub (mm_subc rfl (mm_subc rfl (mm_subc rfl (mm_subc rfl (mm_subc rfl (mm_subc rfl (mm_subc rfl (mm_subc rfl mm_sub0)))))))) K11
      clear e_v10
      refine g_istore (q := 111) rfl rfl ?_
      refine g_iload (q := 113) rfl rfl rfl ?_
      obtain ⟨v12, e_v12, hF⟩ := iw_I hF
      suffices K13 : Go 3 234 123 (mm_lf [(0, .inr (.inl (some 55))), (1, .inl x1), (2, .inl x2), (3, .inl x3), (5, .inl x5), (6, .inl x6), (7, .inl x7), (8, .inl v10)]) [.inl v12] h8 r by
        clear hF
        by_cases c17 : v10 = 0
        · simp only [if_pos c17] at e_v12
          subst e_v12
          refine g_ifT rfl (decide_eq_true c17) ?_
          refine g_iload (q := 123) rfl rfl rfl ?_
          exact go_sub (mm_subc rfl (mm_subc rfl (mm_subc rfl (mm_subc rfl (mm_subc rfl (mm_subc rfl (mm_subc rfl (mm_subc rfl mm_sub0)))))))) K13
        · simp only [if_neg c17] at e_v12
          subst e_v12
          refine g_ifF (q := 116) rfl (decide_eq_false c17) rfl ?_
          refine g_iload (q := 118) rfl rfl rfl ?_
          refine g_goto rfl ?_
          exact go_sub (mm_subc rfl (mm_subc rfl (mm_subc rfl (mm_subc rfl (mm_subc rfl (mm_subc rfl (mm_subc rfl (mm_subc rfl mm_sub0)))))))) K13
      clear e_v12
      refine g_istore (q := 125) rfl rfl ?_
      refine g_iload (q := 127) rfl rfl rfl ?_
      by_cases c16 : v10 = 0
      · rw [if_pos c16] at hF
        refine g_ifT rfl (decide_eq_true c16) ?_
        refine g_iload (q := 139) rfl rfl rfl ?_
        refine g_istore (q := 141) rfl rfl ?_
        refine g_iinc (q := 144) rfl rfl rfl ?_
        refine g_goto rfl ?_
        refine go_sub (lo' := mm_lf [(0, .inr (.inl (some 55))), (1, .inl x1), (2, .inl x2), (3, .inl x3), (4, .inl v12), (5, .inl x5), (6, .inl x6), (7, .inl (x7 + I (-1)))]) (mm_subc rfl (mm_subc rfl (mm_subc rfl (mm_subc rfl (mm_subc rfl (mm_subc rfl (mm_subc rfl (mm_subc rfl mm_sub0)))))))) ?_
        exact ih _ _ _ _ _ hF KR KX
      · rw [if_neg c16] at hF
        refine g_ifF (q := 130) rfl (decide_eq_false c16) rfl ?_
        refine g_aload_n (q := 131) rfl rfl rfl ?_
        obtain ⟨⟨r15, h14⟩, hC, hF⟩ := bd_I hF
        dsimp only at hF
        refine g_ci1 (q := 134) rfl rfl (fun _ => rfl) rfl (A_M_codeNow hC) (by decide +kernel) rfl ?_
        refine g_goto rfl ?_
        refine g_istore (q := 141) rfl rfl ?_
        refine g_iinc (q := 144) rfl rfl rfl ?_
        refine g_goto rfl ?_
        refine go_sub (lo' := mm_lf [(0, .inr (.inl (some 55))), (1, .inl x1), (2, .inl x2), (3, .inl x3), (4, .inl v12), (5, .inl x5), (6, .inl r15), (7, .inl (x7 + I (-1)))]) (mm_subc rfl (mm_subc rfl (mm_subc rfl (mm_subc rfl (mm_subc rfl (mm_subc rfl (mm_subc rfl (mm_subc rfl mm_sub0)))))))) ?_
        exact ih _ _ _ _ _ hF KR KX
theorem A_L_M_right_50 {x1 : Int32} {x3 : Int32} {r : MRs} : ∀ (n : Nat) (x2 : Int32) (x4 : Int32) (x5 : Int32) (h : MH) (x : Int32 × MH), L_M_right_50 x1 x3 n x2 x4 x5 h = some x → (True) → (∀ (e4 : Int32) (h' : MH), x = (e4, h') → Go 3 234 156 (mm_lf [(1, .inl x1), (3, .inl x3), (4, .inl e4)]) [] h' r) → Go 3 234 50 (mm_lf [(0, .inr (.inl (some 55))), (1, .inl x1), (2, .inl x2), (3, .inl x3), (4, .inl x4), (5, .inl x5)]) [] h r
  | 0, _, _, _, _, _, hF, _, _ => by cases hF
  | n + 1, x2, x4, x5, h, x, hF, KR, KX => by
    have ih := fun a2 a4 a5 => A_L_M_right_50 (x1 := x1) (x3 := x3) (r := r) n a2 a4 a5 
    unfold L_M_right_50 at hF
    refine g_iload (q := 52) rfl rfl rfl ?_
    refine g_iload_n (q := 53) rfl rfl rfl ?_
    by_cases c24 : x1 < x5
    · rw [if_pos c24] at hF
      refine g_icmpT rfl (decide_eq_true c24) ?_
      injection hF with hF
      subst hF
      exact go_sub (mm_subc rfl (mm_subc rfl (mm_subc rfl mm_sub0))) (KX _ _ rfl)
    · rw [if_neg c24] at hF
      refine g_icmpF (q := 56) rfl (decide_eq_false c24) rfl ?_
      refine g_iload (q := 58) rfl rfl rfl ?_
      refine g_iload_n (q := 59) rfl rfl rfl ?_
      by_cases c23 : x3 ≤ x5
      · rw [if_pos c23] at hF
        refine g_icmpT rfl (decide_eq_true c23) ?_
        injection hF with hF
        subst hF
        exact go_sub (mm_subc rfl (mm_subc rfl (mm_subc rfl mm_sub0))) (KX _ _ rfl)
      · rw [if_neg c23] at hF
        refine g_icmpF (q := 62) rfl (decide_eq_false c23) rfl ?_
        refine g_iconst (q := 63) rfl rfl ?_
        refine g_istore (q := 65) rfl rfl ?_
        refine g_iconst (q := 66) rfl rfl ?_
        refine g_istore (q := 68) rfl rfl ?_
        refine go_sub (lo' := mm_lf [(0, .inr (.inl (some 55))), (1, .inl x1), (2, .inl x2), (3, .inl x3), (4, .inl x4), (5, .inl x5), (6, .inl (I (-1))), (7, .inl (I 3))]) (mm_subc rfl (mm_subc rfl (mm_subc rfl (mm_subc rfl (mm_subc rfl (mm_subc rfl (mm_subc rfl (mm_subc rfl mm_sub0)))))))) ?_
        obtain ⟨⟨y20, y21, h22⟩, hC, hF⟩ := bd_I hF
        dsimp only at hF
        refine A_L_M_right_68 5000 _ _ _ _ _ hC trivial ?_
        intro _ _ _ e2
        cases e2
        refine g_iload (q := 149) rfl rfl rfl ?_
        refine g_istore_n (q := 150) rfl rfl ?_
        refine g_iinc (q := 153) rfl rfl rfl ?_
        refine g_goto rfl ?_
        refine go_sub (lo' := mm_lf [(0, .inr (.inl (some 55))), (1, .inl x1), (2, .inl y21), (3, .inl x3), (4, .inl y20), (5, .inl (x5 + I 1))]) (mm_subc rfl (mm_subc rfl (mm_subc rfl (mm_subc rfl (mm_subc rfl (mm_subc rfl mm_sub0)))))) ?_
        exact ih _ _ _ _ _ hF KR KX
theorem A_M_right {x1 : Int32} {h h' : MH} {v : Int32} (hF : F_M_right x1 h = some (v, h')) : Ex 4 234 [.inr (.inl (some 55)), .inl x1] h (some (.inl v), h') := by
  unfold F_M_right at hF
  refine ex_of (d := 3) rfl rfl ?_
  refine g_aload_n (q := 1) rfl rfl rfl ?_
  refine g_iconst (q := 2) rfl rfl ?_
  refine g_putI (q := 5) rfl (fun _ => rfl) rfl ?_
  obtain ⟨h1, e_h1, hF⟩ := hw_I hF
  rw [← e_h1]
  refine g_iload_n (q := 6) rfl rfl rfl ?_
  refine g_iconst (q := 7) rfl rfl ?_
  by_cases c33 : (I (-1)) ≤ x1
  · rw [if_pos c33] at hF
    refine g_icmpT rfl (decide_eq_true c33) ?_
    refine g_aload_n (q := 18) rfl rfl rfl ?_
    obtain ⟨h2, hC, hF⟩ := bd_I hF
    refine g_cv1 (q := 21) rfl rfl (fun _ => rfl) rfl (A_M_layPath hC) (by decide +kernel) rfl ?_
    refine g_aload_n (q := 22) rfl rfl rfl ?_
    obtain ⟨h3, hC, hF⟩ := bd_I hF
    refine g_cv1 (q := 25) rfl rfl (fun _ => rfl) rfl (A_M_think hC) (by decide +kernel) rfl ?_
    refine g_aload_n (q := 26) rfl rfl rfl ?_
    obtain ⟨⟨r5, h4⟩, hC, hF⟩ := bd_I hF
    dsimp only at hF
    refine g_ci1 (q := 29) rfl rfl (fun _ => rfl) rfl (A_M_codeNow hC) (by decide +kernel) rfl ?_
    refine g_istore_n (q := 30) rfl rfl ?_
    refine g_aload_n (q := 31) rfl rfl rfl ?_
    refine g_getR (q := 34) rfl (fun _ => rfl) rfl ?_
    refine g_iload_n (q := 35) rfl rfl rfl ?_
    obtain ⟨hi, hF⟩ := ck_I hF
    refine g_iaload (q := 36) rfl rfl rfl hi rfl ?_
    refine g_istore_n (q := 37) rfl rfl ?_
    refine g_iload_n (q := 38) rfl rfl rfl ?_
    by_cases c30 : 0 ≤ x1
    · rw [if_pos c30] at hF
      refine g_ifT rfl (decide_eq_true c30) ?_
      refine g_bipush (q := 45) rfl (by decide +kernel) rfl ?_
      refine g_istore (q := 47) rfl rfl ?_
      refine g_iconst (q := 48) rfl rfl ?_
      refine g_istore (q := 50) rfl rfl ?_
      refine go_sub (lo' := mm_lf [(0, .inr (.inl (some 55))), (1, .inl x1), (2, .inl r5), (3, .inl (h4.1 76 (Int32.toNatClampNeg r5))), (4, .inl (I (-9))), (5, .inl (I 0))]) (mm_subc rfl (mm_subc rfl (mm_subc rfl (mm_subc rfl (mm_subc rfl (mm_subc rfl mm_sub0)))))) ?_
      obtain ⟨⟨y25, h26⟩, hC, hF⟩ := bd_I hF
      dsimp only at hF
      refine A_L_M_right_50 5000 _ _ _ _ _ hC trivial ?_
      intro _ _ e2
      cases e2
      refine g_iload_n (q := 157) rfl rfl rfl ?_
      refine g_iload_n (q := 158) rfl rfl rfl ?_
      obtain ⟨v27, e_v27, hF⟩ := iw_I hF
      suffices K28 : Go 3 234 168 (mm_lf []) [.inl v27] h26 (some (.inl v), h') by
        clear hF
        by_cases c29 : (h4.1 76 (Int32.toNatClampNeg r5)) ≤ x1
        · simp only [if_pos c29] at e_v27
          subst e_v27
          refine g_icmpT rfl (decide_eq_true c29) ?_
          refine g_bipush (q := 168) rfl (by decide +kernel) rfl ?_
          exact go_sub mm_sub0 K28
        · simp only [if_neg c29] at e_v27
          subst e_v27
          refine g_icmpF (q := 161) rfl (decide_eq_false c29) rfl ?_
          refine g_iload (q := 163) rfl rfl rfl ?_
          refine g_goto rfl ?_
          exact go_sub mm_sub0 K28
      clear e_v27
      injection hF with hF
      injection hF with hv hh
      subst hv
      subst hh
      exact g_iret rfl
    · rw [if_neg c30] at hF
      refine g_ifF (q := 41) rfl (decide_eq_false c30) rfl ?_
      refine g_iload_n (q := 42) rfl rfl rfl ?_
      injection hF with hF
      injection hF with hv hh
      subst hv
      subst hh
      exact g_iret rfl
  · rw [if_neg c33] at hF
    refine g_icmpF (q := 10) rfl (decide_eq_false c33) rfl ?_
    refine g_aload_n (q := 11) rfl rfl rfl ?_
    refine g_bipush (q := 13) rfl (by decide +kernel) rfl ?_
    obtain ⟨⟨r32, h31⟩, hC, hF⟩ := bd_I hF
    dsimp only at hF
    refine g_ci2 (q := 16) rfl rfl (fun _ => rfl) rfl (A_M_refuse hC) (by decide +kernel) rfl ?_
    injection hF with hF
    injection hF with hv hh
    subst hv
    subst hh
    exact g_iret rfl
