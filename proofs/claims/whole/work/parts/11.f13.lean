-- decompiled by wip/whole/dec.py: what a method does (F_), and that the mini machine does it (A_)
def L_M_keepTurn_61 : Nat → Int32 → MH → Option (MH)
  | 0, _, _ => none
  | n + 1, x1, h => if (I 52) ≤ x1 then some (h) else ck (mm_in x1 52) (ck (mm_in (((I 52) * (h.1 55 30)) + x1) 416) (hw (mm_hset h.1 70 (Int32.toNatClampNeg (((I 52) * (h.1 55 30)) + x1)) (h.1 71 (Int32.toNatClampNeg x1)), h.2) (fun h4 => L_M_keepTurn_61 n (x1 + I 1) h4)))
def L_M_keepTurn_12 : Nat → Int32 → MH → Option (MH)
  | 0, _, _ => none
  | n + 1, x1, h => if (I 416) ≤ x1 then some (h) else ck (mm_in x1 416) (ck (mm_in (x1 - (I 52)) 416) (hw (mm_hset h.1 70 (Int32.toNatClampNeg (x1 - (I 52))) (h.1 70 (Int32.toNatClampNeg x1)), h.2) (fun h9 => L_M_keepTurn_12 n (x1 + I 1) h9)))
/-- BothCornersModel.keepTurn()V -/
def F_M_keepTurn (h : MH) : Option (MH) := kw (fun  (h1 : MH) => bd (F_M_carryAll_2 (I 1) h1) (fun h3 => bd (L_M_keepTurn_61 5000 (I 0) h3) (fun h6 => hw (mm_hset h6.1 55 30 ((h6.1 55 30) + (I 1)), h6.2) (fun h7 => some h7)))) (fun k2 => if ¬ (h.1 55 30) = (I 8) then k2 h else bd (L_M_keepTurn_12 5000 (I 52) h) (fun h11 => hw (mm_hset h11.1 55 30 ((h11.1 55 30) - (I 1)), h11.2) (fun h12 => k2 h12)))
theorem A_L_M_keepTurn_61 {r : MRs} : ∀ (n : Nat) (x1 : Int32) (h : MH) (x : MH), L_M_keepTurn_61 n x1 h = some x → (True) → (∀ (h' : MH), x = (h') → Go 2 196 93 (mm_lf [(0, .inr (.inl (some 55)))]) [] h' r) → Go 2 196 61 (mm_lf [(0, .inr (.inl (some 55))), (1, .inl x1)]) [] h r
  | 0, _, _, _, hF, _, _ => by cases hF
  | n + 1, x1, h, x, hF, KR, KX => by
    have ih := fun a1 => A_L_M_keepTurn_61 (r := r) n a1 
    unfold L_M_keepTurn_61 at hF
    refine g_iload_n (q := 62) rfl rfl rfl ?_
    refine g_bipush (q := 64) rfl (by decide +kernel) rfl ?_
    by_cases c5 : (I 52) ≤ x1
    · rw [if_pos c5] at hF
      refine g_icmpT rfl (decide_eq_true c5) ?_
      injection hF with hF
      subst hF
      exact go_sub (mm_subc rfl mm_sub0) (KX  _ rfl)
    · rw [if_neg c5] at hF
      refine g_icmpF (q := 67) rfl (decide_eq_false c5) rfl ?_
      refine g_aload_n (q := 68) rfl rfl rfl ?_
      refine g_getR (q := 71) rfl (fun _ => rfl) rfl ?_
      refine g_bipush (q := 73) rfl (by decide +kernel) rfl ?_
      refine g_aload_n (q := 74) rfl rfl rfl ?_
      refine g_getI (q := 77) rfl (fun _ => rfl) rfl ?_
      refine g_imul (q := 78) rfl rfl ?_
      refine g_iload_n (q := 79) rfl rfl rfl ?_
      refine g_iadd (q := 80) rfl rfl ?_
      refine g_aload_n (q := 81) rfl rfl rfl ?_
      refine g_getR (q := 84) rfl (fun _ => rfl) rfl ?_
      refine g_iload_n (q := 85) rfl rfl rfl ?_
      obtain ⟨hi, hF⟩ := ck_I hF
      refine g_iaload (q := 86) rfl rfl rfl hi rfl ?_
      obtain ⟨hi, hF⟩ := ck_I hF
      refine g_iastore (q := 87) rfl rfl rfl hi rfl ?_
      obtain ⟨h4, e_h4, hF⟩ := hw_I hF
      rw [← e_h4]
      refine g_iinc (q := 90) rfl rfl rfl ?_
      refine g_goto rfl ?_
      refine go_sub (lo' := mm_lf [(0, .inr (.inl (some 55))), (1, .inl (x1 + I 1))]) (mm_subc rfl (mm_subc rfl mm_sub0)) ?_
      exact ih _ _ _ hF KR KX
theorem A_L_M_keepTurn_12 {r : MRs} : ∀ (n : Nat) (x1 : Int32) (h : MH) (x : MH), L_M_keepTurn_12 n x1 h = some x → (True) → (∀ (h' : MH), x = (h') → Go 2 196 40 (mm_lf [(0, .inr (.inl (some 55)))]) [] h' r) → Go 2 196 12 (mm_lf [(0, .inr (.inl (some 55))), (1, .inl x1)]) [] h r
  | 0, _, _, _, hF, _, _ => by cases hF
  | n + 1, x1, h, x, hF, KR, KX => by
    have ih := fun a1 => A_L_M_keepTurn_12 (r := r) n a1 
    unfold L_M_keepTurn_12 at hF
    refine g_iload_n (q := 13) rfl rfl rfl ?_
    refine g_sipush (q := 16) rfl (by decide +kernel) rfl ?_
    by_cases c10 : (I 416) ≤ x1
    · rw [if_pos c10] at hF
      refine g_icmpT rfl (decide_eq_true c10) ?_
      injection hF with hF
      subst hF
      exact go_sub (mm_subc rfl mm_sub0) (KX  _ rfl)
    · rw [if_neg c10] at hF
      refine g_icmpF (q := 19) rfl (decide_eq_false c10) rfl ?_
      refine g_aload_n (q := 20) rfl rfl rfl ?_
      refine g_getR (q := 23) rfl (fun _ => rfl) rfl ?_
      refine g_iload_n (q := 24) rfl rfl rfl ?_
      refine g_bipush (q := 26) rfl (by decide +kernel) rfl ?_
      refine g_isub (q := 27) rfl rfl ?_
      refine g_aload_n (q := 28) rfl rfl rfl ?_
      refine g_getR (q := 31) rfl (fun _ => rfl) rfl ?_
      refine g_iload_n (q := 32) rfl rfl rfl ?_
      obtain ⟨hi, hF⟩ := ck_I hF
      refine g_iaload (q := 33) rfl rfl rfl hi rfl ?_
      obtain ⟨hi, hF⟩ := ck_I hF
      refine g_iastore (q := 34) rfl rfl rfl hi rfl ?_
      obtain ⟨h9, e_h9, hF⟩ := hw_I hF
      rw [← e_h9]
      refine g_iinc (q := 37) rfl rfl rfl ?_
      refine g_goto rfl ?_
      refine go_sub (lo' := mm_lf [(0, .inr (.inl (some 55))), (1, .inl (x1 + I 1))]) (mm_subc rfl (mm_subc rfl mm_sub0)) ?_
      exact ih _ _ _ hF KR KX
theorem A_M_keepTurn {h h' : MH} (hF : F_M_keepTurn h = some h') : Ex 3 196 [.inr (.inl (some 55))] h (none, h') := by
  unfold F_M_keepTurn at hF
  refine ex_of (d := 2) rfl rfl ?_
  refine g_aload_n (q := 1) rfl rfl rfl ?_
  refine g_getI (q := 4) rfl (fun _ => rfl) rfl ?_
  refine g_bipush (q := 6) rfl (by decide +kernel) rfl ?_
  obtain ⟨k2, e_k2, hF⟩ := kw_I hF
  have K8 : ∀  (h1 : MH), k2 h1 = some h' → Go 2 196 50 (mm_lf [(0, .inr (.inl (some 55)))]) [] h1 (none, h') := by
    intro h1 hF
    rw [e_k2] at hF
    dsimp only at hF
    refine g_aload_n (q := 51) rfl rfl rfl ?_
    refine g_aload_n (q := 52) rfl rfl rfl ?_
    refine g_getR (q := 55) rfl (fun _ => rfl) rfl ?_
    refine g_iconst (q := 56) rfl rfl ?_
    obtain ⟨h3, hC, hF⟩ := bd_I hF
    refine g_cv3 (q := 59) rfl rfl (fun _ => rfl) rfl (A_M_carryAll_2 hC) (by decide +kernel) rfl ?_
    refine g_iconst (q := 60) rfl rfl ?_
    refine g_istore_n (q := 61) rfl rfl ?_
    refine go_sub (lo' := mm_lf [(0, .inr (.inl (some 55))), (1, .inl (I 0))]) (mm_subc rfl (mm_subc rfl mm_sub0)) ?_
    obtain ⟨h6, hC, hF⟩ := bd_I hF
    refine A_L_M_keepTurn_61 5000 _ _ _ hC trivial ?_
    intro _ e2
    cases e2
    refine g_aload_n (q := 94) rfl rfl rfl ?_
    refine g_dup (q := 95) rfl rfl rfl ?_
    refine g_getI (q := 98) rfl (fun _ => rfl) rfl ?_
    refine g_iconst (q := 99) rfl rfl ?_
    refine g_iadd (q := 100) rfl rfl ?_
    refine g_putI (q := 103) rfl (fun _ => rfl) rfl ?_
    obtain ⟨h7, e_h7, hF⟩ := hw_I hF
    rw [← e_h7]
    injection hF with hF
    subst hF
    exact g_vret rfl
  clear e_k2
  by_cases c13 : ¬ (h.1 55 30) = (I 8)
  · rw [if_pos c13] at hF
    refine g_icmpT rfl (decide_eq_true c13) ?_
    exact go_sub (mm_subc rfl mm_sub0) (K8 _ hF)
  · rw [if_neg c13] at hF
    refine g_icmpF (q := 9) rfl (decide_eq_false c13) rfl ?_
    refine g_bipush (q := 11) rfl (by decide +kernel) rfl ?_
    refine g_istore_n (q := 12) rfl rfl ?_
    refine go_sub (lo' := mm_lf [(0, .inr (.inl (some 55))), (1, .inl (I 52))]) (mm_subc rfl (mm_subc rfl mm_sub0)) ?_
    obtain ⟨h11, hC, hF⟩ := bd_I hF
    refine A_L_M_keepTurn_12 5000 _ _ _ hC trivial ?_
    intro _ e2
    cases e2
    refine g_aload_n (q := 41) rfl rfl rfl ?_
    refine g_dup (q := 42) rfl rfl rfl ?_
    refine g_getI (q := 45) rfl (fun _ => rfl) rfl ?_
    refine g_iconst (q := 46) rfl rfl ?_
    refine g_isub (q := 47) rfl rfl ?_
    refine g_putI (q := 50) rfl (fun _ => rfl) rfl ?_
    obtain ⟨h12, e_h12, hF⟩ := hw_I hF
    rw [← e_h12]
    exact go_sub (mm_subc rfl mm_sub0) (K8 _ hF)
/-- BothCornersModel.wrongNumber(III)I -/
def F_M_wrongNumber (x0 : Int32) (x1 : Int32) (x2 : Int32) (h : MH) : Option (Int32 × MH) := iw (if x1 ≤ x0 then (if x0 ≤ x2 then I 0 else I (-6)) else I (-4)) (fun v1 => some (v1, h))
theorem A_M_wrongNumber {x0 : Int32} {x1 : Int32} {x2 : Int32} {h h' : MH} {v : Int32} (hF : F_M_wrongNumber x0 x1 x2 h = some (v, h')) : Ex 1 158 [.inl x0, .inl x1, .inl x2] h (some (.inl v), h') := by
  unfold F_M_wrongNumber at hF
  refine ex_of (d := 0) rfl rfl ?_
  refine g_iload_n (q := 1) rfl rfl rfl ?_
  refine g_iload_n (q := 2) rfl rfl rfl ?_
  obtain ⟨v1, e_v1, hF⟩ := iw_I hF
  suffices K2 : Go 0 158 21 (mm_lf []) [.inl v1] h (some (.inl v), h') by
    clear hF
    by_cases c3 : x1 ≤ x0
    · simp only [if_pos c3] at e_v1
      refine g_icmpT rfl (decide_eq_true c3) ?_
      refine g_iload_n (q := 11) rfl rfl rfl ?_
      refine g_iload_n (q := 12) rfl rfl rfl ?_
      by_cases c4 : x0 ≤ x2
      · simp only [if_pos c4] at e_v1
        subst e_v1
        refine g_icmpT rfl (decide_eq_true c4) ?_
        refine g_iconst (q := 21) rfl rfl ?_
        exact go_sub mm_sub0 K2
      · simp only [if_neg c4] at e_v1
        subst e_v1
        refine g_icmpF (q := 15) rfl (decide_eq_false c4) rfl ?_
        refine g_bipush (q := 17) rfl (by decide +kernel) rfl ?_
        refine g_goto rfl ?_
        exact go_sub mm_sub0 K2
    · simp only [if_neg c3] at e_v1
      subst e_v1
      refine g_icmpF (q := 5) rfl (decide_eq_false c3) rfl ?_
      refine g_bipush (q := 7) rfl (by decide +kernel) rfl ?_
      refine g_goto rfl ?_
      exact go_sub mm_sub0 K2
  clear e_v1
  injection hF with hF
  injection hF with hv hh
  subst hv
  subst hh
  exact g_iret rfl
/-- BothCornersModel.skill(II)I -/
def F_M_skill (x1 : Int32) (x2 : Int32) (h : MH) : Option (Int32 × MH) := hw (mm_hset h.1 55 10 (I 0), h.2) (fun h1 => bd (F_M_isOne x1 h1) (fun (r3, h2) => kw (fun (z4 : Int32) (h5 : MH) => if 0 ≤ z4 then bd (F_M_keepTurn h5) (fun h7 => ck (mm_in x1 4) (ck (mm_in x1 4) (hw (mm_hset h7.1 58 (Int32.toNatClampNeg x1) x2, h7.2) (fun h8 => some (h7.1 58 (Int32.toNatClampNeg x1), h8))))) else bd (F_M_refuse z4 h5) (fun (r10, h9) => some (r10, h9))) (fun k6 => if r3 = 0 then k6 (I (-1)) h2 else bd (F_M_wrongNumber x2 (I 0) (I 9) h2) (fun (r14, h13) => k6 r14 h13))))
theorem A_M_skill {x1 : Int32} {x2 : Int32} {h h' : MH} {v : Int32} (hF : F_M_skill x1 x2 h = some (v, h')) : Ex 4 205 [.inr (.inl (some 55)), .inl x1, .inl x2] h (some (.inl v), h') := by
  unfold F_M_skill at hF
  refine ex_of (d := 3) rfl rfl ?_
  refine g_aload_n (q := 1) rfl rfl rfl ?_
  refine g_iconst (q := 2) rfl rfl ?_
  refine g_putI (q := 5) rfl (fun _ => rfl) rfl ?_
  obtain ⟨h1, e_h1, hF⟩ := hw_I hF
  rw [← e_h1]
  refine g_aload_n (q := 6) rfl rfl rfl ?_
  refine g_iload_n (q := 7) rfl rfl rfl ?_
  obtain ⟨⟨r3, h2⟩, hC, hF⟩ := bd_I hF
  dsimp only at hF
  refine g_ci2 (q := 10) rfl rfl (fun _ => rfl) rfl (A_M_isOne hC) (by decide +kernel) rfl ?_
  obtain ⟨k6, e_k6, hF⟩ := kw_I hF
  have K12 : ∀ (z4 : Int32) (h5 : MH), k6 z4 h5 = some (v, h') → Go 3 205 24 (mm_lf [(0, .inr (.inl (some 55))), (1, .inl x1), (2, .inl x2)]) [.inl z4] h5 (some (.inl v), h') := by
    intro z4 h5 hF
    rw [e_k6] at hF
    dsimp only at hF
    refine g_istore_n (q := 25) rfl rfl ?_
    refine g_iload_n (q := 26) rfl rfl rfl ?_
    by_cases c11 : 0 ≤ z4
    · rw [if_pos c11] at hF
      refine g_ifT rfl (decide_eq_true c11) ?_
      refine g_aload_n (q := 36) rfl rfl rfl ?_
      obtain ⟨h7, hC, hF⟩ := bd_I hF
      refine g_cv1 (q := 39) rfl rfl (fun _ => rfl) rfl (A_M_keepTurn hC) (by decide +kernel) rfl ?_
      refine g_aload_n (q := 40) rfl rfl rfl ?_
      refine g_getR (q := 43) rfl (fun _ => rfl) rfl ?_
      refine g_iload_n (q := 44) rfl rfl rfl ?_
      obtain ⟨hi, hF⟩ := ck_I hF
      refine g_iaload (q := 45) rfl rfl rfl hi rfl ?_
      refine g_istore (q := 47) rfl rfl ?_
      refine g_aload_n (q := 48) rfl rfl rfl ?_
      refine g_getR (q := 51) rfl (fun _ => rfl) rfl ?_
      refine g_iload_n (q := 52) rfl rfl rfl ?_
      refine g_iload_n (q := 53) rfl rfl rfl ?_
      obtain ⟨hi, hF⟩ := ck_I hF
      refine g_iastore (q := 54) rfl rfl rfl hi rfl ?_
      obtain ⟨h8, e_h8, hF⟩ := hw_I hF
      rw [← e_h8]
      refine g_iload (q := 56) rfl rfl rfl ?_
      injection hF with hF
      injection hF with hv hh
      subst hv
      subst hh
      exact g_iret rfl
    · rw [if_neg c11] at hF
      refine g_ifF (q := 29) rfl (decide_eq_false c11) rfl ?_
      refine g_aload_n (q := 30) rfl rfl rfl ?_
      refine g_iload_n (q := 31) rfl rfl rfl ?_
      obtain ⟨⟨r10, h9⟩, hC, hF⟩ := bd_I hF
      dsimp only at hF
      refine g_ci2 (q := 34) rfl rfl (fun _ => rfl) rfl (A_M_refuse hC) (by decide +kernel) rfl ?_
      injection hF with hF
      injection hF with hv hh
      subst hv
      subst hh
      exact g_iret rfl
  clear e_k6
  by_cases c15 : r3 = 0
  · rw [if_pos c15] at hF
    refine g_ifT rfl (decide_eq_true c15) ?_
    refine g_iconst (q := 24) rfl rfl ?_
    exact go_sub (mm_subc rfl (mm_subc rfl (mm_subc rfl mm_sub0))) (K12 _ _ hF)
  · rw [if_neg c15] at hF
    refine g_ifF (q := 13) rfl (decide_eq_false c15) rfl ?_
    refine g_iload_n (q := 14) rfl rfl rfl ?_
    refine g_iconst (q := 15) rfl rfl ?_
    refine g_bipush (q := 17) rfl (by decide +kernel) rfl ?_
    obtain ⟨⟨r14, h13⟩, hC, hF⟩ := bd_I hF
    dsimp only at hF
    refine g_ci3 (q := 20) rfl rfl (fun _ => rfl) rfl (A_M_wrongNumber hC) (by decide +kernel) rfl ?_
    refine g_goto rfl ?_
    exact go_sub (mm_subc rfl (mm_subc rfl (mm_subc rfl mm_sub0))) (K12 _ _ hF)
/-- BothCornersModel.cover(II)I -/
def F_M_cover (x1 : Int32) (x2 : Int32) (h : MH) : Option (Int32 × MH) := hw (mm_hset h.1 55 10 (I 0), h.2) (fun h1 => bd (F_M_isBed x1 h1) (fun (r3, h2) => kw (fun (z4 : Int32) (h5 : MH) => if 0 ≤ z4 then bd (F_M_keepTurn h5) (fun h7 => ck (mm_in (((I 4) * x1) + (I 2)) 24) (ck (mm_in (((I 4) * x1) + (I 3)) 24) (iw (((I 100) * (h7.1 56 (Int32.toNatClampNeg (((I 4) * x1) + (I 2))))) + (h7.1 56 (Int32.toNatClampNeg (((I 4) * x1) + (I 3))))) (fun v8 => ck (mm_in (((I 4) * x1) + (I 2)) 24) (hw (mm_hset h7.1 56 (Int32.toNatClampNeg (((I 4) * x1) + (I 2))) (x2 / (I 100)), h7.2) (fun h9 => ck (mm_in (((I 4) * x1) + (I 3)) 24) (hw (mm_hset h9.1 56 (Int32.toNatClampNeg (((I 4) * x1) + (I 3))) (irem x2 (I 100)), h9.2) (fun h10 => some (v8, h10))))))))) else bd (F_M_refuse z4 h5) (fun (r12, h11) => some (r12, h11))) (fun k6 => if r3 = 0 then k6 (I (-1)) h2 else bd (F_M_wrongSize x2 h2) (fun (r16, h15) => k6 r16 h15))))
theorem A_M_cover {x1 : Int32} {x2 : Int32} {h h' : MH} {v : Int32} (hF : F_M_cover x1 x2 h = some (v, h')) : Ex 4 206 [.inr (.inl (some 55)), .inl x1, .inl x2] h (some (.inl v), h') := by
  unfold F_M_cover at hF
  refine ex_of (d := 3) rfl rfl ?_
  refine g_aload_n (q := 1) rfl rfl rfl ?_
  refine g_iconst (q := 2) rfl rfl ?_
  refine g_putI (q := 5) rfl (fun _ => rfl) rfl ?_
  obtain ⟨h1, e_h1, hF⟩ := hw_I hF
  rw [← e_h1]
  refine g_aload_n (q := 6) rfl rfl rfl ?_
  refine g_iload_n (q := 7) rfl rfl rfl ?_
  obtain ⟨⟨r3, h2⟩, hC, hF⟩ := bd_I hF
  dsimp only at hF
  refine g_ci2 (q := 10) rfl rfl (fun _ => rfl) rfl (A_M_isBed hC) (by decide +kernel) rfl ?_
  obtain ⟨k6, e_k6, hF⟩ := kw_I hF
  have K14 : ∀ (z4 : Int32) (h5 : MH), k6 z4 h5 = some (v, h') → Go 3 206 21 (mm_lf [(0, .inr (.inl (some 55))), (1, .inl x1), (2, .inl x2)]) [.inl z4] h5 (some (.inl v), h') := by
    intro z4 h5 hF
    rw [e_k6] at hF
    dsimp only at hF
    refine g_istore_n (q := 22) rfl rfl ?_
    refine g_iload_n (q := 23) rfl rfl rfl ?_
    by_cases c13 : 0 ≤ z4
    · rw [if_pos c13] at hF
      refine g_ifT rfl (decide_eq_true c13) ?_
      refine g_aload_n (q := 33) rfl rfl rfl ?_
      obtain ⟨h7, hC, hF⟩ := bd_I hF
      refine g_cv1 (q := 36) rfl rfl (fun _ => rfl) rfl (A_M_keepTurn hC) (by decide +kernel) rfl ?_
      refine g_bipush (q := 38) rfl (by decide +kernel) rfl ?_
      refine g_aload_n (q := 39) rfl rfl rfl ?_
      refine g_getR (q := 42) rfl (fun _ => rfl) rfl ?_
      refine g_iconst (q := 43) rfl rfl ?_
      refine g_iload_n (q := 44) rfl rfl rfl ?_
      refine g_imul (q := 45) rfl rfl ?_
      refine g_iconst (q := 46) rfl rfl ?_
      refine g_iadd (q := 47) rfl rfl ?_
      obtain ⟨hi, hF⟩ := ck_I hF
      refine g_iaload (q := 48) rfl rfl rfl hi rfl ?_
      refine g_imul (q := 49) rfl rfl ?_
      refine g_aload_n (q := 50) rfl rfl rfl ?_
      refine g_getR (q := 53) rfl (fun _ => rfl) rfl ?_
      refine g_iconst (q := 54) rfl rfl ?_
      refine g_iload_n (q := 55) rfl rfl rfl ?_
      refine g_imul (q := 56) rfl rfl ?_
      refine g_iconst (q := 57) rfl rfl ?_
      refine g_iadd (q := 58) rfl rfl ?_
      obtain ⟨hi, hF⟩ := ck_I hF
      refine g_iaload (q := 59) rfl rfl rfl hi rfl ?_
      refine g_iadd (q := 60) rfl rfl ?_
      refine g_istore (q := 62) rfl rfl ?_
      obtain ⟨v8, e_v8, hF⟩ := iw_I hF
      rw [← e_v8]
      refine g_aload_n (q := 63) rfl rfl rfl ?_
      refine g_getR (q := 66) rfl (fun _ => rfl) rfl ?_
      refine g_iconst (q := 67) rfl rfl ?_
      refine g_iload_n (q := 68) rfl rfl rfl ?_
      refine g_imul (q := 69) rfl rfl ?_
      refine g_iconst (q := 70) rfl rfl ?_
      refine g_iadd (q := 71) rfl rfl ?_
      refine g_iload_n (q := 72) rfl rfl rfl ?_
      refine g_bipush (q := 74) rfl (by decide +kernel) rfl ?_
      refine g_idiv (q := 75) rfl (by decide +kernel) rfl ?_
      obtain ⟨hi, hF⟩ := ck_I hF
      refine g_iastore (q := 76) rfl rfl rfl hi rfl ?_
      obtain ⟨h9, e_h9, hF⟩ := hw_I hF
      rw [← e_h9]
      refine g_aload_n (q := 77) rfl rfl rfl ?_
      refine g_getR (q := 80) rfl (fun _ => rfl) rfl ?_
      refine g_iconst (q := 81) rfl rfl ?_
      refine g_iload_n (q := 82) rfl rfl rfl ?_
      refine g_imul (q := 83) rfl rfl ?_
      refine g_iconst (q := 84) rfl rfl ?_
      refine g_iadd (q := 85) rfl rfl ?_
      refine g_iload_n (q := 86) rfl rfl rfl ?_
      refine g_bipush (q := 88) rfl (by decide +kernel) rfl ?_
      refine g_irem (q := 89) rfl (by decide +kernel) rfl ?_
      obtain ⟨hi, hF⟩ := ck_I hF
      refine g_iastore (q := 90) rfl rfl rfl hi rfl ?_
      obtain ⟨h10, e_h10, hF⟩ := hw_I hF
      rw [← e_h10]
      refine g_iload (q := 92) rfl rfl rfl ?_
      injection hF with hF
      injection hF with hv hh
      subst hv
      subst hh
      exact g_iret rfl
    · rw [if_neg c13] at hF
      refine g_ifF (q := 26) rfl (decide_eq_false c13) rfl ?_
      refine g_aload_n (q := 27) rfl rfl rfl ?_
      refine g_iload_n (q := 28) rfl rfl rfl ?_
      obtain ⟨⟨r12, h11⟩, hC, hF⟩ := bd_I hF
      dsimp only at hF
      refine g_ci2 (q := 31) rfl rfl (fun _ => rfl) rfl (A_M_refuse hC) (by decide +kernel) rfl ?_
      injection hF with hF
      injection hF with hv hh
      subst hv
      subst hh
      exact g_iret rfl
  clear e_k6
  by_cases c17 : r3 = 0
  · rw [if_pos c17] at hF
    refine g_ifT rfl (decide_eq_true c17) ?_
    refine g_iconst (q := 21) rfl rfl ?_
    exact go_sub (mm_subc rfl (mm_subc rfl (mm_subc rfl mm_sub0))) (K14 _ _ hF)
  · rw [if_neg c17] at hF
    refine g_ifF (q := 13) rfl (decide_eq_false c17) rfl ?_
    refine g_iload_n (q := 14) rfl rfl rfl ?_
    obtain ⟨⟨r16, h15⟩, hC, hF⟩ := bd_I hF
    dsimp only at hF
    refine g_ci1 (q := 17) rfl rfl (fun _ => rfl) rfl (A_M_wrongSize hC) (by decide +kernel) rfl ?_
    refine g_goto rfl ?_
    exact go_sub (mm_subc rfl (mm_subc rfl (mm_subc rfl mm_sub0))) (K14 _ _ hF)
def L_M_ownMany_4 : Nat → Int32 → Int32 → MH → Option (Int32 × MH)
  | 0, _, _, _ => none
  | n + 1, x1, x2, h => if (I 4) ≤ x2 then some (x1, h) else ck (mm_in x2 4) (iw (if ¬ (h.1 61 (Int32.toNatClampNeg x2)) = x2 then I 0 else I 1) (fun v1 => L_M_ownMany_4 n (x1 + v1) (x2 + I 1) h))
/-- BothCornersModel.ownMany()I -/
def F_M_ownMany (h : MH) : Option (Int32 × MH) := bd (L_M_ownMany_4 5000 (I 0) (I 0) h) (fun (y5, h6) => some (y5, h6))
theorem A_L_M_ownMany_4 {r : MRs} : ∀ (n : Nat) (x1 : Int32) (x2 : Int32) (h : MH) (x : Int32 × MH), L_M_ownMany_4 n x1 x2 h = some x → (True) → (∀ (e1 : Int32) (h' : MH), x = (e1, h') → Go 0 178 33 (mm_lf [(1, .inl e1)]) [] h' r) → Go 0 178 4 (mm_lf [(0, .inr (.inl (some 55))), (1, .inl x1), (2, .inl x2)]) [] h r
  | 0, _, _, _, _, hF, _, _ => by cases hF
  | n + 1, x1, x2, h, x, hF, KR, KX => by
    have ih := fun a1 a2 => A_L_M_ownMany_4 (r := r) n a1 a2 
    unfold L_M_ownMany_4 at hF
    refine g_iload_n (q := 5) rfl rfl rfl ?_
    refine g_iconst (q := 6) rfl rfl ?_
    by_cases c4 : (I 4) ≤ x2
    · rw [if_pos c4] at hF
      refine g_icmpT rfl (decide_eq_true c4) ?_
      injection hF with hF
      subst hF
      exact go_sub (mm_subc rfl mm_sub0) (KX _ _ rfl)
    · rw [if_neg c4] at hF
      refine g_icmpF (q := 9) rfl (decide_eq_false c4) rfl ?_
      refine g_iload_n (q := 10) rfl rfl rfl ?_
      refine g_aload_n (q := 11) rfl rfl rfl ?_
      refine g_getR (q := 14) rfl (fun _ => rfl) rfl ?_
      refine g_iload_n (q := 15) rfl rfl rfl ?_
      obtain ⟨hi, hF⟩ := ck_I hF
      refine g_iaload (q := 16) rfl rfl rfl hi rfl ?_
      refine g_iload_n (q := 17) rfl rfl rfl ?_
      obtain ⟨v1, e_v1, hF⟩ := iw_I hF
      suffices K2 : Go 0 178 25 (mm_lf [(0, .inr (.inl (some 55))), (2, .inl x2)]) [.inl v1, .inl x1] h r by
        clear hF
        by_cases c3 : ¬ (h.1 61 (Int32.toNatClampNeg x2)) = x2
        · simp only [if_pos c3] at e_v1
          subst e_v1
          refine g_icmpT rfl (decide_eq_true c3) ?_
          refine g_iconst (q := 25) rfl rfl ?_
          exact go_sub (mm_subc rfl (mm_subc rfl mm_sub0)) K2
        · simp only [if_neg c3] at e_v1
          subst e_v1
          refine g_icmpF (q := 20) rfl (decide_eq_false c3) rfl ?_
          refine g_iconst (q := 21) rfl rfl ?_
          refine g_goto rfl ?_
          exact go_sub (mm_subc rfl (mm_subc rfl mm_sub0)) K2
      clear e_v1
      refine g_iadd (q := 26) rfl rfl ?_
      refine g_istore_n (q := 27) rfl rfl ?_
      refine g_iinc (q := 30) rfl rfl rfl ?_
      refine g_goto rfl ?_
      refine go_sub (lo' := mm_lf [(0, .inr (.inl (some 55))), (1, .inl (x1 + v1)), (2, .inl (x2 + I 1))]) (mm_subc rfl (mm_subc rfl (mm_subc rfl mm_sub0))) ?_
      exact ih _ _ _ _ hF KR KX
theorem A_M_ownMany {h h' : MH} {v : Int32} (hF : F_M_ownMany h = some (v, h')) : Ex 1 178 [.inr (.inl (some 55))] h (some (.inl v), h') := by
  unfold F_M_ownMany at hF
  refine ex_of (d := 0) rfl rfl ?_
  refine g_iconst (q := 1) rfl rfl ?_
  refine g_istore_n (q := 2) rfl rfl ?_
  refine g_iconst (q := 3) rfl rfl ?_
  refine g_istore_n (q := 4) rfl rfl ?_
  refine go_sub (lo' := mm_lf [(0, .inr (.inl (some 55))), (1, .inl (I 0)), (2, .inl (I 0))]) (mm_subc rfl (mm_subc rfl (mm_subc rfl mm_sub0))) ?_
  obtain ⟨⟨y5, h6⟩, hC, hF⟩ := bd_I hF
  dsimp only at hF
  refine A_L_M_ownMany_4 5000 _ _ _ _ hC trivial ?_
  intro _ _ e2
  cases e2
  refine g_iload_n (q := 34) rfl rfl rfl ?_
  injection hF with hF
  injection hF with hv hh
  subst hv
  subst hh
  exact g_iret rfl
/-- BothCornersModel.turn(I)I -/
def F_M_turn (x1 : Int32) (h : MH) : Option (Int32 × MH) := hw (mm_hset h.1 55 10 (I 0), h.2) (fun h1 => bd (F_M_in (Int32.toInt64 x1) (Lg 0) (Lg 3) h1) (fun (r3, h2) => if ¬ r3 = 0 then bd (F_M_keepTurn h2) (fun h4 => bd (F_M_think h4) (fun h5 => bd (F_M_turnNow x1 h5) (fun h6 => bd (F_M_keepThought h6) (fun h7 => bd (F_M_ownMany h7) (fun (r9, h8) => some (r9, h8)))))) else bd (F_M_refuse (I (-2)) h2) (fun (r11, h10) => some (r11, h10))))
theorem A_M_turn {x1 : Int32} {h h' : MH} {v : Int32} (hF : F_M_turn x1 h = some (v, h')) : Ex 4 207 [.inr (.inl (some 55)), .inl x1] h (some (.inl v), h') := by
  unfold F_M_turn at hF
  refine ex_of (d := 3) rfl rfl ?_
  refine g_aload_n (q := 1) rfl rfl rfl ?_
  refine g_iconst (q := 2) rfl rfl ?_
  refine g_putI (q := 5) rfl (fun _ => rfl) rfl ?_
  obtain ⟨h1, e_h1, hF⟩ := hw_I hF
  rw [← e_h1]
  refine g_iload_n (q := 6) rfl rfl rfl ?_
  refine g_i2l (q := 7) rfl rfl ?_
  refine g_lconst (u := 0) (q := 8) rfl (by decide +kernel) rfl ?_
  refine g_ldc2_w (q := 11) rfl rfl ?_
  obtain ⟨⟨r3, h2⟩, hC, hF⟩ := bd_I hF
  dsimp only at hF
  refine g_ci3 (q := 14) rfl rfl (fun _ => rfl) rfl (A_M_in hC) (by decide +kernel) rfl ?_
  by_cases c12 : ¬ r3 = 0
  · rw [if_pos c12] at hF
    refine g_ifT rfl (decide_eq_true c12) ?_
    refine g_aload_n (q := 25) rfl rfl rfl ?_
    obtain ⟨h4, hC, hF⟩ := bd_I hF
    refine g_cv1 (q := 28) rfl rfl (fun _ => rfl) rfl (A_M_keepTurn hC) (by decide +kernel) rfl ?_
    refine g_aload_n (q := 29) rfl rfl rfl ?_
    obtain ⟨h5, hC, hF⟩ := bd_I hF
    refine g_cv1 (q := 32) rfl rfl (fun _ => rfl) rfl (A_M_think hC) (by decide +kernel) rfl ?_
    refine g_aload_n (q := 33) rfl rfl rfl ?_
    refine g_iload_n (q := 34) rfl rfl rfl ?_
    obtain ⟨h6, hC, hF⟩ := bd_I hF
    refine g_cv2 (q := 37) rfl rfl (fun _ => rfl) rfl (A_M_turnNow hC) (by decide +kernel) rfl ?_
    refine g_aload_n (q := 38) rfl rfl rfl ?_
    obtain ⟨h7, hC, hF⟩ := bd_I hF
    refine g_cv1 (q := 41) rfl rfl (fun _ => rfl) rfl (A_M_keepThought hC) (by decide +kernel) rfl ?_
    refine g_aload_n (q := 42) rfl rfl rfl ?_
    obtain ⟨⟨r9, h8⟩, hC, hF⟩ := bd_I hF
    dsimp only at hF
    refine g_ci1 (q := 45) rfl rfl (fun _ => rfl) rfl (A_M_ownMany hC) (by decide +kernel) rfl ?_
    injection hF with hF
    injection hF with hv hh
    subst hv
    subst hh
    exact g_iret rfl
  · rw [if_neg c12] at hF
    refine g_ifF (q := 17) rfl (decide_eq_false c12) rfl ?_
    refine g_aload_n (q := 18) rfl rfl rfl ?_
    refine g_bipush (q := 20) rfl (by decide +kernel) rfl ?_
    obtain ⟨⟨r11, h10⟩, hC, hF⟩ := bd_I hF
    dsimp only at hF
    refine g_ci2 (q := 23) rfl rfl (fun _ => rfl) rfl (A_M_refuse hC) (by decide +kernel) rfl ?_
    injection hF with hF
    injection hF with hv hh
    subst hv
    subst hh
    exact g_iret rfl
def L_M_back_31 : Nat → Int32 → MH → Option (MH)
  | 0, _, _ => none
  | n + 1, x1, h => if (I 52) ≤ x1 then some (h) else ck (mm_in (((I 52) * (h.1 55 30)) + x1) 416) (ck (mm_in x1 52) (hw (mm_hset h.1 71 (Int32.toNatClampNeg x1) (h.1 70 (Int32.toNatClampNeg (((I 52) * (h.1 55 30)) + x1))), h.2) (fun h3 => L_M_back_31 n (x1 + I 1) h3)))
/-- BothCornersModel.back()I -/
def F_M_back (h : MH) : Option (Int32 × MH) := hw (mm_hset h.1 55 10 (I 0), h.2) (fun h1 => if ¬ (h1.1 55 30) = 0 then hw (mm_hset h1.1 55 30 ((h1.1 55 30) - (I 1)), h1.2) (fun h2 => bd (L_M_back_31 5000 (I 0) h2) (fun h5 => bd (F_M_carryAll_2 (I 0) h5) (fun h6 => some (h6.1 55 30, h6)))) else bd (F_M_refuse (I (-3)) h1) (fun (r8, h7) => some (r8, h7)))
theorem A_L_M_back_31 {r : MRs} : ∀ (n : Nat) (x1 : Int32) (h : MH) (x : MH), L_M_back_31 n x1 h = some x → (True) → (∀ (h' : MH), x = (h') → Go 2 197 63 (mm_lf [(0, .inr (.inl (some 55)))]) [] h' r) → Go 2 197 31 (mm_lf [(0, .inr (.inl (some 55))), (1, .inl x1)]) [] h r
  | 0, _, _, _, hF, _, _ => by cases hF
  | n + 1, x1, h, x, hF, KR, KX => by
    have ih := fun a1 => A_L_M_back_31 (r := r) n a1 
    unfold L_M_back_31 at hF
    refine g_iload_n (q := 32) rfl rfl rfl ?_
    refine g_bipush (q := 34) rfl (by decide +kernel) rfl ?_
    by_cases c4 : (I 52) ≤ x1
    · rw [if_pos c4] at hF
      refine g_icmpT rfl (decide_eq_true c4) ?_
      injection hF with hF
      subst hF
      exact go_sub (mm_subc rfl mm_sub0) (KX  _ rfl)
    · rw [if_neg c4] at hF
      refine g_icmpF (q := 37) rfl (decide_eq_false c4) rfl ?_
      refine g_aload_n (q := 38) rfl rfl rfl ?_
      refine g_getR (q := 41) rfl (fun _ => rfl) rfl ?_
      refine g_iload_n (q := 42) rfl rfl rfl ?_
      refine g_aload_n (q := 43) rfl rfl rfl ?_
      refine g_getR (q := 46) rfl (fun _ => rfl) rfl ?_
      refine g_bipush (q := 48) rfl (by decide +kernel) rfl ?_
      refine g_aload_n (q := 49) rfl rfl rfl ?_
      refine g_getI (q := 52) rfl (fun _ => rfl) rfl ?_
      refine g_imul (q := 53) rfl rfl ?_
      refine g_iload_n (q := 54) rfl rfl rfl ?_
      refine g_iadd (q := 55) rfl rfl ?_
      obtain ⟨hi, hF⟩ := ck_I hF
      refine g_iaload (q := 56) rfl rfl rfl hi rfl ?_
      obtain ⟨hi, hF⟩ := ck_I hF
      refine g_iastore (q := 57) rfl rfl rfl hi rfl ?_
      obtain ⟨h3, e_h3, hF⟩ := hw_I hF
      rw [← e_h3]
      refine g_iinc (q := 60) rfl rfl rfl ?_
      refine g_goto rfl ?_
      refine go_sub (lo' := mm_lf [(0, .inr (.inl (some 55))), (1, .inl (x1 + I 1))]) (mm_subc rfl (mm_subc rfl mm_sub0)) ?_
      exact ih _ _ _ hF KR KX
theorem A_M_back {h h' : MH} {v : Int32} (hF : F_M_back h = some (v, h')) : Ex 3 197 [.inr (.inl (some 55))] h (some (.inl v), h') := by
  unfold F_M_back at hF
  refine ex_of (d := 2) rfl rfl ?_
  refine g_aload_n (q := 1) rfl rfl rfl ?_
  refine g_iconst (q := 2) rfl rfl ?_
  refine g_putI (q := 5) rfl (fun _ => rfl) rfl ?_
  obtain ⟨h1, e_h1, hF⟩ := hw_I hF
  rw [← e_h1]
  refine g_aload_n (q := 6) rfl rfl rfl ?_
  refine g_getI (q := 9) rfl (fun _ => rfl) rfl ?_
  by_cases c9 : ¬ (h1.1 55 30) = 0
  · rw [if_pos c9] at hF
    refine g_ifT rfl (decide_eq_true c9) ?_
    refine g_aload_n (q := 20) rfl rfl rfl ?_
    refine g_dup (q := 21) rfl rfl rfl ?_
    refine g_getI (q := 24) rfl (fun _ => rfl) rfl ?_
    refine g_iconst (q := 25) rfl rfl ?_
    refine g_isub (q := 26) rfl rfl ?_
    refine g_putI (q := 29) rfl (fun _ => rfl) rfl ?_
    obtain ⟨h2, e_h2, hF⟩ := hw_I hF
    rw [← e_h2]
    refine g_iconst (q := 30) rfl rfl ?_
    refine g_istore_n (q := 31) rfl rfl ?_
    refine go_sub (lo' := mm_lf [(0, .inr (.inl (some 55))), (1, .inl (I 0))]) (mm_subc rfl (mm_subc rfl mm_sub0)) ?_
    obtain ⟨h5, hC, hF⟩ := bd_I hF
    refine A_L_M_back_31 5000 _ _ _ hC trivial ?_
    intro _ e2
    cases e2
    refine g_aload_n (q := 64) rfl rfl rfl ?_
    refine g_aload_n (q := 65) rfl rfl rfl ?_
    refine g_getR (q := 68) rfl (fun _ => rfl) rfl ?_
    refine g_iconst (q := 69) rfl rfl ?_
    obtain ⟨h6, hC, hF⟩ := bd_I hF
    refine g_cv3 (q := 72) rfl rfl (fun _ => rfl) rfl (A_M_carryAll_2 hC) (by decide +kernel) rfl ?_
    refine g_aload_n (q := 73) rfl rfl rfl ?_
    refine g_getI (q := 76) rfl (fun _ => rfl) rfl ?_
    injection hF with hF
    injection hF with hv hh
    subst hv
    subst hh
    exact g_iret rfl
  · rw [if_neg c9] at hF
    refine g_ifF (q := 12) rfl (decide_eq_false c9) rfl ?_
    refine g_aload_n (q := 13) rfl rfl rfl ?_
    refine g_bipush (q := 15) rfl (by decide +kernel) rfl ?_
    obtain ⟨⟨r8, h7⟩, hC, hF⟩ := bd_I hF
    dsimp only at hF
    refine g_ci2 (q := 18) rfl rfl (fun _ => rfl) rfl (A_M_refuse hC) (by decide +kernel) rfl ?_
    injection hF with hF
    injection hF with hv hh
    subst hv
    subst hh
    exact g_iret rfl
/-- BothCornersModel.wrongThree(III)I -/
def F_M_wrongThree (x1 : Int32) (x2 : Int32) (x3 : Int32) (h : MH) : Option (Int32 × MH) := bd (F_M_isBed x1 h) (fun (r2, h1) => if r2 = 0 then some (I (-1), h1) else bd (F_M_isWay x2 h1) (fun (r4, h3) => if r4 = 0 then some (I (-1), h3) else bd (F_M_isOne x3 h3) (fun (r6, h5) => iw (if r6 = 0 then I (-1) else I 0) (fun v7 => some (v7, h5)))))
theorem A_M_wrongThree {x1 : Int32} {x2 : Int32} {x3 : Int32} {h h' : MH} {v : Int32} (hF : F_M_wrongThree x1 x2 x3 h = some (v, h')) : Ex 3 208 [.inr (.inl (some 55)), .inl x1, .inl x2, .inl x3] h (some (.inl v), h') := by
  unfold F_M_wrongThree at hF
  refine ex_of (d := 2) rfl rfl ?_
  refine g_aload_n (q := 1) rfl rfl rfl ?_
  refine g_iload_n (q := 2) rfl rfl rfl ?_
  obtain ⟨⟨r2, h1⟩, hC, hF⟩ := bd_I hF
  dsimp only at hF
  refine g_ci2 (q := 5) rfl rfl (fun _ => rfl) rfl (A_M_isBed hC) (by decide +kernel) rfl ?_
  by_cases c11 : r2 = 0
  · rw [if_pos c11] at hF
    refine g_ifT rfl (decide_eq_true c11) ?_
    refine g_iconst (q := 29) rfl rfl ?_
    injection hF with hF
    injection hF with hv hh
    subst hv
    subst hh
    exact g_iret rfl
  · rw [if_neg c11] at hF
    refine g_ifF (q := 8) rfl (decide_eq_false c11) rfl ?_
    refine g_aload_n (q := 9) rfl rfl rfl ?_
    refine g_iload_n (q := 10) rfl rfl rfl ?_
    obtain ⟨⟨r4, h3⟩, hC, hF⟩ := bd_I hF
    dsimp only at hF
    refine g_ci2 (q := 13) rfl rfl (fun _ => rfl) rfl (A_M_isWay hC) (by decide +kernel) rfl ?_
    by_cases c10 : r4 = 0
    · rw [if_pos c10] at hF
      refine g_ifT rfl (decide_eq_true c10) ?_
      refine g_iconst (q := 29) rfl rfl ?_
      injection hF with hF
      injection hF with hv hh
      subst hv
      subst hh
      exact g_iret rfl
    · rw [if_neg c10] at hF
      refine g_ifF (q := 16) rfl (decide_eq_false c10) rfl ?_
      refine g_aload_n (q := 17) rfl rfl rfl ?_
      refine g_iload_n (q := 18) rfl rfl rfl ?_
      obtain ⟨⟨r6, h5⟩, hC, hF⟩ := bd_I hF
      dsimp only at hF
      refine g_ci2 (q := 21) rfl rfl (fun _ => rfl) rfl (A_M_isOne hC) (by decide +kernel) rfl ?_
      obtain ⟨v7, e_v7, hF⟩ := iw_I hF
      suffices K8 : Go 2 208 29 (mm_lf []) [.inl v7] h5 (some (.inl v), h') by
        clear hF
        by_cases c9 : r6 = 0
        · simp only [if_pos c9] at e_v7
          subst e_v7
          refine g_ifT rfl (decide_eq_true c9) ?_
          refine g_iconst (q := 29) rfl rfl ?_
          exact go_sub mm_sub0 K8
        · simp only [if_neg c9] at e_v7
          subst e_v7
          refine g_ifF (q := 24) rfl (decide_eq_false c9) rfl ?_
          refine g_iconst (q := 25) rfl rfl ?_
          refine g_goto rfl ?_
          exact go_sub mm_sub0 K8
      clear e_v7
      injection hF with hF
      injection hF with hv hh
      subst hv
      subst hh
      exact g_iret rfl
/-- BothCornersModel.wrongBit(III)I -/
def F_M_wrongBit (x0 : Int32) (x1 : Int32) (x2 : Int32) (h : MH) : Option (Int32 × MH) := if ¬ x0 = 0 then some (x0, h) else bd (F_M_in (Int32.toInt64 x1) (Lg 0) (Int32.toInt64 x2) h) (fun (r2, h1) => iw (if ¬ r2 = 0 then x0 else I (-2)) (fun v3 => some (v3, h1)))
theorem A_M_wrongBit {x0 : Int32} {x1 : Int32} {x2 : Int32} {h h' : MH} {v : Int32} (hF : F_M_wrongBit x0 x1 x2 h = some (v, h')) : Ex 2 159 [.inl x0, .inl x1, .inl x2] h (some (.inl v), h') := by
  unfold F_M_wrongBit at hF
  refine ex_of (d := 1) rfl rfl ?_
  refine g_iload_n (q := 1) rfl rfl rfl ?_
  by_cases c6 : ¬ x0 = 0
  · rw [if_pos c6] at hF
    refine g_ifT rfl (decide_eq_true c6) ?_
    refine g_iload_n (q := 21) rfl rfl rfl ?_
    injection hF with hF
    injection hF with hv hh
    subst hv
    subst hh
    exact g_iret rfl
  · rw [if_neg c6] at hF
    refine g_ifF (q := 4) rfl (decide_eq_false c6) rfl ?_
    refine g_iload_n (q := 5) rfl rfl rfl ?_
    refine g_i2l (q := 6) rfl rfl ?_
    refine g_lconst (u := 0) (q := 7) rfl (by decide +kernel) rfl ?_
    refine g_iload_n (q := 8) rfl rfl rfl ?_
    refine g_i2l (q := 9) rfl rfl ?_
    obtain ⟨⟨r2, h1⟩, hC, hF⟩ := bd_I hF
    dsimp only at hF
    refine g_ci3 (q := 12) rfl rfl (fun _ => rfl) rfl (A_M_in hC) (by decide +kernel) rfl ?_
    obtain ⟨v3, e_v3, hF⟩ := iw_I hF
    suffices K4 : Go 1 159 21 (mm_lf []) [.inl v3] h1 (some (.inl v), h') by
      clear hF
      by_cases c5 : ¬ r2 = 0
      · simp only [if_pos c5] at e_v3
        subst e_v3
        refine g_ifT rfl (decide_eq_true c5) ?_
        refine g_iload_n (q := 21) rfl rfl rfl ?_
        exact go_sub mm_sub0 K4
      · simp only [if_neg c5] at e_v3
        subst e_v3
        refine g_ifF (q := 15) rfl (decide_eq_false c5) rfl ?_
        refine g_bipush (q := 17) rfl (by decide +kernel) rfl ?_
        refine g_goto rfl ?_
        exact go_sub mm_sub0 K4
    clear e_v3
    injection hF with hF
    injection hF with hv hh
    subst hv
    subst hh
    exact g_iret rfl
/-- BothCornersModel.atLeast(II)I -/
def F_M_atLeast (x0 : Int32) (x1 : Int32) (h : MH) : Option (Int32 × MH) := iw (if x1 ≤ x0 then x0 else x1) (fun v1 => some (v1, h))
theorem A_M_atLeast {x0 : Int32} {x1 : Int32} {h h' : MH} {v : Int32} (hF : F_M_atLeast x0 x1 h = some (v, h')) : Ex 1 160 [.inl x0, .inl x1] h (some (.inl v), h') := by
  unfold F_M_atLeast at hF
  refine ex_of (d := 0) rfl rfl ?_
  refine g_iload_n (q := 1) rfl rfl rfl ?_
  refine g_iload_n (q := 2) rfl rfl rfl ?_
  obtain ⟨v1, e_v1, hF⟩ := iw_I hF
  suffices K2 : Go 0 160 10 (mm_lf []) [.inl v1] h (some (.inl v), h') by
    clear hF
    by_cases c3 : x1 ≤ x0
    · simp only [if_pos c3] at e_v1
      subst e_v1
      refine g_icmpT rfl (decide_eq_true c3) ?_
      refine g_iload_n (q := 10) rfl rfl rfl ?_
      exact go_sub mm_sub0 K2
    · simp only [if_neg c3] at e_v1
      subst e_v1
      refine g_icmpF (q := 5) rfl (decide_eq_false c3) rfl ?_
      refine g_iload_n (q := 6) rfl rfl rfl ?_
      refine g_goto rfl ?_
      exact go_sub mm_sub0 K2
  clear e_v1
  injection hF with hF
  injection hF with hv hh
  subst hv
  subst hh
  exact g_iret rfl
/-- BothCornersModel.secondsBy(III)I -/
def F_M_secondsBy (x0 : Int32) (x1 : Int32) (x2 : Int32) (h : MH) : Option (Int32 × MH) := if x0 = I 1 then some (x2 + ((I 2) * x1), h) else if x0 = I 2 then some ((((I 3) * x2) / (I 4)) + x1, h) else if x0 = I 3 then some ((((((I 3) * x2) / (I 4)) + x1) / (I 2)) + (I 10), h) else if x0 = I 4 then some ((x2 + ((I 2) * x1)) + (I 20), h) else if x0 = I 5 then some (((((I 3) * x2) / (I 4)) + x1) + (I 5), h) else some (x2, h)
theorem A_M_secondsBy {x0 : Int32} {x1 : Int32} {x2 : Int32} {h h' : MH} {v : Int32} (hF : F_M_secondsBy x0 x1 x2 h = some (v, h')) : Ex 1 164 [.inl x0, .inl x1, .inl x2] h (some (.inl v), h') := by
  unfold F_M_secondsBy at hF
  refine ex_of (d := 0) rfl rfl ?_
  refine g_iconst (q := 1) rfl rfl ?_
  refine g_iload_n (q := 2) rfl rfl rfl ?_
  refine g_imul (q := 3) rfl rfl ?_
  refine g_iconst (q := 4) rfl rfl ?_
  refine g_idiv (q := 5) rfl (by decide +kernel) rfl ?_
  refine g_iload_n (q := 6) rfl rfl rfl ?_
  refine g_iadd (q := 7) rfl rfl ?_
  refine g_istore_n (q := 8) rfl rfl ?_
  refine g_iload_n (q := 9) rfl rfl rfl ?_
  by_cases c1 : x0 = I 1
  · rw [if_pos c1] at hF
    refine g_tsw (off := 35) (t := 44) rfl (by rw [c1]; decide +kernel) (by decide) ?_
    refine g_iload_n (q := 45) rfl rfl rfl ?_
    refine g_iconst (q := 46) rfl rfl ?_
    refine g_iload_n (q := 47) rfl rfl rfl ?_
    refine g_imul (q := 48) rfl rfl ?_
    refine g_iadd (q := 49) rfl rfl ?_
    injection hF with hF
    injection hF with hv hh
    subst hv
    subst hh
    exact g_iret rfl
  rw [if_neg c1] at hF
  by_cases c2 : x0 = I 2
  · rw [if_pos c2] at hF
    refine g_tsw (off := 41) (t := 50) rfl (by rw [c2]; decide +kernel) (by decide) ?_
    refine g_iload_n (q := 51) rfl rfl rfl ?_
    injection hF with hF
    injection hF with hv hh
    subst hv
    subst hh
    exact g_iret rfl
  rw [if_neg c2] at hF
  by_cases c3 : x0 = I 3
  · rw [if_pos c3] at hF
    refine g_tsw (off := 43) (t := 52) rfl (by rw [c3]; decide +kernel) (by decide) ?_
    refine g_iload_n (q := 53) rfl rfl rfl ?_
    refine g_iconst (q := 54) rfl rfl ?_
    refine g_idiv (q := 55) rfl (by decide +kernel) rfl ?_
    refine g_bipush (q := 57) rfl (by decide +kernel) rfl ?_
    refine g_iadd (q := 58) rfl rfl ?_
    injection hF with hF
    injection hF with hv hh
    subst hv
    subst hh
    exact g_iret rfl
  rw [if_neg c3] at hF
  by_cases c4 : x0 = I 4
  · rw [if_pos c4] at hF
    refine g_tsw (off := 50) (t := 59) rfl (by rw [c4]; decide +kernel) (by decide) ?_
    refine g_iload_n (q := 60) rfl rfl rfl ?_
    refine g_iconst (q := 61) rfl rfl ?_
    refine g_iload_n (q := 62) rfl rfl rfl ?_
    refine g_imul (q := 63) rfl rfl ?_
    refine g_iadd (q := 64) rfl rfl ?_
    refine g_bipush (q := 66) rfl (by decide +kernel) rfl ?_
    refine g_iadd (q := 67) rfl rfl ?_
    injection hF with hF
    injection hF with hv hh
    subst hv
    subst hh
    exact g_iret rfl
  rw [if_neg c4] at hF
  by_cases c5 : x0 = I 5
  · rw [if_pos c5] at hF
    refine g_tsw (off := 59) (t := 68) rfl (by rw [c5]; decide +kernel) (by decide) ?_
    refine g_iload_n (q := 69) rfl rfl rfl ?_
    refine g_iconst (q := 70) rfl rfl ?_
    refine g_iadd (q := 71) rfl rfl ?_
    injection hF with hF
    injection hF with hv hh
    subst hv
    subst hh
    exact g_iret rfl
  rw [if_neg c5] at hF
  refine g_tsw (off := 63) (t := 72) rfl (mm_tswD (by decide) (by decide) (fun k h1 h2 => by rcases (show k = 1 ∨ k = 2 ∨ k = 3 ∨ k = 4 ∨ k = 5 by omega) with rfl | rfl | rfl | rfl | rfl <;> assumption)) (by decide) ?_
  refine g_iload_n (q := 73) rfl rfl rfl ?_
  injection hF with hF
  injection hF with hv hh
  subst hv
  subst hh
  exact g_iret rfl
/-- BothCornersModel.secondsOf(IIII)I -/
def F_M_secondsOf (x1 : Int32) (x2 : Int32) (x3 : Int32) (x4 : Int32) (h : MH) : Option (Int32 × MH) := ck (mm_in ((I 4) * x1) 24) (ck (mm_in (((I 4) * x1) + (I 1)) 24) (bd (F_M_atLeast (((h.1 56 (Int32.toNatClampNeg ((I 4) * x1))) + (h.1 56 (Int32.toNatClampNeg (((I 4) * x1) + (I 1))))) - x4) (I 1) h) (fun (r2, h1) => bd (F_M_secondsBy x2 x3 r2 h1) (fun (r4, h3) => some (r4, h3)))))
theorem A_M_secondsOf {x1 : Int32} {x2 : Int32} {x3 : Int32} {x4 : Int32} {h h' : MH} {v : Int32} (hF : F_M_secondsOf x1 x2 x3 x4 h = some (v, h')) : Ex 2 165 [.inr (.inl (some 55)), .inl x1, .inl x2, .inl x3, .inl x4] h (some (.inl v), h') := by
  unfold F_M_secondsOf at hF
  refine ex_of (d := 1) rfl rfl ?_
  refine g_iload_n (q := 1) rfl rfl rfl ?_
  refine g_iload_n (q := 2) rfl rfl rfl ?_
  refine g_aload_n (q := 3) rfl rfl rfl ?_
  refine g_getR (q := 6) rfl (fun _ => rfl) rfl ?_
  refine g_iconst (q := 7) rfl rfl ?_
  refine g_iload_n (q := 8) rfl rfl rfl ?_
  refine g_imul (q := 9) rfl rfl ?_
  obtain ⟨hi, hF⟩ := ck_I hF
  refine g_iaload (q := 10) rfl rfl rfl hi rfl ?_
  refine g_aload_n (q := 11) rfl rfl rfl ?_
  refine g_getR (q := 14) rfl (fun _ => rfl) rfl ?_
  refine g_iconst (q := 15) rfl rfl ?_
  refine g_iload_n (q := 16) rfl rfl rfl ?_
  refine g_imul (q := 17) rfl rfl ?_
  refine g_iconst (q := 18) rfl rfl ?_
  refine g_iadd (q := 19) rfl rfl ?_
  obtain ⟨hi, hF⟩ := ck_I hF
  refine g_iaload (q := 20) rfl rfl rfl hi rfl ?_
  refine g_iadd (q := 21) rfl rfl ?_
  refine g_iload (q := 23) rfl rfl rfl ?_
  refine g_isub (q := 24) rfl rfl ?_
  refine g_iconst (q := 25) rfl rfl ?_
  obtain ⟨⟨r2, h1⟩, hC, hF⟩ := bd_I hF
  dsimp only at hF
  refine g_ci2 (q := 28) rfl rfl (fun _ => rfl) rfl (A_M_atLeast hC) (by decide +kernel) rfl ?_
  obtain ⟨⟨r4, h3⟩, hC, hF⟩ := bd_I hF
  dsimp only at hF
  refine g_ci3 (q := 31) rfl rfl (fun _ => rfl) rfl (A_M_secondsBy hC) (by decide +kernel) rfl ?_
  injection hF with hF
  injection hF with hv hh
  subst hv
  subst hh
  exact g_iret rfl
/-- BothCornersModel.apart(II)I -/
def F_M_apart (x0 : Int32) (x1 : Int32) (h : MH) : Option (Int32 × MH) := iw (if x0 ≤ x1 then x1 - x0 else x0 - x1) (fun v1 => some (v1, h))
theorem A_M_apart {x0 : Int32} {x1 : Int32} {h h' : MH} {v : Int32} (hF : F_M_apart x0 x1 h = some (v, h')) : Ex 1 162 [.inl x0, .inl x1] h (some (.inl v), h') := by
  unfold F_M_apart at hF
  refine ex_of (d := 0) rfl rfl ?_
  refine g_iload_n (q := 1) rfl rfl rfl ?_
  refine g_iload_n (q := 2) rfl rfl rfl ?_
  obtain ⟨v1, e_v1, hF⟩ := iw_I hF
  suffices K2 : Go 0 162 14 (mm_lf []) [.inl v1] h (some (.inl v), h') by
    clear hF
    by_cases c3 : x0 ≤ x1
    · simp only [if_pos c3] at e_v1
      subst e_v1
      refine g_icmpT rfl (decide_eq_true c3) ?_
      refine g_iload_n (q := 12) rfl rfl rfl ?_
      refine g_iload_n (q := 13) rfl rfl rfl ?_
      refine g_isub (q := 14) rfl rfl ?_
      exact go_sub mm_sub0 K2
    · simp only [if_neg c3] at e_v1
      subst e_v1
      refine g_icmpF (q := 5) rfl (decide_eq_false c3) rfl ?_
      refine g_iload_n (q := 6) rfl rfl rfl ?_
      refine g_iload_n (q := 7) rfl rfl rfl ?_
      refine g_isub (q := 8) rfl rfl ?_
      refine g_goto rfl ?_
      exact go_sub mm_sub0 K2
  clear e_v1
  injection hF with hF
  injection hF with hv hh
  subst hv
  subst hh
  exact g_iret rfl
/-- BothCornersModel.foldsIn(IIII)I -/
def F_M_foldsIn (x1 : Int32) (x2 : Int32) (x3 : Int32) (x4 : Int32) (h : MH) : Option (Int32 × MH) := ck (mm_in ((I 4) * x1) 24) (ck (mm_in (((I 4) * x2) + (I 2)) 24) (bd (F_M_apart (h.1 56 (Int32.toNatClampNeg ((I 4) * x1))) (h.1 56 (Int32.toNatClampNeg (((I 4) * x2) + (I 2)))) h) (fun (r2, h1) => ck (mm_in (((I 4) * x1) + (I 1)) 24) (ck (mm_in (((I 4) * x2) + (I 3)) 24) (bd (F_M_apart (h1.1 56 (Int32.toNatClampNeg (((I 4) * x1) + (I 1)))) (h1.1 56 (Int32.toNatClampNeg (((I 4) * x2) + (I 3)))) h1) (fun (r4, h3) => ck (mm_in ((I 4) * x1) 24) (ck (mm_in (((I 4) * x2) + (I 3)) 24) (bd (F_M_apart (h3.1 56 (Int32.toNatClampNeg ((I 4) * x1))) (h3.1 56 (Int32.toNatClampNeg (((I 4) * x2) + (I 3)))) h3) (fun (r6, h5) => ck (mm_in (((I 4) * x1) + (I 1)) 24) (ck (mm_in (((I 4) * x2) + (I 2)) 24) (bd (F_M_apart (h5.1 56 (Int32.toNatClampNeg (((I 4) * x1) + (I 1)))) (h5.1 56 (Int32.toNatClampNeg (((I 4) * x2) + (I 2)))) h5) (fun (r8, h7) => if x3 = I 1 then some ((I 2) * ((r2 + r4) + x4), h7) else if x3 = I 2 then some (((r2 + r4) + x4) / (I 2), h7) else if x3 = I 3 then bd (F_M_atLeast ((((r2 + r4) + x4) / (I 2)) - (I 2)) (I 0) h7) (fun (r13, h12) => some (r13, h12)) else if x3 = I 4 then some ((r6 + r8) + x4, h7) else if x3 = I 5 then some ((((r2 + r4) + x4) / (I 2)) / (I 3), h7) else some ((r2 + r4) + x4, h7)))))))))))))
theorem A_M_foldsIn {x1 : Int32} {x2 : Int32} {x3 : Int32} {x4 : Int32} {h h' : MH} {v : Int32} (hF : F_M_foldsIn x1 x2 x3 x4 h = some (v, h')) : Ex 2 166 [.inr (.inl (some 55)), .inl x1, .inl x2, .inl x3, .inl x4] h (some (.inl v), h') := by
  unfold F_M_foldsIn at hF
  refine ex_of (d := 1) rfl rfl ?_
  refine g_aload_n (q := 1) rfl rfl rfl ?_
  refine g_getR (q := 4) rfl (fun _ => rfl) rfl ?_
  refine g_iconst (q := 5) rfl rfl ?_
  refine g_iload_n (q := 6) rfl rfl rfl ?_
  refine g_imul (q := 7) rfl rfl ?_
  obtain ⟨hi, hF⟩ := ck_I hF
  refine g_iaload (q := 8) rfl rfl rfl hi rfl ?_
  refine g_aload_n (q := 9) rfl rfl rfl ?_
  refine g_getR (q := 12) rfl (fun _ => rfl) rfl ?_
  refine g_iconst (q := 13) rfl rfl ?_
  refine g_iload_n (q := 14) rfl rfl rfl ?_
  refine g_imul (q := 15) rfl rfl ?_
  refine g_iconst (q := 16) rfl rfl ?_
  refine g_iadd (q := 17) rfl rfl ?_
  obtain ⟨hi, hF⟩ := ck_I hF
  refine g_iaload (q := 18) rfl rfl rfl hi rfl ?_
  obtain ⟨⟨r2, h1⟩, hC, hF⟩ := bd_I hF
  dsimp only at hF
  refine g_ci2 (q := 21) rfl rfl (fun _ => rfl) rfl (A_M_apart hC) (by decide +kernel) rfl ?_
  refine g_aload_n (q := 22) rfl rfl rfl ?_
  refine g_getR (q := 25) rfl (fun _ => rfl) rfl ?_
  refine g_iconst (q := 26) rfl rfl ?_
  refine g_iload_n (q := 27) rfl rfl rfl ?_
  refine g_imul (q := 28) rfl rfl ?_
  refine g_iconst (q := 29) rfl rfl ?_
  refine g_iadd (q := 30) rfl rfl ?_
  obtain ⟨hi, hF⟩ := ck_I hF
  refine g_iaload (q := 31) rfl rfl rfl hi rfl ?_
  refine g_aload_n (q := 32) rfl rfl rfl ?_
  refine g_getR (q := 35) rfl (fun _ => rfl) rfl ?_
  refine g_iconst (q := 36) rfl rfl ?_
  refine g_iload_n (q := 37) rfl rfl rfl ?_
  refine g_imul (q := 38) rfl rfl ?_
  refine g_iconst (q := 39) rfl rfl ?_
  refine g_iadd (q := 40) rfl rfl ?_
  obtain ⟨hi, hF⟩ := ck_I hF
  refine g_iaload (q := 41) rfl rfl rfl hi rfl ?_
  obtain ⟨⟨r4, h3⟩, hC, hF⟩ := bd_I hF
  dsimp only at hF
  refine g_ci2 (q := 44) rfl rfl (fun _ => rfl) rfl (A_M_apart hC) (by decide +kernel) rfl ?_
  refine g_iadd (q := 45) rfl rfl ?_
  refine g_iload (q := 47) rfl rfl rfl ?_
  refine g_iadd (q := 48) rfl rfl ?_
  refine g_istore (q := 50) rfl rfl ?_
  refine g_aload_n (q := 51) rfl rfl rfl ?_
  refine g_getR (q := 54) rfl (fun _ => rfl) rfl ?_
  refine g_iconst (q := 55) rfl rfl ?_
  refine g_iload_n (q := 56) rfl rfl rfl ?_
  refine g_imul (q := 57) rfl rfl ?_
  obtain ⟨hi, hF⟩ := ck_I hF
  refine g_iaload (q := 58) rfl rfl rfl hi rfl ?_
  refine g_aload_n (q := 59) rfl rfl rfl ?_
  refine g_getR (q := 62) rfl (fun _ => rfl) rfl ?_
  refine g_iconst (q := 63) rfl rfl ?_
  refine g_iload_n (q := 64) rfl rfl rfl ?_
  refine g_imul (q := 65) rfl rfl ?_
  refine g_iconst (q := 66) rfl rfl ?_
  refine g_iadd (q := 67) rfl rfl ?_
  obtain ⟨hi, hF⟩ := ck_I hF
  refine g_iaload (q := 68) rfl rfl rfl hi rfl ?_
  obtain ⟨⟨r6, h5⟩, hC, hF⟩ := bd_I hF
  dsimp only at hF
  refine g_ci2 (q := 71) rfl rfl (fun _ => rfl) rfl (A_M_apart hC) (by decide +kernel) rfl ?_
  refine g_aload_n (q := 72) rfl rfl rfl ?_
  refine g_getR (q := 75) rfl (fun _ => rfl) rfl ?_
  refine g_iconst (q := 76) rfl rfl ?_
  refine g_iload_n (q := 77) rfl rfl rfl ?_
  refine g_imul (q := 78) rfl rfl ?_
  refine g_iconst (q := 79) rfl rfl ?_
  refine g_iadd (q := 80) rfl rfl ?_
  obtain ⟨hi, hF⟩ := ck_I hF
  refine g_iaload (q := 81) rfl rfl rfl hi rfl ?_
  refine g_aload_n (q := 82) rfl rfl rfl ?_
  refine g_getR (q := 85) rfl (fun _ => rfl) rfl ?_
  refine g_iconst (q := 86) rfl rfl ?_
  refine g_iload_n (q := 87) rfl rfl rfl ?_
  refine g_imul (q := 88) rfl rfl ?_
  refine g_iconst (q := 89) rfl rfl ?_
  refine g_iadd (q := 90) rfl rfl ?_
  obtain ⟨hi, hF⟩ := ck_I hF
  refine g_iaload (q := 91) rfl rfl rfl hi rfl ?_
  obtain ⟨⟨r8, h7⟩, hC, hF⟩ := bd_I hF
  dsimp only at hF
  refine g_ci2 (q := 94) rfl rfl (fun _ => rfl) rfl (A_M_apart hC) (by decide +kernel) rfl ?_
  refine g_iadd (q := 95) rfl rfl ?_
  refine g_iload (q := 97) rfl rfl rfl ?_
  refine g_iadd (q := 98) rfl rfl ?_
  refine g_istore (q := 100) rfl rfl ?_
  refine g_iload_n (q := 101) rfl rfl rfl ?_
  by_cases c9 : x3 = I 1
  · rw [if_pos c9] at hF
    refine g_tsw (off := 35) (t := 136) rfl (by rw [c9]; decide +kernel) (by decide) ?_
    refine g_iconst (q := 137) rfl rfl ?_
    refine g_iload (q := 139) rfl rfl rfl ?_
    refine g_imul (q := 140) rfl rfl ?_
    injection hF with hF
    injection hF with hv hh
    subst hv
    subst hh
    exact g_iret rfl
  rw [if_neg c9] at hF
  by_cases c10 : x3 = I 2
  · rw [if_pos c10] at hF
    refine g_tsw (off := 40) (t := 141) rfl (by rw [c10]; decide +kernel) (by decide) ?_
    refine g_iload (q := 143) rfl rfl rfl ?_
    refine g_iconst (q := 144) rfl rfl ?_
    refine g_idiv (q := 145) rfl (by decide +kernel) rfl ?_
    injection hF with hF
    injection hF with hv hh
    subst hv
    subst hh
    exact g_iret rfl
  rw [if_neg c10] at hF
  by_cases c11 : x3 = I 3
  · rw [if_pos c11] at hF
    refine g_tsw (off := 45) (t := 146) rfl (by rw [c11]; decide +kernel) (by decide) ?_
    refine g_iload (q := 148) rfl rfl rfl ?_
    refine g_iconst (q := 149) rfl rfl ?_
    refine g_idiv (q := 150) rfl (by decide +kernel) rfl ?_
    refine g_iconst (q := 151) rfl rfl ?_
    refine g_isub (q := 152) rfl rfl ?_
    refine g_iconst (q := 153) rfl rfl ?_
    obtain ⟨⟨r13, h12⟩, hC, hF⟩ := bd_I hF
    dsimp only at hF
    refine g_ci2 (q := 156) rfl rfl (fun _ => rfl) rfl (A_M_atLeast hC) (by decide +kernel) rfl ?_
    injection hF with hF
    injection hF with hv hh
    subst hv
    subst hh
    exact g_iret rfl
  rw [if_neg c11] at hF
  by_cases c14 : x3 = I 4
  · rw [if_pos c14] at hF
    refine g_tsw (off := 56) (t := 157) rfl (by rw [c14]; decide +kernel) (by decide) ?_
    refine g_iload (q := 159) rfl rfl rfl ?_
    injection hF with hF
    injection hF with hv hh
    subst hv
    subst hh
    exact g_iret rfl
  rw [if_neg c14] at hF
  by_cases c15 : x3 = I 5
  · rw [if_pos c15] at hF
    refine g_tsw (off := 59) (t := 160) rfl (by rw [c15]; decide +kernel) (by decide) ?_
    refine g_iload (q := 162) rfl rfl rfl ?_
    refine g_iconst (q := 163) rfl rfl ?_
    refine g_idiv (q := 164) rfl (by decide +kernel) rfl ?_
    refine g_iconst (q := 165) rfl rfl ?_
    refine g_idiv (q := 166) rfl (by decide +kernel) rfl ?_
    injection hF with hF
    injection hF with hv hh
    subst hv
    subst hh
    exact g_iret rfl
  rw [if_neg c15] at hF
  refine g_tsw (off := 66) (t := 167) rfl (mm_tswD (by decide) (by decide) (fun k h1 h2 => by rcases (show k = 1 ∨ k = 2 ∨ k = 3 ∨ k = 4 ∨ k = 5 by omega) with rfl | rfl | rfl | rfl | rfl <;> assumption)) (by decide) ?_
  refine g_iload (q := 169) rfl rfl rfl ?_
  injection hF with hF
  injection hF with hv hh
  subst hv
  subst hh
  exact g_iret rfl
/-- BothCornersModel.foldsOf(II)I -/
def F_M_foldsOf (x1 : Int32) (x2 : Int32) (h : MH) : Option (Int32 × MH) := ck (mm_in x2 6) (ck (mm_in x2 6) (bd (F_M_foldsIn x1 x1 (h.1 59 (Int32.toNatClampNeg x2)) (h.1 60 (Int32.toNatClampNeg x2)) h) (fun (r2, h1) => some (r2, h1))))
theorem A_M_foldsOf {x1 : Int32} {x2 : Int32} {h h' : MH} {v : Int32} (hF : F_M_foldsOf x1 x2 h = some (v, h')) : Ex 3 167 [.inr (.inl (some 55)), .inl x1, .inl x2] h (some (.inl v), h') := by
  unfold F_M_foldsOf at hF
  refine ex_of (d := 2) rfl rfl ?_
  refine g_aload_n (q := 1) rfl rfl rfl ?_
  refine g_iload_n (q := 2) rfl rfl rfl ?_
  refine g_iload_n (q := 3) rfl rfl rfl ?_
  refine g_aload_n (q := 4) rfl rfl rfl ?_
  refine g_getR (q := 7) rfl (fun _ => rfl) rfl ?_
  refine g_iload_n (q := 8) rfl rfl rfl ?_
  obtain ⟨hi, hF⟩ := ck_I hF
  refine g_iaload (q := 9) rfl rfl rfl hi rfl ?_
  refine g_aload_n (q := 10) rfl rfl rfl ?_
  refine g_getR (q := 13) rfl (fun _ => rfl) rfl ?_
  refine g_iload_n (q := 14) rfl rfl rfl ?_
  obtain ⟨hi, hF⟩ := ck_I hF
  refine g_iaload (q := 15) rfl rfl rfl hi rfl ?_
  obtain ⟨⟨r2, h1⟩, hC, hF⟩ := bd_I hF
  dsimp only at hF
  refine g_ci5 (q := 18) rfl rfl (fun _ => rfl) rfl (A_M_foldsIn hC) (by decide +kernel) rfl ?_
  injection hF with hF
  injection hF with hv hh
  subst hv
  subst hh
  exact g_iret rfl
/-- BothCornersModel.fewerBy(I)I -/
def F_M_fewerBy (x0 : Int32) (h : MH) : Option (Int32 × MH) := some ((x0 / (I 2)) + (I 1), h)
theorem A_M_fewerBy {x0 : Int32} {h h' : MH} {v : Int32} (hF : F_M_fewerBy x0 h = some (v, h')) : Ex 1 168 [.inl x0] h (some (.inl v), h') := by
  unfold F_M_fewerBy at hF
  refine ex_of (d := 0) rfl rfl ?_
  refine g_iload_n (q := 1) rfl rfl rfl ?_
  refine g_iconst (q := 2) rfl rfl ?_
  refine g_idiv (q := 3) rfl (by decide +kernel) rfl ?_
  refine g_iconst (q := 4) rfl rfl ?_
  refine g_iadd (q := 5) rfl rfl ?_
  injection hF with hF
  injection hF with hv hh
  subst hv
  subst hh
  exact g_iret rfl
/-- BothCornersModel.shakesFor(II)I -/
def F_M_shakesFor (x0 : Int32) (x1 : Int32) (h : MH) : Option (Int32 × MH) := cd (¬ x1 = 0) (some (((x0 + x1) - (I 1)) / x1, h))
theorem A_M_shakesFor {x0 : Int32} {x1 : Int32} {h h' : MH} {v : Int32} (hF : F_M_shakesFor x0 x1 h = some (v, h')) : Ex 1 169 [.inl x0, .inl x1] h (some (.inl v), h') := by
  unfold F_M_shakesFor at hF
  refine ex_of (d := 0) rfl rfl ?_
  refine g_iload_n (q := 1) rfl rfl rfl ?_
  refine g_iload_n (q := 2) rfl rfl rfl ?_
  refine g_iadd (q := 3) rfl rfl ?_
  refine g_iconst (q := 4) rfl rfl ?_
  refine g_isub (q := 5) rfl rfl ?_
  refine g_iload_n (q := 6) rfl rfl rfl ?_
  obtain ⟨hne, hF⟩ := cd_I hF
  refine g_idiv (q := 7) rfl hne rfl ?_
  injection hF with hF
  injection hF with hv hh
  subst hv
  subst hh
  exact g_iret rfl
/-- BothCornersModel.timeBy(IIIII)I -/
def F_M_timeBy (x1 : Int32) (x2 : Int32) (x3 : Int32) (x4 : Int32) (x5 : Int32) (h : MH) : Option (Int32 × MH) := bd (F_M_secondsOf x1 x2 x3 x5 h) (fun (r2, h1) => bd (F_M_foldsIn x1 x1 x2 x3 h1) (fun (r4, h3) => bd (F_M_fewerBy x4 h3) (fun (r6, h5) => bd (F_M_shakesFor r4 r6 h5) (fun (r8, h7) => some (r2 + ((I 3) * r8), h7)))))
theorem A_M_timeBy {x1 : Int32} {x2 : Int32} {x3 : Int32} {x4 : Int32} {x5 : Int32} {h h' : MH} {v : Int32} (hF : F_M_timeBy x1 x2 x3 x4 x5 h = some (v, h')) : Ex 3 170 [.inr (.inl (some 55)), .inl x1, .inl x2, .inl x3, .inl x4, .inl x5] h (some (.inl v), h') := by
  unfold F_M_timeBy at hF
  refine ex_of (d := 2) rfl rfl ?_
  refine g_aload_n (q := 1) rfl rfl rfl ?_
  refine g_iload_n (q := 2) rfl rfl rfl ?_
  refine g_iload_n (q := 3) rfl rfl rfl ?_
  refine g_iload_n (q := 4) rfl rfl rfl ?_
  refine g_iload (q := 6) rfl rfl rfl ?_
  obtain ⟨⟨r2, h1⟩, hC, hF⟩ := bd_I hF
  dsimp only at hF
  refine g_ci5 (q := 9) rfl rfl (fun _ => rfl) rfl (A_M_secondsOf hC) (by decide +kernel) rfl ?_
  refine g_iconst (q := 10) rfl rfl ?_
  refine g_aload_n (q := 11) rfl rfl rfl ?_
  refine g_iload_n (q := 12) rfl rfl rfl ?_
  refine g_iload_n (q := 13) rfl rfl rfl ?_
  refine g_iload_n (q := 14) rfl rfl rfl ?_
  refine g_iload_n (q := 15) rfl rfl rfl ?_
  obtain ⟨⟨r4, h3⟩, hC, hF⟩ := bd_I hF
  dsimp only at hF
  refine g_ci5 (q := 18) rfl rfl (fun _ => rfl) rfl (A_M_foldsIn hC) (by decide +kernel) rfl ?_
  refine g_iload (q := 20) rfl rfl rfl ?_
  obtain ⟨⟨r6, h5⟩, hC, hF⟩ := bd_I hF
  dsimp only at hF
  refine g_ci1 (q := 23) rfl rfl (fun _ => rfl) rfl (A_M_fewerBy hC) (by decide +kernel) rfl ?_
  obtain ⟨⟨r8, h7⟩, hC, hF⟩ := bd_I hF
  dsimp only at hF
  refine g_ci2 (q := 26) rfl rfl (fun _ => rfl) rfl (A_M_shakesFor hC) (by decide +kernel) rfl ?_
  refine g_imul (q := 27) rfl rfl ?_
  refine g_iadd (q := 28) rfl rfl ?_
  injection hF with hF
  injection hF with hv hh
  subst hv
  subst hh
  exact g_iret rfl
/-- BothCornersModel.timeOf(III)I -/
def F_M_timeOf (x1 : Int32) (x2 : Int32) (x3 : Int32) (h : MH) : Option (Int32 × MH) := ck (mm_in x2 6) (ck (mm_in x2 6) (ck (mm_in x3 4) (ck (mm_in x3 4) (bd (F_M_timeBy x1 (h.1 59 (Int32.toNatClampNeg x2)) (h.1 60 (Int32.toNatClampNeg x2)) (h.1 57 (Int32.toNatClampNeg x3)) (h.1 58 (Int32.toNatClampNeg x3)) h) (fun (r2, h1) => some (r2, h1))))))
theorem A_M_timeOf {x1 : Int32} {x2 : Int32} {x3 : Int32} {h h' : MH} {v : Int32} (hF : F_M_timeOf x1 x2 x3 h = some (v, h')) : Ex 4 171 [.inr (.inl (some 55)), .inl x1, .inl x2, .inl x3] h (some (.inl v), h') := by
  unfold F_M_timeOf at hF
  refine ex_of (d := 3) rfl rfl ?_
  refine g_aload_n (q := 1) rfl rfl rfl ?_
  refine g_iload_n (q := 2) rfl rfl rfl ?_
  refine g_aload_n (q := 3) rfl rfl rfl ?_
  refine g_getR (q := 6) rfl (fun _ => rfl) rfl ?_
  refine g_iload_n (q := 7) rfl rfl rfl ?_
  obtain ⟨hi, hF⟩ := ck_I hF
  refine g_iaload (q := 8) rfl rfl rfl hi rfl ?_
  refine g_aload_n (q := 9) rfl rfl rfl ?_
  refine g_getR (q := 12) rfl (fun _ => rfl) rfl ?_
  refine g_iload_n (q := 13) rfl rfl rfl ?_
  obtain ⟨hi, hF⟩ := ck_I hF
  refine g_iaload (q := 14) rfl rfl rfl hi rfl ?_
  refine g_aload_n (q := 15) rfl rfl rfl ?_
  refine g_getR (q := 18) rfl (fun _ => rfl) rfl ?_
  refine g_iload_n (q := 19) rfl rfl rfl ?_
  obtain ⟨hi, hF⟩ := ck_I hF
  refine g_iaload (q := 20) rfl rfl rfl hi rfl ?_
  refine g_aload_n (q := 21) rfl rfl rfl ?_
  refine g_getR (q := 24) rfl (fun _ => rfl) rfl ?_
  refine g_iload_n (q := 25) rfl rfl rfl ?_
  obtain ⟨hi, hF⟩ := ck_I hF
  refine g_iaload (q := 26) rfl rfl rfl hi rfl ?_
  obtain ⟨⟨r2, h1⟩, hC, hF⟩ := bd_I hF
  dsimp only at hF
  refine g_ci6 (q := 29) rfl rfl (fun _ => rfl) rfl (A_M_timeBy hC) (by decide +kernel) rfl ?_
  injection hF with hF
  injection hF with hv hh
  subst hv
  subst hh
  exact g_iret rfl
/-- BothCornersModel.takes(IIII)I -/
def F_M_takes (x1 : Int32) (x2 : Int32) (x3 : Int32) (x4 : Int32) (h : MH) : Option (Int32 × MH) := hw (mm_hset h.1 55 10 (I 0), h.2) (fun h1 => bd (F_M_wrongThree x1 x2 x3 h1) (fun (r3, h2) => bd (F_M_wrongBit r3 x4 (I 3) h2) (fun (r5, h4) => if 0 ≤ r5 then if x4 = I 0 then ck (mm_in x2 6) (ck (mm_in x2 6) (ck (mm_in x3 4) (bd (F_M_secondsOf x1 (h4.1 59 (Int32.toNatClampNeg x2)) (h4.1 60 (Int32.toNatClampNeg x2)) (h4.1 58 (Int32.toNatClampNeg x3)) h4) (fun (r8, h7) => some (r8, h7))))) else if x4 = I 1 then bd (F_M_foldsOf x1 x2 h4) (fun (r11, h10) => some (r11, h10)) else if x4 = I 2 then bd (F_M_foldsOf x1 x2 h4) (fun (r14, h13) => ck (mm_in x3 4) (bd (F_M_fewerBy (h13.1 57 (Int32.toNatClampNeg x3)) h13) (fun (r16, h15) => bd (F_M_shakesFor r14 r16 h15) (fun (r18, h17) => some (r18, h17))))) else bd (F_M_timeOf x1 x2 x3 h4) (fun (r20, h19) => some (r20, h19)) else bd (F_M_refuse r5 h4) (fun (r22, h21) => some (r22, h21)))))
theorem A_M_takes {x1 : Int32} {x2 : Int32} {x3 : Int32} {x4 : Int32} {h h' : MH} {v : Int32} (hF : F_M_takes x1 x2 x3 x4 h = some (v, h')) : Ex 5 209 [.inr (.inl (some 55)), .inl x1, .inl x2, .inl x3, .inl x4] h (some (.inl v), h') := by
  unfold F_M_takes at hF
  refine ex_of (d := 4) rfl rfl ?_
  refine g_aload_n (q := 1) rfl rfl rfl ?_
  refine g_iconst (q := 2) rfl rfl ?_
  refine g_putI (q := 5) rfl (fun _ => rfl) rfl ?_
  obtain ⟨h1, e_h1, hF⟩ := hw_I hF
  rw [← e_h1]
  refine g_aload_n (q := 6) rfl rfl rfl ?_
  refine g_iload_n (q := 7) rfl rfl rfl ?_
  refine g_iload_n (q := 8) rfl rfl rfl ?_
  refine g_iload_n (q := 9) rfl rfl rfl ?_
  obtain ⟨⟨r3, h2⟩, hC, hF⟩ := bd_I hF
  dsimp only at hF
  refine g_ci4 (q := 12) rfl rfl (fun _ => rfl) rfl (A_M_wrongThree hC) (by decide +kernel) rfl ?_
  refine g_iload (q := 14) rfl rfl rfl ?_
  refine g_iconst (q := 15) rfl rfl ?_
  obtain ⟨⟨r5, h4⟩, hC, hF⟩ := bd_I hF
  dsimp only at hF
  refine g_ci3 (q := 18) rfl rfl (fun _ => rfl) rfl (A_M_wrongBit hC) (by decide +kernel) rfl ?_
  refine g_istore (q := 20) rfl rfl ?_
  refine g_iload (q := 22) rfl rfl rfl ?_
  by_cases c23 : 0 ≤ r5
  · rw [if_pos c23] at hF
    refine g_ifT rfl (decide_eq_true c23) ?_
    refine g_iload (q := 34) rfl rfl rfl ?_
    by_cases c6 : x4 = I 0
    · rw [if_pos c6] at hF
      refine g_tsw (off := 26) (t := 60) rfl (by rw [c6]; decide +kernel) (by decide) ?_
      refine g_aload_n (q := 61) rfl rfl rfl ?_
      refine g_iload_n (q := 62) rfl rfl rfl ?_
      refine g_aload_n (q := 63) rfl rfl rfl ?_
      refine g_getR (q := 66) rfl (fun _ => rfl) rfl ?_
      refine g_iload_n (q := 67) rfl rfl rfl ?_
      obtain ⟨hi, hF⟩ := ck_I hF
      refine g_iaload (q := 68) rfl rfl rfl hi rfl ?_
      refine g_aload_n (q := 69) rfl rfl rfl ?_
      refine g_getR (q := 72) rfl (fun _ => rfl) rfl ?_
      refine g_iload_n (q := 73) rfl rfl rfl ?_
      obtain ⟨hi, hF⟩ := ck_I hF
      refine g_iaload (q := 74) rfl rfl rfl hi rfl ?_
      refine g_aload_n (q := 75) rfl rfl rfl ?_
      refine g_getR (q := 78) rfl (fun _ => rfl) rfl ?_
      refine g_iload_n (q := 79) rfl rfl rfl ?_
      obtain ⟨hi, hF⟩ := ck_I hF
      refine g_iaload (q := 80) rfl rfl rfl hi rfl ?_
      obtain ⟨⟨r8, h7⟩, hC, hF⟩ := bd_I hF
      dsimp only at hF
      refine g_ci5 (q := 83) rfl rfl (fun _ => rfl) rfl (A_M_secondsOf hC) (by decide +kernel) rfl ?_
      injection hF with hF
      injection hF with hv hh
      subst hv
      subst hh
      exact g_iret rfl
    rw [if_neg c6] at hF
    by_cases c9 : x4 = I 1
    · rw [if_pos c9] at hF
      refine g_tsw (off := 50) (t := 84) rfl (by rw [c9]; decide +kernel) (by decide) ?_
      refine g_aload_n (q := 85) rfl rfl rfl ?_
      refine g_iload_n (q := 86) rfl rfl rfl ?_
      refine g_iload_n (q := 87) rfl rfl rfl ?_
      obtain ⟨⟨r11, h10⟩, hC, hF⟩ := bd_I hF
      dsimp only at hF
      refine g_ci3 (q := 90) rfl rfl (fun _ => rfl) rfl (A_M_foldsOf hC) (by decide +kernel) rfl ?_
      injection hF with hF
      injection hF with hv hh
      subst hv
      subst hh
      exact g_iret rfl
    rw [if_neg c9] at hF
    by_cases c12 : x4 = I 2
    · rw [if_pos c12] at hF
      refine g_tsw (off := 57) (t := 91) rfl (by rw [c12]; decide +kernel) (by decide) ?_
      refine g_aload_n (q := 92) rfl rfl rfl ?_
      refine g_iload_n (q := 93) rfl rfl rfl ?_
      refine g_iload_n (q := 94) rfl rfl rfl ?_
      obtain ⟨⟨r14, h13⟩, hC, hF⟩ := bd_I hF
      dsimp only at hF
      refine g_ci3 (q := 97) rfl rfl (fun _ => rfl) rfl (A_M_foldsOf hC) (by decide +kernel) rfl ?_
      refine g_aload_n (q := 98) rfl rfl rfl ?_
      refine g_getR (q := 101) rfl (fun _ => rfl) rfl ?_
      refine g_iload_n (q := 102) rfl rfl rfl ?_
      obtain ⟨hi, hF⟩ := ck_I hF
      refine g_iaload (q := 103) rfl rfl rfl hi rfl ?_
      obtain ⟨⟨r16, h15⟩, hC, hF⟩ := bd_I hF
      dsimp only at hF
      refine g_ci1 (q := 106) rfl rfl (fun _ => rfl) rfl (A_M_fewerBy hC) (by decide +kernel) rfl ?_
      obtain ⟨⟨r18, h17⟩, hC, hF⟩ := bd_I hF
      dsimp only at hF
      refine g_ci2 (q := 109) rfl rfl (fun _ => rfl) rfl (A_M_shakesFor hC) (by decide +kernel) rfl ?_
      injection hF with hF
      injection hF with hv hh
      subst hv
      subst hh
      exact g_iret rfl
    rw [if_neg c12] at hF
    refine g_tsw (off := 76) (t := 110) rfl (mm_tswD (by decide) (by decide) (fun k h1 h2 => by rcases (show k = 0 ∨ k = 1 ∨ k = 2 by omega) with rfl | rfl | rfl <;> assumption)) (by decide) ?_
    refine g_aload_n (q := 111) rfl rfl rfl ?_
    refine g_iload_n (q := 112) rfl rfl rfl ?_
    refine g_iload_n (q := 113) rfl rfl rfl ?_
    refine g_iload_n (q := 114) rfl rfl rfl ?_
    obtain ⟨⟨r20, h19⟩, hC, hF⟩ := bd_I hF
    dsimp only at hF
    refine g_ci4 (q := 117) rfl rfl (fun _ => rfl) rfl (A_M_timeOf hC) (by decide +kernel) rfl ?_
    injection hF with hF
    injection hF with hv hh
    subst hv
    subst hh
    exact g_iret rfl
  · rw [if_neg c23] at hF
    refine g_ifF (q := 25) rfl (decide_eq_false c23) rfl ?_
    refine g_aload_n (q := 26) rfl rfl rfl ?_
    refine g_iload (q := 28) rfl rfl rfl ?_
    obtain ⟨⟨r22, h21⟩, hC, hF⟩ := bd_I hF
    dsimp only at hF
    refine g_ci2 (q := 31) rfl rfl (fun _ => rfl) rfl (A_M_refuse hC) (by decide +kernel) rfl ?_
    injection hF with hF
    injection hF with hv hh
    subst hv
    subst hh
    exact g_iret rfl
