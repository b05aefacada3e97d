-- decompiled by wip/whole/dec.py: what a method does (F_), and that the mini machine does it (A_)
def L_L_turnTo_35 (x2 : Int32) : Nat → Int32 → Int32 → MH → Option (Int32 × MH)
  | 0, _, _, _ => none
  | n + 1, x3, x4, h => if x4 ≤ (x2 + (I 1)) then some (x3, h) else ck (mm_in x3 48) (L_L_turnTo_35 x2 n (h.1 38 (Int32.toNatClampNeg x3)) (x4 + I (-1)) h)
/-- BothCorners$Lies.turnTo(II)I -/
def F_L_turnTo (x1 : Int32) (x2 : Int32) (h : MH) : Option (Int32 × MH) := bd (F_L_indexOf x1 h) (fun (r2, h1) => if r2 < 0 then some (I (-9), h1) else if x2 < 0 then some (I (-9), h1) else ck (mm_in r2 48) (if x2 < (h1.1 37 (Int32.toNatClampNeg r2)) then ck (mm_in r2 48) (bd (L_L_turnTo_35 x2 5000 r2 (h1.1 37 (Int32.toNatClampNeg r2)) h1) (fun (y4, h5) => ck (mm_in y4 48) (some (h5.1 39 (Int32.toNatClampNeg y4), h5)))) else some (I (-9), h1)))
theorem A_L_L_turnTo_35 {x2 : Int32} {r : MRs} : ∀ (n : Nat) (x3 : Int32) (x4 : Int32) (h : MH) (x : Int32 × MH), L_L_turnTo_35 x2 n x3 x4 h = some x → (True) → (∀ (e3 : Int32) (h' : MH), x = (e3, h') → Go 1 42 56 (mm_lf [(0, .inr (.inl (some 35))), (3, .inl e3)]) [] h' r) → Go 1 42 35 (mm_lf [(0, .inr (.inl (some 35))), (2, .inl x2), (3, .inl x3), (4, .inl x4)]) [] h r
  | 0, _, _, _, _, hF, _, _ => by cases hF
  | n + 1, x3, x4, h, x, hF, KR, KX => by
    have ih := fun a3 a4 => A_L_L_turnTo_35 (x2 := x2) (r := r) n a3 a4 
    unfold L_L_turnTo_35 at hF
    refine g_iload (q := 37) rfl rfl rfl ?_
    refine g_iload_n (q := 38) rfl rfl rfl ?_
    refine g_iconst (q := 39) rfl rfl ?_
    refine g_iadd (q := 40) rfl rfl ?_
    by_cases c3 : x4 ≤ (x2 + (I 1))
    · rw [if_pos c3] at hF
      refine g_icmpT rfl (decide_eq_true c3) ?_
      injection hF with hF
      subst hF
      exact go_sub (mm_subc rfl (mm_subc rfl mm_sub0)) (KX _ _ rfl)
    · rw [if_neg c3] at hF
      refine g_icmpF (q := 43) rfl (decide_eq_false c3) rfl ?_
      refine g_aload_n (q := 44) rfl rfl rfl ?_
      refine g_getR (q := 47) rfl (fun _ => rfl) rfl ?_
      refine g_iload_n (q := 48) rfl rfl rfl ?_
      obtain ⟨hi, hF⟩ := ck_I hF
      refine g_iaload (q := 49) rfl rfl rfl hi rfl ?_
      refine g_istore_n (q := 50) rfl rfl ?_
      refine g_iinc (q := 53) rfl rfl rfl ?_
      refine g_goto rfl ?_
      refine go_sub (lo' := mm_lf [(0, .inr (.inl (some 35))), (2, .inl x2), (3, .inl (h.1 38 (Int32.toNatClampNeg x3))), (4, .inl (x4 + I (-1)))]) (mm_subc rfl (mm_subc rfl (mm_subc rfl (mm_subc rfl mm_sub0)))) ?_
      exact ih _ _ _ _ hF KR KX
theorem A_L_turnTo {x1 : Int32} {x2 : Int32} {h h' : MH} {v : Int32} (hF : F_L_turnTo x1 x2 h = some (v, h')) : Ex 2 42 [.inr (.inl (some 35)), .inl x1, .inl x2] h (some (.inl v), h') := by
  unfold F_L_turnTo at hF
  refine ex_of (d := 1) rfl rfl ?_
  refine g_aload_n (q := 1) rfl rfl rfl ?_
  refine g_iload_n (q := 2) rfl rfl rfl ?_
  obtain ⟨⟨r2, h1⟩, hC, hF⟩ := bd_I hF
  dsimp only at hF
  refine g_ci2 (q := 5) rfl rfl (fun _ => rfl) rfl (A_L_indexOf hC) (by decide +kernel) rfl ?_
  refine g_istore_n (q := 6) rfl rfl ?_
  refine g_iload_n (q := 7) rfl rfl rfl ?_
  by_cases c8 : r2 < 0
  · rw [if_pos c8] at hF
    refine g_ifT rfl (decide_eq_true c8) ?_
    refine g_bipush (q := 26) rfl (by decide +kernel) rfl ?_
    injection hF with hF
    injection hF with hv hh
    subst hv
    subst hh
    exact g_iret rfl
  · rw [if_neg c8] at hF
    refine g_ifF (q := 10) rfl (decide_eq_false c8) rfl ?_
    refine g_iload_n (q := 11) rfl rfl rfl ?_
    by_cases c7 : x2 < 0
    · rw [if_pos c7] at hF
      refine g_ifT rfl (decide_eq_true c7) ?_
      refine g_bipush (q := 26) rfl (by decide +kernel) rfl ?_
      injection hF with hF
      injection hF with hv hh
      subst hv
      subst hh
      exact g_iret rfl
    · rw [if_neg c7] at hF
      refine g_ifF (q := 14) rfl (decide_eq_false c7) rfl ?_
      refine g_iload_n (q := 15) rfl rfl rfl ?_
      refine g_aload_n (q := 16) rfl rfl rfl ?_
      refine g_getR (q := 19) rfl (fun _ => rfl) rfl ?_
      refine g_iload_n (q := 20) rfl rfl rfl ?_
      obtain ⟨hi, hF⟩ := ck_I hF
      refine g_iaload (q := 21) rfl rfl rfl hi rfl ?_
      by_cases c6 : x2 < (h1.1 37 (Int32.toNatClampNeg r2))
      · rw [if_pos c6] at hF
        refine g_icmpT rfl (decide_eq_true c6) ?_
        refine g_aload_n (q := 28) rfl rfl rfl ?_
        refine g_getR (q := 31) rfl (fun _ => rfl) rfl ?_
        refine g_iload_n (q := 32) rfl rfl rfl ?_
        obtain ⟨hi, hF⟩ := ck_I hF
        refine g_iaload (q := 33) rfl rfl rfl hi rfl ?_
        refine g_istore (q := 35) rfl rfl ?_
        refine go_sub (lo' := mm_lf [(0, .inr (.inl (some 35))), (2, .inl x2), (3, .inl r2), (4, .inl (h1.1 37 (Int32.toNatClampNeg r2)))]) (mm_subc rfl (mm_subc rfl (mm_subc rfl (mm_subc rfl mm_sub0)))) ?_
        obtain ⟨⟨y4, h5⟩, hC, hF⟩ := bd_I hF
        dsimp only at hF
        refine A_L_L_turnTo_35 5000 _ _ _ _ hC trivial ?_
        intro _ _ e2
        cases e2
        refine g_aload_n (q := 57) rfl rfl rfl ?_
        refine g_getR (q := 60) rfl (fun _ => rfl) rfl ?_
        refine g_iload_n (q := 61) rfl rfl rfl ?_
        obtain ⟨hi, hF⟩ := ck_I hF
        refine g_iaload (q := 62) rfl rfl rfl hi rfl ?_
        injection hF with hF
        injection hF with hv hh
        subst hv
        subst hh
        exact g_iret rfl
      · rw [if_neg c6] at hF
        refine g_icmpF (q := 24) rfl (decide_eq_false c6) rfl ?_
        refine g_bipush (q := 26) rfl (by decide +kernel) rfl ?_
        injection hF with hF
        injection hF with hv hh
        subst hv
        subst hh
        exact g_iret rfl
/-- BothCorners$Lies.turnsTo(I)I -/
def F_L_turnsTo (x1 : Int32) (h : MH) : Option (Int32 × MH) := bd (F_L_indexOf x1 h) (fun (r2, h1) => if 0 ≤ r2 then ck (mm_in r2 48) (some (h1.1 37 (Int32.toNatClampNeg r2), h1)) else some (I (-9), h1))
theorem A_L_turnsTo {x1 : Int32} {h h' : MH} {v : Int32} (hF : F_L_turnsTo x1 h = some (v, h')) : Ex 2 41 [.inr (.inl (some 35)), .inl x1] h (some (.inl v), h') := by
  unfold F_L_turnsTo at hF
  refine ex_of (d := 1) rfl rfl ?_
  refine g_aload_n (q := 1) rfl rfl rfl ?_
  refine g_iload_n (q := 2) rfl rfl rfl ?_
  obtain ⟨⟨r2, h1⟩, hC, hF⟩ := bd_I hF
  dsimp only at hF
  refine g_ci2 (q := 5) rfl rfl (fun _ => rfl) rfl (A_L_indexOf hC) (by decide +kernel) rfl ?_
  refine g_istore_n (q := 6) rfl rfl ?_
  refine g_iload_n (q := 7) rfl rfl rfl ?_
  by_cases c3 : 0 ≤ r2
  · rw [if_pos c3] at hF
    refine g_ifT rfl (decide_eq_true c3) ?_
    refine g_aload_n (q := 16) rfl rfl rfl ?_
    refine g_getR (q := 19) rfl (fun _ => rfl) rfl ?_
    refine g_iload_n (q := 20) rfl rfl rfl ?_
    obtain ⟨hi, hF⟩ := ck_I hF
    refine g_iaload (q := 21) rfl rfl rfl hi rfl ?_
    injection hF with hF
    injection hF with hv hh
    subst hv
    subst hh
    exact g_iret rfl
  · rw [if_neg c3] at hF
    refine g_ifF (q := 10) rfl (decide_eq_false c3) rfl ?_
    refine g_bipush (q := 12) rfl (by decide +kernel) rfl ?_
    refine g_goto rfl ?_
    injection hF with hF
    injection hF with hv hh
    subst hv
    subst hh
    exact g_iret rfl
/-- BothCorners.right(I)I -/
def F_C_right (x1 : Int32) (h : MH) : Option (Int32 × MH) := if (I (-1)) ≤ x1 then bd (F_L_spread (h.1 8 10) h) (fun h1 => if ¬ x1 = (I (-1)) then bd (F_L_turnTo (I 228) x1 h1) (fun (r3, h2) => some (r3, h2)) else bd (F_L_turnsTo (I 228) h1) (fun (r5, h4) => some (r5, h4))) else bd (F_C_refuse (I (-4)) h) (fun (r8, h7) => some (r8, h7))
theorem A_C_right {x1 : Int32} {h h' : MH} {v : Int32} (hF : F_C_right x1 h = some (v, h')) : Ex 4 103 [.inr (.inl (some 0)), .inl x1] h (some (.inl v), h') := by
  unfold F_C_right at hF
  refine ex_of (d := 3) rfl rfl ?_
  refine g_iload_n (q := 1) rfl rfl rfl ?_
  refine g_iconst (q := 2) rfl rfl ?_
  by_cases c9 : (I (-1)) ≤ x1
  · rw [if_pos c9] at hF
    refine g_icmpT rfl (decide_eq_true c9) ?_
    refine g_aload_n (q := 13) rfl rfl rfl ?_
    refine g_getR (q := 16) rfl (fun _ => rfl) rfl ?_
    refine g_aload_n (q := 17) rfl rfl rfl ?_
    refine g_getR (q := 20) rfl (fun _ => rfl) rfl ?_
    refine g_getI (q := 23) rfl (fun _ => rfl) rfl ?_
    obtain ⟨h1, hC, hF⟩ := bd_I hF
    refine g_cv2 (q := 26) rfl rfl (fun _ => rfl) rfl (A_L_spread hC) (by decide +kernel) rfl ?_
    refine g_iload_n (q := 27) rfl rfl rfl ?_
    refine g_iconst (q := 28) rfl rfl ?_
    by_cases c6 : ¬ x1 = (I (-1))
    · rw [if_pos c6] at hF
      refine g_icmpT rfl (decide_eq_true c6) ?_
      refine g_aload_n (q := 45) rfl rfl rfl ?_
      refine g_getR (q := 48) rfl (fun _ => rfl) rfl ?_
      refine g_sipush (q := 51) rfl (by decide +kernel) rfl ?_
      refine g_iload_n (q := 52) rfl rfl rfl ?_
      obtain ⟨⟨r3, h2⟩, hC, hF⟩ := bd_I hF
      dsimp only at hF
      refine g_ci3 (q := 55) rfl rfl (fun _ => rfl) rfl (A_L_turnTo hC) (by decide +kernel) rfl ?_
      injection hF with hF
      injection hF with hv hh
      subst hv
      subst hh
      exact g_iret rfl
    · rw [if_neg c6] at hF
      refine g_icmpF (q := 31) rfl (decide_eq_false c6) rfl ?_
      refine g_aload_n (q := 32) rfl rfl rfl ?_
      refine g_getR (q := 35) rfl (fun _ => rfl) rfl ?_
      refine g_sipush (q := 38) rfl (by decide +kernel) rfl ?_
      obtain ⟨⟨r5, h4⟩, hC, hF⟩ := bd_I hF
      dsimp only at hF
      refine g_ci2 (q := 41) rfl rfl (fun _ => rfl) rfl (A_L_turnsTo hC) (by decide +kernel) rfl ?_
      refine g_goto rfl ?_
      injection hF with hF
      injection hF with hv hh
      subst hv
      subst hh
      exact g_iret rfl
  · rw [if_neg c9] at hF
    refine g_icmpF (q := 5) rfl (decide_eq_false c9) rfl ?_
    refine g_aload_n (q := 6) rfl rfl rfl ?_
    refine g_bipush (q := 8) rfl (by decide +kernel) rfl ?_
    obtain ⟨⟨r8, h7⟩, hC, hF⟩ := bd_I hF
    dsimp only at hF
    refine g_ci2 (q := 11) rfl rfl (fun _ => rfl) rfl (A_C_refuse hC) (by decide +kernel) rfl ?_
    injection hF with hF
    injection hF with hv hh
    subst hv
    subst hh
    exact g_iret rfl
def L_C_rowIsTurns_2 : Nat → Int32 → MH → Option ((Int32 × MH) ⊕ (MH))
  | 0, _, _ => none
  | n + 1, x1, h => if (h.1 0 9) ≤ x1 then some (.inr (h)) else ck (mm_in x1 12) (bd (F_C_noTurn (h.1 53 (Int32.toNatClampNeg x1)) h) (fun (r2, h1) => if r2 = 0 then L_C_rowIsTurns_2 n (x1 + I 1) h1 else some (.inl (I 0, h1))))
/-- BothCorners.rowIsTurns()Z -/
def F_C_rowIsTurns (h : MH) : Option (Int32 × MH) := be (L_C_rowIsTurns_2 5000 (I 0) h) (fun u6 => some u6) (fun h5 => some (I 1, h5))
theorem A_L_C_rowIsTurns_2 {r : MRs} : ∀ (n : Nat) (x1 : Int32) (h : MH) (x : (Int32 × MH) ⊕ (MH)), L_C_rowIsTurns_2 n x1 h = some x → (∀ (u : Int32) (h' : MH), x = .inl (u, h') → r = (some (.inl u), h')) → (∀ (h' : MH), x = .inr (h') → Go 1 137 30 (mm_lf []) [] h' r) → Go 1 137 2 (mm_lf [(0, .inr (.inl (some 0))), (1, .inl x1)]) [] h r
  | 0, _, _, _, hF, _, _ => by cases hF
  | n + 1, x1, h, x, hF, KR, KX => by
    have ih := fun a1 => A_L_C_rowIsTurns_2 (r := r) n a1 
    unfold L_C_rowIsTurns_2 at hF
    refine g_iload_n (q := 3) rfl rfl rfl ?_
    refine g_aload_n (q := 4) rfl rfl rfl ?_
    refine g_getI (q := 7) rfl (fun _ => rfl) rfl ?_
    by_cases c4 : (h.1 0 9) ≤ x1
    · rw [if_pos c4] at hF
      refine g_icmpT rfl (decide_eq_true c4) ?_
      injection hF with hF
      subst hF
      exact go_sub mm_sub0 (KX  _ rfl)
    · rw [if_neg c4] at hF
      refine g_icmpF (q := 10) rfl (decide_eq_false c4) rfl ?_
      refine g_aload_n (q := 11) rfl rfl rfl ?_
      refine g_getR (q := 14) rfl (fun _ => rfl) rfl ?_
      refine g_iload_n (q := 15) rfl rfl rfl ?_
      obtain ⟨hi, hF⟩ := ck_I hF
      refine g_iaload (q := 16) rfl rfl rfl hi rfl ?_
      obtain ⟨⟨r2, h1⟩, hC, hF⟩ := bd_I hF
      dsimp only at hF
      refine g_ci1 (q := 19) rfl rfl (fun _ => rfl) rfl (A_C_noTurn hC) (by decide +kernel) rfl ?_
      by_cases c3 : r2 = 0
      · rw [if_pos c3] at hF
        refine g_ifT rfl (decide_eq_true c3) ?_
        refine g_iinc (q := 27) rfl rfl rfl ?_
        refine g_goto rfl ?_
        refine go_sub (lo' := mm_lf [(0, .inr (.inl (some 0))), (1, .inl (x1 + I 1))]) (mm_subc rfl (mm_subc rfl mm_sub0)) ?_
        exact ih _ _ _ hF KR KX
      · rw [if_neg c3] at hF
        refine g_ifF (q := 22) rfl (decide_eq_false c3) rfl ?_
        refine g_iconst (q := 23) rfl rfl ?_
        injection hF with hF
        subst hF
        rw [KR _ _ rfl]
        exact g_zret rfl (by decide +kernel)
theorem A_C_rowIsTurns {h h' : MH} {v : Int32} (hF : F_C_rowIsTurns h = some (v, h')) : Ex 2 137 [.inr (.inl (some 0))] h (some (.inl v), h') := by
  unfold F_C_rowIsTurns at hF
  refine ex_of (d := 1) rfl rfl ?_
  refine g_iconst (q := 1) rfl rfl ?_
  refine g_istore_n (q := 2) rfl rfl ?_
  refine go_sub (lo' := mm_lf [(0, .inr (.inl (some 0))), (1, .inl (I 0))]) (mm_subc rfl (mm_subc rfl mm_sub0)) ?_
  rcases be_I hF with ⟨u, hC, hF⟩ | ⟨h5, hC, hF⟩
  · refine A_L_C_rowIsTurns_2 5000 _ _ _ hC ?_ ?_
    · intro u2 h2 e2
      cases e2
      injection hF with hF
      injection hF with hv hh
      subst hv
      subst hh
      rfl
    · intro _ e2
      cases e2
  refine A_L_C_rowIsTurns_2 5000 _ _ _ hC ?_ ?_
  · intro u2 h2 e2
    cases e2
  intro _ e2
  cases e2
  refine g_iconst (q := 31) rfl rfl ?_
  injection hF with hF
  injection hF with hv hh
  subst hv
  subst hh
  exact g_zret rfl (by decide +kernel)
def L_C_rowDone_4 : Nat → Int32 → Int32 → MH → Option (Int32 × MH)
  | 0, _, _, _ => none
  | n + 1, x2, x3, h => if (h.1 0 9) ≤ x3 then some (x2, h) else ck (mm_in x3 12) (bd (F_L_turned x2 (h.1 53 (Int32.toNatClampNeg x3)) h) (fun (r2, h1) => L_C_rowDone_4 n r2 (x3 + I 1) h1))
/-- BothCorners.rowDone(I)I -/
def F_C_rowDone (x1 : Int32) (h : MH) : Option (Int32 × MH) := bd (L_C_rowDone_4 5000 x1 (I 0) h) (fun (y4, h5) => some (y4, h5))
theorem A_L_C_rowDone_4 {r : MRs} : ∀ (n : Nat) (x2 : Int32) (x3 : Int32) (h : MH) (x : Int32 × MH), L_C_rowDone_4 n x2 x3 h = some x → (True) → (∀ (e2 : Int32) (h' : MH), x = (e2, h') → Go 2 139 29 (mm_lf [(2, .inl e2)]) [] h' r) → Go 2 139 4 (mm_lf [(0, .inr (.inl (some 0))), (2, .inl x2), (3, .inl x3)]) [] h r
  | 0, _, _, _, _, hF, _, _ => by cases hF
  | n + 1, x2, x3, h, x, hF, KR, KX => by
    have ih := fun a2 a3 => A_L_C_rowDone_4 (r := r) n a2 a3 
    unfold L_C_rowDone_4 at hF
    refine g_iload_n (q := 5) rfl rfl rfl ?_
    refine g_aload_n (q := 6) rfl rfl rfl ?_
    refine g_getI (q := 9) rfl (fun _ => rfl) rfl ?_
    by_cases c3 : (h.1 0 9) ≤ x3
    · rw [if_pos c3] at hF
      refine g_icmpT rfl (decide_eq_true c3) ?_
      injection hF with hF
      subst hF
      exact go_sub (mm_subc rfl mm_sub0) (KX _ _ rfl)
    · rw [if_neg c3] at hF
      refine g_icmpF (q := 12) rfl (decide_eq_false c3) rfl ?_
      refine g_iload_n (q := 13) rfl rfl rfl ?_
      refine g_aload_n (q := 14) rfl rfl rfl ?_
      refine g_getR (q := 17) rfl (fun _ => rfl) rfl ?_
      refine g_iload_n (q := 18) rfl rfl rfl ?_
      obtain ⟨hi, hF⟩ := ck_I hF
      refine g_iaload (q := 19) rfl rfl rfl hi rfl ?_
      obtain ⟨⟨r2, h1⟩, hC, hF⟩ := bd_I hF
      dsimp only at hF
      refine g_ci2 (q := 22) rfl rfl (fun _ => rfl) rfl (A_L_turned hC) (by decide +kernel) rfl ?_
      refine g_istore_n (q := 23) rfl rfl ?_
      refine g_iinc (q := 26) rfl rfl rfl ?_
      refine g_goto rfl ?_
      refine go_sub (lo' := mm_lf [(0, .inr (.inl (some 0))), (2, .inl r2), (3, .inl (x3 + I 1))]) (mm_subc rfl (mm_subc rfl (mm_subc rfl mm_sub0))) ?_
      exact ih _ _ _ _ hF KR KX
theorem A_C_rowDone {x1 : Int32} {h h' : MH} {v : Int32} (hF : F_C_rowDone x1 h = some (v, h')) : Ex 3 139 [.inr (.inl (some 0)), .inl x1] h (some (.inl v), h') := by
  unfold F_C_rowDone at hF
  refine ex_of (d := 2) rfl rfl ?_
  refine g_iload_n (q := 1) rfl rfl rfl ?_
  refine g_istore_n (q := 2) rfl rfl ?_
  refine g_iconst (q := 3) rfl rfl ?_
  refine g_istore_n (q := 4) rfl rfl ?_
  refine go_sub (lo' := mm_lf [(0, .inr (.inl (some 0))), (2, .inl x1), (3, .inl (I 0))]) (mm_subc rfl (mm_subc rfl (mm_subc rfl mm_sub0))) ?_
  obtain ⟨⟨y4, h5⟩, hC, hF⟩ := bd_I hF
  dsimp only at hF
  refine A_L_C_rowDone_4 5000 _ _ _ _ hC trivial ?_
  intro _ _ e2
  cases e2
  refine g_iload_n (q := 30) rfl rfl rfl ?_
  injection hF with hF
  injection hF with hv hh
  subst hv
  subst hh
  exact g_iret rfl
/-- BothCorners.lands(I)I -/
def F_C_lands (x1 : Int32) (h : MH) : Option (Int32 × MH) := bd (F_C_noCorner x1 h) (fun (r2, h1) => if r2 = 0 then bd (F_C_rowIsTurns h1) (fun (r4, h3) => if ¬ r4 = 0 then bd (F_C_rowDone (h3.1 8 10) h3) (fun (r6, h5) => bd (F_L_placeOf r6 x1 h5) (fun (r8, h7) => some (r8, h7))) else bd (F_C_refuse (I (-3)) h3) (fun (r10, h9) => some (r10, h9))) else bd (F_C_refuse (I (-1)) h1) (fun (r13, h12) => some (r13, h12)))
theorem A_C_lands {x1 : Int32} {h h' : MH} {v : Int32} (hF : F_C_lands x1 h = some (v, h')) : Ex 4 104 [.inr (.inl (some 0)), .inl x1] h (some (.inl v), h') := by
  unfold F_C_lands at hF
  refine ex_of (d := 3) rfl rfl ?_
  refine g_iload_n (q := 1) rfl rfl rfl ?_
  obtain ⟨⟨r2, h1⟩, hC, hF⟩ := bd_I hF
  dsimp only at hF
  refine g_ci1 (q := 4) rfl rfl (fun _ => rfl) rfl (A_C_noCorner hC) (by decide +kernel) rfl ?_
  by_cases c14 : r2 = 0
  · rw [if_pos c14] at hF
    refine g_ifT rfl (decide_eq_true c14) ?_
    refine g_aload_n (q := 14) rfl rfl rfl ?_
    obtain ⟨⟨r4, h3⟩, hC, hF⟩ := bd_I hF
    dsimp only at hF
    refine g_ci1 (q := 17) rfl rfl (fun _ => rfl) rfl (A_C_rowIsTurns hC) (by decide +kernel) rfl ?_
    by_cases c11 : ¬ r4 = 0
    · rw [if_pos c11] at hF
      refine g_ifT rfl (decide_eq_true c11) ?_
      refine g_aload_n (q := 28) rfl rfl rfl ?_
      refine g_aload_n (q := 29) rfl rfl rfl ?_
      refine g_getR (q := 32) rfl (fun _ => rfl) rfl ?_
      refine g_getI (q := 35) rfl (fun _ => rfl) rfl ?_
      obtain ⟨⟨r6, h5⟩, hC, hF⟩ := bd_I hF
      dsimp only at hF
      refine g_ci2 (q := 38) rfl rfl (fun _ => rfl) rfl (A_C_rowDone hC) (by decide +kernel) rfl ?_
      refine g_iload_n (q := 39) rfl rfl rfl ?_
      obtain ⟨⟨r8, h7⟩, hC, hF⟩ := bd_I hF
      dsimp only at hF
      refine g_ci2 (q := 42) rfl rfl (fun _ => rfl) rfl (A_L_placeOf hC) (by decide +kernel) rfl ?_
      injection hF with hF
      injection hF with hv hh
      subst hv
      subst hh
      exact g_iret rfl
    · rw [if_neg c11] at hF
      refine g_ifF (q := 20) rfl (decide_eq_false c11) rfl ?_
      refine g_aload_n (q := 21) rfl rfl rfl ?_
      refine g_bipush (q := 23) rfl (by decide +kernel) rfl ?_
      obtain ⟨⟨r10, h9⟩, hC, hF⟩ := bd_I hF
      dsimp only at hF
      refine g_ci2 (q := 26) rfl rfl (fun _ => rfl) rfl (A_C_refuse hC) (by decide +kernel) rfl ?_
      injection hF with hF
      injection hF with hv hh
      subst hv
      subst hh
      exact g_iret rfl
  · rw [if_neg c14] at hF
    refine g_ifF (q := 7) rfl (decide_eq_false c14) rfl ?_
    refine g_aload_n (q := 8) rfl rfl rfl ?_
    refine g_iconst (q := 9) rfl rfl ?_
    obtain ⟨⟨r13, h12⟩, hC, hF⟩ := bd_I hF
    dsimp only at hF
    refine g_ci2 (q := 12) rfl rfl (fun _ => rfl) rfl (A_C_refuse hC) (by decide +kernel) rfl ?_
    injection hF with hF
    injection hF with hv hh
    subst hv
    subst hh
    exact g_iret rfl
def L_C_orderOf_28 : Nat → Int32 → Int32 → MH → Option (Int32 × MH)
  | 0, _, _, _ => none
  | n + 1, x1, x2, h => if (I 24) ≤ x1 then some (x1, h) else if x2 = (h.1 8 10) then some (x1, h) else bd (F_C_rowDone x2 h) (fun (r6, h5) => L_C_orderOf_28 n (x1 + I 1) r6 h5)
/-- BothCorners.orderOf()I -/
def F_C_orderOf (h : MH) : Option (Int32 × MH) := bd (F_C_rowIsTurns h) (fun (r2, h1) => if ¬ r2 = 0 then bd (F_C_rowDone (h1.1 8 10) h1) (fun (r4, h3) => bd (L_C_orderOf_28 5000 (I 1) r4 h3) (fun (y9, h10) => some (y9, h10))) else bd (F_C_refuse (I (-3)) h1) (fun (r12, h11) => some (r12, h11)))
theorem A_L_C_orderOf_28 {r : MRs} : ∀ (n : Nat) (x1 : Int32) (x2 : Int32) (h : MH) (x : Int32 × MH), L_C_orderOf_28 n x1 x2 h = some x → (True) → (∀ (e1 : Int32) (h' : MH), x = (e1, h') → Go 3 105 57 (mm_lf [(1, .inl e1)]) [] h' r) → Go 3 105 28 (mm_lf [(0, .inr (.inl (some 0))), (1, .inl x1), (2, .inl x2)]) [] h r
  | 0, _, _, _, _, hF, _, _ => by cases hF
  | n + 1, x1, x2, h, x, hF, KR, KX => by
    have ih := fun a1 a2 => A_L_C_orderOf_28 (r := r) n a1 a2 
    unfold L_C_orderOf_28 at hF
    refine g_iload_n (q := 29) rfl rfl rfl ?_
    refine g_bipush (q := 31) rfl (by decide +kernel) rfl ?_
    by_cases c8 : (I 24) ≤ x1
    · rw [if_pos c8] at hF
      refine g_icmpT rfl (decide_eq_true c8) ?_
      injection hF with hF
      subst hF
      exact go_sub (mm_subc rfl mm_sub0) (KX _ _ rfl)
    · rw [if_neg c8] at hF
      refine g_icmpF (q := 34) rfl (decide_eq_false c8) rfl ?_
      refine g_iload_n (q := 35) rfl rfl rfl ?_
      refine g_aload_n (q := 36) rfl rfl rfl ?_
      refine g_getR (q := 39) rfl (fun _ => rfl) rfl ?_
      refine g_getI (q := 42) rfl (fun _ => rfl) rfl ?_
      by_cases c7 : x2 = (h.1 8 10)
      · rw [if_pos c7] at hF
        refine g_icmpT rfl (decide_eq_true c7) ?_
        injection hF with hF
        subst hF
        exact go_sub (mm_subc rfl mm_sub0) (KX _ _ rfl)
      · rw [if_neg c7] at hF
        refine g_icmpF (q := 45) rfl (decide_eq_false c7) rfl ?_
        refine g_aload_n (q := 46) rfl rfl rfl ?_
        refine g_iload_n (q := 47) rfl rfl rfl ?_
        obtain ⟨⟨r6, h5⟩, hC, hF⟩ := bd_I hF
        dsimp only at hF
        refine g_ci2 (q := 50) rfl rfl (fun _ => rfl) rfl (A_C_rowDone hC) (by decide +kernel) rfl ?_
        refine g_istore_n (q := 51) rfl rfl ?_
        refine g_iinc (q := 54) rfl rfl rfl ?_
        refine g_goto rfl ?_
        refine go_sub (lo' := mm_lf [(0, .inr (.inl (some 0))), (1, .inl (x1 + I 1)), (2, .inl r6)]) (mm_subc rfl (mm_subc rfl (mm_subc rfl mm_sub0))) ?_
        exact ih _ _ _ _ hF KR KX
theorem A_C_orderOf {h h' : MH} {v : Int32} (hF : F_C_orderOf h = some (v, h')) : Ex 4 105 [.inr (.inl (some 0))] h (some (.inl v), h') := by
  unfold F_C_orderOf at hF
  refine ex_of (d := 3) rfl rfl ?_
  refine g_aload_n (q := 1) rfl rfl rfl ?_
  obtain ⟨⟨r2, h1⟩, hC, hF⟩ := bd_I hF
  dsimp only at hF
  refine g_ci1 (q := 4) rfl rfl (fun _ => rfl) rfl (A_C_rowIsTurns hC) (by decide +kernel) rfl ?_
  by_cases c13 : ¬ r2 = 0
  · rw [if_pos c13] at hF
    refine g_ifT rfl (decide_eq_true c13) ?_
    refine g_iconst (q := 15) rfl rfl ?_
    refine g_istore_n (q := 16) rfl rfl ?_
    refine g_aload_n (q := 17) rfl rfl rfl ?_
    refine g_aload_n (q := 18) rfl rfl rfl ?_
    refine g_getR (q := 21) rfl (fun _ => rfl) rfl ?_
    refine g_getI (q := 24) rfl (fun _ => rfl) rfl ?_
    obtain ⟨⟨r4, h3⟩, hC, hF⟩ := bd_I hF
    dsimp only at hF
    refine g_ci2 (q := 27) rfl rfl (fun _ => rfl) rfl (A_C_rowDone hC) (by decide +kernel) rfl ?_
    refine g_istore_n (q := 28) rfl rfl ?_
    refine go_sub (lo' := mm_lf [(0, .inr (.inl (some 0))), (1, .inl (I 1)), (2, .inl r4)]) (mm_subc rfl (mm_subc rfl (mm_subc rfl mm_sub0))) ?_
    obtain ⟨⟨y9, h10⟩, hC, hF⟩ := bd_I hF
    dsimp only at hF
    refine A_L_C_orderOf_28 5000 _ _ _ _ hC trivial ?_
    intro _ _ e2
    cases e2
    refine g_iload_n (q := 58) rfl rfl rfl ?_
    injection hF with hF
    injection hF with hv hh
    subst hv
    subst hh
    exact g_iret rfl
  · rw [if_neg c13] at hF
    refine g_ifF (q := 7) rfl (decide_eq_false c13) rfl ?_
    refine g_aload_n (q := 8) rfl rfl rfl ?_
    refine g_bipush (q := 10) rfl (by decide +kernel) rfl ?_
    obtain ⟨⟨r12, h11⟩, hC, hF⟩ := bd_I hF
    dsimp only at hF
    refine g_ci2 (q := 13) rfl rfl (fun _ => rfl) rfl (A_C_refuse hC) (by decide +kernel) rfl ?_
    injection hF with hF
    injection hF with hv hh
    subst hv
    subst hh
    exact g_iret rfl
/-- BothCorners.mixed()I -/
def F_C_mixed (h : MH) : Option (Int32 × MH) := bd (F_L_atTheirOwn (h.1 8 10) h) (fun (r2, h1) => some ((I 4) - r2, h1))
theorem A_C_mixed {h h' : MH} {v : Int32} (hF : F_C_mixed h = some (v, h')) : Ex 3 106 [.inr (.inl (some 0))] h (some (.inl v), h') := by
  unfold F_C_mixed at hF
  refine ex_of (d := 2) rfl rfl ?_
  refine g_iconst (q := 1) rfl rfl ?_
  refine g_aload_n (q := 2) rfl rfl rfl ?_
  refine g_getR (q := 5) rfl (fun _ => rfl) rfl ?_
  refine g_getI (q := 8) rfl (fun _ => rfl) rfl ?_
  obtain ⟨⟨r2, h1⟩, hC, hF⟩ := bd_I hF
  dsimp only at hF
  refine g_ci1 (q := 11) rfl rfl (fun _ => rfl) rfl (A_L_atTheirOwn hC) (by decide +kernel) rfl ?_
  refine g_isub (q := 12) rfl rfl ?_
  injection hF with hF
  injection hF with hv hh
  subst hv
  subst hh
  exact g_iret rfl
def L_L_within_4 (x1 : Int32) : Nat → Int32 → Int32 → MH → Option (Int32 × MH)
  | 0, _, _, _ => none
  | n + 1, x2, x3, h => if (h.1 35 4) ≤ x3 then some (x2, h) else ck (mm_in x3 48) (iw (if x1 < (h.1 37 (Int32.toNatClampNeg x3)) then x2 else x2 + I 1) (fun v1 => L_L_within_4 x1 n v1 (x3 + I 1) h))
/-- BothCorners$Lies.within(I)I -/
def F_L_within (x1 : Int32) (h : MH) : Option (Int32 × MH) := bd (L_L_within_4 x1 5000 (I 0) (I 0) h) (fun (y5, h6) => some (y5, h6))
theorem A_L_L_within_4 {x1 : Int32} {r : MRs} : ∀ (n : Nat) (x2 : Int32) (x3 : Int32) (h : MH) (x : Int32 × MH), L_L_within_4 x1 n x2 x3 h = some x → (True) → (∀ (e2 : Int32) (h' : MH), x = (e2, h') → Go 0 43 31 (mm_lf [(2, .inl e2)]) [] h' r) → Go 0 43 4 (mm_lf [(0, .inr (.inl (some 35))), (1, .inl x1), (2, .inl x2), (3, .inl x3)]) [] h r
  | 0, _, _, _, _, hF, _, _ => by cases hF
  | n + 1, x2, x3, h, x, hF, KR, KX => by
    have ih := fun a2 a3 => A_L_L_within_4 (x1 := x1) (r := r) n a2 a3 
    unfold L_L_within_4 at hF
    refine g_iload_n (q := 5) rfl rfl rfl ?_
    refine g_aload_n (q := 6) rfl rfl rfl ?_
    refine g_getI (q := 9) rfl (fun _ => rfl) rfl ?_
    by_cases c4 : (h.1 35 4) ≤ x3
    · rw [if_pos c4] at hF
      refine g_icmpT rfl (decide_eq_true c4) ?_
      injection hF with hF
      subst hF
      exact go_sub (mm_subc rfl mm_sub0) (KX _ _ rfl)
    · rw [if_neg c4] at hF
      refine g_icmpF (q := 12) rfl (decide_eq_false c4) rfl ?_
      refine g_aload_n (q := 13) rfl rfl rfl ?_
      refine g_getR (q := 16) rfl (fun _ => rfl) rfl ?_
      refine g_iload_n (q := 17) rfl rfl rfl ?_
      obtain ⟨hi, hF⟩ := ck_I hF
      refine g_iaload (q := 18) rfl rfl rfl hi rfl ?_
      refine g_iload_n (q := 19) rfl rfl rfl ?_
      obtain ⟨v1, e_v1, hF⟩ := iw_I hF
      suffices K2 : Go 0 43 25 (mm_lf [(0, .inr (.inl (some 35))), (1, .inl x1), (2, .inl v1), (3, .inl x3)]) [] h r by
        clear hF
        by_cases c3 : x1 < (h.1 37 (Int32.toNatClampNeg x3))
        · simp only [if_pos c3] at e_v1
          subst e_v1
          refine g_icmpT rfl (decide_eq_true c3) ?_
          exact go_sub (mm_subc rfl (mm_subc rfl (mm_subc rfl (mm_subc rfl mm_sub0)))) K2
        · simp only [if_neg c3] at e_v1
          subst e_v1
          refine g_icmpF (q := 22) rfl (decide_eq_false c3) rfl ?_
          refine g_iinc (q := 25) rfl rfl rfl ?_
          exact go_sub (mm_subc rfl (mm_subc rfl (mm_subc rfl (mm_subc rfl mm_sub0)))) K2
      clear e_v1
      refine g_iinc (q := 28) rfl rfl rfl ?_
      refine g_goto rfl ?_
      refine go_sub (lo' := mm_lf [(0, .inr (.inl (some 35))), (1, .inl x1), (2, .inl v1), (3, .inl (x3 + I 1))]) (mm_subc rfl (mm_subc rfl (mm_subc rfl (mm_subc rfl mm_sub0)))) ?_
      exact ih _ _ _ _ hF KR KX
theorem A_L_within {x1 : Int32} {h h' : MH} {v : Int32} (hF : F_L_within x1 h = some (v, h')) : Ex 1 43 [.inr (.inl (some 35)), .inl x1] h (some (.inl v), h') := by
  unfold F_L_within at hF
  refine ex_of (d := 0) rfl rfl ?_
  refine g_iconst (q := 1) rfl rfl ?_
  refine g_istore_n (q := 2) rfl rfl ?_
  refine g_iconst (q := 3) rfl rfl ?_
  refine g_istore_n (q := 4) rfl rfl ?_
  refine go_sub (lo' := mm_lf [(0, .inr (.inl (some 35))), (1, .inl x1), (2, .inl (I 0)), (3, .inl (I 0))]) (mm_subc rfl (mm_subc rfl (mm_subc rfl (mm_subc rfl mm_sub0)))) ?_
  obtain ⟨⟨y5, h6⟩, hC, hF⟩ := bd_I hF
  dsimp only at hF
  refine A_L_L_within_4 5000 _ _ _ _ hC trivial ?_
  intro _ _ e2
  cases e2
  refine g_iload_n (q := 32) rfl rfl rfl ?_
  injection hF with hF
  injection hF with hv hh
  subst hv
  subst hh
  exact g_iret rfl
/-- BothCorners.waysToLie(I)I -/
def F_C_waysToLie (x1 : Int32) (h : MH) : Option (Int32 × MH) := if 0 ≤ x1 then if x1 ≤ (I 8) then bd (F_L_spread (h.1 8 10) h) (fun h1 => bd (F_L_within x1 h1) (fun (r3, h2) => some (r3, h2))) else bd (F_C_refuse (I (-6)) h) (fun (r5, h4) => some (r5, h4)) else bd (F_C_refuse (I (-4)) h) (fun (r8, h7) => some (r8, h7))
theorem A_C_waysToLie {x1 : Int32} {h h' : MH} {v : Int32} (hF : F_C_waysToLie x1 h = some (v, h')) : Ex 4 107 [.inr (.inl (some 0)), .inl x1] h (some (.inl v), h') := by
  unfold F_C_waysToLie at hF
  refine ex_of (d := 3) rfl rfl ?_
  refine g_iload_n (q := 1) rfl rfl rfl ?_
  by_cases c9 : 0 ≤ x1
  · rw [if_pos c9] at hF
    refine g_ifT rfl (decide_eq_true c9) ?_
    refine g_iload_n (q := 12) rfl rfl rfl ?_
    refine g_bipush (q := 14) rfl (by decide +kernel) rfl ?_
    by_cases c6 : x1 ≤ (I 8)
    · rw [if_pos c6] at hF
      refine g_icmpT rfl (decide_eq_true c6) ?_
      refine g_aload_n (q := 25) rfl rfl rfl ?_
      refine g_getR (q := 28) rfl (fun _ => rfl) rfl ?_
      refine g_aload_n (q := 29) rfl rfl rfl ?_
      refine g_getR (q := 32) rfl (fun _ => rfl) rfl ?_
      refine g_getI (q := 35) rfl (fun _ => rfl) rfl ?_
      obtain ⟨h1, hC, hF⟩ := bd_I hF
      refine g_cv2 (q := 38) rfl rfl (fun _ => rfl) rfl (A_L_spread hC) (by decide +kernel) rfl ?_
      refine g_aload_n (q := 39) rfl rfl rfl ?_
      refine g_getR (q := 42) rfl (fun _ => rfl) rfl ?_
      refine g_iload_n (q := 43) rfl rfl rfl ?_
      obtain ⟨⟨r3, h2⟩, hC, hF⟩ := bd_I hF
      dsimp only at hF
      refine g_ci2 (q := 46) rfl rfl (fun _ => rfl) rfl (A_L_within hC) (by decide +kernel) rfl ?_
      injection hF with hF
      injection hF with hv hh
      subst hv
      subst hh
      exact g_iret rfl
    · rw [if_neg c6] at hF
      refine g_icmpF (q := 17) rfl (decide_eq_false c6) rfl ?_
      refine g_aload_n (q := 18) rfl rfl rfl ?_
      refine g_bipush (q := 20) rfl (by decide +kernel) rfl ?_
      obtain ⟨⟨r5, h4⟩, hC, hF⟩ := bd_I hF
      dsimp only at hF
      refine g_ci2 (q := 23) rfl rfl (fun _ => rfl) rfl (A_C_refuse hC) (by decide +kernel) rfl ?_
      injection hF with hF
      injection hF with hv hh
      subst hv
      subst hh
      exact g_iret rfl
  · rw [if_neg c9] at hF
    refine g_ifF (q := 4) rfl (decide_eq_false c9) rfl ?_
    refine g_aload_n (q := 5) rfl rfl rfl ?_
    refine g_bipush (q := 7) rfl (by decide +kernel) rfl ?_
    obtain ⟨⟨r8, h7⟩, hC, hF⟩ := bd_I hF
    dsimp only at hF
    refine g_ci2 (q := 10) rfl rfl (fun _ => rfl) rfl (A_C_refuse hC) (by decide +kernel) rfl ?_
    injection hF with hF
    injection hF with hv hh
    subst hv
    subst hh
    exact g_iret rfl
/-- BothCorners.catRefusal(III)I -/
def F_C_catRefusal (x1 : Int32) (x2 : Int32) (x3 : Int32) (h : MH) : Option (Int32 × MH) := bd (F_C_noWay x1 h) (fun (r2, h1) => if ¬ r2 = 0 then some (I (-1), h1) else bd (F_C_noOne x2 h1) (fun (r4, h3) => if r4 = 0 then if (I 2) ≤ x3 then iw (if x3 ≤ (I 20) then I 0 else I (-6)) (fun v5 => some (v5, h3)) else some (I (-4), h3) else some (I (-1), h3)))
theorem A_C_catRefusal {x1 : Int32} {x2 : Int32} {x3 : Int32} {h h' : MH} {v : Int32} (hF : F_C_catRefusal x1 x2 x3 h = some (v, h')) : Ex 2 135 [.inr (.inl (some 0)), .inl x1, .inl x2, .inl x3] h (some (.inl v), h') := by
  unfold F_C_catRefusal at hF
  refine ex_of (d := 1) rfl rfl ?_
  refine g_aload_n (q := 1) rfl rfl rfl ?_
  refine g_iload_n (q := 2) rfl rfl rfl ?_
  obtain ⟨⟨r2, h1⟩, hC, hF⟩ := bd_I hF
  dsimp only at hF
  refine g_ci2 (q := 5) rfl rfl (fun _ => rfl) rfl (A_C_noWay hC) (by decide +kernel) rfl ?_
  by_cases c10 : ¬ r2 = 0
  · rw [if_pos c10] at hF
    refine g_ifT rfl (decide_eq_true c10) ?_
    refine g_iconst (q := 17) rfl rfl ?_
    injection hF with hF
    injection hF with hv hh
    subst hv
    subst hh
    exact g_iret rfl
  · rw [if_neg c10] at hF
    refine g_ifF (q := 8) rfl (decide_eq_false c10) rfl ?_
    refine g_aload_n (q := 9) rfl rfl rfl ?_
    refine g_iload_n (q := 10) rfl rfl rfl ?_
    obtain ⟨⟨r4, h3⟩, hC, hF⟩ := bd_I hF
    dsimp only at hF
    refine g_ci2 (q := 13) rfl rfl (fun _ => rfl) rfl (A_C_noOne hC) (by decide +kernel) rfl ?_
    by_cases c9 : r4 = 0
    · rw [if_pos c9] at hF
      refine g_ifT rfl (decide_eq_true c9) ?_
      refine g_iload_n (q := 19) rfl rfl rfl ?_
      refine g_iconst (q := 20) rfl rfl ?_
      by_cases c8 : (I 2) ≤ x3
      · rw [if_pos c8] at hF
        refine g_icmpT rfl (decide_eq_true c8) ?_
        refine g_iload_n (q := 27) rfl rfl rfl ?_
        refine g_bipush (q := 29) rfl (by decide +kernel) rfl ?_
        obtain ⟨v5, e_v5, hF⟩ := iw_I hF
        suffices K6 : Go 1 135 38 (mm_lf []) [.inl v5] h3 (some (.inl v), h') by
          clear hF
          by_cases c7 : x3 ≤ (I 20)
          · simp only [if_pos c7] at e_v5
            subst e_v5
            refine g_icmpT rfl (decide_eq_true c7) ?_
            refine g_iconst (q := 38) rfl rfl ?_
            exact go_sub mm_sub0 K6
          · simp only [if_neg c7] at e_v5
            subst e_v5
            refine g_icmpF (q := 32) rfl (decide_eq_false c7) rfl ?_
            refine g_bipush (q := 34) rfl (by decide +kernel) rfl ?_
            refine g_goto rfl ?_
            exact go_sub mm_sub0 K6
        clear e_v5
        injection hF with hF
        injection hF with hv hh
        subst hv
        subst hh
        exact g_iret rfl
      · rw [if_neg c8] at hF
        refine g_icmpF (q := 23) rfl (decide_eq_false c8) rfl ?_
        refine g_bipush (q := 25) rfl (by decide +kernel) rfl ?_
        injection hF with hF
        injection hF with hv hh
        subst hv
        subst hh
        exact g_iret rfl
    · rw [if_neg c9] at hF
      refine g_ifF (q := 16) rfl (decide_eq_false c9) rfl ?_
      refine g_iconst (q := 17) rfl rfl ?_
      injection hF with hF
      injection hF with hv hh
      subst hv
      subst hh
      exact g_iret rfl
def L_H_timeOfAll_5 (x1 : Int32) (x2 : Int32) : Nat → Int32 → Int32 → MH → Option (Int32 × MH)
  | 0, _, _, _ => none
  | n + 1, x3, x4, h => if (h.1 8 7) ≤ x4 then some (x3, h) else bd (F_H_timeBy x4 x1 x2 h) (fun (r2, h1) => L_H_timeOfAll_5 x1 x2 n (x3 + r2) (x4 + I 1) h1)
/-- BothCorners$House.timeOfAll(II)I -/
def F_H_timeOfAll (x1 : Int32) (x2 : Int32) (h : MH) : Option (Int32 × MH) := bd (L_H_timeOfAll_5 x1 x2 5000 (I 0) (I 0) h) (fun (y4, h5) => some (y4, h5))
theorem A_L_H_timeOfAll_5 {x1 : Int32} {x2 : Int32} {r : MRs} : ∀ (n : Nat) (x3 : Int32) (x4 : Int32) (h : MH) (x : Int32 × MH), L_H_timeOfAll_5 x1 x2 n x3 x4 h = some x → (True) → (∀ (e3 : Int32) (h' : MH), x = (e3, h') → Go 5 17 31 (mm_lf [(3, .inl e3)]) [] h' r) → Go 5 17 5 (mm_lf [(0, .inr (.inl (some 8))), (1, .inl x1), (2, .inl x2), (3, .inl x3), (4, .inl x4)]) [] h r
  | 0, _, _, _, _, hF, _, _ => by cases hF
  | n + 1, x3, x4, h, x, hF, KR, KX => by
    have ih := fun a3 a4 => A_L_H_timeOfAll_5 (x1 := x1) (x2 := x2) (r := r) n a3 a4 
    unfold L_H_timeOfAll_5 at hF
    refine g_iload (q := 7) rfl rfl rfl ?_
    refine g_aload_n (q := 8) rfl rfl rfl ?_
    refine g_getI (q := 11) rfl (fun _ => rfl) rfl ?_
    by_cases c3 : (h.1 8 7) ≤ x4
    · rw [if_pos c3] at hF
      refine g_icmpT rfl (decide_eq_true c3) ?_
      injection hF with hF
      subst hF
      exact go_sub (mm_subc rfl mm_sub0) (KX _ _ rfl)
    · rw [if_neg c3] at hF
      refine g_icmpF (q := 14) rfl (decide_eq_false c3) rfl ?_
      refine g_iload_n (q := 15) rfl rfl rfl ?_
      refine g_aload_n (q := 16) rfl rfl rfl ?_
      refine g_iload (q := 18) rfl rfl rfl ?_
      refine g_iload_n (q := 19) rfl rfl rfl ?_
      refine g_iload_n (q := 20) rfl rfl rfl ?_
      obtain ⟨⟨r2, h1⟩, hC, hF⟩ := bd_I hF
      dsimp only at hF
      refine g_ci4 (q := 23) rfl rfl (fun _ => rfl) rfl (A_H_timeBy hC) (by decide +kernel) rfl ?_
      refine g_iadd (q := 24) rfl rfl ?_
      refine g_istore_n (q := 25) rfl rfl ?_
      refine g_iinc (q := 28) rfl rfl rfl ?_
      refine g_goto rfl ?_
      refine go_sub (lo' := mm_lf [(0, .inr (.inl (some 8))), (1, .inl x1), (2, .inl x2), (3, .inl (x3 + r2)), (4, .inl (x4 + I 1))]) (mm_subc rfl (mm_subc rfl (mm_subc rfl (mm_subc rfl (mm_subc rfl mm_sub0))))) ?_
      exact ih _ _ _ _ hF KR KX
theorem A_H_timeOfAll {x1 : Int32} {x2 : Int32} {h h' : MH} {v : Int32} (hF : F_H_timeOfAll x1 x2 h = some (v, h')) : Ex 6 17 [.inr (.inl (some 8)), .inl x1, .inl x2] h (some (.inl v), h') := by
  unfold F_H_timeOfAll at hF
  refine ex_of (d := 5) rfl rfl ?_
  refine g_iconst (q := 1) rfl rfl ?_
  refine g_istore_n (q := 2) rfl rfl ?_
  refine g_iconst (q := 3) rfl rfl ?_
  refine g_istore (q := 5) rfl rfl ?_
  refine go_sub (lo' := mm_lf [(0, .inr (.inl (some 8))), (1, .inl x1), (2, .inl x2), (3, .inl (I 0)), (4, .inl (I 0))]) (mm_subc rfl (mm_subc rfl (mm_subc rfl (mm_subc rfl (mm_subc rfl mm_sub0))))) ?_
  obtain ⟨⟨y4, h5⟩, hC, hF⟩ := bd_I hF
  dsimp only at hF
  refine A_L_H_timeOfAll_5 5000 _ _ _ _ hC trivial ?_
  intro _ _ e2
  cases e2
  refine g_iload_n (q := 32) rfl rfl rfl ?_
  injection hF with hF
  injection hF with hv hh
  subst hv
  subst hh
  exact g_iret rfl
def L_C_commonDivisor_2 (x0 : Int64) (x2 : Int32) : Nat → Int32 → MH → Option ((Int32 × MH) ⊕ (MH))
  | 0, _, _ => none
  | n + 1, x3, h => if x3 ≤ (I 1) then some (.inr (h)) else cd (¬ (Int32.toInt64 x3) = 0) (if ¬ (lg_cmp (lrem x0 (Int32.toInt64 x3)) (Lg 0)) = 0 then L_C_commonDivisor_2 x0 x2 n (x3 + I (-1)) h else cd (¬ x3 = 0) (if ¬ (irem x2 x3) = 0 then L_C_commonDivisor_2 x0 x2 n (x3 + I (-1)) h else some (.inl (x3, h))))
/-- BothCorners.commonDivisor(JI)I -/
def F_C_commonDivisor (x0 : Int64) (x2 : Int32) (h : MH) : Option (Int32 × MH) := be (L_C_commonDivisor_2 x0 x2 5000 x2 h) (fun u5 => some u5) (fun h4 => some (I 1, h4))
theorem A_L_C_commonDivisor_2 {x0 : Int64} {x2 : Int32} {r : MRs} : ∀ (n : Nat) (x3 : Int32) (h : MH) (x : (Int32 × MH) ⊕ (MH)), L_C_commonDivisor_2 x0 x2 n x3 h = some x → (∀ (u : Int32) (h' : MH), x = .inl (u, h') → r = (some (.inl u), h')) → (∀ (h' : MH), x = .inr (h') → Go 0 142 30 (mm_lf []) [] h' r) → Go 0 142 2 (mm_lf [(0, .inr (.inr (x0))), (2, .inl x2), (3, .inl x3)]) [] h r
  | 0, _, _, _, hF, _, _ => by cases hF
  | n + 1, x3, h, x, hF, KR, KX => by
    have ih := fun a3 => A_L_C_commonDivisor_2 (x0 := x0) (x2 := x2) (r := r) n a3 
    unfold L_C_commonDivisor_2 at hF
    refine g_iload_n (q := 3) rfl rfl rfl ?_
    refine g_iconst (q := 4) rfl rfl ?_
    by_cases c3 : x3 ≤ (I 1)
    · rw [if_pos c3] at hF
      refine g_icmpT rfl (decide_eq_true c3) ?_
      injection hF with hF
      subst hF
      exact go_sub mm_sub0 (KX  _ rfl)
    · rw [if_neg c3] at hF
      refine g_icmpF (q := 7) rfl (decide_eq_false c3) rfl ?_
      refine g_lload_n (q := 8) rfl rfl rfl ?_
      refine g_iload_n (q := 9) rfl rfl rfl ?_
      refine g_i2l (q := 10) rfl rfl ?_
      obtain ⟨hne, hF⟩ := cd_I hF
      refine g_lrem (q := 11) rfl hne rfl ?_
      refine g_lconst (u := 0) (q := 12) rfl (by decide +kernel) rfl ?_
      refine g_lcmp (q := 13) rfl rfl ?_
      by_cases c2 : ¬ (lg_cmp (lrem x0 (Int32.toInt64 x3)) (Lg 0)) = 0
      · rw [if_pos c2] at hF
        refine g_ifT rfl (decide_eq_true c2) ?_
        refine g_iinc (q := 27) rfl rfl rfl ?_
        refine g_goto rfl ?_
        refine go_sub (lo' := mm_lf [(0, .inr (.inr (x0))), (2, .inl x2), (3, .inl (x3 + I (-1)))]) (mm_subc rfl (mm_subc rfl (mm_subc rfl mm_sub0))) ?_
        exact ih _ _ _ hF KR KX
      · rw [if_neg c2] at hF
        refine g_ifF (q := 16) rfl (decide_eq_false c2) rfl ?_
        refine g_iload_n (q := 17) rfl rfl rfl ?_
        refine g_iload_n (q := 18) rfl rfl rfl ?_
        obtain ⟨hne, hF⟩ := cd_I hF
        refine g_irem (q := 19) rfl hne rfl ?_
        by_cases c1 : ¬ (irem x2 x3) = 0
        · rw [if_pos c1] at hF
          refine g_ifT rfl (decide_eq_true c1) ?_
          refine g_iinc (q := 27) rfl rfl rfl ?_
          refine g_goto rfl ?_
          refine go_sub (lo' := mm_lf [(0, .inr (.inr (x0))), (2, .inl x2), (3, .inl (x3 + I (-1)))]) (mm_subc rfl (mm_subc rfl (mm_subc rfl mm_sub0))) ?_
          exact ih _ _ _ hF KR KX
        · rw [if_neg c1] at hF
          refine g_ifF (q := 22) rfl (decide_eq_false c1) rfl ?_
          refine g_iload_n (q := 23) rfl rfl rfl ?_
          injection hF with hF
          subst hF
          rw [KR _ _ rfl]
          exact g_iret rfl
theorem A_C_commonDivisor {x0 : Int64} {x2 : Int32} {h h' : MH} {v : Int32} (hF : F_C_commonDivisor x0 x2 h = some (v, h')) : Ex 1 142 [.inr (.inr (x0)), .inl x2] h (some (.inl v), h') := by
  unfold F_C_commonDivisor at hF
  refine ex_of (d := 0) rfl rfl ?_
  refine g_iload_n (q := 1) rfl rfl rfl ?_
  refine g_istore_n (q := 2) rfl rfl ?_
  refine go_sub (lo' := mm_lf [(0, .inr (.inr (x0))), (2, .inl x2), (3, .inl x2)]) (mm_subc rfl (mm_subc rfl (mm_subc rfl mm_sub0))) ?_
  rcases be_I hF with ⟨u, hC, hF⟩ | ⟨h4, hC, hF⟩
  · refine A_L_C_commonDivisor_2 5000 _ _ _ hC ?_ ?_
    · intro u2 h2 e2
      cases e2
      injection hF with hF
      injection hF with hv hh
      subst hv
      subst hh
      rfl
    · intro _ e2
      cases e2
  refine A_L_C_commonDivisor_2 5000 _ _ _ hC ?_ ?_
  · intro u2 h2 e2
    cases e2
  intro _ e2
  cases e2
  refine g_iconst (q := 31) rfl rfl ?_
  injection hF with hF
  injection hF with hv hh
  subst hv
  subst hh
  exact g_iret rfl
/-- BothCorners.cat(IIII)J -/
def F_C_cat (x1 : Int32) (x2 : Int32) (x3 : Int32) (x4 : Int32) (h : MH) : Option (Int64 × MH) := bd (F_C_catRefusal x1 x2 x3 h) (fun (r2, h1) => kw (fun (z3 : Int32) (h4 : MH) => if z3 = 0 then bd (F_H_timeOfAll x1 x2 h4) (fun (r7, h6) => bd (F_C_commonDivisor ((Int32.toInt64 r7) * (Int32.toInt64 (x3 + (I 1)))) x3 h6) (fun (r9, h8) => if ¬ x4 = 0 then cd (¬ r9 = 0) (some (Int32.toInt64 (x3 / r9), h8)) else cd (¬ (Int32.toInt64 r9) = 0) (some (((Int32.toInt64 r7) * (Int32.toInt64 (x3 + (I 1)))) / (Int32.toInt64 r9), h8)))) else bd (F_C_refuse z3 h4) (fun (r12, h11) => some ((Lg 4000000000000000000) - (Int32.toInt64 r12), h11))) (fun k5 => if ¬ r2 = 0 then k5 r2 h1 else bd (F_C_otherThan x4 (I 1) h1) (fun (r16, h15) => if r16 = 0 then k5 r2 h15 else k5 (I (-2)) h15)))
theorem A_C_cat {x1 : Int32} {x2 : Int32} {x3 : Int32} {x4 : Int32} {h h' : MH} {v : Int64} (hF : F_C_cat x1 x2 x3 x4 h = some (v, h')) : Ex 7 89 [.inr (.inl (some 0)), .inl x1, .inl x2, .inl x3, .inl x4] h (some (.inr (.inr v)), h') := by
  unfold F_C_cat at hF
  refine ex_of (d := 6) rfl rfl ?_
  refine g_aload_n (q := 1) rfl rfl rfl ?_
  refine g_iload_n (q := 2) rfl rfl rfl ?_
  refine g_iload_n (q := 3) rfl rfl rfl ?_
  refine g_iload_n (q := 4) rfl rfl rfl ?_
  obtain ⟨⟨r2, h1⟩, hC, hF⟩ := bd_I hF
  dsimp only at hF
  refine g_ci4 (q := 7) rfl rfl (fun _ => rfl) rfl (A_C_catRefusal hC) (by decide +kernel) rfl ?_
  refine g_istore (q := 9) rfl rfl ?_
  refine g_iload (q := 11) rfl rfl rfl ?_
  obtain ⟨k5, e_k5, hF⟩ := kw_I hF
  have K14 : ∀ (z3 : Int32) (h4 : MH), k5 z3 h4 = some (v, h') → Go 6 89 27 (mm_lf [(0, .inr (.inl (some 0))), (1, .inl x1), (2, .inl x2), (3, .inl x3), (4, .inl x4), (5, .inl z3)]) [] h4 (some (.inr (.inr v)), h') := by
    intro z3 h4 hF
    rw [e_k5] at hF
    dsimp only at hF
    refine g_iload (q := 29) rfl rfl rfl ?_
    by_cases c13 : z3 = 0
    · rw [if_pos c13] at hF
      refine g_ifT rfl (decide_eq_true c13) ?_
      refine g_aload_n (q := 45) rfl rfl rfl ?_
      refine g_getR (q := 48) rfl (fun _ => rfl) rfl ?_
      refine g_iload_n (q := 49) rfl rfl rfl ?_
      refine g_iload_n (q := 50) rfl rfl rfl ?_
      obtain ⟨⟨r7, h6⟩, hC, hF⟩ := bd_I hF
      dsimp only at hF
      refine g_ci3 (q := 53) rfl rfl (fun _ => rfl) rfl (A_H_timeOfAll hC) (by decide +kernel) rfl ?_
      refine g_i2l (q := 54) rfl rfl ?_
      refine g_iload_n (q := 55) rfl rfl rfl ?_
      refine g_iconst (q := 56) rfl rfl ?_
      refine g_iadd (q := 57) rfl rfl ?_
      refine g_i2l (q := 58) rfl rfl ?_
      refine g_lmul (q := 59) rfl rfl ?_
      refine g_lstore (q := 61) rfl rfl ?_
      refine g_lload (q := 63) rfl rfl rfl ?_
      refine g_iload_n (q := 64) rfl rfl rfl ?_
      obtain ⟨⟨r9, h8⟩, hC, hF⟩ := bd_I hF
      dsimp only at hF
      refine g_ci2 (q := 67) rfl rfl (fun _ => rfl) rfl (A_C_commonDivisor hC) (by decide +kernel) rfl ?_
      refine g_istore (q := 69) rfl rfl ?_
      refine g_iload (q := 71) rfl rfl rfl ?_
      by_cases c10 : ¬ x4 = 0
      · rw [if_pos c10] at hF
        refine g_ifT rfl (decide_eq_true c10) ?_
        refine g_iload_n (q := 84) rfl rfl rfl ?_
        refine g_iload (q := 86) rfl rfl rfl ?_
        obtain ⟨hne, hF⟩ := cd_I hF
        refine g_idiv (q := 87) rfl hne rfl ?_
        refine g_i2l (q := 88) rfl rfl ?_
        injection hF with hF
        injection hF with hv hh
        subst hv
        subst hh
        exact g_lret rfl
      · rw [if_neg c10] at hF
        refine g_ifF (q := 74) rfl (decide_eq_false c10) rfl ?_
        refine g_lload (q := 76) rfl rfl rfl ?_
        refine g_iload (q := 78) rfl rfl rfl ?_
        refine g_i2l (q := 79) rfl rfl ?_
        obtain ⟨hne, hF⟩ := cd_I hF
        refine g_ldiv (q := 80) rfl hne rfl ?_
        refine g_goto rfl ?_
        injection hF with hF
        injection hF with hv hh
        subst hv
        subst hh
        exact g_lret rfl
    · rw [if_neg c13] at hF
      refine g_ifF (q := 32) rfl (decide_eq_false c13) rfl ?_
      refine g_ldc2_w (q := 35) rfl rfl ?_
      refine g_aload_n (q := 36) rfl rfl rfl ?_
      refine g_iload (q := 38) rfl rfl rfl ?_
      obtain ⟨⟨r12, h11⟩, hC, hF⟩ := bd_I hF
      dsimp only at hF
      refine g_ci2 (q := 41) rfl rfl (fun _ => rfl) rfl (A_C_refuse hC) (by decide +kernel) rfl ?_
      refine g_i2l (q := 42) rfl rfl ?_
      refine g_lsub (q := 43) rfl rfl ?_
      injection hF with hF
      injection hF with hv hh
      subst hv
      subst hh
      exact g_lret rfl
  clear e_k5
  by_cases c18 : ¬ r2 = 0
  · rw [if_pos c18] at hF
    refine g_ifT rfl (decide_eq_true c18) ?_
    exact go_sub (mm_subc rfl (mm_subc rfl (mm_subc rfl (mm_subc rfl (mm_subc rfl (mm_subc rfl mm_sub0)))))) (K14 _ _ hF)
  · rw [if_neg c18] at hF
    refine g_ifF (q := 14) rfl (decide_eq_false c18) rfl ?_
    refine g_iload (q := 16) rfl rfl rfl ?_
    refine g_iconst (q := 17) rfl rfl ?_
    obtain ⟨⟨r16, h15⟩, hC, hF⟩ := bd_I hF
    dsimp only at hF
    refine g_ci2 (q := 20) rfl rfl (fun _ => rfl) rfl (A_C_otherThan hC) (by decide +kernel) rfl ?_
    by_cases c17 : r16 = 0
    · rw [if_pos c17] at hF
      refine g_ifT rfl (decide_eq_true c17) ?_
      exact go_sub (mm_subc rfl (mm_subc rfl (mm_subc rfl (mm_subc rfl (mm_subc rfl (mm_subc rfl mm_sub0)))))) (K14 _ _ hF)
    · rw [if_neg c17] at hF
      refine g_ifF (q := 23) rfl (decide_eq_false c17) rfl ?_
      refine g_bipush (q := 25) rfl (by decide +kernel) rfl ?_
      refine g_istore (q := 27) rfl rfl ?_
      exact go_sub (mm_subc rfl (mm_subc rfl (mm_subc rfl (mm_subc rfl (mm_subc rfl (mm_subc rfl mm_sub0)))))) (K14 _ _ hF)
/-- BothCorners.look(III)I -/
def F_C_look (x1 : Int32) (x2 : Int32) (x3 : Int32) (h : MH) : Option (Int32 × MH) := bd (F_C_catRefusal x1 x2 x3 h) (fun (r2, h1) => if r2 = 0 then bd (F_H_timeOfAll x1 x2 h1) (fun (r4, h3) => iw (if r4 ≤ (((I 5) * (h1.1 8 7)) * x3) then I 0 else I 1) (fun v5 => some (v5, h3))) else bd (F_C_refuse r2 h1) (fun (r9, h8) => some (r9, h8)))
theorem A_C_look {x1 : Int32} {x2 : Int32} {x3 : Int32} {h h' : MH} {v : Int32} (hF : F_C_look x1 x2 x3 h = some (v, h')) : Ex 7 90 [.inr (.inl (some 0)), .inl x1, .inl x2, .inl x3] h (some (.inl v), h') := by
  unfold F_C_look at hF
  refine ex_of (d := 6) rfl rfl ?_
  refine g_aload_n (q := 1) rfl rfl rfl ?_
  refine g_iload_n (q := 2) rfl rfl rfl ?_
  refine g_iload_n (q := 3) rfl rfl rfl ?_
  refine g_iload_n (q := 4) rfl rfl rfl ?_
  obtain ⟨⟨r2, h1⟩, hC, hF⟩ := bd_I hF
  dsimp only at hF
  refine g_ci4 (q := 7) rfl rfl (fun _ => rfl) rfl (A_C_catRefusal hC) (by decide +kernel) rfl ?_
  refine g_istore (q := 9) rfl rfl ?_
  refine g_iload (q := 11) rfl rfl rfl ?_
  by_cases c10 : r2 = 0
  · rw [if_pos c10] at hF
    refine g_ifT rfl (decide_eq_true c10) ?_
    refine g_iconst (q := 22) rfl rfl ?_
    refine g_aload_n (q := 23) rfl rfl rfl ?_
    refine g_getR (q := 26) rfl (fun _ => rfl) rfl ?_
    refine g_getI (q := 29) rfl (fun _ => rfl) rfl ?_
    refine g_imul (q := 30) rfl rfl ?_
    refine g_iload_n (q := 31) rfl rfl rfl ?_
    refine g_imul (q := 32) rfl rfl ?_
    refine g_aload_n (q := 33) rfl rfl rfl ?_
    refine g_getR (q := 36) rfl (fun _ => rfl) rfl ?_
    refine g_iload_n (q := 37) rfl rfl rfl ?_
    refine g_iload_n (q := 38) rfl rfl rfl ?_
    obtain ⟨⟨r4, h3⟩, hC, hF⟩ := bd_I hF
    dsimp only at hF
    refine g_ci3 (q := 41) rfl rfl (fun _ => rfl) rfl (A_H_timeOfAll hC) (by decide +kernel) rfl ?_
    obtain ⟨v5, e_v5, hF⟩ := iw_I hF
    suffices K6 : Go 6 90 49 (mm_lf []) [.inl v5] h3 (some (.inl v), h') by
      clear hF
      by_cases c7 : r4 ≤ (((I 5) * (h1.1 8 7)) * x3)
      · simp only [if_pos c7] at e_v5
        subst e_v5
        refine g_icmpT rfl (decide_eq_true c7) ?_
        refine g_iconst (q := 49) rfl rfl ?_
        exact go_sub mm_sub0 K6
      · simp only [if_neg c7] at e_v5
        subst e_v5
        refine g_icmpF (q := 44) rfl (decide_eq_false c7) rfl ?_
        refine g_iconst (q := 45) rfl rfl ?_
        refine g_goto rfl ?_
        exact go_sub mm_sub0 K6
    clear e_v5
    injection hF with hF
    injection hF with hv hh
    subst hv
    subst hh
    exact g_iret rfl
  · rw [if_neg c10] at hF
    refine g_ifF (q := 14) rfl (decide_eq_false c10) rfl ?_
    refine g_aload_n (q := 15) rfl rfl rfl ?_
    refine g_iload (q := 17) rfl rfl rfl ?_
    obtain ⟨⟨r9, h8⟩, hC, hF⟩ := bd_I hF
    dsimp only at hF
    refine g_ci2 (q := 20) rfl rfl (fun _ => rfl) rfl (A_C_refuse hC) (by decide +kernel) rfl ?_
    injection hF with hF
    injection hF with hv hh
    subst hv
    subst hh
    exact g_iret rfl
def L_C_skillFor_3 (x1 : Int32) (x2 : Int32) (x3 : Int32) (x4 : Int32) : Nat → Int32 → MH → Option ((Int32 × MH) ⊕ (MH))
  | 0, _, _ => none
  | n + 1, x5, h => if (I 9) < x5 then some (.inr (h)) else ck (mm_in x3 4) (bd (F_H_timeWith x1 x2 (h.1 11 (Int32.toNatClampNeg x3)) x5 h) (fun (r2, h1) => if x4 < r2 then L_C_skillFor_3 x1 x2 x3 x4 n (x5 + I 1) h1 else some (.inl (x5, h1))))
/-- BothCorners.skillFor(IIII)I -/
def F_C_skillFor (x1 : Int32) (x2 : Int32) (x3 : Int32) (x4 : Int32) (h : MH) : Option (Int32 × MH) := be (L_C_skillFor_3 x1 x2 x3 x4 5000 (I 0) h) (fun u6 => some u6) (fun h5 => some (I (-9), h5))
theorem A_L_C_skillFor_3 {x1 : Int32} {x2 : Int32} {x3 : Int32} {x4 : Int32} {r : MRs} : ∀ (n : Nat) (x5 : Int32) (h : MH) (x : (Int32 × MH) ⊕ (MH)), L_C_skillFor_3 x1 x2 x3 x4 n x5 h = some x → (∀ (u : Int32) (h' : MH), x = .inl (u, h') → r = (some (.inl u), h')) → (∀ (h' : MH), x = .inr (h') → Go 5 132 44 (mm_lf []) [] h' r) → Go 5 132 3 (mm_lf [(0, .inr (.inl (some 0))), (1, .inl x1), (2, .inl x2), (3, .inl x3), (4, .inl x4), (5, .inl x5)]) [] h r
  | 0, _, _, _, hF, _, _ => by cases hF
  | n + 1, x5, h, x, hF, KR, KX => by
    have ih := fun a5 => A_L_C_skillFor_3 (x1 := x1) (x2 := x2) (x3 := x3) (x4 := x4) (r := r) n a5 
    unfold L_C_skillFor_3 at hF
    refine g_iload (q := 5) rfl rfl rfl ?_
    refine g_bipush (q := 7) rfl (by decide +kernel) rfl ?_
    by_cases c4 : (I 9) < x5
    · rw [if_pos c4] at hF
      refine g_icmpT rfl (decide_eq_true c4) ?_
      injection hF with hF
      subst hF
      exact go_sub mm_sub0 (KX  _ rfl)
    · rw [if_neg c4] at hF
      refine g_icmpF (q := 10) rfl (decide_eq_false c4) rfl ?_
      refine g_aload_n (q := 11) rfl rfl rfl ?_
      refine g_getR (q := 14) rfl (fun _ => rfl) rfl ?_
      refine g_iload_n (q := 15) rfl rfl rfl ?_
      refine g_iload_n (q := 16) rfl rfl rfl ?_
      refine g_aload_n (q := 17) rfl rfl rfl ?_
      refine g_getR (q := 20) rfl (fun _ => rfl) rfl ?_
      refine g_getR (q := 23) rfl (fun _ => rfl) rfl ?_
      refine g_iload_n (q := 24) rfl rfl rfl ?_
      obtain ⟨hi, hF⟩ := ck_I hF
      refine g_iaload (q := 25) rfl rfl rfl hi rfl ?_
      refine g_iload (q := 27) rfl rfl rfl ?_
      obtain ⟨⟨r2, h1⟩, hC, hF⟩ := bd_I hF
      dsimp only at hF
      refine g_ci5 (q := 30) rfl rfl (fun _ => rfl) rfl (A_H_timeWith hC) (by decide +kernel) rfl ?_
      refine g_iload (q := 32) rfl rfl rfl ?_
      by_cases c3 : x4 < r2
      · rw [if_pos c3] at hF
        refine g_icmpT rfl (decide_eq_true c3) ?_
        refine g_iinc (q := 41) rfl rfl rfl ?_
        refine g_goto rfl ?_
        refine go_sub (lo' := mm_lf [(0, .inr (.inl (some 0))), (1, .inl x1), (2, .inl x2), (3, .inl x3), (4, .inl x4), (5, .inl (x5 + I 1))]) (mm_subc rfl (mm_subc rfl (mm_subc rfl (mm_subc rfl (mm_subc rfl (mm_subc rfl mm_sub0)))))) ?_
        exact ih _ _ _ hF KR KX
      · rw [if_neg c3] at hF
        refine g_icmpF (q := 35) rfl (decide_eq_false c3) rfl ?_
        refine g_iload (q := 37) rfl rfl rfl ?_
        injection hF with hF
        subst hF
        rw [KR _ _ rfl]
        exact g_iret rfl
theorem A_C_skillFor {x1 : Int32} {x2 : Int32} {x3 : Int32} {x4 : Int32} {h h' : MH} {v : Int32} (hF : F_C_skillFor x1 x2 x3 x4 h = some (v, h')) : Ex 6 132 [.inr (.inl (some 0)), .inl x1, .inl x2, .inl x3, .inl x4] h (some (.inl v), h') := by
  unfold F_C_skillFor at hF
  refine ex_of (d := 5) rfl rfl ?_
  refine g_iconst (q := 1) rfl rfl ?_
  refine g_istore (q := 3) rfl rfl ?_
  refine go_sub (lo' := mm_lf [(0, .inr (.inl (some 0))), (1, .inl x1), (2, .inl x2), (3, .inl x3), (4, .inl x4), (5, .inl (I 0))]) (mm_subc rfl (mm_subc rfl (mm_subc rfl (mm_subc rfl (mm_subc rfl (mm_subc rfl mm_sub0)))))) ?_
  rcases be_I hF with ⟨u, hC, hF⟩ | ⟨h5, hC, hF⟩
  · refine A_L_C_skillFor_3 5000 _ _ _ hC ?_ ?_
    · intro u2 h2 e2
      cases e2
      injection hF with hF
      injection hF with hv hh
      subst hv
      subst hh
      rfl
    · intro _ e2
      cases e2
  refine A_L_C_skillFor_3 5000 _ _ _ hC ?_ ?_
  · intro u2 h2 e2
    cases e2
  intro _ e2
  cases e2
  refine g_bipush (q := 46) rfl (by decide +kernel) rfl ?_
  injection hF with hF
  injection hF with hv hh
  subst hv
  subst hh
  exact g_iret rfl
def L_C_armsFor_3 (x1 : Int32) (x2 : Int32) (x3 : Int32) (x4 : Int32) : Nat → Int32 → MH → Option ((Int32 × MH) ⊕ (MH))
  | 0, _, _ => none
  | n + 1, x5, h => if (I 12) < x5 then some (.inr (h)) else ck (mm_in x3 4) (bd (F_H_timeWith x1 x2 x5 (h.1 12 (Int32.toNatClampNeg x3)) h) (fun (r2, h1) => if x4 < r2 then L_C_armsFor_3 x1 x2 x3 x4 n (x5 + I 1) h1 else some (.inl (x5, h1))))
/-- BothCorners.armsFor(IIII)I -/
def F_C_armsFor (x1 : Int32) (x2 : Int32) (x3 : Int32) (x4 : Int32) (h : MH) : Option (Int32 × MH) := be (L_C_armsFor_3 x1 x2 x3 x4 5000 (I 1) h) (fun u6 => some u6) (fun h5 => some (I (-9), h5))
theorem A_L_C_armsFor_3 {x1 : Int32} {x2 : Int32} {x3 : Int32} {x4 : Int32} {r : MRs} : ∀ (n : Nat) (x5 : Int32) (h : MH) (x : (Int32 × MH) ⊕ (MH)), L_C_armsFor_3 x1 x2 x3 x4 n x5 h = some x → (∀ (u : Int32) (h' : MH), x = .inl (u, h') → r = (some (.inl u), h')) → (∀ (h' : MH), x = .inr (h') → Go 5 131 44 (mm_lf []) [] h' r) → Go 5 131 3 (mm_lf [(0, .inr (.inl (some 0))), (1, .inl x1), (2, .inl x2), (3, .inl x3), (4, .inl x4), (5, .inl x5)]) [] h r
  | 0, _, _, _, hF, _, _ => by cases hF
  | n + 1, x5, h, x, hF, KR, KX => by
    have ih := fun a5 => A_L_C_armsFor_3 (x1 := x1) (x2 := x2) (x3 := x3) (x4 := x4) (r := r) n a5 
    unfold L_C_armsFor_3 at hF
    refine g_iload (q := 5) rfl rfl rfl ?_
    refine g_bipush (q := 7) rfl (by decide +kernel) rfl ?_
    by_cases c4 : (I 12) < x5
    · rw [if_pos c4] at hF
      refine g_icmpT rfl (decide_eq_true c4) ?_
      injection hF with hF
      subst hF
      exact go_sub mm_sub0 (KX  _ rfl)
    · rw [if_neg c4] at hF
      refine g_icmpF (q := 10) rfl (decide_eq_false c4) rfl ?_
      refine g_aload_n (q := 11) rfl rfl rfl ?_
      refine g_getR (q := 14) rfl (fun _ => rfl) rfl ?_
      refine g_iload_n (q := 15) rfl rfl rfl ?_
      refine g_iload_n (q := 16) rfl rfl rfl ?_
      refine g_iload (q := 18) rfl rfl rfl ?_
      refine g_aload_n (q := 19) rfl rfl rfl ?_
      refine g_getR (q := 22) rfl (fun _ => rfl) rfl ?_
      refine g_getR (q := 25) rfl (fun _ => rfl) rfl ?_
      refine g_iload_n (q := 26) rfl rfl rfl ?_
      obtain ⟨hi, hF⟩ := ck_I hF
      refine g_iaload (q := 27) rfl rfl rfl hi rfl ?_
      obtain ⟨⟨r2, h1⟩, hC, hF⟩ := bd_I hF
      dsimp only at hF
      refine g_ci5 (q := 30) rfl rfl (fun _ => rfl) rfl (A_H_timeWith hC) (by decide +kernel) rfl ?_
      refine g_iload (q := 32) rfl rfl rfl ?_
      by_cases c3 : x4 < r2
      · rw [if_pos c3] at hF
        refine g_icmpT rfl (decide_eq_true c3) ?_
        refine g_iinc (q := 41) rfl rfl rfl ?_
        refine g_goto rfl ?_
        refine go_sub (lo' := mm_lf [(0, .inr (.inl (some 0))), (1, .inl x1), (2, .inl x2), (3, .inl x3), (4, .inl x4), (5, .inl (x5 + I 1))]) (mm_subc rfl (mm_subc rfl (mm_subc rfl (mm_subc rfl (mm_subc rfl (mm_subc rfl mm_sub0)))))) ?_
        exact ih _ _ _ hF KR KX
      · rw [if_neg c3] at hF
        refine g_icmpF (q := 35) rfl (decide_eq_false c3) rfl ?_
        refine g_iload (q := 37) rfl rfl rfl ?_
        injection hF with hF
        subst hF
        rw [KR _ _ rfl]
        exact g_iret rfl
theorem A_C_armsFor {x1 : Int32} {x2 : Int32} {x3 : Int32} {x4 : Int32} {h h' : MH} {v : Int32} (hF : F_C_armsFor x1 x2 x3 x4 h = some (v, h')) : Ex 6 131 [.inr (.inl (some 0)), .inl x1, .inl x2, .inl x3, .inl x4] h (some (.inl v), h') := by
  unfold F_C_armsFor at hF
  refine ex_of (d := 5) rfl rfl ?_
  refine g_iconst (q := 1) rfl rfl ?_
  refine g_istore (q := 3) rfl rfl ?_
  refine go_sub (lo' := mm_lf [(0, .inr (.inl (some 0))), (1, .inl x1), (2, .inl x2), (3, .inl x3), (4, .inl x4), (5, .inl (I 1))]) (mm_subc rfl (mm_subc rfl (mm_subc rfl (mm_subc rfl (mm_subc rfl (mm_subc rfl mm_sub0)))))) ?_
  rcases be_I hF with ⟨u, hC, hF⟩ | ⟨h5, hC, hF⟩
  · refine A_L_C_armsFor_3 5000 _ _ _ hC ?_ ?_
    · intro u2 h2 e2
      cases e2
      injection hF with hF
      injection hF with hv hh
      subst hv
      subst hh
      rfl
    · intro _ e2
      cases e2
  refine A_L_C_armsFor_3 5000 _ _ _ hC ?_ ?_
  · intro u2 h2 e2
    cases e2
  intro _ e2
  cases e2
  refine g_bipush (q := 46) rfl (by decide +kernel) rfl ?_
  injection hF with hF
  injection hF with hv hh
  subst hv
  subst hh
  exact g_iret rfl
/-- BothCorners.needs(IIIII)I -/
def F_C_needs (x1 : Int32) (x2 : Int32) (x3 : Int32) (x4 : Int32) (x5 : Int32) (h : MH) : Option (Int32 × MH) := bd (F_C_lacks x1 x2 x3 h) (fun (r2, h1) => if r2 = 0 then if 0 ≤ x4 then if x4 ≤ (I 999) then bd (F_C_otherThan x5 (I 1) h1) (fun (r4, h3) => if r4 = 0 then if ¬ x5 = 0 then bd (F_C_skillFor x1 x2 x3 x4 h3) (fun (r6, h5) => some (r6, h5)) else bd (F_C_armsFor x1 x2 x3 x4 h3) (fun (r8, h7) => some (r8, h7)) else bd (F_C_refuse (I (-2)) h3) (fun (r11, h10) => some (r11, h10))) else bd (F_C_refuse (I (-6)) h1) (fun (r14, h13) => some (r14, h13)) else bd (F_C_refuse (I (-4)) h1) (fun (r17, h16) => some (r17, h16)) else bd (F_C_refuse (I (-1)) h1) (fun (r20, h19) => some (r20, h19)))
theorem A_C_needs {x1 : Int32} {x2 : Int32} {x3 : Int32} {x4 : Int32} {x5 : Int32} {h h' : MH} {v : Int32} (hF : F_C_needs x1 x2 x3 x4 x5 h = some (v, h')) : Ex 7 81 [.inr (.inl (some 0)), .inl x1, .inl x2, .inl x3, .inl x4, .inl x5] h (some (.inl v), h') := by
  unfold F_C_needs at hF
  refine ex_of (d := 6) rfl rfl ?_
  refine g_aload_n (q := 1) rfl rfl rfl ?_
  refine g_iload_n (q := 2) rfl rfl rfl ?_
  refine g_iload_n (q := 3) rfl rfl rfl ?_
  refine g_iload_n (q := 4) rfl rfl rfl ?_
  obtain ⟨⟨r2, h1⟩, hC, hF⟩ := bd_I hF
  dsimp only at hF
  refine g_ci4 (q := 7) rfl rfl (fun _ => rfl) rfl (A_C_lacks hC) (by decide +kernel) rfl ?_
  by_cases c21 : r2 = 0
  · rw [if_pos c21] at hF
    refine g_ifT rfl (decide_eq_true c21) ?_
    refine g_iload (q := 18) rfl rfl rfl ?_
    by_cases c18 : 0 ≤ x4
    · rw [if_pos c18] at hF
      refine g_ifT rfl (decide_eq_true c18) ?_
      refine g_iload (q := 30) rfl rfl rfl ?_
      refine g_sipush (q := 33) rfl (by decide +kernel) rfl ?_
      by_cases c15 : x4 ≤ (I 999)
      · rw [if_pos c15] at hF
        refine g_icmpT rfl (decide_eq_true c15) ?_
        refine g_iload (q := 45) rfl rfl rfl ?_
        refine g_iconst (q := 46) rfl rfl ?_
        obtain ⟨⟨r4, h3⟩, hC, hF⟩ := bd_I hF
        dsimp only at hF
        refine g_ci2 (q := 49) rfl rfl (fun _ => rfl) rfl (A_C_otherThan hC) (by decide +kernel) rfl ?_
        by_cases c12 : r4 = 0
        · rw [if_pos c12] at hF
          refine g_ifT rfl (decide_eq_true c12) ?_
          refine g_iload (q := 61) rfl rfl rfl ?_
          by_cases c9 : ¬ x5 = 0
          · rw [if_pos c9] at hF
            refine g_ifT rfl (decide_eq_true c9) ?_
            refine g_aload_n (q := 77) rfl rfl rfl ?_
            refine g_iload_n (q := 78) rfl rfl rfl ?_
            refine g_iload_n (q := 79) rfl rfl rfl ?_
            refine g_iload_n (q := 80) rfl rfl rfl ?_
            refine g_iload (q := 82) rfl rfl rfl ?_
            obtain ⟨⟨r6, h5⟩, hC, hF⟩ := bd_I hF
            dsimp only at hF
            refine g_ci5 (q := 85) rfl rfl (fun _ => rfl) rfl (A_C_skillFor hC) (by decide +kernel) rfl ?_
            injection hF with hF
            injection hF with hv hh
            subst hv
            subst hh
            exact g_iret rfl
          · rw [if_neg c9] at hF
            refine g_ifF (q := 64) rfl (decide_eq_false c9) rfl ?_
            refine g_aload_n (q := 65) rfl rfl rfl ?_
            refine g_iload_n (q := 66) rfl rfl rfl ?_
            refine g_iload_n (q := 67) rfl rfl rfl ?_
            refine g_iload_n (q := 68) rfl rfl rfl ?_
            refine g_iload (q := 70) rfl rfl rfl ?_
            obtain ⟨⟨r8, h7⟩, hC, hF⟩ := bd_I hF
            dsimp only at hF
            refine g_ci5 (q := 73) rfl rfl (fun _ => rfl) rfl (A_C_armsFor hC) (by decide +kernel) rfl ?_
            refine g_goto rfl ?_
            injection hF with hF
            injection hF with hv hh
            subst hv
            subst hh
            exact g_iret rfl
        · rw [if_neg c12] at hF
          refine g_ifF (q := 52) rfl (decide_eq_false c12) rfl ?_
          refine g_aload_n (q := 53) rfl rfl rfl ?_
          refine g_bipush (q := 55) rfl (by decide +kernel) rfl ?_
          obtain ⟨⟨r11, h10⟩, hC, hF⟩ := bd_I hF
          dsimp only at hF
          refine g_ci2 (q := 58) rfl rfl (fun _ => rfl) rfl (A_C_refuse hC) (by decide +kernel) rfl ?_
          injection hF with hF
          injection hF with hv hh
          subst hv
          subst hh
          exact g_iret rfl
      · rw [if_neg c15] at hF
        refine g_icmpF (q := 36) rfl (decide_eq_false c15) rfl ?_
        refine g_aload_n (q := 37) rfl rfl rfl ?_
        refine g_bipush (q := 39) rfl (by decide +kernel) rfl ?_
        obtain ⟨⟨r14, h13⟩, hC, hF⟩ := bd_I hF
        dsimp only at hF
        refine g_ci2 (q := 42) rfl rfl (fun _ => rfl) rfl (A_C_refuse hC) (by decide +kernel) rfl ?_
        injection hF with hF
        injection hF with hv hh
        subst hv
        subst hh
        exact g_iret rfl
    · rw [if_neg c18] at hF
      refine g_ifF (q := 21) rfl (decide_eq_false c18) rfl ?_
      refine g_aload_n (q := 22) rfl rfl rfl ?_
      refine g_bipush (q := 24) rfl (by decide +kernel) rfl ?_
      obtain ⟨⟨r17, h16⟩, hC, hF⟩ := bd_I hF
      dsimp only at hF
      refine g_ci2 (q := 27) rfl rfl (fun _ => rfl) rfl (A_C_refuse hC) (by decide +kernel) rfl ?_
      injection hF with hF
      injection hF with hv hh
      subst hv
      subst hh
      exact g_iret rfl
  · rw [if_neg c21] at hF
    refine g_ifF (q := 10) rfl (decide_eq_false c21) rfl ?_
    refine g_aload_n (q := 11) rfl rfl rfl ?_
    refine g_iconst (q := 12) rfl rfl ?_
    obtain ⟨⟨r20, h19⟩, hC, hF⟩ := bd_I hF
    dsimp only at hF
    refine g_ci2 (q := 15) rfl rfl (fun _ => rfl) rfl (A_C_refuse hC) (by decide +kernel) rfl ?_
    injection hF with hF
    injection hF with hv hh
    subst hv
    subst hh
    exact g_iret rfl
