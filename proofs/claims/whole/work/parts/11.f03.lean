-- decompiled by wip/whole/dec.py: what a method does (F_), and that the mini machine does it (A_)
/-- BothCorners$Turned.foldsFor(III)I -/
def F_W2_foldsFor_2 (x1 : Int32) (x2 : Int32) (x3 : Int32) (h : MH) : Option (Int32 × MH) := bd (F_W0_foldsFor_4 x1 x2 x3 h) (fun (r2, h1) => some (r2 / (I 2), h1))
theorem A_W2_foldsFor_2 {x1 : Int32} {x2 : Int32} {x3 : Int32} {h h' : MH} {v : Int32} (hF : F_W2_foldsFor_2 x1 x2 x3 h = some (v, h')) : Ex 2 58 [.inr (.inl (some 5)), .inl x1, .inl x2, .inl x3] h (some (.inl v), h') := by
  unfold F_W2_foldsFor_2 at hF
  refine ex_of (d := 1) rfl rfl ?_
  refine g_aload_n (q := 1) rfl rfl rfl ?_
  refine g_iload_n (q := 2) rfl rfl rfl ?_
  refine g_iload_n (q := 3) rfl rfl rfl ?_
  refine g_iload_n (q := 4) rfl rfl rfl ?_
  obtain ⟨⟨r2, h1⟩, hC, hF⟩ := bd_I hF
  dsimp only at hF
  refine g_ci4 (q := 7) rfl rfl (fun _ => rfl) rfl (A_W0_foldsFor_4 hC) (by decide +kernel) rfl ?_
  refine g_iconst (q := 8) rfl rfl ?_
  refine g_idiv (q := 9) rfl (by decide +kernel) rfl ?_
  injection hF with hF
  injection hF with hv hh
  subst hv
  subst hh
  exact g_iret rfl
/-- BothCorners$Rolled.foldsFor(III)I -/
def F_W3_foldsFor (x1 : Int32) (x2 : Int32) (x3 : Int32) (h : MH) : Option (Int32 × MH) := bd (F_W2_foldsFor_2 x1 x2 x3 h) (fun (r2, h1) => iw (if (I 0) < (r2 - (I 2)) then r2 - (I 2) else I 0) (fun v3 => some (v3, h1)))
theorem A_W3_foldsFor {x1 : Int32} {x2 : Int32} {x3 : Int32} {h h' : MH} {v : Int32} (hF : F_W3_foldsFor x1 x2 x3 h = some (v, h')) : Ex 3 45 [.inr (.inl (some 5)), .inl x1, .inl x2, .inl x3] h (some (.inl v), h') := by
  unfold F_W3_foldsFor at hF
  refine ex_of (d := 2) rfl rfl ?_
  refine g_iconst (q := 1) rfl rfl ?_
  refine g_aload_n (q := 2) rfl rfl rfl ?_
  refine g_iload_n (q := 3) rfl rfl rfl ?_
  refine g_iload_n (q := 4) rfl rfl rfl ?_
  refine g_iload_n (q := 5) rfl rfl rfl ?_
  obtain ⟨⟨r2, h1⟩, hC, hF⟩ := bd_I hF
  dsimp only at hF
  refine g_ci4 (q := 8) rfl rfl (fun _ => rfl) rfl (A_W2_foldsFor_2 hC) (by decide +kernel) rfl ?_
  refine g_iconst (q := 9) rfl rfl ?_
  refine g_isub (q := 10) rfl rfl ?_
  refine g_max (q := 13) rfl rfl rfl ?_
  obtain ⟨v3, e_v3, hF⟩ := iw_I hF
  rw [← e_v3]
  injection hF with hF
  injection hF with hv hh
  subst hv
  subst hh
  exact g_iret rfl
/-- BothCorners$Crossed.foldsFor(III)I -/
def F_W4_foldsFor (x1 : Int32) (x2 : Int32) (x3 : Int32) (h : MH) : Option (Int32 × MH) := some (x2 + x3, h)
theorem A_W4_foldsFor {x1 : Int32} {x2 : Int32} {x3 : Int32} {h h' : MH} {v : Int32} (hF : F_W4_foldsFor x1 x2 x3 h = some (v, h')) : Ex 1 6 [.inr (.inl (some 6)), .inl x1, .inl x2, .inl x3] h (some (.inl v), h') := by
  unfold F_W4_foldsFor at hF
  refine ex_of (d := 0) rfl rfl ?_
  refine g_iload_n (q := 1) rfl rfl rfl ?_
  refine g_iload_n (q := 2) rfl rfl rfl ?_
  refine g_iadd (q := 3) rfl rfl ?_
  injection hF with hF
  injection hF with hv hh
  subst hv
  subst hh
  exact g_iret rfl
/-- BothCorners$Way.foldsFor(III)I -/
def F_W0_foldsFor_5 (x1 : Int32) (x2 : Int32) (x3 : Int32) (h : MH) : Option (Int32 × MH) := some (x1 + x3, h)
theorem A_W0_foldsFor_5 {x1 : Int32} {x2 : Int32} {x3 : Int32} {h h' : MH} {v : Int32} (hF : F_W0_foldsFor_5 x1 x2 x3 h = some (v, h')) : Ex 1 60 [.inr (.inl (some 7)), .inl x1, .inl x2, .inl x3] h (some (.inl v), h') := by
  unfold F_W0_foldsFor_5 at hF
  refine ex_of (d := 0) rfl rfl ?_
  refine g_iload_n (q := 1) rfl rfl rfl ?_
  refine g_iload_n (q := 2) rfl rfl rfl ?_
  refine g_iadd (q := 3) rfl rfl ?_
  injection hF with hF
  injection hF with hv hh
  subst hv
  subst hh
  exact g_iret rfl
/-- BothCorners$Turned.foldsFor(III)I -/
def F_W2_foldsFor_3 (x1 : Int32) (x2 : Int32) (x3 : Int32) (h : MH) : Option (Int32 × MH) := bd (F_W0_foldsFor_5 x1 x2 x3 h) (fun (r2, h1) => some (r2 / (I 2), h1))
theorem A_W2_foldsFor_3 {x1 : Int32} {x2 : Int32} {x3 : Int32} {h h' : MH} {v : Int32} (hF : F_W2_foldsFor_3 x1 x2 x3 h = some (v, h')) : Ex 2 58 [.inr (.inl (some 7)), .inl x1, .inl x2, .inl x3] h (some (.inl v), h') := by
  unfold F_W2_foldsFor_3 at hF
  refine ex_of (d := 1) rfl rfl ?_
  refine g_aload_n (q := 1) rfl rfl rfl ?_
  refine g_iload_n (q := 2) rfl rfl rfl ?_
  refine g_iload_n (q := 3) rfl rfl rfl ?_
  refine g_iload_n (q := 4) rfl rfl rfl ?_
  obtain ⟨⟨r2, h1⟩, hC, hF⟩ := bd_I hF
  dsimp only at hF
  refine g_ci4 (q := 7) rfl rfl (fun _ => rfl) rfl (A_W0_foldsFor_5 hC) (by decide +kernel) rfl ?_
  refine g_iconst (q := 8) rfl rfl ?_
  refine g_idiv (q := 9) rfl (by decide +kernel) rfl ?_
  injection hF with hF
  injection hF with hv hh
  subst hv
  subst hh
  exact g_iret rfl
/-- BothCorners$Taped.foldsFor(III)I -/
def F_W5_foldsFor (x1 : Int32) (x2 : Int32) (x3 : Int32) (h : MH) : Option (Int32 × MH) := bd (F_W2_foldsFor_3 x1 x2 x3 h) (fun (r2, h1) => some (r2 / (I 3), h1))
theorem A_W5_foldsFor {x1 : Int32} {x2 : Int32} {x3 : Int32} {h h' : MH} {v : Int32} (hF : F_W5_foldsFor x1 x2 x3 h = some (v, h')) : Ex 3 56 [.inr (.inl (some 7)), .inl x1, .inl x2, .inl x3] h (some (.inl v), h') := by
  unfold F_W5_foldsFor at hF
  refine ex_of (d := 2) rfl rfl ?_
  refine g_aload_n (q := 1) rfl rfl rfl ?_
  refine g_iload_n (q := 2) rfl rfl rfl ?_
  refine g_iload_n (q := 3) rfl rfl rfl ?_
  refine g_iload_n (q := 4) rfl rfl rfl ?_
  obtain ⟨⟨r2, h1⟩, hC, hF⟩ := bd_I hF
  dsimp only at hF
  refine g_ci4 (q := 7) rfl rfl (fun _ => rfl) rfl (A_W2_foldsFor_3 hC) (by decide +kernel) rfl ?_
  refine g_iconst (q := 8) rfl rfl ?_
  refine g_idiv (q := 9) rfl (by decide +kernel) rfl ?_
  injection hF with hF
  injection hF with hv hh
  subst hv
  subst hh
  exact g_iret rfl
/-- a way by its kind -/
def D_foldsFor (i a b c : Int32) (h : MH) : Option (Int32 × MH) := w6 i (fun q => match q with | 2 => F_W0_foldsFor a b c h | 3 => F_W1_foldsFor a b c h | 4 => F_W2_foldsFor a b c h | 5 => F_W3_foldsFor a b c h | 6 => F_W4_foldsFor a b c h | 7 => F_W5_foldsFor a b c h | _ => none)
theorem A_D_foldsFor {i a b c v : Int32} {h h' : MH} (hF : D_foldsFor i a b c h = some (v, h')) : ∃ tg, mm_wt 1 (2 + Int32.toNatClampNeg i) = some tg ∧ Ex 3 tg [.inr (.inl (some (2 + Int32.toNatClampNeg i))), .inl a, .inl b, .inl c] h (some (.inl v), h') := by
  unfold D_foldsFor at hF
  rcases w6_I hF with ⟨hw, hF⟩ | ⟨hw, hF⟩ | ⟨hw, hF⟩ | ⟨hw, hF⟩ | ⟨hw, hF⟩ | ⟨hw, hF⟩
  · rw [show 2 + Int32.toNatClampNeg i = 2 by rw [hw]; decide +kernel]
    exact ⟨60, by decide +kernel, ex_up (by decide) (A_W0_foldsFor hF)⟩
  · rw [show 2 + Int32.toNatClampNeg i = 3 by rw [hw]; decide +kernel]
    exact ⟨4, by decide +kernel, ex_up (by decide) (A_W1_foldsFor hF)⟩
  · rw [show 2 + Int32.toNatClampNeg i = 4 by rw [hw]; decide +kernel]
    exact ⟨58, by decide +kernel, ex_up (by decide) (A_W2_foldsFor hF)⟩
  · rw [show 2 + Int32.toNatClampNeg i = 5 by rw [hw]; decide +kernel]
    exact ⟨45, by decide +kernel, ex_up (by decide) (A_W3_foldsFor hF)⟩
  · rw [show 2 + Int32.toNatClampNeg i = 6 by rw [hw]; decide +kernel]
    exact ⟨6, by decide +kernel, ex_up (by decide) (A_W4_foldsFor hF)⟩
  · rw [show 2 + Int32.toNatClampNeg i = 7 by rw [hw]; decide +kernel]
    exact ⟨56, by decide +kernel, ex_up (by decide) (A_W5_foldsFor hF)⟩

/-- BothCorners$House.foldsInto(III)I -/
def F_H_foldsInto (x1 : Int32) (x2 : Int32) (x3 : Int32) (h : MH) : Option (Int32 × MH) := ck (mm_in x1 6) (ck (mm_in x2 6) (bd (F_C_apartAlong (h.1 9 (Int32.toNatClampNeg x1)) (h.1 10 (Int32.toNatClampNeg x2)) h) (fun (r2, h1) => ck (mm_in x1 6) (ck (mm_in x2 6) (bd (F_C_apartAcross (h1.1 9 (Int32.toNatClampNeg x1)) (h1.1 10 (Int32.toNatClampNeg x2)) h1) (fun (r4, h3) => ck (mm_in x3 6) (ck (mm_in (h3.1 13 (Int32.toNatClampNeg x3)) 6) (ck (mm_in x3 6) (bd (D_foldsFor (h3.1 13 (Int32.toNatClampNeg x3)) r2 r4 (h3.1 14 (Int32.toNatClampNeg x3)) h3) (fun (r7, h6) => some (r7, h6)))))))))))
theorem A_H_foldsInto {x1 : Int32} {x2 : Int32} {x3 : Int32} {h h' : MH} {v : Int32} (hF : F_H_foldsInto x1 x2 x3 h = some (v, h')) : Ex 4 19 [.inr (.inl (some 8)), .inl x1, .inl x2, .inl x3] h (some (.inl v), h') := by
  unfold F_H_foldsInto at hF
  refine ex_of (d := 3) rfl rfl ?_
  refine g_aload_n (q := 1) rfl rfl rfl ?_
  refine g_getR (q := 4) rfl (fun _ => rfl) rfl ?_
  refine g_iload_n (q := 5) rfl rfl rfl ?_
  obtain ⟨hi, hF⟩ := ck_I hF
  refine g_iaload (q := 6) rfl rfl rfl hi rfl ?_
  refine g_aload_n (q := 7) rfl rfl rfl ?_
  refine g_getR (q := 10) rfl (fun _ => rfl) rfl ?_
  refine g_iload_n (q := 11) rfl rfl rfl ?_
  obtain ⟨hi, hF⟩ := ck_I hF
  refine g_iaload (q := 12) rfl rfl rfl hi rfl ?_
  obtain ⟨⟨r2, h1⟩, hC, hF⟩ := bd_I hF
  dsimp only at hF
  refine g_ci2 (q := 15) rfl rfl (fun _ => rfl) rfl (A_C_apartAlong hC) (by decide +kernel) rfl ?_
  refine g_istore (q := 17) rfl rfl ?_
  refine g_aload_n (q := 18) rfl rfl rfl ?_
  refine g_getR (q := 21) rfl (fun _ => rfl) rfl ?_
  refine g_iload_n (q := 22) rfl rfl rfl ?_
  obtain ⟨hi, hF⟩ := ck_I hF
  refine g_iaload (q := 23) rfl rfl rfl hi rfl ?_
  refine g_aload_n (q := 24) rfl rfl rfl ?_
  refine g_getR (q := 27) rfl (fun _ => rfl) rfl ?_
  refine g_iload_n (q := 28) rfl rfl rfl ?_
  obtain ⟨hi, hF⟩ := ck_I hF
  refine g_iaload (q := 29) rfl rfl rfl hi rfl ?_
  obtain ⟨⟨r4, h3⟩, hC, hF⟩ := bd_I hF
  dsimp only at hF
  refine g_ci2 (q := 32) rfl rfl (fun _ => rfl) rfl (A_C_apartAcross hC) (by decide +kernel) rfl ?_
  refine g_istore (q := 34) rfl rfl ?_
  refine g_aload_n (q := 35) rfl rfl rfl ?_
  refine g_getR (q := 38) rfl (fun _ => rfl) rfl ?_
  refine g_aload_n (q := 39) rfl rfl rfl ?_
  refine g_getR (q := 42) rfl (fun _ => rfl) rfl ?_
  refine g_iload_n (q := 43) rfl rfl rfl ?_
  obtain ⟨hi, hF⟩ := ck_I hF
  refine g_iaload (q := 44) rfl rfl rfl hi rfl ?_
  obtain ⟨hi5, hF⟩ := ck_I hF
  refine g_aaload (q := 45) rfl rfl rfl hi5 (mm_w6r hi5) rfl ?_
  refine g_iload (q := 47) rfl rfl rfl ?_
  refine g_iload (q := 49) rfl rfl rfl ?_
  refine g_aload_n (q := 50) rfl rfl rfl ?_
  refine g_getR (q := 53) rfl (fun _ => rfl) rfl ?_
  refine g_iload_n (q := 54) rfl rfl rfl ?_
  obtain ⟨hi, hF⟩ := ck_I hF
  refine g_iaload (q := 55) rfl rfl rfl hi rfl ?_
  obtain ⟨⟨r7, h6⟩, hC, hF⟩ := bd_I hF
  dsimp only at hF
  obtain ⟨tg, hT, hE⟩ := A_D_foldsFor hC
  refine g_ciW (q := 58) rfl hT rfl hE (by decide +kernel) rfl ?_
  injection hF with hF
  injection hF with hv hh
  subst hv
  subst hh
  exact g_iret rfl
/-- BothCorners$House.foldsBy(II)I -/
def F_H_foldsBy (x1 : Int32) (x2 : Int32) (h : MH) : Option (Int32 × MH) := bd (F_H_foldsInto x1 x1 x2 h) (fun (r2, h1) => some (r2, h1))
theorem A_H_foldsBy {x1 : Int32} {x2 : Int32} {h h' : MH} {v : Int32} (hF : F_H_foldsBy x1 x2 h = some (v, h')) : Ex 5 20 [.inr (.inl (some 8)), .inl x1, .inl x2] h (some (.inl v), h') := by
  unfold F_H_foldsBy at hF
  refine ex_of (d := 4) rfl rfl ?_
  refine g_aload_n (q := 1) rfl rfl rfl ?_
  refine g_iload_n (q := 2) rfl rfl rfl ?_
  refine g_iload_n (q := 3) rfl rfl rfl ?_
  refine g_iload_n (q := 4) rfl rfl rfl ?_
  obtain ⟨⟨r2, h1⟩, hC, hF⟩ := bd_I hF
  dsimp only at hF
  refine g_ci4 (q := 7) rfl rfl (fun _ => rfl) rfl (A_H_foldsInto hC) (by decide +kernel) rfl ?_
  injection hF with hF
  injection hF with hv hh
  subst hv
  subst hh
  exact g_iret rfl
/-- BothCorners.foldsAShake(I)I -/
def F_C_foldsAShake (x0 : Int32) (h : MH) : Option (Int32 × MH) := some ((x0 / (I 2)) + (I 1), h)
theorem A_C_foldsAShake {x0 : Int32} {h h' : MH} {v : Int32} (hF : F_C_foldsAShake x0 h = some (v, h')) : Ex 1 151 [.inl x0] h (some (.inl v), h') := by
  unfold F_C_foldsAShake at hF
  refine ex_of (d := 0) rfl rfl ?_
  refine g_iload_n (q := 1) rfl rfl rfl ?_
  refine g_iconst (q := 2) rfl rfl ?_
  refine g_idiv (q := 3) rfl (by decide +kernel) rfl ?_
  refine g_iconst (q := 4) rfl rfl ?_
  refine g_iadd (q := 5) rfl rfl ?_
  injection hF with hF
  injection hF with hv hh
  subst hv
  subst hh
  exact g_iret rfl
/-- BothCorners.shakesTill(II)I -/
def F_C_shakesTill (x0 : Int32) (x1 : Int32) (h : MH) : Option (Int32 × MH) := if (I 1) ≤ x1 then cd (¬ x1 = 0) (some (((x0 + x1) - (I 1)) / x1, h)) else some (I 0, h)
theorem A_C_shakesTill {x0 : Int32} {x1 : Int32} {h h' : MH} {v : Int32} (hF : F_C_shakesTill x0 x1 h = some (v, h')) : Ex 1 152 [.inl x0, .inl x1] h (some (.inl v), h') := by
  unfold F_C_shakesTill at hF
  refine ex_of (d := 0) rfl rfl ?_
  refine g_iload_n (q := 1) rfl rfl rfl ?_
  refine g_iconst (q := 2) rfl rfl ?_
  by_cases c1 : (I 1) ≤ x1
  · rw [if_pos c1] at hF
    refine g_icmpT rfl (decide_eq_true c1) ?_
    refine g_iload_n (q := 10) rfl rfl rfl ?_
    refine g_iload_n (q := 11) rfl rfl rfl ?_
    refine g_iadd (q := 12) rfl rfl ?_
    refine g_iconst (q := 13) rfl rfl ?_
    refine g_isub (q := 14) rfl rfl ?_
    refine g_iload_n (q := 15) rfl rfl rfl ?_
    obtain ⟨hne, hF⟩ := cd_I hF
    refine g_idiv (q := 16) rfl hne rfl ?_
    injection hF with hF
    injection hF with hv hh
    subst hv
    subst hh
    exact g_iret rfl
  · rw [if_neg c1] at hF
    refine g_icmpF (q := 5) rfl (decide_eq_false c1) rfl ?_
    refine g_iconst (q := 6) rfl rfl ?_
    refine g_goto rfl ?_
    injection hF with hF
    injection hF with hv hh
    subst hv
    subst hh
    exact g_iret rfl
/-- BothCorners$House.shakesBy(III)I -/
def F_H_shakesBy (x1 : Int32) (x2 : Int32) (x3 : Int32) (h : MH) : Option (Int32 × MH) := bd (F_H_foldsBy x1 x2 h) (fun (r2, h1) => ck (mm_in x3 4) (bd (F_C_foldsAShake (h1.1 11 (Int32.toNatClampNeg x3)) h1) (fun (r4, h3) => bd (F_C_shakesTill r2 r4 h3) (fun (r6, h5) => some (r6, h5)))))
theorem A_H_shakesBy {x1 : Int32} {x2 : Int32} {x3 : Int32} {h h' : MH} {v : Int32} (hF : F_H_shakesBy x1 x2 x3 h = some (v, h')) : Ex 6 21 [.inr (.inl (some 8)), .inl x1, .inl x2, .inl x3] h (some (.inl v), h') := by
  unfold F_H_shakesBy at hF
  refine ex_of (d := 5) rfl rfl ?_
  refine g_aload_n (q := 1) rfl rfl rfl ?_
  refine g_iload_n (q := 2) rfl rfl rfl ?_
  refine g_iload_n (q := 3) rfl rfl rfl ?_
  obtain ⟨⟨r2, h1⟩, hC, hF⟩ := bd_I hF
  dsimp only at hF
  refine g_ci3 (q := 6) rfl rfl (fun _ => rfl) rfl (A_H_foldsBy hC) (by decide +kernel) rfl ?_
  refine g_aload_n (q := 7) rfl rfl rfl ?_
  refine g_getR (q := 10) rfl (fun _ => rfl) rfl ?_
  refine g_iload_n (q := 11) rfl rfl rfl ?_
  obtain ⟨hi, hF⟩ := ck_I hF
  refine g_iaload (q := 12) rfl rfl rfl hi rfl ?_
  obtain ⟨⟨r4, h3⟩, hC, hF⟩ := bd_I hF
  dsimp only at hF
  refine g_ci1 (q := 15) rfl rfl (fun _ => rfl) rfl (A_C_foldsAShake hC) (by decide +kernel) rfl ?_
  obtain ⟨⟨r6, h5⟩, hC, hF⟩ := bd_I hF
  dsimp only at hF
  refine g_ci2 (q := 18) rfl rfl (fun _ => rfl) rfl (A_C_shakesTill hC) (by decide +kernel) rfl ?_
  injection hF with hF
  injection hF with hv hh
  subst hv
  subst hh
  exact g_iret rfl
/-- BothCorners$House.timeOf(IIIII)I -/
def F_H_timeOf (x1 : Int32) (x2 : Int32) (x3 : Int32) (x4 : Int32) (x5 : Int32) (h : MH) : Option (Int32 × MH) := ck (mm_in x1 6) (ck (mm_in x1 6) (bd (F_C_apartAlong (h.1 9 (Int32.toNatClampNeg x1)) (h.1 10 (Int32.toNatClampNeg x1)) h) (fun (r2, h1) => ck (mm_in x1 6) (ck (mm_in x1 6) (bd (F_C_apartAcross (h1.1 9 (Int32.toNatClampNeg x1)) (h1.1 10 (Int32.toNatClampNeg x1)) h1) (fun (r4, h3) => ck (mm_in x2 6) (bd (D_foldsFor x2 r2 r4 x3 h3) (fun (r7, h6) => ck (mm_in x2 6) (ck (mm_in x1 6) (bd (F_C_sizeOf (h6.1 9 (Int32.toNatClampNeg x1)) h6) (fun (r10, h9) => bd (D_secondsFor x2 r10 x5 x3 h9) (fun (r12, h11) => bd (F_C_foldsAShake x4 h11) (fun (r14, h13) => bd (F_C_shakesTill r7 r14 h13) (fun (r16, h15) => some (r12 + ((I 3) * r16), h15)))))))))))))))
theorem A_H_timeOf {x1 : Int32} {x2 : Int32} {x3 : Int32} {x4 : Int32} {x5 : Int32} {h h' : MH} {v : Int32} (hF : F_H_timeOf x1 x2 x3 x4 x5 h = some (v, h')) : Ex 4 12 [.inr (.inl (some 8)), .inl x1, .inl x2, .inl x3, .inl x4, .inl x5] h (some (.inl v), h') := by
  unfold F_H_timeOf at hF
  refine ex_of (d := 3) rfl rfl ?_
  refine g_aload_n (q := 1) rfl rfl rfl ?_
  refine g_getR (q := 4) rfl (fun _ => rfl) rfl ?_
  refine g_iload_n (q := 5) rfl rfl rfl ?_
  obtain ⟨hi, hF⟩ := ck_I hF
  refine g_iaload (q := 6) rfl rfl rfl hi rfl ?_
  refine g_aload_n (q := 7) rfl rfl rfl ?_
  refine g_getR (q := 10) rfl (fun _ => rfl) rfl ?_
  refine g_iload_n (q := 11) rfl rfl rfl ?_
  obtain ⟨hi, hF⟩ := ck_I hF
  refine g_iaload (q := 12) rfl rfl rfl hi rfl ?_
  obtain ⟨⟨r2, h1⟩, hC, hF⟩ := bd_I hF
  dsimp only at hF
  refine g_ci2 (q := 15) rfl rfl (fun _ => rfl) rfl (A_C_apartAlong hC) (by decide +kernel) rfl ?_
  refine g_istore (q := 17) rfl rfl ?_
  refine g_aload_n (q := 18) rfl rfl rfl ?_
  refine g_getR (q := 21) rfl (fun _ => rfl) rfl ?_
  refine g_iload_n (q := 22) rfl rfl rfl ?_
  obtain ⟨hi, hF⟩ := ck_I hF
  refine g_iaload (q := 23) rfl rfl rfl hi rfl ?_
  refine g_aload_n (q := 24) rfl rfl rfl ?_
  refine g_getR (q := 27) rfl (fun _ => rfl) rfl ?_
  refine g_iload_n (q := 28) rfl rfl rfl ?_
  obtain ⟨hi, hF⟩ := ck_I hF
  refine g_iaload (q := 29) rfl rfl rfl hi rfl ?_
  obtain ⟨⟨r4, h3⟩, hC, hF⟩ := bd_I hF
  dsimp only at hF
  refine g_ci2 (q := 32) rfl rfl (fun _ => rfl) rfl (A_C_apartAcross hC) (by decide +kernel) rfl ?_
  refine g_istore (q := 34) rfl rfl ?_
  refine g_aload_n (q := 35) rfl rfl rfl ?_
  refine g_getR (q := 38) rfl (fun _ => rfl) rfl ?_
  refine g_iload_n (q := 39) rfl rfl rfl ?_
  obtain ⟨hi5, hF⟩ := ck_I hF
  refine g_aaload (q := 40) rfl rfl rfl hi5 (mm_w6r hi5) rfl ?_
  refine g_iload (q := 42) rfl rfl rfl ?_
  refine g_iload (q := 44) rfl rfl rfl ?_
  refine g_iload_n (q := 45) rfl rfl rfl ?_
  obtain ⟨⟨r7, h6⟩, hC, hF⟩ := bd_I hF
  dsimp only at hF
  obtain ⟨tg, hT, hE⟩ := A_D_foldsFor hC
  refine g_ciW (q := 48) rfl hT rfl hE (by decide +kernel) rfl ?_
  refine g_istore (q := 50) rfl rfl ?_
  refine g_aload_n (q := 51) rfl rfl rfl ?_
  refine g_getR (q := 54) rfl (fun _ => rfl) rfl ?_
  refine g_iload_n (q := 55) rfl rfl rfl ?_
  obtain ⟨hi8, hF⟩ := ck_I hF
  refine g_aaload (q := 56) rfl rfl rfl hi8 (mm_w6r hi8) rfl ?_
  refine g_aload_n (q := 57) rfl rfl rfl ?_
  refine g_getR (q := 60) rfl (fun _ => rfl) rfl ?_
  refine g_iload_n (q := 61) rfl rfl rfl ?_
  obtain ⟨hi, hF⟩ := ck_I hF
  refine g_iaload (q := 62) rfl rfl rfl hi rfl ?_
  obtain ⟨⟨r10, h9⟩, hC, hF⟩ := bd_I hF
  dsimp only at hF
  refine g_ci1 (q := 65) rfl rfl (fun _ => rfl) rfl (A_C_sizeOf hC) (by decide +kernel) rfl ?_
  refine g_iload (q := 67) rfl rfl rfl ?_
  refine g_iload_n (q := 68) rfl rfl rfl ?_
  obtain ⟨⟨r12, h11⟩, hC, hF⟩ := bd_I hF
  dsimp only at hF
  obtain ⟨tg, hT, hE⟩ := A_D_secondsFor hC
  refine g_ciW (q := 71) rfl hT rfl hE (by decide +kernel) rfl ?_
  refine g_istore (q := 73) rfl rfl ?_
  refine g_iload (q := 75) rfl rfl rfl ?_
  refine g_iconst (q := 76) rfl rfl ?_
  refine g_iload (q := 78) rfl rfl rfl ?_
  refine g_iload (q := 80) rfl rfl rfl ?_
  obtain ⟨⟨r14, h13⟩, hC, hF⟩ := bd_I hF
  dsimp only at hF
  refine g_ci1 (q := 83) rfl rfl (fun _ => rfl) rfl (A_C_foldsAShake hC) (by decide +kernel) rfl ?_
  obtain ⟨⟨r16, h15⟩, hC, hF⟩ := bd_I hF
  dsimp only at hF
  refine g_ci2 (q := 86) rfl rfl (fun _ => rfl) rfl (A_C_shakesTill hC) (by decide +kernel) rfl ?_
  refine g_imul (q := 87) rfl rfl ?_
  refine g_iadd (q := 88) rfl rfl ?_
  injection hF with hF
  injection hF with hv hh
  subst hv
  subst hh
  exact g_iret rfl
/-- BothCorners$House.timeBy(III)I -/
def F_H_timeBy (x1 : Int32) (x2 : Int32) (x3 : Int32) (h : MH) : Option (Int32 × MH) := ck (mm_in x2 6) (ck (mm_in x2 6) (ck (mm_in x3 4) (ck (mm_in x3 4) (bd (F_H_timeOf x1 (h.1 13 (Int32.toNatClampNeg x2)) (h.1 14 (Int32.toNatClampNeg x2)) (h.1 11 (Int32.toNatClampNeg x3)) (h.1 12 (Int32.toNatClampNeg x3)) h) (fun (r2, h1) => some (r2, h1))))))
theorem A_H_timeBy {x1 : Int32} {x2 : Int32} {x3 : Int32} {h h' : MH} {v : Int32} (hF : F_H_timeBy x1 x2 x3 h = some (v, h')) : Ex 5 14 [.inr (.inl (some 8)), .inl x1, .inl x2, .inl x3] h (some (.inl v), h') := by
  unfold F_H_timeBy at hF
  refine ex_of (d := 4) rfl rfl ?_
  refine g_aload_n (q := 1) rfl rfl rfl ?_
  refine g_iload_n (q := 2) rfl rfl rfl ?_
  refine g_aload_n (q := 3) rfl rfl rfl ?_
  refine g_getR (q := 6) rfl (fun _ => rfl) rfl ?_
  refine g_iload_n (q := 7) rfl rfl rfl ?_
  obtain ⟨hi, hF⟩ := ck_I hF
  refine g_iaload (q := 8) rfl rfl rfl hi rfl ?_
  refine g_aload_n (q := 9) rfl rfl rfl ?_
  refine g_getR (q := 12) rfl (fun _ => rfl) rfl ?_
  refine g_iload_n (q := 13) rfl rfl rfl ?_
  obtain ⟨hi, hF⟩ := ck_I hF
  refine g_iaload (q := 14) rfl rfl rfl hi rfl ?_
  refine g_aload_n (q := 15) rfl rfl rfl ?_
  refine g_getR (q := 18) rfl (fun _ => rfl) rfl ?_
  refine g_iload_n (q := 19) rfl rfl rfl ?_
  obtain ⟨hi, hF⟩ := ck_I hF
  refine g_iaload (q := 20) rfl rfl rfl hi rfl ?_
  refine g_aload_n (q := 21) rfl rfl rfl ?_
  refine g_getR (q := 24) rfl (fun _ => rfl) rfl ?_
  refine g_iload_n (q := 25) rfl rfl rfl ?_
  obtain ⟨hi, hF⟩ := ck_I hF
  refine g_iaload (q := 26) rfl rfl rfl hi rfl ?_
  obtain ⟨⟨r2, h1⟩, hC, hF⟩ := bd_I hF
  dsimp only at hF
  refine g_ci6 (q := 29) rfl rfl (fun _ => rfl) rfl (A_H_timeOf hC) (by decide +kernel) rfl ?_
  injection hF with hF
  injection hF with hv hh
  subst hv
  subst hh
  exact g_iret rfl
/-- BothCorners.takes(IIII)I -/
def F_C_takes (x1 : Int32) (x2 : Int32) (x3 : Int32) (x4 : Int32) (h : MH) : Option (Int32 × MH) := bd (F_C_lacks x1 x2 x3 h) (fun (r2, h1) => if r2 = 0 then if x4 = I 0 then bd (F_H_secondsBy x1 x2 x3 h1) (fun (r5, h4) => some (r5, h4)) else if x4 = I 1 then bd (F_H_foldsBy x1 x2 h1) (fun (r8, h7) => some (r8, h7)) else if x4 = I 2 then bd (F_H_shakesBy x1 x2 x3 h1) (fun (r11, h10) => some (r11, h10)) else if x4 = I 3 then bd (F_H_timeBy x1 x2 x3 h1) (fun (r14, h13) => some (r14, h13)) else bd (F_C_refuse (I (-2)) h1) (fun (r16, h15) => some (r16, h15)) else bd (F_C_refuse (I (-1)) h1) (fun (r18, h17) => some (r18, h17)))
theorem A_C_takes {x1 : Int32} {x2 : Int32} {x3 : Int32} {x4 : Int32} {h h' : MH} {v : Int32} (hF : F_C_takes x1 x2 x3 x4 h = some (v, h')) : Ex 7 73 [.inr (.inl (some 0)), .inl x1, .inl x2, .inl x3, .inl x4] h (some (.inl v), h') := by
  unfold F_C_takes at hF
  refine ex_of (d := 6) rfl rfl ?_
  refine g_aload_n (q := 1) rfl rfl rfl ?_
  refine g_iload_n (q := 2) rfl rfl rfl ?_
  refine g_iload_n (q := 3) rfl rfl rfl ?_
  refine g_iload_n (q := 4) rfl rfl rfl ?_
  obtain ⟨⟨r2, h1⟩, hC, hF⟩ := bd_I hF
  dsimp only at hF
  refine g_ci4 (q := 7) rfl rfl (fun _ => rfl) rfl (A_C_lacks hC) (by decide +kernel) rfl ?_
  by_cases c19 : r2 = 0
  · rw [if_pos c19] at hF
    refine g_ifT rfl (decide_eq_true c19) ?_
    refine g_iload (q := 18) rfl rfl rfl ?_
    by_cases c3 : x4 = I 0
    · rw [if_pos c3] at hF
      refine g_tsw (off := 30) (t := 48) rfl (by rw [c3]; decide +kernel) (by decide) ?_
      refine g_aload_n (q := 49) rfl rfl rfl ?_
      refine g_getR (q := 52) rfl (fun _ => rfl) rfl ?_
      refine g_iload_n (q := 53) rfl rfl rfl ?_
      refine g_iload_n (q := 54) rfl rfl rfl ?_
      refine g_iload_n (q := 55) rfl rfl rfl ?_
      obtain ⟨⟨r5, h4⟩, hC, hF⟩ := bd_I hF
      dsimp only at hF
      refine g_ci4 (q := 58) rfl rfl (fun _ => rfl) rfl (A_H_secondsBy hC) (by decide +kernel) rfl ?_
      injection hF with hF
      injection hF with hv hh
      subst hv
      subst hh
      exact g_iret rfl
    rw [if_neg c3] at hF
    by_cases c6 : x4 = I 1
    · rw [if_pos c6] at hF
      refine g_tsw (off := 41) (t := 59) rfl (by rw [c6]; decide +kernel) (by decide) ?_
      refine g_aload_n (q := 60) rfl rfl rfl ?_
      refine g_getR (q := 63) rfl (fun _ => rfl) rfl ?_
      refine g_iload_n (q := 64) rfl rfl rfl ?_
      refine g_iload_n (q := 65) rfl rfl rfl ?_
      obtain ⟨⟨r8, h7⟩, hC, hF⟩ := bd_I hF
      dsimp only at hF
      refine g_ci3 (q := 68) rfl rfl (fun _ => rfl) rfl (A_H_foldsBy hC) (by decide +kernel) rfl ?_
      injection hF with hF
      injection hF with hv hh
      subst hv
      subst hh
      exact g_iret rfl
    rw [if_neg c6] at hF
    by_cases c9 : x4 = I 2
    · rw [if_pos c9] at hF
      refine g_tsw (off := 51) (t := 69) rfl (by rw [c9]; decide +kernel) (by decide) ?_
      refine g_aload_n (q := 70) rfl rfl rfl ?_
      refine g_getR (q := 73) rfl (fun _ => rfl) rfl ?_
      refine g_iload_n (q := 74) rfl rfl rfl ?_
      refine g_iload_n (q := 75) rfl rfl rfl ?_
      refine g_iload_n (q := 76) rfl rfl rfl ?_
      obtain ⟨⟨r11, h10⟩, hC, hF⟩ := bd_I hF
      dsimp only at hF
      refine g_ci4 (q := 79) rfl rfl (fun _ => rfl) rfl (A_H_shakesBy hC) (by decide +kernel) rfl ?_
      injection hF with hF
      injection hF with hv hh
      subst hv
      subst hh
      exact g_iret rfl
    rw [if_neg c9] at hF
    by_cases c12 : x4 = I 3
    · rw [if_pos c12] at hF
      refine g_tsw (off := 62) (t := 80) rfl (by rw [c12]; decide +kernel) (by decide) ?_
      refine g_aload_n (q := 81) rfl rfl rfl ?_
      refine g_getR (q := 84) rfl (fun _ => rfl) rfl ?_
      refine g_iload_n (q := 85) rfl rfl rfl ?_
      refine g_iload_n (q := 86) rfl rfl rfl ?_
      refine g_iload_n (q := 87) rfl rfl rfl ?_
      obtain ⟨⟨r14, h13⟩, hC, hF⟩ := bd_I hF
      dsimp only at hF
      refine g_ci4 (q := 90) rfl rfl (fun _ => rfl) rfl (A_H_timeBy hC) (by decide +kernel) rfl ?_
      injection hF with hF
      injection hF with hv hh
      subst hv
      subst hh
      exact g_iret rfl
    rw [if_neg c12] at hF
    refine g_tsw (off := 73) (t := 91) rfl (mm_tswD (by decide) (by decide) (fun k h1 h2 => by rcases (show k = 0 ∨ k = 1 ∨ k = 2 ∨ k = 3 by omega) with rfl | rfl | rfl | rfl <;> assumption)) (by decide) ?_
    refine g_aload_n (q := 92) rfl rfl rfl ?_
    refine g_bipush (q := 94) rfl (by decide +kernel) rfl ?_
    obtain ⟨⟨r16, h15⟩, hC, hF⟩ := bd_I hF
    dsimp only at hF
    refine g_ci2 (q := 97) rfl rfl (fun _ => rfl) rfl (A_C_refuse hC) (by decide +kernel) rfl ?_
    injection hF with hF
    injection hF with hv hh
    subst hv
    subst hh
    exact g_iret rfl
  · rw [if_neg c19] at hF
    refine g_ifF (q := 10) rfl (decide_eq_false c19) rfl ?_
    refine g_aload_n (q := 11) rfl rfl rfl ?_
    refine g_iconst (q := 12) rfl rfl ?_
    obtain ⟨⟨r18, h17⟩, hC, hF⟩ := bd_I hF
    dsimp only at hF
    refine g_ci2 (q := 15) rfl rfl (fun _ => rfl) rfl (A_C_refuse hC) (by decide +kernel) rfl ?_
    injection hF with hF
    injection hF with hv hh
    subst hv
    subst hh
    exact g_iret rfl
def L_H_bestFor_10 (x1 : Int32) (x2 : Int32) : Nat → Int32 → Int32 → Int32 → MH → Option (Int32 × MH)
  | 0, _, _, _, _ => none
  | n + 1, x3, x4, x5, h => if (h.1 8 9) ≤ x5 then some (x3, h) else bd (F_H_timeBy x1 x5 x2 h) (fun (r2, h1) => iw (if x4 ≤ r2 then x3 else x5) (fun v3 => iw (if x4 ≤ r2 then x4 else r2) (fun v4 => L_H_bestFor_10 x1 x2 n v3 v4 (x5 + I 1) h1)))
/-- BothCorners$House.bestFor(II)I -/
def F_H_bestFor (x1 : Int32) (x2 : Int32) (h : MH) : Option (Int32 × MH) := bd (L_H_bestFor_10 x1 x2 5000 (I (-9)) (I 1000000000) (I 0) h) (fun (y8, h9) => some (y8, h9))
theorem A_L_H_bestFor_10 {x1 : Int32} {x2 : Int32} {r : MRs} : ∀ (n : Nat) (x3 : Int32) (x4 : Int32) (x5 : Int32) (h : MH) (x : Int32 × MH), L_H_bestFor_10 x1 x2 n x3 x4 x5 h = some x → (True) → (∀ (e3 : Int32) (h' : MH), x = (e3, h') → Go 5 22 49 (mm_lf [(3, .inl e3)]) [] h' r) → Go 5 22 10 (mm_lf [(0, .inr (.inl (some 8))), (1, .inl x1), (2, .inl x2), (3, .inl x3), (4, .inl x4), (5, .inl x5)]) [] h r
  | 0, _, _, _, _, _, hF, _, _ => by cases hF
  | n + 1, x3, x4, x5, h, x, hF, KR, KX => by
    have ih := fun a3 a4 a5 => A_L_H_bestFor_10 (x1 := x1) (x2 := x2) (r := r) n a3 a4 a5 
    unfold L_H_bestFor_10 at hF
    refine g_iload (q := 12) rfl rfl rfl ?_
    refine g_aload_n (q := 13) rfl rfl rfl ?_
    refine g_getI (q := 16) rfl (fun _ => rfl) rfl ?_
    by_cases c7 : (h.1 8 9) ≤ x5
    · rw [if_pos c7] at hF
      refine g_icmpT rfl (decide_eq_true c7) ?_
      injection hF with hF
      subst hF
      exact go_sub (mm_subc rfl mm_sub0) (KX _ _ rfl)
    · rw [if_neg c7] at hF
      refine g_icmpF (q := 19) rfl (decide_eq_false c7) rfl ?_
      refine g_aload_n (q := 20) rfl rfl rfl ?_
      refine g_iload_n (q := 21) rfl rfl rfl ?_
      refine g_iload (q := 23) rfl rfl rfl ?_
      refine g_iload_n (q := 24) rfl rfl rfl ?_
      obtain ⟨⟨r2, h1⟩, hC, hF⟩ := bd_I hF
      dsimp only at hF
      refine g_ci4 (q := 27) rfl rfl (fun _ => rfl) rfl (A_H_timeBy hC) (by decide +kernel) rfl ?_
      refine g_istore (q := 29) rfl rfl ?_
      refine g_iload (q := 31) rfl rfl rfl ?_
      refine g_iload (q := 33) rfl rfl rfl ?_
      obtain ⟨v3, e_v3, hF⟩ := iw_I hF
      obtain ⟨v4, e_v4, hF⟩ := iw_I hF
      suffices K5 : Go 5 22 43 (mm_lf [(0, .inr (.inl (some 8))), (1, .inl x1), (2, .inl x2), (3, .inl v3), (4, .inl v4), (5, .inl x5)]) [] h1 r by
        clear hF
        by_cases c6 : x4 ≤ r2
        · simp only [if_pos c6] at e_v3 e_v4
          subst e_v3 e_v4
          refine g_icmpT rfl (decide_eq_true c6) ?_
          exact go_sub (mm_subc rfl (mm_subc rfl (mm_subc rfl (mm_subc rfl (mm_subc rfl (mm_subc rfl mm_sub0)))))) K5
        · simp only [if_neg c6] at e_v3 e_v4
          subst e_v3 e_v4
          refine g_icmpF (q := 36) rfl (decide_eq_false c6) rfl ?_
          refine g_iload (q := 38) rfl rfl rfl ?_
          refine g_istore (q := 40) rfl rfl ?_
          refine g_iload (q := 42) rfl rfl rfl ?_
          refine g_istore_n (q := 43) rfl rfl ?_
          exact go_sub (mm_subc rfl (mm_subc rfl (mm_subc rfl (mm_subc rfl (mm_subc rfl (mm_subc rfl mm_sub0)))))) K5
      clear e_v3 e_v4
      refine g_iinc (q := 46) rfl rfl rfl ?_
      refine g_goto rfl ?_
      refine go_sub (lo' := mm_lf [(0, .inr (.inl (some 8))), (1, .inl x1), (2, .inl x2), (3, .inl v3), (4, .inl v4), (5, .inl (x5 + I 1))]) (mm_subc rfl (mm_subc rfl (mm_subc rfl (mm_subc rfl (mm_subc rfl (mm_subc rfl mm_sub0)))))) ?_
      exact ih _ _ _ _ _ hF KR KX
theorem A_H_bestFor {x1 : Int32} {x2 : Int32} {h h' : MH} {v : Int32} (hF : F_H_bestFor x1 x2 h = some (v, h')) : Ex 6 22 [.inr (.inl (some 8)), .inl x1, .inl x2] h (some (.inl v), h') := by
  unfold F_H_bestFor at hF
  refine ex_of (d := 5) rfl rfl ?_
  refine g_bipush (q := 2) rfl (by decide +kernel) rfl ?_
  refine g_istore_n (q := 3) rfl rfl ?_
  refine g_ldc (q := 5) rfl rfl ?_
  refine g_istore (q := 7) rfl rfl ?_
  refine g_iconst (q := 8) rfl rfl ?_
  refine g_istore (q := 10) rfl rfl ?_
  refine go_sub (lo' := mm_lf [(0, .inr (.inl (some 8))), (1, .inl x1), (2, .inl x2), (3, .inl (I (-9))), (4, .inl (I 1000000000)), (5, .inl (I 0))]) (mm_subc rfl (mm_subc rfl (mm_subc rfl (mm_subc rfl (mm_subc rfl (mm_subc rfl mm_sub0)))))) ?_
  obtain ⟨⟨y8, h9⟩, hC, hF⟩ := bd_I hF
  dsimp only at hF
  refine A_L_H_bestFor_10 5000 _ _ _ _ _ hC trivial ?_
  intro _ _ e2
  cases e2
  refine g_iload_n (q := 50) rfl rfl rfl ?_
  injection hF with hF
  injection hF with hv hh
  subst hv
  subst hh
  exact g_iret rfl
/-- BothCorners.bestWay(II)I -/
def F_C_bestWay (x1 : Int32) (x2 : Int32) (h : MH) : Option (Int32 × MH) := bd (F_C_noBed x1 h) (fun (r2, h1) => if ¬ r2 = 0 then bd (F_C_refuse (I (-1)) h1) (fun (r4, h3) => some (r4, h3)) else bd (F_C_noOne x2 h1) (fun (r6, h5) => if r6 = 0 then bd (F_H_bestFor x1 x2 h5) (fun (r8, h7) => some (r8, h7)) else bd (F_C_refuse (I (-1)) h5) (fun (r10, h9) => some (r10, h9))))
theorem A_C_bestWay {x1 : Int32} {x2 : Int32} {h h' : MH} {v : Int32} (hF : F_C_bestWay x1 x2 h = some (v, h')) : Ex 7 74 [.inr (.inl (some 0)), .inl x1, .inl x2] h (some (.inl v), h') := by
  unfold F_C_bestWay at hF
  refine ex_of (d := 6) rfl rfl ?_
  refine g_aload_n (q := 1) rfl rfl rfl ?_
  refine g_iload_n (q := 2) rfl rfl rfl ?_
  obtain ⟨⟨r2, h1⟩, hC, hF⟩ := bd_I hF
  dsimp only at hF
  refine g_ci2 (q := 5) rfl rfl (fun _ => rfl) rfl (A_C_noBed hC) (by decide +kernel) rfl ?_
  by_cases c12 : ¬ r2 = 0
  · rw [if_pos c12] at hF
    refine g_ifT rfl (decide_eq_true c12) ?_
    refine g_aload_n (q := 17) rfl rfl rfl ?_
    refine g_iconst (q := 18) rfl rfl ?_
    obtain ⟨⟨r4, h3⟩, hC, hF⟩ := bd_I hF
    dsimp only at hF
    refine g_ci2 (q := 21) rfl rfl (fun _ => rfl) rfl (A_C_refuse hC) (by decide +kernel) rfl ?_
    injection hF with hF
    injection hF with hv hh
    subst hv
    subst hh
    exact g_iret rfl
  · rw [if_neg c12] at hF
    refine g_ifF (q := 8) rfl (decide_eq_false c12) rfl ?_
    refine g_aload_n (q := 9) rfl rfl rfl ?_
    refine g_iload_n (q := 10) rfl rfl rfl ?_
    obtain ⟨⟨r6, h5⟩, hC, hF⟩ := bd_I hF
    dsimp only at hF
    refine g_ci2 (q := 13) rfl rfl (fun _ => rfl) rfl (A_C_noOne hC) (by decide +kernel) rfl ?_
    by_cases c11 : r6 = 0
    · rw [if_pos c11] at hF
      refine g_ifT rfl (decide_eq_true c11) ?_
      refine g_aload_n (q := 23) rfl rfl rfl ?_
      refine g_getR (q := 26) rfl (fun _ => rfl) rfl ?_
      refine g_iload_n (q := 27) rfl rfl rfl ?_
      refine g_iload_n (q := 28) rfl rfl rfl ?_
      obtain ⟨⟨r8, h7⟩, hC, hF⟩ := bd_I hF
      dsimp only at hF
      refine g_ci3 (q := 31) rfl rfl (fun _ => rfl) rfl (A_H_bestFor hC) (by decide +kernel) rfl ?_
      injection hF with hF
      injection hF with hv hh
      subst hv
      subst hh
      exact g_iret rfl
    · rw [if_neg c11] at hF
      refine g_ifF (q := 16) rfl (decide_eq_false c11) rfl ?_
      refine g_aload_n (q := 17) rfl rfl rfl ?_
      refine g_iconst (q := 18) rfl rfl ?_
      obtain ⟨⟨r10, h9⟩, hC, hF⟩ := bd_I hF
      dsimp only at hF
      refine g_ci2 (q := 21) rfl rfl (fun _ => rfl) rfl (A_C_refuse hC) (by decide +kernel) rfl ?_
      injection hF with hF
      injection hF with hv hh
      subst hv
      subst hh
      exact g_iret rfl
/-- BothCorners.noTwoWays(II)Z -/
def F_C_noTwoWays (x1 : Int32) (x2 : Int32) (h : MH) : Option (Int32 × MH) := bd (F_C_noWay x1 h) (fun (r2, h1) => if ¬ r2 = 0 then some (I 1, h1) else bd (F_C_noWay x2 h1) (fun (r4, h3) => iw (if ¬ r4 = 0 then I 1 else (if ¬ x1 = x2 then I 0 else I 1)) (fun v5 => cd (v5 &&& 1 = v5) (some (v5, h3)))))
theorem A_C_noTwoWays {x1 : Int32} {x2 : Int32} {h h' : MH} {v : Int32} (hF : F_C_noTwoWays x1 x2 h = some (v, h')) : Ex 2 125 [.inr (.inl (some 0)), .inl x1, .inl x2] h (some (.inl v), h') := by
  unfold F_C_noTwoWays at hF
  refine ex_of (d := 1) rfl rfl ?_
  refine g_aload_n (q := 1) rfl rfl rfl ?_
  refine g_iload_n (q := 2) rfl rfl rfl ?_
  obtain ⟨⟨r2, h1⟩, hC, hF⟩ := bd_I hF
  dsimp only at hF
  refine g_ci2 (q := 5) rfl rfl (fun _ => rfl) rfl (A_C_noWay hC) (by decide +kernel) rfl ?_
  by_cases c9 : ¬ r2 = 0
  · rw [if_pos c9] at hF
    refine g_ifT rfl (decide_eq_true c9) ?_
    refine g_iconst (q := 22) rfl rfl ?_
    refine g_goto rfl ?_
    injection hF with hF
    injection hF with hv hh
    subst hv
    subst hh
    exact g_zret rfl (by decide +kernel)
  · rw [if_neg c9] at hF
    refine g_ifF (q := 8) rfl (decide_eq_false c9) rfl ?_
    refine g_aload_n (q := 9) rfl rfl rfl ?_
    refine g_iload_n (q := 10) rfl rfl rfl ?_
    obtain ⟨⟨r4, h3⟩, hC, hF⟩ := bd_I hF
    dsimp only at hF
    refine g_ci2 (q := 13) rfl rfl (fun _ => rfl) rfl (A_C_noWay hC) (by decide +kernel) rfl ?_
    obtain ⟨v5, e_v5, hF⟩ := iw_I hF
    suffices K6 : Go 1 125 26 (mm_lf []) [.inl v5] h3 (some (.inl v), h') by
      clear hF
      by_cases c7 : ¬ r4 = 0
      · simp only [if_pos c7] at e_v5
        subst e_v5
        refine g_ifT rfl (decide_eq_true c7) ?_
        refine g_iconst (q := 22) rfl rfl ?_
        refine g_goto rfl ?_
        exact go_sub mm_sub0 K6
      · simp only [if_neg c7] at e_v5
        refine g_ifF (q := 16) rfl (decide_eq_false c7) rfl ?_
        refine g_iload_n (q := 17) rfl rfl rfl ?_
        refine g_iload_n (q := 18) rfl rfl rfl ?_
        by_cases c8 : ¬ x1 = x2
        · simp only [if_pos c8] at e_v5
          subst e_v5
          refine g_icmpT rfl (decide_eq_true c8) ?_
          refine g_iconst (q := 26) rfl rfl ?_
          exact go_sub mm_sub0 K6
        · simp only [if_neg c8] at e_v5
          subst e_v5
          refine g_icmpF (q := 21) rfl (decide_eq_false c8) rfl ?_
          refine g_iconst (q := 22) rfl rfl ?_
          refine g_goto rfl ?_
          exact go_sub mm_sub0 K6
    clear e_v5
    obtain ⟨hz, hF⟩ := cd_I hF
    injection hF with hF
    injection hF with hv hh
    subst hv
    subst hh
    exact g_zret rfl hz
def L_C_anew_119 (x7 : Int32) (x8 : Int32) : Nat → Int32 → MH → Option (Int32 × MH)
  | 0, _, _ => none
  | n + 1, x9, h => if x7 ≤ x9 then some (x9, h) else if ((I 3) * (x7 - x9)) ≤ x8 then some (x9, h) else L_C_anew_119 x7 x8 n (x9 + I 1) h
/-- BothCorners.anew(IIIIII)I -/
def F_C_anew (x1 : Int32) (x2 : Int32) (x3 : Int32) (x4 : Int32) (x5 : Int32) (x6 : Int32) (h : MH) : Option (Int32 × MH) := bd (F_C_lacks x1 x3 x2 h) (fun (r2, h1) => if ¬ r2 = 0 then bd (F_C_refuse (I (-1)) h1) (fun (r4, h3) => some (r4, h3)) else bd (F_C_noTwoWays x3 x4 h1) (fun (r6, h5) => if r6 = 0 then if 0 ≤ x5 then if x5 ≤ (I 40) then bd (F_C_otherThan x6 (I 1) h5) (fun (r8, h7) => if r8 = 0 then bd (F_H_shakesBy x1 x3 x2 h7) (fun (r10, h9) => bd (F_H_timeBy x1 x4 x2 h9) (fun (r12, h11) => if ¬ x6 = 0 then bd (L_C_anew_119 r10 r12 5000 (I 0) h11) (fun (y15, h16) => some (y15, h16)) else iw (if ((I 3) * (r10 - x5)) ≤ r12 then I 0 else I 1) (fun v17 => some (v17, h11)))) else bd (F_C_refuse (I (-2)) h7) (fun (r22, h21) => some (r22, h21))) else bd (F_C_refuse (I (-6)) h5) (fun (r25, h24) => some (r25, h24)) else bd (F_C_refuse (I (-4)) h5) (fun (r28, h27) => some (r28, h27)) else bd (F_C_refuse (I (-1)) h5) (fun (r31, h30) => some (r31, h30))))
theorem A_L_C_anew_119 {x7 : Int32} {x8 : Int32} {r : MRs} : ∀ (n : Nat) (x9 : Int32) (h : MH) (x : Int32 × MH), L_C_anew_119 x7 x8 n x9 h = some x → (True) → (∀ (e9 : Int32) (h' : MH), x = (e9, h') → Go 6 75 144 (mm_lf [(9, .inl e9)]) [] h' r) → Go 6 75 119 (mm_lf [(7, .inl x7), (8, .inl x8), (9, .inl x9)]) [] h r
  | 0, _, _, _, hF, _, _ => by cases hF
  | n + 1, x9, h, x, hF, KR, KX => by
    have ih := fun a9 => A_L_C_anew_119 (x7 := x7) (x8 := x8) (r := r) n a9 
    unfold L_C_anew_119 at hF
    refine g_iload (q := 121) rfl rfl rfl ?_
    refine g_iload (q := 123) rfl rfl rfl ?_
    by_cases c14 : x7 ≤ x9
    · rw [if_pos c14] at hF
      refine g_icmpT rfl (decide_eq_true c14) ?_
      injection hF with hF
      subst hF
      exact go_sub (mm_subc rfl mm_sub0) (KX _ _ rfl)
    · rw [if_neg c14] at hF
      refine g_icmpF (q := 126) rfl (decide_eq_false c14) rfl ?_
      refine g_iload (q := 128) rfl rfl rfl ?_
      refine g_iconst (q := 129) rfl rfl ?_
      refine g_iload (q := 131) rfl rfl rfl ?_
      refine g_iload (q := 133) rfl rfl rfl ?_
      refine g_isub (q := 134) rfl rfl ?_
      refine g_imul (q := 135) rfl rfl ?_
      by_cases c13 : ((I 3) * (x7 - x9)) ≤ x8
      · rw [if_pos c13] at hF
        refine g_icmpT rfl (decide_eq_true c13) ?_
        injection hF with hF
        subst hF
        exact go_sub (mm_subc rfl mm_sub0) (KX _ _ rfl)
      · rw [if_neg c13] at hF
        refine g_icmpF (q := 138) rfl (decide_eq_false c13) rfl ?_
        refine g_iinc (q := 141) rfl rfl rfl ?_
        refine g_goto rfl ?_
        refine go_sub (lo' := mm_lf [(7, .inl x7), (8, .inl x8), (9, .inl (x9 + I 1))]) (mm_subc rfl (mm_subc rfl (mm_subc rfl mm_sub0))) ?_
        exact ih _ _ _ hF KR KX
theorem A_C_anew {x1 : Int32} {x2 : Int32} {x3 : Int32} {x4 : Int32} {x5 : Int32} {x6 : Int32} {h h' : MH} {v : Int32} (hF : F_C_anew x1 x2 x3 x4 x5 x6 h = some (v, h')) : Ex 7 75 [.inr (.inl (some 0)), .inl x1, .inl x2, .inl x3, .inl x4, .inl x5, .inl x6] h (some (.inl v), h') := by
  unfold F_C_anew at hF
  refine ex_of (d := 6) rfl rfl ?_
  refine g_aload_n (q := 1) rfl rfl rfl ?_
  refine g_iload_n (q := 2) rfl rfl rfl ?_
  refine g_iload_n (q := 3) rfl rfl rfl ?_
  refine g_iload_n (q := 4) rfl rfl rfl ?_
  obtain ⟨⟨r2, h1⟩, hC, hF⟩ := bd_I hF
  dsimp only at hF
  refine g_ci4 (q := 7) rfl rfl (fun _ => rfl) rfl (A_C_lacks hC) (by decide +kernel) rfl ?_
  by_cases c33 : ¬ r2 = 0
  · rw [if_pos c33] at hF
    refine g_ifT rfl (decide_eq_true c33) ?_
    refine g_aload_n (q := 21) rfl rfl rfl ?_
    refine g_iconst (q := 22) rfl rfl ?_
    obtain ⟨⟨r4, h3⟩, hC, hF⟩ := bd_I hF
    dsimp only at hF
    refine g_ci2 (q := 25) rfl rfl (fun _ => rfl) rfl (A_C_refuse hC) (by decide +kernel) rfl ?_
    injection hF with hF
    injection hF with hv hh
    subst hv
    subst hh
    exact g_iret rfl
  · rw [if_neg c33] at hF
    refine g_ifF (q := 10) rfl (decide_eq_false c33) rfl ?_
    refine g_aload_n (q := 11) rfl rfl rfl ?_
    refine g_iload_n (q := 12) rfl rfl rfl ?_
    refine g_iload (q := 14) rfl rfl rfl ?_
    obtain ⟨⟨r6, h5⟩, hC, hF⟩ := bd_I hF
    dsimp only at hF
    refine g_ci3 (q := 17) rfl rfl (fun _ => rfl) rfl (A_C_noTwoWays hC) (by decide +kernel) rfl ?_
    by_cases c32 : r6 = 0
    · rw [if_pos c32] at hF
      refine g_ifT rfl (decide_eq_true c32) ?_
      refine g_iload (q := 28) rfl rfl rfl ?_
      by_cases c29 : 0 ≤ x5
      · rw [if_pos c29] at hF
        refine g_ifT rfl (decide_eq_true c29) ?_
        refine g_iload (q := 40) rfl rfl rfl ?_
        refine g_bipush (q := 42) rfl (by decide +kernel) rfl ?_
        by_cases c26 : x5 ≤ (I 40)
        · rw [if_pos c26] at hF
          refine g_icmpT rfl (decide_eq_true c26) ?_
          refine g_iload (q := 54) rfl rfl rfl ?_
          refine g_iconst (q := 55) rfl rfl ?_
          obtain ⟨⟨r8, h7⟩, hC, hF⟩ := bd_I hF
          dsimp only at hF
          refine g_ci2 (q := 58) rfl rfl (fun _ => rfl) rfl (A_C_otherThan hC) (by decide +kernel) rfl ?_
          by_cases c23 : r8 = 0
          · rw [if_pos c23] at hF
            refine g_ifT rfl (decide_eq_true c23) ?_
            refine g_aload_n (q := 69) rfl rfl rfl ?_
            refine g_getR (q := 72) rfl (fun _ => rfl) rfl ?_
            refine g_iload_n (q := 73) rfl rfl rfl ?_
            refine g_iload_n (q := 74) rfl rfl rfl ?_
            refine g_iload_n (q := 75) rfl rfl rfl ?_
            obtain ⟨⟨r10, h9⟩, hC, hF⟩ := bd_I hF
            dsimp only at hF
            refine g_ci4 (q := 78) rfl rfl (fun _ => rfl) rfl (A_H_shakesBy hC) (by decide +kernel) rfl ?_
            refine g_istore (q := 80) rfl rfl ?_
            refine g_aload_n (q := 81) rfl rfl rfl ?_
            refine g_getR (q := 84) rfl (fun _ => rfl) rfl ?_
            refine g_iload_n (q := 85) rfl rfl rfl ?_
            refine g_iload (q := 87) rfl rfl rfl ?_
            refine g_iload_n (q := 88) rfl rfl rfl ?_
            obtain ⟨⟨r12, h11⟩, hC, hF⟩ := bd_I hF
            dsimp only at hF
            refine g_ci4 (q := 91) rfl rfl (fun _ => rfl) rfl (A_H_timeBy hC) (by decide +kernel) rfl ?_
            refine g_istore (q := 93) rfl rfl ?_
            refine g_iload (q := 95) rfl rfl rfl ?_
            by_cases c20 : ¬ x6 = 0
            · rw [if_pos c20] at hF
              refine g_ifT rfl (decide_eq_true c20) ?_
              refine g_iconst (q := 117) rfl rfl ?_
              refine g_istore (q := 119) rfl rfl ?_
              refine go_sub (lo' := mm_lf [(7, .inl r10), (8, .inl r12), (9, .inl (I 0))]) (mm_subc rfl (mm_subc rfl (mm_subc rfl mm_sub0))) ?_
              obtain ⟨⟨y15, h16⟩, hC, hF⟩ := bd_I hF
              dsimp only at hF
              refine A_L_C_anew_119 5000 _ _ _ hC trivial ?_
              intro _ _ e2
              cases e2
              refine g_iload (q := 146) rfl rfl rfl ?_
              injection hF with hF
              injection hF with hv hh
              subst hv
              subst hh
              exact g_iret rfl
            · rw [if_neg c20] at hF
              refine g_ifF (q := 98) rfl (decide_eq_false c20) rfl ?_
              refine g_iload (q := 100) rfl rfl rfl ?_
              refine g_iconst (q := 101) rfl rfl ?_
              refine g_iload (q := 103) rfl rfl rfl ?_
              refine g_iload (q := 105) rfl rfl rfl ?_
              refine g_isub (q := 106) rfl rfl ?_
              refine g_imul (q := 107) rfl rfl ?_
              obtain ⟨v17, e_v17, hF⟩ := iw_I hF
              suffices K18 : Go 6 75 115 (mm_lf []) [.inl v17] h11 (some (.inl v), h') by
                clear hF
                by_cases c19 : ((I 3) * (r10 - x5)) ≤ r12
                · simp only [if_pos c19] at e_v17
                  subst e_v17
                  refine g_icmpT rfl (decide_eq_true c19) ?_
                  refine g_iconst (q := 115) rfl rfl ?_
                  exact go_sub mm_sub0 K18
                · simp only [if_neg c19] at e_v17
                  subst e_v17
                  refine g_icmpF (q := 110) rfl (decide_eq_false c19) rfl ?_
                  refine g_iconst (q := 111) rfl rfl ?_
                  refine g_goto rfl ?_
                  exact go_sub mm_sub0 K18
              clear e_v17
              injection hF with hF
              injection hF with hv hh
              subst hv
              subst hh
              exact g_iret rfl
          · rw [if_neg c23] at hF
            refine g_ifF (q := 61) rfl (decide_eq_false c23) rfl ?_
            refine g_aload_n (q := 62) rfl rfl rfl ?_
            refine g_bipush (q := 64) rfl (by decide +kernel) rfl ?_
            obtain ⟨⟨r22, h21⟩, hC, hF⟩ := bd_I hF
            dsimp only at hF
            refine g_ci2 (q := 67) rfl rfl (fun _ => rfl) rfl (A_C_refuse hC) (by decide +kernel) rfl ?_
            injection hF with hF
            injection hF with hv hh
            subst hv
            subst hh
            exact g_iret rfl
        · rw [if_neg c26] at hF
          refine g_icmpF (q := 45) rfl (decide_eq_false c26) rfl ?_
          refine g_aload_n (q := 46) rfl rfl rfl ?_
          refine g_bipush (q := 48) rfl (by decide +kernel) rfl ?_
          obtain ⟨⟨r25, h24⟩, hC, hF⟩ := bd_I hF
          dsimp only at hF
          refine g_ci2 (q := 51) rfl rfl (fun _ => rfl) rfl (A_C_refuse hC) (by decide +kernel) rfl ?_
          injection hF with hF
          injection hF with hv hh
          subst hv
          subst hh
          exact g_iret rfl
      · rw [if_neg c29] at hF
        refine g_ifF (q := 31) rfl (decide_eq_false c29) rfl ?_
        refine g_aload_n (q := 32) rfl rfl rfl ?_
        refine g_bipush (q := 34) rfl (by decide +kernel) rfl ?_
        obtain ⟨⟨r28, h27⟩, hC, hF⟩ := bd_I hF
        dsimp only at hF
        refine g_ci2 (q := 37) rfl rfl (fun _ => rfl) rfl (A_C_refuse hC) (by decide +kernel) rfl ?_
        injection hF with hF
        injection hF with hv hh
        subst hv
        subst hh
        exact g_iret rfl
    · rw [if_neg c32] at hF
      refine g_ifF (q := 20) rfl (decide_eq_false c32) rfl ?_
      refine g_aload_n (q := 21) rfl rfl rfl ?_
      refine g_iconst (q := 22) rfl rfl ?_
      obtain ⟨⟨r31, h30⟩, hC, hF⟩ := bd_I hF
      dsimp only at hF
      refine g_ci2 (q := 25) rfl rfl (fun _ => rfl) rfl (A_C_refuse hC) (by decide +kernel) rfl ?_
      injection hF with hF
      injection hF with hv hh
      subst hv
      subst hh
      exact g_iret rfl
/-- BothCorners$House.timeWith(IIII)I -/
def F_H_timeWith (x1 : Int32) (x2 : Int32) (x3 : Int32) (x4 : Int32) (h : MH) : Option (Int32 × MH) := ck (mm_in x2 6) (ck (mm_in x2 6) (bd (F_H_timeOf x1 (h.1 13 (Int32.toNatClampNeg x2)) (h.1 14 (Int32.toNatClampNeg x2)) x3 x4 h) (fun (r2, h1) => some (r2, h1))))
theorem A_H_timeWith {x1 : Int32} {x2 : Int32} {x3 : Int32} {x4 : Int32} {h h' : MH} {v : Int32} (hF : F_H_timeWith x1 x2 x3 x4 h = some (v, h')) : Ex 5 13 [.inr (.inl (some 8)), .inl x1, .inl x2, .inl x3, .inl x4] h (some (.inl v), h') := by
  unfold F_H_timeWith at hF
  refine ex_of (d := 4) rfl rfl ?_
  refine g_aload_n (q := 1) rfl rfl rfl ?_
  refine g_iload_n (q := 2) rfl rfl rfl ?_
  refine g_aload_n (q := 3) rfl rfl rfl ?_
  refine g_getR (q := 6) rfl (fun _ => rfl) rfl ?_
  refine g_iload_n (q := 7) rfl rfl rfl ?_
  obtain ⟨hi, hF⟩ := ck_I hF
  refine g_iaload (q := 8) rfl rfl rfl hi rfl ?_
  refine g_aload_n (q := 9) rfl rfl rfl ?_
  refine g_getR (q := 12) rfl (fun _ => rfl) rfl ?_
  refine g_iload_n (q := 13) rfl rfl rfl ?_
  obtain ⟨hi, hF⟩ := ck_I hF
  refine g_iaload (q := 14) rfl rfl rfl hi rfl ?_
  refine g_iload_n (q := 15) rfl rfl rfl ?_
  refine g_iload (q := 17) rfl rfl rfl ?_
  obtain ⟨⟨r2, h1⟩, hC, hF⟩ := bd_I hF
  dsimp only at hF
  refine g_ci6 (q := 20) rfl rfl (fun _ => rfl) rfl (A_H_timeOf hC) (by decide +kernel) rfl ?_
  injection hF with hF
  injection hF with hv hh
  subst hv
  subst hh
  exact g_iret rfl
/-- BothCorners.onBed(III)I -/
def F_C_onBed (x1 : Int32) (x2 : Int32) (x3 : Int32) (h : MH) : Option (Int32 × MH) := bd (F_C_lacks x1 x2 x3 h) (fun (r2, h1) => if r2 = 0 then ck (mm_in x3 4) (iw (if ((h1.1 11 (Int32.toNatClampNeg x3)) + (I 3)) < (I 12) then (h1.1 11 (Int32.toNatClampNeg x3)) + (I 3) else I 12) (fun v3 => ck (mm_in x3 4) (bd (F_H_timeWith x1 x2 v3 (h1.1 12 (Int32.toNatClampNeg x3)) h1) (fun (r5, h4) => bd (F_H_timeBy x1 x2 x3 h4) (fun (r7, h6) => some (r7 - (r5 + (I 8)), h6)))))) else bd (F_C_refuse (I (-1)) h1) (fun (r9, h8) => some ((I 1000000000) - r9, h8)))
theorem A_C_onBed {x1 : Int32} {x2 : Int32} {x3 : Int32} {h h' : MH} {v : Int32} (hF : F_C_onBed x1 x2 x3 h = some (v, h')) : Ex 6 76 [.inr (.inl (some 0)), .inl x1, .inl x2, .inl x3] h (some (.inl v), h') := by
  unfold F_C_onBed at hF
  refine ex_of (d := 5) rfl rfl ?_
  refine g_aload_n (q := 1) rfl rfl rfl ?_
  refine g_iload_n (q := 2) rfl rfl rfl ?_
  refine g_iload_n (q := 3) rfl rfl rfl ?_
  refine g_iload_n (q := 4) rfl rfl rfl ?_
  obtain ⟨⟨r2, h1⟩, hC, hF⟩ := bd_I hF
  dsimp only at hF
  refine g_ci4 (q := 7) rfl rfl (fun _ => rfl) rfl (A_C_lacks hC) (by decide +kernel) rfl ?_
  by_cases c10 : r2 = 0
  · rw [if_pos c10] at hF
    refine g_ifT rfl (decide_eq_true c10) ?_
    refine g_bipush (q := 21) rfl (by decide +kernel) rfl ?_
    refine g_aload_n (q := 22) rfl rfl rfl ?_
    refine g_getR (q := 25) rfl (fun _ => rfl) rfl ?_
    refine g_getR (q := 28) rfl (fun _ => rfl) rfl ?_
    refine g_iload_n (q := 29) rfl rfl rfl ?_
    obtain ⟨hi, hF⟩ := ck_I hF
    refine g_iaload (q := 30) rfl rfl rfl hi rfl ?_
    refine g_iconst (q := 31) rfl rfl ?_
    refine g_iadd (q := 32) rfl rfl ?_
    refine g_min (q := 35) rfl rfl rfl ?_
    obtain ⟨v3, e_v3, hF⟩ := iw_I hF
    rw [← e_v3]
    refine g_istore (q := 37) rfl rfl ?_
    refine g_aload_n (q := 38) rfl rfl rfl ?_
    refine g_getR (q := 41) rfl (fun _ => rfl) rfl ?_
    refine g_iload_n (q := 42) rfl rfl rfl ?_
    refine g_iload_n (q := 43) rfl rfl rfl ?_
    refine g_iload (q := 45) rfl rfl rfl ?_
    refine g_aload_n (q := 46) rfl rfl rfl ?_
    refine g_getR (q := 49) rfl (fun _ => rfl) rfl ?_
    refine g_getR (q := 52) rfl (fun _ => rfl) rfl ?_
    refine g_iload_n (q := 53) rfl rfl rfl ?_
    obtain ⟨hi, hF⟩ := ck_I hF
    refine g_iaload (q := 54) rfl rfl rfl hi rfl ?_
    obtain ⟨⟨r5, h4⟩, hC, hF⟩ := bd_I hF
    dsimp only at hF
    refine g_ci5 (q := 57) rfl rfl (fun _ => rfl) rfl (A_H_timeWith hC) (by decide +kernel) rfl ?_
    refine g_bipush (q := 59) rfl (by decide +kernel) rfl ?_
    refine g_iadd (q := 60) rfl rfl ?_
    refine g_istore (q := 62) rfl rfl ?_
    refine g_aload_n (q := 63) rfl rfl rfl ?_
    refine g_getR (q := 66) rfl (fun _ => rfl) rfl ?_
    refine g_iload_n (q := 67) rfl rfl rfl ?_
    refine g_iload_n (q := 68) rfl rfl rfl ?_
    refine g_iload_n (q := 69) rfl rfl rfl ?_
    obtain ⟨⟨r7, h6⟩, hC, hF⟩ := bd_I hF
    dsimp only at hF
    refine g_ci4 (q := 72) rfl rfl (fun _ => rfl) rfl (A_H_timeBy hC) (by decide +kernel) rfl ?_
    refine g_iload (q := 74) rfl rfl rfl ?_
    refine g_isub (q := 75) rfl rfl ?_
    injection hF with hF
    injection hF with hv hh
    subst hv
    subst hh
    exact g_iret rfl
  · rw [if_neg c10] at hF
    refine g_ifF (q := 10) rfl (decide_eq_false c10) rfl ?_
    refine g_ldc (q := 12) rfl rfl ?_
    refine g_aload_n (q := 13) rfl rfl rfl ?_
    refine g_iconst (q := 14) rfl rfl ?_
    obtain ⟨⟨r9, h8⟩, hC, hF⟩ := bd_I hF
    dsimp only at hF
    refine g_ci2 (q := 17) rfl rfl (fun _ => rfl) rfl (A_C_refuse hC) (by decide +kernel) rfl ?_
    refine g_isub (q := 18) rfl rfl ?_
    injection hF with hF
    injection hF with hv hh
    subst hv
    subst hh
    exact g_iret rfl
/-- BothCorners.noTwoPeople(II)Z -/
def F_C_noTwoPeople (x1 : Int32) (x2 : Int32) (h : MH) : Option (Int32 × MH) := bd (F_C_noOne x1 h) (fun (r2, h1) => if ¬ r2 = 0 then some (I 1, h1) else bd (F_C_noOne x2 h1) (fun (r4, h3) => iw (if ¬ r4 = 0 then I 1 else (if ¬ x1 = x2 then I 0 else I 1)) (fun v5 => cd (v5 &&& 1 = v5) (some (v5, h3)))))
theorem A_C_noTwoPeople {x1 : Int32} {x2 : Int32} {h h' : MH} {v : Int32} (hF : F_C_noTwoPeople x1 x2 h = some (v, h')) : Ex 2 124 [.inr (.inl (some 0)), .inl x1, .inl x2] h (some (.inl v), h') := by
  unfold F_C_noTwoPeople at hF
  refine ex_of (d := 1) rfl rfl ?_
  refine g_aload_n (q := 1) rfl rfl rfl ?_
  refine g_iload_n (q := 2) rfl rfl rfl ?_
  obtain ⟨⟨r2, h1⟩, hC, hF⟩ := bd_I hF
  dsimp only at hF
  refine g_ci2 (q := 5) rfl rfl (fun _ => rfl) rfl (A_C_noOne hC) (by decide +kernel) rfl ?_
  by_cases c9 : ¬ r2 = 0
  · rw [if_pos c9] at hF
    refine g_ifT rfl (decide_eq_true c9) ?_
    refine g_iconst (q := 22) rfl rfl ?_
    refine g_goto rfl ?_
    injection hF with hF
    injection hF with hv hh
    subst hv
    subst hh
    exact g_zret rfl (by decide +kernel)
  · rw [if_neg c9] at hF
    refine g_ifF (q := 8) rfl (decide_eq_false c9) rfl ?_
    refine g_aload_n (q := 9) rfl rfl rfl ?_
    refine g_iload_n (q := 10) rfl rfl rfl ?_
    obtain ⟨⟨r4, h3⟩, hC, hF⟩ := bd_I hF
    dsimp only at hF
    refine g_ci2 (q := 13) rfl rfl (fun _ => rfl) rfl (A_C_noOne hC) (by decide +kernel) rfl ?_
    obtain ⟨v5, e_v5, hF⟩ := iw_I hF
    suffices K6 : Go 1 124 26 (mm_lf []) [.inl v5] h3 (some (.inl v), h') by
      clear hF
      by_cases c7 : ¬ r4 = 0
      · simp only [if_pos c7] at e_v5
        subst e_v5
        refine g_ifT rfl (decide_eq_true c7) ?_
        refine g_iconst (q := 22) rfl rfl ?_
        refine g_goto rfl ?_
        exact go_sub mm_sub0 K6
      · simp only [if_neg c7] at e_v5
        refine g_ifF (q := 16) rfl (decide_eq_false c7) rfl ?_
        refine g_iload_n (q := 17) rfl rfl rfl ?_
        refine g_iload_n (q := 18) rfl rfl rfl ?_
        by_cases c8 : ¬ x1 = x2
        · simp only [if_pos c8] at e_v5
          subst e_v5
          refine g_icmpT rfl (decide_eq_true c8) ?_
          refine g_iconst (q := 26) rfl rfl ?_
          exact go_sub mm_sub0 K6
        · simp only [if_neg c8] at e_v5
          subst e_v5
          refine g_icmpF (q := 21) rfl (decide_eq_false c8) rfl ?_
          refine g_iconst (q := 22) rfl rfl ?_
          refine g_goto rfl ?_
          exact go_sub mm_sub0 K6
    clear e_v5
    obtain ⟨hz, hF⟩ := cd_I hF
    injection hF with hF
    injection hF with hv hh
    subst hv
    subst hh
    exact g_zret rfl hz
/-- BothCorners$House.timeTogether(IIII)I -/
def F_H_timeTogether (x1 : Int32) (x2 : Int32) (x3 : Int32) (x4 : Int32) (h : MH) : Option (Int32 × MH) := bd (F_H_secondsBy x1 x2 x3 h) (fun (r2, h1) => bd (F_H_secondsBy x1 x2 x4 h1) (fun (r4, h3) => iw (if r2 < r4 then r4 else r2) (fun v5 => ck (mm_in x3 4) (bd (F_C_foldsAShake (h3.1 11 (Int32.toNatClampNeg x3)) h3) (fun (r7, h6) => ck (mm_in x4 4) (bd (F_C_foldsAShake (h6.1 11 (Int32.toNatClampNeg x4)) h6) (fun (r9, h8) => bd (F_H_foldsBy x1 x2 h8) (fun (r11, h10) => bd (F_C_shakesTill r11 (r7 + r9) h10) (fun (r13, h12) => some (((v5 / (I 2)) + (I 2)) + ((I 3) * r13), h12))))))))))
theorem A_H_timeTogether {x1 : Int32} {x2 : Int32} {x3 : Int32} {x4 : Int32} {h h' : MH} {v : Int32} (hF : F_H_timeTogether x1 x2 x3 x4 h = some (v, h')) : Ex 6 16 [.inr (.inl (some 8)), .inl x1, .inl x2, .inl x3, .inl x4] h (some (.inl v), h') := by
  unfold F_H_timeTogether at hF
  refine ex_of (d := 5) rfl rfl ?_
  refine g_aload_n (q := 1) rfl rfl rfl ?_
  refine g_iload_n (q := 2) rfl rfl rfl ?_
  refine g_iload_n (q := 3) rfl rfl rfl ?_
  refine g_iload_n (q := 4) rfl rfl rfl ?_
  obtain ⟨⟨r2, h1⟩, hC, hF⟩ := bd_I hF
  dsimp only at hF
  refine g_ci4 (q := 7) rfl rfl (fun _ => rfl) rfl (A_H_secondsBy hC) (by decide +kernel) rfl ?_
  refine g_aload_n (q := 8) rfl rfl rfl ?_
  refine g_iload_n (q := 9) rfl rfl rfl ?_
  refine g_iload_n (q := 10) rfl rfl rfl ?_
  refine g_iload (q := 12) rfl rfl rfl ?_
  obtain ⟨⟨r4, h3⟩, hC, hF⟩ := bd_I hF
  dsimp only at hF
  refine g_ci4 (q := 15) rfl rfl (fun _ => rfl) rfl (A_H_secondsBy hC) (by decide +kernel) rfl ?_
  refine g_max (q := 18) rfl rfl rfl ?_
  obtain ⟨v5, e_v5, hF⟩ := iw_I hF
  rw [← e_v5]
  refine g_istore (q := 20) rfl rfl ?_
  refine g_aload_n (q := 21) rfl rfl rfl ?_
  refine g_getR (q := 24) rfl (fun _ => rfl) rfl ?_
  refine g_iload_n (q := 25) rfl rfl rfl ?_
  obtain ⟨hi, hF⟩ := ck_I hF
  refine g_iaload (q := 26) rfl rfl rfl hi rfl ?_
  obtain ⟨⟨r7, h6⟩, hC, hF⟩ := bd_I hF
  dsimp only at hF
  refine g_ci1 (q := 29) rfl rfl (fun _ => rfl) rfl (A_C_foldsAShake hC) (by decide +kernel) rfl ?_
  refine g_aload_n (q := 30) rfl rfl rfl ?_
  refine g_getR (q := 33) rfl (fun _ => rfl) rfl ?_
  refine g_iload (q := 35) rfl rfl rfl ?_
  obtain ⟨hi, hF⟩ := ck_I hF
  refine g_iaload (q := 36) rfl rfl rfl hi rfl ?_
  obtain ⟨⟨r9, h8⟩, hC, hF⟩ := bd_I hF
  dsimp only at hF
  refine g_ci1 (q := 39) rfl rfl (fun _ => rfl) rfl (A_C_foldsAShake hC) (by decide +kernel) rfl ?_
  refine g_iadd (q := 40) rfl rfl ?_
  refine g_istore (q := 42) rfl rfl ?_
  refine g_iload (q := 44) rfl rfl rfl ?_
  refine g_iconst (q := 45) rfl rfl ?_
  refine g_idiv (q := 46) rfl (by decide +kernel) rfl ?_
  refine g_iconst (q := 47) rfl rfl ?_
  refine g_iadd (q := 48) rfl rfl ?_
  refine g_iconst (q := 49) rfl rfl ?_
  refine g_aload_n (q := 50) rfl rfl rfl ?_
  refine g_iload_n (q := 51) rfl rfl rfl ?_
  refine g_iload_n (q := 52) rfl rfl rfl ?_
  obtain ⟨⟨r11, h10⟩, hC, hF⟩ := bd_I hF
  dsimp only at hF
  refine g_ci3 (q := 55) rfl rfl (fun _ => rfl) rfl (A_H_foldsBy hC) (by decide +kernel) rfl ?_
  refine g_iload (q := 57) rfl rfl rfl ?_
  obtain ⟨⟨r13, h12⟩, hC, hF⟩ := bd_I hF
  dsimp only at hF
  refine g_ci2 (q := 60) rfl rfl (fun _ => rfl) rfl (A_C_shakesTill hC) (by decide +kernel) rfl ?_
  refine g_imul (q := 61) rfl rfl ?_
  refine g_iadd (q := 62) rfl rfl ?_
  injection hF with hF
  injection hF with hv hh
  subst hv
  subst hh
  exact g_iret rfl
/-- BothCorners.together(IIII)I -/
def F_C_together (x1 : Int32) (x2 : Int32) (x3 : Int32) (x4 : Int32) (h : MH) : Option (Int32 × MH) := bd (F_C_noBed x1 h) (fun (r2, h1) => if ¬ r2 = 0 then bd (F_C_refuse (I (-1)) h1) (fun (r4, h3) => some (r4, h3)) else bd (F_C_noWay x2 h1) (fun (r6, h5) => if ¬ r6 = 0 then bd (F_C_refuse (I (-1)) h5) (fun (r8, h7) => some (r8, h7)) else bd (F_C_noTwoPeople x3 x4 h5) (fun (r10, h9) => if r10 = 0 then bd (F_H_timeTogether x1 x2 x3 x4 h9) (fun (r12, h11) => some (r12, h11)) else bd (F_C_refuse (I (-1)) h9) (fun (r14, h13) => some (r14, h13)))))
theorem A_C_together {x1 : Int32} {x2 : Int32} {x3 : Int32} {x4 : Int32} {h h' : MH} {v : Int32} (hF : F_C_together x1 x2 x3 x4 h = some (v, h')) : Ex 7 77 [.inr (.inl (some 0)), .inl x1, .inl x2, .inl x3, .inl x4] h (some (.inl v), h') := by
  unfold F_C_together at hF
  refine ex_of (d := 6) rfl rfl ?_
  refine g_aload_n (q := 1) rfl rfl rfl ?_
  refine g_iload_n (q := 2) rfl rfl rfl ?_
  obtain ⟨⟨r2, h1⟩, hC, hF⟩ := bd_I hF
  dsimp only at hF
  refine g_ci2 (q := 5) rfl rfl (fun _ => rfl) rfl (A_C_noBed hC) (by decide +kernel) rfl ?_
  by_cases c17 : ¬ r2 = 0
  · rw [if_pos c17] at hF
    refine g_ifT rfl (decide_eq_true c17) ?_
    refine g_aload_n (q := 27) rfl rfl rfl ?_
    refine g_iconst (q := 28) rfl rfl ?_
    obtain ⟨⟨r4, h3⟩, hC, hF⟩ := bd_I hF
    dsimp only at hF
    refine g_ci2 (q := 31) rfl rfl (fun _ => rfl) rfl (A_C_refuse hC) (by decide +kernel) rfl ?_
    injection hF with hF
    injection hF with hv hh
    subst hv
    subst hh
    exact g_iret rfl
  · rw [if_neg c17] at hF
    refine g_ifF (q := 8) rfl (decide_eq_false c17) rfl ?_
    refine g_aload_n (q := 9) rfl rfl rfl ?_
    refine g_iload_n (q := 10) rfl rfl rfl ?_
    obtain ⟨⟨r6, h5⟩, hC, hF⟩ := bd_I hF
    dsimp only at hF
    refine g_ci2 (q := 13) rfl rfl (fun _ => rfl) rfl (A_C_noWay hC) (by decide +kernel) rfl ?_
    by_cases c16 : ¬ r6 = 0
    · rw [if_pos c16] at hF
      refine g_ifT rfl (decide_eq_true c16) ?_
      refine g_aload_n (q := 27) rfl rfl rfl ?_
      refine g_iconst (q := 28) rfl rfl ?_
      obtain ⟨⟨r8, h7⟩, hC, hF⟩ := bd_I hF
      dsimp only at hF
      refine g_ci2 (q := 31) rfl rfl (fun _ => rfl) rfl (A_C_refuse hC) (by decide +kernel) rfl ?_
      injection hF with hF
      injection hF with hv hh
      subst hv
      subst hh
      exact g_iret rfl
    · rw [if_neg c16] at hF
      refine g_ifF (q := 16) rfl (decide_eq_false c16) rfl ?_
      refine g_aload_n (q := 17) rfl rfl rfl ?_
      refine g_iload_n (q := 18) rfl rfl rfl ?_
      refine g_iload (q := 20) rfl rfl rfl ?_
      obtain ⟨⟨r10, h9⟩, hC, hF⟩ := bd_I hF
      dsimp only at hF
      refine g_ci3 (q := 23) rfl rfl (fun _ => rfl) rfl (A_C_noTwoPeople hC) (by decide +kernel) rfl ?_
      by_cases c15 : r10 = 0
      · rw [if_pos c15] at hF
        refine g_ifT rfl (decide_eq_true c15) ?_
        refine g_aload_n (q := 33) rfl rfl rfl ?_
        refine g_getR (q := 36) rfl (fun _ => rfl) rfl ?_
        refine g_iload_n (q := 37) rfl rfl rfl ?_
        refine g_iload_n (q := 38) rfl rfl rfl ?_
        refine g_iload_n (q := 39) rfl rfl rfl ?_
        refine g_iload (q := 41) rfl rfl rfl ?_
        obtain ⟨⟨r12, h11⟩, hC, hF⟩ := bd_I hF
        dsimp only at hF
        refine g_ci5 (q := 44) rfl rfl (fun _ => rfl) rfl (A_H_timeTogether hC) (by decide +kernel) rfl ?_
        injection hF with hF
        injection hF with hv hh
        subst hv
        subst hh
        exact g_iret rfl
      · rw [if_neg c15] at hF
        refine g_ifF (q := 26) rfl (decide_eq_false c15) rfl ?_
        refine g_aload_n (q := 27) rfl rfl rfl ?_
        refine g_iconst (q := 28) rfl rfl ?_
        obtain ⟨⟨r14, h13⟩, hC, hF⟩ := bd_I hF
        dsimp only at hF
        refine g_ci2 (q := 31) rfl rfl (fun _ => rfl) rfl (A_C_refuse hC) (by decide +kernel) rfl ?_
        injection hF with hF
        injection hF with hv hh
        subst hv
        subst hh
        exact g_iret rfl
