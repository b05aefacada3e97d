-- decompiled by wip/whole/dec.py: what a method does (F_), and that the mini machine does it (A_)
def L_M_carryAll_82 : Nat → Int32 → MH → Option (MH)
  | 0, _, _ => none
  | n + 1, x3, h => if (I 24) ≤ x3 then some (h) else ck (mm_in x3 24) (bd (F_M_carry (h.1 56 (Int32.toNatClampNeg x3)) h) (fun (r21, h20) => ck (mm_in x3 24) (hw (mm_hset h20.1 56 (Int32.toNatClampNeg x3) r21, h20.2) (fun h22 => L_M_carryAll_82 n (x3 + I 1) h22))))
def L_M_carryAll_112 : Nat → Int32 → MH → Option (MH)
  | 0, _, _ => none
  | n + 1, x3, h => if (I 4) ≤ x3 then some (h) else ck (mm_in x3 4) (bd (F_M_carry (h.1 57 (Int32.toNatClampNeg x3)) h) (fun (r26, h25) => ck (mm_in x3 4) (hw (mm_hset h25.1 57 (Int32.toNatClampNeg x3) r26, h25.2) (fun h27 => ck (mm_in x3 4) (bd (F_M_carry (h27.1 58 (Int32.toNatClampNeg x3)) h27) (fun (r29, h28) => ck (mm_in x3 4) (hw (mm_hset h28.1 58 (Int32.toNatClampNeg x3) r29, h28.2) (fun h30 => ck (mm_in x3 4) (bd (F_M_carry (h30.1 61 (Int32.toNatClampNeg x3)) h30) (fun (r32, h31) => ck (mm_in x3 4) (hw (mm_hset h31.1 61 (Int32.toNatClampNeg x3) r32, h31.2) (fun h33 => L_M_carryAll_112 n (x3 + I 1) h33))))))))))))
def L_M_carryAll_173 : Nat → Int32 → MH → Option (MH)
  | 0, _, _ => none
  | n + 1, x3, h => if (I 6) ≤ x3 then some (h) else ck (mm_in x3 6) (bd (F_M_carry (h.1 59 (Int32.toNatClampNeg x3)) h) (fun (r37, h36) => ck (mm_in x3 6) (hw (mm_hset h36.1 59 (Int32.toNatClampNeg x3) r37, h36.2) (fun h38 => ck (mm_in x3 6) (bd (F_M_carry (h38.1 60 (Int32.toNatClampNeg x3)) h38) (fun (r40, h39) => ck (mm_in x3 6) (hw (mm_hset h39.1 60 (Int32.toNatClampNeg x3) r40, h39.2) (fun h41 => L_M_carryAll_173 n (x3 + I 1) h41))))))))
/-- BothCornersModel.carryAll([IZ)V -/
def F_M_carryAll (x2 : Int32) (h : MH) : Option (MH) := hw (h.1, some 68) (fun h1 => cd (x2 &&& 1 = x2) (hw (mm_hset h1.1 55 26 x2, h1.2) (fun h2 => hw (mm_hset h2.1 55 25 (I 0), h2.2) (fun h3 => bd (F_M_carry (h3.1 55 0) h3) (fun (r5, h4) => hw (mm_hset h4.1 55 0 r5, h4.2) (fun h6 => bd (F_M_carry (h6.1 55 2) h6) (fun (r8, h7) => hw (mm_hset h7.1 55 2 r8, h7.2) (fun h9 => bd (F_M_carry (h9.1 55 5) h9) (fun (r11, h10) => hw (mm_hset h10.1 55 5 r11, h10.2) (fun h12 => iw (if (h12.1 55 9) = 0 then I 0 else I 1) (fun v13 => bd (F_M_carry v13 h12) (fun (r16, h15) => iw (if ¬ r16 = (I 1) then I 0 else I 1) (fun v17 => cd (v17 &&& 1 = v17) (hw (mm_hset h15.1 55 9 v17, h15.2) (fun h19 => bd (L_M_carryAll_82 5000 (I 0) h19) (fun h24 => bd (L_M_carryAll_112 5000 (I 0) h24) (fun h35 => bd (L_M_carryAll_173 5000 (I 0) h35) (fun h43 => some h43))))))))))))))))))
theorem A_L_M_carryAll_82 {r : MRs} : ∀ (n : Nat) (x3 : Int32) (h : MH) (x : MH), L_M_carryAll_82 n x3 h = some x → (True) → (∀ (h' : MH), x = (h') → Go 1 193 110 (mm_lf [(0, .inr (.inl (some 55)))]) [] h' r) → Go 1 193 82 (mm_lf [(0, .inr (.inl (some 55))), (3, .inl x3)]) [] h r
  | 0, _, _, _, hF, _, _ => by cases hF
  | n + 1, x3, h, x, hF, KR, KX => by
    have ih := fun a3 => A_L_M_carryAll_82 (r := r) n a3 
    unfold L_M_carryAll_82 at hF
    refine g_iload_n (q := 83) rfl rfl rfl ?_
    refine g_bipush (q := 85) rfl (by decide +kernel) rfl ?_
    by_cases c23 : (I 24) ≤ x3
    · rw [if_pos c23] at hF
      refine g_icmpT rfl (decide_eq_true c23) ?_
      injection hF with hF
      subst hF
      exact go_sub (mm_subc rfl mm_sub0) (KX  _ rfl)
    · rw [if_neg c23] at hF
      refine g_icmpF (q := 88) rfl (decide_eq_false c23) rfl ?_
      refine g_aload_n (q := 89) rfl rfl rfl ?_
      refine g_getR (q := 92) rfl (fun _ => rfl) rfl ?_
      refine g_iload_n (q := 93) rfl rfl rfl ?_
      refine g_aload_n (q := 94) rfl rfl rfl ?_
      refine g_aload_n (q := 95) rfl rfl rfl ?_
      refine g_getR (q := 98) rfl (fun _ => rfl) rfl ?_
      refine g_iload_n (q := 99) rfl rfl rfl ?_
      obtain ⟨hi, hF⟩ := ck_I hF
      refine g_iaload (q := 100) rfl rfl rfl hi rfl ?_
      obtain ⟨⟨r21, h20⟩, hC, hF⟩ := bd_I hF
      dsimp only at hF
      refine g_ci2 (q := 103) rfl rfl (fun _ => rfl) rfl (A_M_carry hC) (by decide +kernel) rfl ?_
      obtain ⟨hi, hF⟩ := ck_I hF
      refine g_iastore (q := 104) rfl rfl rfl hi rfl ?_
      obtain ⟨h22, e_h22, hF⟩ := hw_I hF
      rw [← e_h22]
      refine g_iinc (q := 107) rfl rfl rfl ?_
      refine g_goto rfl ?_
      refine go_sub (lo' := mm_lf [(0, .inr (.inl (some 55))), (3, .inl (x3 + I 1))]) (mm_subc rfl (mm_subc rfl mm_sub0)) ?_
      exact ih _ _ _ hF KR KX
theorem A_L_M_carryAll_112 {r : MRs} : ∀ (n : Nat) (x3 : Int32) (h : MH) (x : MH), L_M_carryAll_112 n x3 h = some x → (True) → (∀ (h' : MH), x = (h') → Go 1 193 171 (mm_lf [(0, .inr (.inl (some 55)))]) [] h' r) → Go 1 193 112 (mm_lf [(0, .inr (.inl (some 55))), (3, .inl x3)]) [] h r
  | 0, _, _, _, hF, _, _ => by cases hF
  | n + 1, x3, h, x, hF, KR, KX => by
    have ih := fun a3 => A_L_M_carryAll_112 (r := r) n a3 
    unfold L_M_carryAll_112 at hF
    refine g_iload_n (q := 113) rfl rfl rfl ?_
    refine g_iconst (q := 114) rfl rfl ?_
    by_cases c34 : (I 4) ≤ x3
    · rw [if_pos c34] at hF
      refine g_icmpT rfl (decide_eq_true c34) ?_
      injection hF with hF
      subst hF
      exact go_sub (mm_subc rfl mm_sub0) (KX  _ rfl)
    · rw [if_neg c34] at hF
      refine g_icmpF (q := 117) rfl (decide_eq_false c34) rfl ?_
      refine g_aload_n (q := 118) rfl rfl rfl ?_
      refine g_getR (q := 121) rfl (fun _ => rfl) rfl ?_
      refine g_iload_n (q := 122) rfl rfl rfl ?_
      refine g_aload_n (q := 123) rfl rfl rfl ?_
      refine g_aload_n (q := 124) rfl rfl rfl ?_
      refine g_getR (q := 127) rfl (fun _ => rfl) rfl ?_
      refine g_iload_n (q := 128) rfl rfl rfl ?_
      obtain ⟨hi, hF⟩ := ck_I hF
      refine g_iaload (q := 129) rfl rfl rfl hi rfl ?_
      obtain ⟨⟨r26, h25⟩, hC, hF⟩ := bd_I hF
      dsimp only at hF
      refine g_ci2 (q := 132) rfl rfl (fun _ => rfl) rfl (A_M_carry hC) (by decide +kernel) rfl ?_
      obtain ⟨hi, hF⟩ := ck_I hF
      refine g_iastore (q := 133) rfl rfl rfl hi rfl ?_
      obtain ⟨h27, e_h27, hF⟩ := hw_I hF
      rw [← e_h27]
      refine g_aload_n (q := 134) rfl rfl rfl ?_
      refine g_getR (q := 137) rfl (fun _ => rfl) rfl ?_
      refine g_iload_n (q := 138) rfl rfl rfl ?_
      refine g_aload_n (q := 139) rfl rfl rfl ?_
      refine g_aload_n (q := 140) rfl rfl rfl ?_
      refine g_getR (q := 143) rfl (fun _ => rfl) rfl ?_
      refine g_iload_n (q := 144) rfl rfl rfl ?_
      obtain ⟨hi, hF⟩ := ck_I hF
      refine g_iaload (q := 145) rfl rfl rfl hi rfl ?_
      obtain ⟨⟨r29, h28⟩, hC, hF⟩ := bd_I hF
      dsimp only at hF
      refine g_ci2 (q := 148) rfl rfl (fun _ => rfl) rfl (A_M_carry hC) (by decide +kernel) rfl ?_
      obtain ⟨hi, hF⟩ := ck_I hF
      refine g_iastore (q := 149) rfl rfl rfl hi rfl ?_
      obtain ⟨h30, e_h30, hF⟩ := hw_I hF
      rw [← e_h30]
      refine g_aload_n (q := 150) rfl rfl rfl ?_
      refine g_getR (q := 153) rfl (fun _ => rfl) rfl ?_
      refine g_iload_n (q := 154) rfl rfl rfl ?_
      refine g_aload_n (q := 155) rfl rfl rfl ?_
      refine g_aload_n (q := 156) rfl rfl rfl ?_
      refine g_getR (q := 159) rfl (fun _ => rfl) rfl ?_
      refine g_iload_n (q := 160) rfl rfl rfl ?_
      obtain ⟨hi, hF⟩ := ck_I hF
      refine g_iaload (q := 161) rfl rfl rfl hi rfl ?_
      obtain ⟨⟨r32, h31⟩, hC, hF⟩ := bd_I hF
      dsimp only at hF
      refine g_ci2 (q := 164) rfl rfl (fun _ => rfl) rfl (A_M_carry hC) (by decide +kernel) rfl ?_
      obtain ⟨hi, hF⟩ := ck_I hF
      refine g_iastore (q := 165) rfl rfl rfl hi rfl ?_
      obtain ⟨h33, e_h33, hF⟩ := hw_I hF
      rw [← e_h33]
      refine g_iinc (q := 168) rfl rfl rfl ?_
      refine g_goto rfl ?_
      refine go_sub (lo' := mm_lf [(0, .inr (.inl (some 55))), (3, .inl (x3 + I 1))]) (mm_subc rfl (mm_subc rfl mm_sub0)) ?_
      exact ih _ _ _ hF KR KX
theorem A_L_M_carryAll_173 {r : MRs} : ∀ (n : Nat) (x3 : Int32) (h : MH) (x : MH), L_M_carryAll_173 n x3 h = some x → (True) → (∀ (h' : MH), x = (h') → Go 1 193 217 (mm_lf []) [] h' r) → Go 1 193 173 (mm_lf [(0, .inr (.inl (some 55))), (3, .inl x3)]) [] h r
  | 0, _, _, _, hF, _, _ => by cases hF
  | n + 1, x3, h, x, hF, KR, KX => by
    have ih := fun a3 => A_L_M_carryAll_173 (r := r) n a3 
    unfold L_M_carryAll_173 at hF
    refine g_iload_n (q := 174) rfl rfl rfl ?_
    refine g_bipush (q := 176) rfl (by decide +kernel) rfl ?_
    by_cases c42 : (I 6) ≤ x3
    · rw [if_pos c42] at hF
      refine g_icmpT rfl (decide_eq_true c42) ?_
      injection hF with hF
      subst hF
      exact go_sub mm_sub0 (KX  _ rfl)
    · rw [if_neg c42] at hF
      refine g_icmpF (q := 179) rfl (decide_eq_false c42) rfl ?_
      refine g_aload_n (q := 180) rfl rfl rfl ?_
      refine g_getR (q := 183) rfl (fun _ => rfl) rfl ?_
      refine g_iload_n (q := 184) rfl rfl rfl ?_
      refine g_aload_n (q := 185) rfl rfl rfl ?_
      refine g_aload_n (q := 186) rfl rfl rfl ?_
      refine g_getR (q := 189) rfl (fun _ => rfl) rfl ?_
      refine g_iload_n (q := 190) rfl rfl rfl ?_
      obtain ⟨hi, hF⟩ := ck_I hF
      refine g_iaload (q := 191) rfl rfl rfl hi rfl ?_
      obtain ⟨⟨r37, h36⟩, hC, hF⟩ := bd_I hF
      dsimp only at hF
      refine g_ci2 (q := 194) rfl rfl (fun _ => rfl) rfl (A_M_carry hC) (by decide +kernel) rfl ?_
      obtain ⟨hi, hF⟩ := ck_I hF
      refine g_iastore (q := 195) rfl rfl rfl hi rfl ?_
      obtain ⟨h38, e_h38, hF⟩ := hw_I hF
      rw [← e_h38]
      refine g_aload_n (q := 196) rfl rfl rfl ?_
      refine g_getR (q := 199) rfl (fun _ => rfl) rfl ?_
      refine g_iload_n (q := 200) rfl rfl rfl ?_
      refine g_aload_n (q := 201) rfl rfl rfl ?_
      refine g_aload_n (q := 202) rfl rfl rfl ?_
      refine g_getR (q := 205) rfl (fun _ => rfl) rfl ?_
      refine g_iload_n (q := 206) rfl rfl rfl ?_
      obtain ⟨hi, hF⟩ := ck_I hF
      refine g_iaload (q := 207) rfl rfl rfl hi rfl ?_
      obtain ⟨⟨r40, h39⟩, hC, hF⟩ := bd_I hF
      dsimp only at hF
      refine g_ci2 (q := 210) rfl rfl (fun _ => rfl) rfl (A_M_carry hC) (by decide +kernel) rfl ?_
      obtain ⟨hi, hF⟩ := ck_I hF
      refine g_iastore (q := 211) rfl rfl rfl hi rfl ?_
      obtain ⟨h41, e_h41, hF⟩ := hw_I hF
      rw [← e_h41]
      refine g_iinc (q := 214) rfl rfl rfl ?_
      refine g_goto rfl ?_
      refine go_sub (lo' := mm_lf [(0, .inr (.inl (some 55))), (3, .inl (x3 + I 1))]) (mm_subc rfl (mm_subc rfl mm_sub0)) ?_
      exact ih _ _ _ hF KR KX
theorem A_M_carryAll {x2 : Int32} {h h' : MH} (hF : F_M_carryAll x2 h = some h') : Ex 2 193 [.inr (.inl (some 55)), .inr (.inl (some 68)), .inl x2] h (none, h') := by
  unfold F_M_carryAll at hF
  refine ex_of (d := 1) rfl rfl ?_
  refine g_aload_n (q := 1) rfl rfl rfl ?_
  refine g_aload_n (q := 2) rfl rfl rfl ?_
  refine g_putK (q := 5) rfl (fun _ => rfl) rfl ?_
  obtain ⟨h1, e_h1, hF⟩ := hw_I hF
  rw [← e_h1]
  refine g_aload_n (q := 6) rfl rfl rfl ?_
  refine g_iload_n (q := 7) rfl rfl rfl ?_
  obtain ⟨hz, hF⟩ := cd_I hF
  refine g_putZ (q := 10) rfl (fun _ => rfl) hz rfl ?_
  obtain ⟨h2, e_h2, hF⟩ := hw_I hF
  rw [← e_h2]
  refine g_aload_n (q := 11) rfl rfl rfl ?_
  refine g_iconst (q := 12) rfl rfl ?_
  refine g_putI (q := 15) rfl (fun _ => rfl) rfl ?_
  obtain ⟨h3, e_h3, hF⟩ := hw_I hF
  rw [← e_h3]
  refine g_aload_n (q := 16) rfl rfl rfl ?_
  refine g_aload_n (q := 17) rfl rfl rfl ?_
  refine g_aload_n (q := 18) rfl rfl rfl ?_
  refine g_getI (q := 21) rfl (fun _ => rfl) rfl ?_
  obtain ⟨⟨r5, h4⟩, hC, hF⟩ := bd_I hF
  dsimp only at hF
  refine g_ci2 (q := 24) rfl rfl (fun _ => rfl) rfl (A_M_carry hC) (by decide +kernel) rfl ?_
  refine g_putI (q := 27) rfl (fun _ => rfl) rfl ?_
  obtain ⟨h6, e_h6, hF⟩ := hw_I hF
  rw [← e_h6]
  refine g_aload_n (q := 28) rfl rfl rfl ?_
  refine g_aload_n (q := 29) rfl rfl rfl ?_
  refine g_aload_n (q := 30) rfl rfl rfl ?_
  refine g_getI (q := 33) rfl (fun _ => rfl) rfl ?_
  obtain ⟨⟨r8, h7⟩, hC, hF⟩ := bd_I hF
  dsimp only at hF
  refine g_ci2 (q := 36) rfl rfl (fun _ => rfl) rfl (A_M_carry hC) (by decide +kernel) rfl ?_
  refine g_putI (q := 39) rfl (fun _ => rfl) rfl ?_
  obtain ⟨h9, e_h9, hF⟩ := hw_I hF
  rw [← e_h9]
  refine g_aload_n (q := 40) rfl rfl rfl ?_
  refine g_aload_n (q := 41) rfl rfl rfl ?_
  refine g_aload_n (q := 42) rfl rfl rfl ?_
  refine g_getI (q := 45) rfl (fun _ => rfl) rfl ?_
  obtain ⟨⟨r11, h10⟩, hC, hF⟩ := bd_I hF
  dsimp only at hF
  refine g_ci2 (q := 48) rfl rfl (fun _ => rfl) rfl (A_M_carry hC) (by decide +kernel) rfl ?_
  refine g_putI (q := 51) rfl (fun _ => rfl) rfl ?_
  obtain ⟨h12, e_h12, hF⟩ := hw_I hF
  rw [← e_h12]
  refine g_aload_n (q := 52) rfl rfl rfl ?_
  refine g_aload_n (q := 53) rfl rfl rfl ?_
  refine g_aload_n (q := 54) rfl rfl rfl ?_
  refine g_getI (q := 57) rfl (fun _ => rfl) rfl ?_
  obtain ⟨v13, e_v13, hF⟩ := iw_I hF
  suffices K14 : Go 1 193 65 (mm_lf [(0, .inr (.inl (some 55)))]) [.inl v13, .inr (.inl (some 55)), .inr (.inl (some 55))] h12 (none, h') by
    clear hF
    by_cases c45 : (h12.1 55 9) = 0
    · simp only [if_pos c45] at e_v13
      subst e_v13
      refine g_ifT rfl (decide_eq_true c45) ?_
      refine g_iconst (q := 65) rfl rfl ?_
      exact go_sub (mm_subc rfl mm_sub0) K14
    · simp only [if_neg c45] at e_v13
      subst e_v13
      refine g_ifF (q := 60) rfl (decide_eq_false c45) rfl ?_
      refine g_iconst (q := 61) rfl rfl ?_
      refine g_goto rfl ?_
      exact go_sub (mm_subc rfl mm_sub0) K14
  clear e_v13
  obtain ⟨⟨r16, h15⟩, hC, hF⟩ := bd_I hF
  dsimp only at hF
  refine g_ci2 (q := 68) rfl rfl (fun _ => rfl) rfl (A_M_carry hC) (by decide +kernel) rfl ?_
  refine g_iconst (q := 69) rfl rfl ?_
  obtain ⟨v17, e_v17, hF⟩ := iw_I hF
  suffices K18 : Go 1 193 77 (mm_lf [(0, .inr (.inl (some 55)))]) [.inl v17, .inr (.inl (some 55))] h15 (none, h') by
    clear hF
    by_cases c44 : ¬ r16 = (I 1)
    · simp only [if_pos c44] at e_v17
      subst e_v17
      refine g_icmpT rfl (decide_eq_true c44) ?_
      refine g_iconst (q := 77) rfl rfl ?_
      exact go_sub (mm_subc rfl mm_sub0) K18
    · simp only [if_neg c44] at e_v17
      subst e_v17
      refine g_icmpF (q := 72) rfl (decide_eq_false c44) rfl ?_
      refine g_iconst (q := 73) rfl rfl ?_
      refine g_goto rfl ?_
      exact go_sub (mm_subc rfl mm_sub0) K18
  clear e_v17
  obtain ⟨hz, hF⟩ := cd_I hF
  refine g_putZ (q := 80) rfl (fun _ => rfl) hz rfl ?_
  obtain ⟨h19, e_h19, hF⟩ := hw_I hF
  rw [← e_h19]
  refine g_iconst (q := 81) rfl rfl ?_
  refine g_istore_n (q := 82) rfl rfl ?_
  refine go_sub (lo' := mm_lf [(0, .inr (.inl (some 55))), (3, .inl (I 0))]) (mm_subc rfl (mm_subc rfl mm_sub0)) ?_
  obtain ⟨h24, hC, hF⟩ := bd_I hF
  refine A_L_M_carryAll_82 5000 _ _ _ hC trivial ?_
  intro _ e2
  cases e2
  refine g_iconst (q := 111) rfl rfl ?_
  refine g_istore_n (q := 112) rfl rfl ?_
  refine go_sub (lo' := mm_lf [(0, .inr (.inl (some 55))), (3, .inl (I 0))]) (mm_subc rfl (mm_subc rfl mm_sub0)) ?_
  obtain ⟨h35, hC, hF⟩ := bd_I hF
  refine A_L_M_carryAll_112 5000 _ _ _ hC trivial ?_
  intro _ e2
  cases e2
  refine g_iconst (q := 172) rfl rfl ?_
  refine g_istore_n (q := 173) rfl rfl ?_
  refine go_sub (lo' := mm_lf [(0, .inr (.inl (some 55))), (3, .inl (I 0))]) (mm_subc rfl (mm_subc rfl mm_sub0)) ?_
  obtain ⟨h43, hC, hF⟩ := bd_I hF
  refine A_L_M_carryAll_173 5000 _ _ _ hC trivial ?_
  intro _ e2
  cases e2
  injection hF with hF
  subst hF
  exact g_vret rfl
/-- BothCornersModel.isSize(I)Z -/
def F_M_isSize (x0 : Int32) (h : MH) : Option (Int32 × MH) := bd (F_M_in (Int32.toInt64 x0) (Lg 1) (Lg 24) h) (fun (r2, h1) => cd (r2 &&& 1 = r2) (some (r2, h1)))
theorem A_M_isSize {x0 : Int32} {h h' : MH} {v : Int32} (hF : F_M_isSize x0 h = some (v, h')) : Ex 2 188 [.inl x0] h (some (.inl v), h') := by
  unfold F_M_isSize at hF
  refine ex_of (d := 1) rfl rfl ?_
  refine g_iload_n (q := 1) rfl rfl rfl ?_
  refine g_i2l (q := 2) rfl rfl ?_
  refine g_lconst (u := 1) (q := 3) rfl (by decide +kernel) rfl ?_
  refine g_ldc2_w (q := 6) rfl rfl ?_
  obtain ⟨⟨r2, h1⟩, hC, hF⟩ := bd_I hF
  dsimp only at hF
  refine g_ci3 (q := 9) rfl rfl (fun _ => rfl) rfl (A_M_in hC) (by decide +kernel) rfl ?_
  obtain ⟨hz, hF⟩ := cd_I hF
  injection hF with hF
  injection hF with hv hh
  subst hv
  subst hh
  exact g_zret rfl hz
/-- BothCornersModel.bedComes(IIII)V -/
def F_M_bedComes (x1 : Int32) (x2 : Int32) (x3 : Int32) (x4 : Int32) (h : MH) : Option (MH) := ck (mm_in ((I 4) * (h.1 55 0)) 24) (hw (mm_hset h.1 56 (Int32.toNatClampNeg ((I 4) * (h.1 55 0))) x1, h.2) (fun h1 => ck (mm_in (((I 4) * (h1.1 55 0)) + (I 1)) 24) (hw (mm_hset h1.1 56 (Int32.toNatClampNeg (((I 4) * (h1.1 55 0)) + (I 1))) x2, h1.2) (fun h2 => ck (mm_in (((I 4) * (h2.1 55 0)) + (I 2)) 24) (hw (mm_hset h2.1 56 (Int32.toNatClampNeg (((I 4) * (h2.1 55 0)) + (I 2))) x3, h2.2) (fun h3 => ck (mm_in (((I 4) * (h3.1 55 0)) + (I 3)) 24) (hw (mm_hset h3.1 56 (Int32.toNatClampNeg (((I 4) * (h3.1 55 0)) + (I 3))) x4, h3.2) (fun h4 => hw (mm_hset h4.1 55 0 ((h4.1 55 0) + (I 1)), h4.2) (fun h5 => some h5)))))))))
theorem A_M_bedComes {x1 : Int32} {x2 : Int32} {x3 : Int32} {x4 : Int32} {h h' : MH} (hF : F_M_bedComes x1 x2 x3 x4 h = some h') : Ex 1 187 [.inr (.inl (some 55)), .inl x1, .inl x2, .inl x3, .inl x4] h (none, h') := by
  unfold F_M_bedComes at hF
  refine ex_of (d := 0) rfl rfl ?_
  refine g_aload_n (q := 1) rfl rfl rfl ?_
  refine g_getR (q := 4) rfl (fun _ => rfl) rfl ?_
  refine g_iconst (q := 5) rfl rfl ?_
  refine g_aload_n (q := 6) rfl rfl rfl ?_
  refine g_getI (q := 9) rfl (fun _ => rfl) rfl ?_
  refine g_imul (q := 10) rfl rfl ?_
  refine g_iload_n (q := 11) rfl rfl rfl ?_
  obtain ⟨hi, hF⟩ := ck_I hF
  refine g_iastore (q := 12) rfl rfl rfl hi rfl ?_
  obtain ⟨h1, e_h1, hF⟩ := hw_I hF
  rw [← e_h1]
  refine g_aload_n (q := 13) rfl rfl rfl ?_
  refine g_getR (q := 16) rfl (fun _ => rfl) rfl ?_
  refine g_iconst (q := 17) rfl rfl ?_
  refine g_aload_n (q := 18) rfl rfl rfl ?_
  refine g_getI (q := 21) rfl (fun _ => rfl) rfl ?_
  refine g_imul (q := 22) rfl rfl ?_
  refine g_iconst (q := 23) rfl rfl ?_
  refine g_iadd (q := 24) rfl rfl ?_
  refine g_iload_n (q := 25) rfl rfl rfl ?_
  obtain ⟨hi, hF⟩ := ck_I hF
  refine g_iastore (q := 26) rfl rfl rfl hi rfl ?_
  obtain ⟨h2, e_h2, hF⟩ := hw_I hF
  rw [← e_h2]
  refine g_aload_n (q := 27) rfl rfl rfl ?_
  refine g_getR (q := 30) rfl (fun _ => rfl) rfl ?_
  refine g_iconst (q := 31) rfl rfl ?_
  refine g_aload_n (q := 32) rfl rfl rfl ?_
  refine g_getI (q := 35) rfl (fun _ => rfl) rfl ?_
  refine g_imul (q := 36) rfl rfl ?_
  refine g_iconst (q := 37) rfl rfl ?_
  refine g_iadd (q := 38) rfl rfl ?_
  refine g_iload_n (q := 39) rfl rfl rfl ?_
  obtain ⟨hi, hF⟩ := ck_I hF
  refine g_iastore (q := 40) rfl rfl rfl hi rfl ?_
  obtain ⟨h3, e_h3, hF⟩ := hw_I hF
  rw [← e_h3]
  refine g_aload_n (q := 41) rfl rfl rfl ?_
  refine g_getR (q := 44) rfl (fun _ => rfl) rfl ?_
  refine g_iconst (q := 45) rfl rfl ?_
  refine g_aload_n (q := 46) rfl rfl rfl ?_
  refine g_getI (q := 49) rfl (fun _ => rfl) rfl ?_
  refine g_imul (q := 50) rfl rfl ?_
  refine g_iconst (q := 51) rfl rfl ?_
  refine g_iadd (q := 52) rfl rfl ?_
  refine g_iload (q := 54) rfl rfl rfl ?_
  obtain ⟨hi, hF⟩ := ck_I hF
  refine g_iastore (q := 55) rfl rfl rfl hi rfl ?_
  obtain ⟨h4, e_h4, hF⟩ := hw_I hF
  rw [← e_h4]
  refine g_aload_n (q := 56) rfl rfl rfl ?_
  refine g_dup (q := 57) rfl rfl rfl ?_
  refine g_getI (q := 60) rfl (fun _ => rfl) rfl ?_
  refine g_iconst (q := 61) rfl rfl ?_
  refine g_iadd (q := 62) rfl rfl ?_
  refine g_putI (q := 65) rfl (fun _ => rfl) rfl ?_
  obtain ⟨h5, e_h5, hF⟩ := hw_I hF
  rw [← e_h5]
  injection hF with hF
  subst hF
  exact g_vret rfl
def L_M_think_2 : Nat → Int32 → MH → Option (MH)
  | 0, _, _ => none
  | n + 1, x1, h => if (I 4) ≤ x1 then some (h) else ck (mm_in x1 4) (ck (mm_in x1 4) (hw (mm_hset h.1 63 (Int32.toNatClampNeg x1) (h.1 61 (Int32.toNatClampNeg x1)), h.2) (fun h1 => L_M_think_2 n (x1 + I 1) h1)))
/-- BothCornersModel.think()V -/
def F_M_think (h : MH) : Option (MH) := bd (L_M_think_2 5000 (I 0) h) (fun h3 => cd ((h3.1 55 9) &&& 1 = (h3.1 55 9)) (hw (mm_hset h3.1 55 13 (h3.1 55 9), h3.2) (fun h4 => some h4)))
theorem A_L_M_think_2 {r : MRs} : ∀ (n : Nat) (x1 : Int32) (h : MH) (x : MH), L_M_think_2 n x1 h = some x → (True) → (∀ (h' : MH), x = (h') → Go 0 174 25 (mm_lf [(0, .inr (.inl (some 55)))]) [] h' r) → Go 0 174 2 (mm_lf [(0, .inr (.inl (some 55))), (1, .inl x1)]) [] h r
  | 0, _, _, _, hF, _, _ => by cases hF
  | n + 1, x1, h, x, hF, KR, KX => by
    have ih := fun a1 => A_L_M_think_2 (r := r) n a1 
    unfold L_M_think_2 at hF
    refine g_iload_n (q := 3) rfl rfl rfl ?_
    refine g_iconst (q := 4) rfl rfl ?_
    by_cases c2 : (I 4) ≤ x1
    · rw [if_pos c2] at hF
      refine g_icmpT rfl (decide_eq_true c2) ?_
      injection hF with hF
      subst hF
      exact go_sub (mm_subc rfl mm_sub0) (KX  _ rfl)
    · rw [if_neg c2] at hF
      refine g_icmpF (q := 7) rfl (decide_eq_false c2) rfl ?_
      refine g_aload_n (q := 8) rfl rfl rfl ?_
      refine g_getR (q := 11) rfl (fun _ => rfl) rfl ?_
      refine g_iload_n (q := 12) rfl rfl rfl ?_
      refine g_aload_n (q := 13) rfl rfl rfl ?_
      refine g_getR (q := 16) rfl (fun _ => rfl) rfl ?_
      refine g_iload_n (q := 17) rfl rfl rfl ?_
      obtain ⟨hi, hF⟩ := ck_I hF
      refine g_iaload (q := 18) rfl rfl rfl hi rfl ?_
      obtain ⟨hi, hF⟩ := ck_I hF
      refine g_iastore (q := 19) rfl rfl rfl hi rfl ?_
      obtain ⟨h1, e_h1, hF⟩ := hw_I hF
      rw [← e_h1]
      refine g_iinc (q := 22) rfl rfl rfl ?_
      refine g_goto rfl ?_
      refine go_sub (lo' := mm_lf [(0, .inr (.inl (some 55))), (1, .inl (x1 + I 1))]) (mm_subc rfl (mm_subc rfl mm_sub0)) ?_
      exact ih _ _ _ hF KR KX
theorem A_M_think {h h' : MH} (hF : F_M_think h = some h') : Ex 1 174 [.inr (.inl (some 55))] h (none, h') := by
  unfold F_M_think at hF
  refine ex_of (d := 0) rfl rfl ?_
  refine g_iconst (q := 1) rfl rfl ?_
  refine g_istore_n (q := 2) rfl rfl ?_
  refine go_sub (lo' := mm_lf [(0, .inr (.inl (some 55))), (1, .inl (I 0))]) (mm_subc rfl (mm_subc rfl mm_sub0)) ?_
  obtain ⟨h3, hC, hF⟩ := bd_I hF
  refine A_L_M_think_2 5000 _ _ _ hC trivial ?_
  intro _ e2
  cases e2
  refine g_aload_n (q := 26) rfl rfl rfl ?_
  refine g_aload_n (q := 27) rfl rfl rfl ?_
  refine g_getI (q := 30) rfl (fun _ => rfl) rfl ?_
  obtain ⟨hz, hF⟩ := cd_I hF
  refine g_putZ (q := 33) rfl (fun _ => rfl) hz rfl ?_
  obtain ⟨h4, e_h4, hF⟩ := hw_I hF
  rw [← e_h4]
  injection hF with hF
  subst hF
  exact g_vret rfl
/-- BothCornersModel.change(II)V -/
def F_M_change (x1 : Int32) (x2 : Int32) (h : MH) : Option (MH) := ck (mm_in x1 4) (ck (mm_in x2 4) (ck (mm_in x1 4) (hw (mm_hset h.1 63 (Int32.toNatClampNeg x1) (h.1 63 (Int32.toNatClampNeg x2)), h.2) (fun h1 => ck (mm_in x2 4) (hw (mm_hset h1.1 63 (Int32.toNatClampNeg x2) (h.1 63 (Int32.toNatClampNeg x1)), h1.2) (fun h2 => some h2))))))
theorem A_M_change {x1 : Int32} {x2 : Int32} {h h' : MH} (hF : F_M_change x1 x2 h = some h') : Ex 1 176 [.inr (.inl (some 55)), .inl x1, .inl x2] h (none, h') := by
  unfold F_M_change at hF
  refine ex_of (d := 0) rfl rfl ?_
  refine g_aload_n (q := 1) rfl rfl rfl ?_
  refine g_getR (q := 4) rfl (fun _ => rfl) rfl ?_
  refine g_iload_n (q := 5) rfl rfl rfl ?_
  obtain ⟨hi, hF⟩ := ck_I hF
  refine g_iaload (q := 6) rfl rfl rfl hi rfl ?_
  refine g_istore_n (q := 7) rfl rfl ?_
  refine g_aload_n (q := 8) rfl rfl rfl ?_
  refine g_getR (q := 11) rfl (fun _ => rfl) rfl ?_
  refine g_iload_n (q := 12) rfl rfl rfl ?_
  refine g_aload_n (q := 13) rfl rfl rfl ?_
  refine g_getR (q := 16) rfl (fun _ => rfl) rfl ?_
  refine g_iload_n (q := 17) rfl rfl rfl ?_
  obtain ⟨hi, hF⟩ := ck_I hF
  refine g_iaload (q := 18) rfl rfl rfl hi rfl ?_
  obtain ⟨hi, hF⟩ := ck_I hF
  refine g_iastore (q := 19) rfl rfl rfl hi rfl ?_
  obtain ⟨h1, e_h1, hF⟩ := hw_I hF
  rw [← e_h1]
  refine g_aload_n (q := 20) rfl rfl rfl ?_
  refine g_getR (q := 23) rfl (fun _ => rfl) rfl ?_
  refine g_iload_n (q := 24) rfl rfl rfl ?_
  refine g_iload_n (q := 25) rfl rfl rfl ?_
  obtain ⟨hi, hF⟩ := ck_I hF
  refine g_iastore (q := 26) rfl rfl rfl hi rfl ?_
  obtain ⟨h2, e_h2, hF⟩ := hw_I hF
  rw [← e_h2]
  injection hF with hF
  subst hF
  exact g_vret rfl
/-- BothCornersModel.turnNow(I)V -/
def F_M_turnNow (x1 : Int32) (h : MH) : Option (MH) := if x1 = I 0 then bd (F_M_change (I 0) (I 2) h) (fun h2 => bd (F_M_change (I 1) (I 3) h2) (fun h3 => some h3)) else if x1 = I 1 then bd (F_M_change (I 0) (I 1) h) (fun h5 => bd (F_M_change (I 2) (I 3) h5) (fun h6 => some h6)) else if x1 = I 2 then ck (mm_in (I 0) 4) (ck (mm_in (I 2) 4) (ck (mm_in (I 0) 4) (hw (mm_hset h.1 63 (Int32.toNatClampNeg (I 0)) (h.1 63 (Int32.toNatClampNeg (I 2))), h.2) (fun h8 => ck (mm_in (I 3) 4) (ck (mm_in (I 2) 4) (hw (mm_hset h8.1 63 (Int32.toNatClampNeg (I 2)) (h8.1 63 (Int32.toNatClampNeg (I 3))), h8.2) (fun h9 => ck (mm_in (I 1) 4) (ck (mm_in (I 3) 4) (hw (mm_hset h9.1 63 (Int32.toNatClampNeg (I 3)) (h9.1 63 (Int32.toNatClampNeg (I 1))), h9.2) (fun h10 => ck (mm_in (I 1) 4) (hw (mm_hset h10.1 63 (Int32.toNatClampNeg (I 1)) (h.1 63 (Int32.toNatClampNeg (I 0))), h10.2) (fun h11 => some h11)))))))))))) else bd (F_M_change (I 0) (I 1) h) (fun h12 => bd (F_M_change (I 2) (I 3) h12) (fun h13 => iw (if ¬ (h13.1 55 13) = 0 then I 0 else I 1) (fun v14 => cd (v14 &&& 1 = v14) (hw (mm_hset h13.1 55 13 v14, h13.2) (fun h16 => some h16)))))
theorem A_M_turnNow {x1 : Int32} {h h' : MH} (hF : F_M_turnNow x1 h = some h') : Ex 2 177 [.inr (.inl (some 55)), .inl x1] h (none, h') := by
  unfold F_M_turnNow at hF
  refine ex_of (d := 1) rfl rfl ?_
  refine g_iload_n (q := 1) rfl rfl rfl ?_
  by_cases c1 : x1 = I 0
  · rw [if_pos c1] at hF
    refine g_tsw (off := 27) (t := 28) rfl (by rw [c1]; decide +kernel) (by decide) ?_
    refine g_aload_n (q := 29) rfl rfl rfl ?_
    refine g_iconst (q := 30) rfl rfl ?_
    refine g_iconst (q := 31) rfl rfl ?_
    obtain ⟨h2, hC, hF⟩ := bd_I hF
    refine g_cv3 (q := 34) rfl rfl (fun _ => rfl) rfl (A_M_change hC) (by decide +kernel) rfl ?_
    refine g_aload_n (q := 35) rfl rfl rfl ?_
    refine g_iconst (q := 36) rfl rfl ?_
    refine g_iconst (q := 37) rfl rfl ?_
    obtain ⟨h3, hC, hF⟩ := bd_I hF
    refine g_cv3 (q := 40) rfl rfl (fun _ => rfl) rfl (A_M_change hC) (by decide +kernel) rfl ?_
    refine g_goto rfl ?_
    injection hF with hF
    subst hF
    exact g_vret rfl
  rw [if_neg c1] at hF
  by_cases c4 : x1 = I 1
  · rw [if_pos c4] at hF
    refine g_tsw (off := 42) (t := 43) rfl (by rw [c4]; decide +kernel) (by decide) ?_
    refine g_aload_n (q := 44) rfl rfl rfl ?_
    refine g_iconst (q := 45) rfl rfl ?_
    refine g_iconst (q := 46) rfl rfl ?_
    obtain ⟨h5, hC, hF⟩ := bd_I hF
    refine g_cv3 (q := 49) rfl rfl (fun _ => rfl) rfl (A_M_change hC) (by decide +kernel) rfl ?_
    refine g_aload_n (q := 50) rfl rfl rfl ?_
    refine g_iconst (q := 51) rfl rfl ?_
    refine g_iconst (q := 52) rfl rfl ?_
    obtain ⟨h6, hC, hF⟩ := bd_I hF
    refine g_cv3 (q := 55) rfl rfl (fun _ => rfl) rfl (A_M_change hC) (by decide +kernel) rfl ?_
    refine g_goto rfl ?_
    injection hF with hF
    subst hF
    exact g_vret rfl
  rw [if_neg c4] at hF
  by_cases c7 : x1 = I 2
  · rw [if_pos c7] at hF
    refine g_tsw (off := 57) (t := 58) rfl (by rw [c7]; decide +kernel) (by decide) ?_
    refine g_aload_n (q := 59) rfl rfl rfl ?_
    refine g_getR (q := 62) rfl (fun _ => rfl) rfl ?_
    refine g_iconst (q := 63) rfl rfl ?_
    obtain ⟨hi, hF⟩ := ck_I hF
    refine g_iaload (q := 64) rfl rfl rfl hi rfl ?_
    refine g_istore_n (q := 65) rfl rfl ?_
    refine g_aload_n (q := 66) rfl rfl rfl ?_
    refine g_getR (q := 69) rfl (fun _ => rfl) rfl ?_
    refine g_iconst (q := 70) rfl rfl ?_
    refine g_aload_n (q := 71) rfl rfl rfl ?_
    refine g_getR (q := 74) rfl (fun _ => rfl) rfl ?_
    refine g_iconst (q := 75) rfl rfl ?_
    obtain ⟨hi, hF⟩ := ck_I hF
    refine g_iaload (q := 76) rfl rfl rfl hi rfl ?_
    obtain ⟨hi, hF⟩ := ck_I hF
    refine g_iastore (q := 77) rfl rfl rfl hi rfl ?_
    obtain ⟨h8, e_h8, hF⟩ := hw_I hF
    rw [← e_h8]
    refine g_aload_n (q := 78) rfl rfl rfl ?_
    refine g_getR (q := 81) rfl (fun _ => rfl) rfl ?_
    refine g_iconst (q := 82) rfl rfl ?_
    refine g_aload_n (q := 83) rfl rfl rfl ?_
    refine g_getR (q := 86) rfl (fun _ => rfl) rfl ?_
    refine g_iconst (q := 87) rfl rfl ?_
    obtain ⟨hi, hF⟩ := ck_I hF
    refine g_iaload (q := 88) rfl rfl rfl hi rfl ?_
    obtain ⟨hi, hF⟩ := ck_I hF
    refine g_iastore (q := 89) rfl rfl rfl hi rfl ?_
    obtain ⟨h9, e_h9, hF⟩ := hw_I hF
    rw [← e_h9]
    refine g_aload_n (q := 90) rfl rfl rfl ?_
    refine g_getR (q := 93) rfl (fun _ => rfl) rfl ?_
    refine g_iconst (q := 94) rfl rfl ?_
    refine g_aload_n (q := 95) rfl rfl rfl ?_
    refine g_getR (q := 98) rfl (fun _ => rfl) rfl ?_
    refine g_iconst (q := 99) rfl rfl ?_
    obtain ⟨hi, hF⟩ := ck_I hF
    refine g_iaload (q := 100) rfl rfl rfl hi rfl ?_
    obtain ⟨hi, hF⟩ := ck_I hF
    refine g_iastore (q := 101) rfl rfl rfl hi rfl ?_
    obtain ⟨h10, e_h10, hF⟩ := hw_I hF
    rw [← e_h10]
    refine g_aload_n (q := 102) rfl rfl rfl ?_
    refine g_getR (q := 105) rfl (fun _ => rfl) rfl ?_
    refine g_iconst (q := 106) rfl rfl ?_
    refine g_iload_n (q := 107) rfl rfl rfl ?_
    obtain ⟨hi, hF⟩ := ck_I hF
    refine g_iastore (q := 108) rfl rfl rfl hi rfl ?_
    obtain ⟨h11, e_h11, hF⟩ := hw_I hF
    rw [← e_h11]
    refine g_goto rfl ?_
    injection hF with hF
    subst hF
    exact g_vret rfl
  rw [if_neg c7] at hF
  refine g_tsw (off := 110) (t := 111) rfl (mm_tswD (by decide) (by decide) (fun k h1 h2 => by rcases (show k = 0 ∨ k = 1 ∨ k = 2 by omega) with rfl | rfl | rfl <;> assumption)) (by decide) ?_
  refine g_aload_n (q := 112) rfl rfl rfl ?_
  refine g_iconst (q := 113) rfl rfl ?_
  refine g_iconst (q := 114) rfl rfl ?_
  obtain ⟨h12, hC, hF⟩ := bd_I hF
  refine g_cv3 (q := 117) rfl rfl (fun _ => rfl) rfl (A_M_change hC) (by decide +kernel) rfl ?_
  refine g_aload_n (q := 118) rfl rfl rfl ?_
  refine g_iconst (q := 119) rfl rfl ?_
  refine g_iconst (q := 120) rfl rfl ?_
  obtain ⟨h13, hC, hF⟩ := bd_I hF
  refine g_cv3 (q := 123) rfl rfl (fun _ => rfl) rfl (A_M_change hC) (by decide +kernel) rfl ?_
  refine g_aload_n (q := 124) rfl rfl rfl ?_
  refine g_aload_n (q := 125) rfl rfl rfl ?_
  refine g_getI (q := 128) rfl (fun _ => rfl) rfl ?_
  obtain ⟨v14, e_v14, hF⟩ := iw_I hF
  suffices K15 : Go 1 177 136 (mm_lf []) [.inl v14, .inr (.inl (some 55))] h13 (none, h') by
    clear hF
    by_cases c17 : ¬ (h13.1 55 13) = 0
    · simp only [if_pos c17] at e_v14
      subst e_v14
      refine g_ifT rfl (decide_eq_true c17) ?_
      refine g_iconst (q := 136) rfl rfl ?_
      exact go_sub mm_sub0 K15
    · simp only [if_neg c17] at e_v14
      subst e_v14
      refine g_ifF (q := 131) rfl (decide_eq_false c17) rfl ?_
      refine g_iconst (q := 132) rfl rfl ?_
      refine g_goto rfl ?_
      exact go_sub mm_sub0 K15
  clear e_v14
  obtain ⟨hz, hF⟩ := cd_I hF
  refine g_putZ (q := 139) rfl (fun _ => rfl) hz rfl ?_
  obtain ⟨h16, e_h16, hF⟩ := hw_I hF
  rw [← e_h16]
  injection hF with hF
  subst hF
  exact g_vret rfl
def L_M_keepThought_2 : Nat → Int32 → MH → Option (MH)
  | 0, _, _ => none
  | n + 1, x1, h => if (I 4) ≤ x1 then some (h) else ck (mm_in x1 4) (ck (mm_in x1 4) (hw (mm_hset h.1 61 (Int32.toNatClampNeg x1) (h.1 63 (Int32.toNatClampNeg x1)), h.2) (fun h1 => L_M_keepThought_2 n (x1 + I 1) h1)))
/-- BothCornersModel.keepThought()V -/
def F_M_keepThought (h : MH) : Option (MH) := bd (L_M_keepThought_2 5000 (I 0) h) (fun h3 => cd ((h3.1 55 13) &&& 1 = (h3.1 55 13)) (hw (mm_hset h3.1 55 9 (h3.1 55 13), h3.2) (fun h4 => some h4)))
theorem A_L_M_keepThought_2 {r : MRs} : ∀ (n : Nat) (x1 : Int32) (h : MH) (x : MH), L_M_keepThought_2 n x1 h = some x → (True) → (∀ (h' : MH), x = (h') → Go 0 175 25 (mm_lf [(0, .inr (.inl (some 55)))]) [] h' r) → Go 0 175 2 (mm_lf [(0, .inr (.inl (some 55))), (1, .inl x1)]) [] h r
  | 0, _, _, _, hF, _, _ => by cases hF
  | n + 1, x1, h, x, hF, KR, KX => by
    have ih := fun a1 => A_L_M_keepThought_2 (r := r) n a1 
    unfold L_M_keepThought_2 at hF
    refine g_iload_n (q := 3) rfl rfl rfl ?_
    refine g_iconst (q := 4) rfl rfl ?_
    by_cases c2 : (I 4) ≤ x1
    · rw [if_pos c2] at hF
      refine g_icmpT rfl (decide_eq_true c2) ?_
      injection hF with hF
      subst hF
      exact go_sub (mm_subc rfl mm_sub0) (KX  _ rfl)
    · rw [if_neg c2] at hF
      refine g_icmpF (q := 7) rfl (decide_eq_false c2) rfl ?_
      refine g_aload_n (q := 8) rfl rfl rfl ?_
      refine g_getR (q := 11) rfl (fun _ => rfl) rfl ?_
      refine g_iload_n (q := 12) rfl rfl rfl ?_
      refine g_aload_n (q := 13) rfl rfl rfl ?_
      refine g_getR (q := 16) rfl (fun _ => rfl) rfl ?_
      refine g_iload_n (q := 17) rfl rfl rfl ?_
      obtain ⟨hi, hF⟩ := ck_I hF
      refine g_iaload (q := 18) rfl rfl rfl hi rfl ?_
      obtain ⟨hi, hF⟩ := ck_I hF
      refine g_iastore (q := 19) rfl rfl rfl hi rfl ?_
      obtain ⟨h1, e_h1, hF⟩ := hw_I hF
      rw [← e_h1]
      refine g_iinc (q := 22) rfl rfl rfl ?_
      refine g_goto rfl ?_
      refine go_sub (lo' := mm_lf [(0, .inr (.inl (some 55))), (1, .inl (x1 + I 1))]) (mm_subc rfl (mm_subc rfl mm_sub0)) ?_
      exact ih _ _ _ hF KR KX
theorem A_M_keepThought {h h' : MH} (hF : F_M_keepThought h = some h') : Ex 1 175 [.inr (.inl (some 55))] h (none, h') := by
  unfold F_M_keepThought at hF
  refine ex_of (d := 0) rfl rfl ?_
  refine g_iconst (q := 1) rfl rfl ?_
  refine g_istore_n (q := 2) rfl rfl ?_
  refine go_sub (lo' := mm_lf [(0, .inr (.inl (some 55))), (1, .inl (I 0))]) (mm_subc rfl (mm_subc rfl mm_sub0)) ?_
  obtain ⟨h3, hC, hF⟩ := bd_I hF
  refine A_L_M_keepThought_2 5000 _ _ _ hC trivial ?_
  intro _ e2
  cases e2
  refine g_aload_n (q := 26) rfl rfl rfl ?_
  refine g_aload_n (q := 27) rfl rfl rfl ?_
  refine g_getI (q := 30) rfl (fun _ => rfl) rfl ?_
  obtain ⟨hz, hF⟩ := cd_I hF
  refine g_putZ (q := 33) rfl (fun _ => rfl) hz rfl ?_
  obtain ⟨h4, e_h4, hF⟩ := hw_I hF
  rw [← e_h4]
  injection hF with hF
  subst hF
  exact g_vret rfl
def L_M_turnsCome_4 (x1 : Int32) : Nat → Int32 → Int32 → MH → Option (Int32 × MH)
  | 0, _, _, _ => none
  | n + 1, x2, x3, h => ck (mm_in x1 490) (if (h.1 67 (Int32.toNatClampNeg x1)) < x3 then some (x2, h) else if x2 = 0 then L_M_turnsCome_4 x1 n (I 0) (x3 + I 1) h else ck (mm_in (x1 + x3) 490) (iw (if (I 4) ≤ (h.1 67 (Int32.toNatClampNeg (x1 + x3))) then I 0 else I 1) (fun v1 => L_M_turnsCome_4 x1 n v1 (x3 + I 1) h)))
def L_M_turnsCome_52 (x1 : Int32) (x2 : Int32) : Nat → Int32 → MH → Option (MH)
  | 0, _, _ => none
  | n + 1, x3, h => ck (mm_in x1 490) (if (h.1 67 (Int32.toNatClampNeg x1)) < x3 then some (h) else ck (mm_in (x1 + x3) 490) (bd (F_M_turnNow (h.1 67 (Int32.toNatClampNeg (x1 + x3))) h) (fun h9 => L_M_turnsCome_52 x1 x2 n (x3 + I 1) h9)))
/-- BothCornersModel.turnsCome(I)Z -/
def F_M_turnsCome (x1 : Int32) (h : MH) : Option (Int32 × MH) := bd (L_M_turnsCome_4 x1 5000 (I 1) (I 1) h) (fun (y6, h7) => if y6 = 0 then cd (y6 &&& 1 = y6) (some (y6, h7)) else bd (F_M_think h7) (fun h8 => bd (L_M_turnsCome_52 x1 y6 5000 (I 1) h8) (fun h11 => bd (F_M_keepThought h11) (fun h12 => cd (y6 &&& 1 = y6) (some (y6, h12))))))
theorem A_L_M_turnsCome_4 {x1 : Int32} {r : MRs} : ∀ (n : Nat) (x2 : Int32) (x3 : Int32) (h : MH) (x : Int32 × MH), L_M_turnsCome_4 x1 n x2 x3 h = some x → (True) → (∀ (e2 : Int32) (h' : MH), x = (e2, h') → Go 2 189 42 (mm_lf [(0, .inr (.inl (some 55))), (1, .inl x1), (2, .inl e2)]) [] h' r) → Go 2 189 4 (mm_lf [(0, .inr (.inl (some 55))), (1, .inl x1), (2, .inl x2), (3, .inl x3)]) [] h r
  | 0, _, _, _, _, hF, _, _ => by cases hF
  | n + 1, x2, x3, h, x, hF, KR, KX => by
    have ih := fun a2 a3 => A_L_M_turnsCome_4 (x1 := x1) (r := r) n a2 a3 
    unfold L_M_turnsCome_4 at hF
    refine g_iload_n (q := 5) rfl rfl rfl ?_
    refine g_aload_n (q := 6) rfl rfl rfl ?_
    refine g_getR (q := 9) rfl (fun _ => rfl) rfl ?_
    refine g_iload_n (q := 10) rfl rfl rfl ?_
    obtain ⟨hi, hF⟩ := ck_I hF
    refine g_iaload (q := 11) rfl rfl rfl hi rfl ?_
    by_cases c5 : (h.1 67 (Int32.toNatClampNeg x1)) < x3
    · rw [if_pos c5] at hF
      refine g_icmpT rfl (decide_eq_true c5) ?_
      injection hF with hF
      subst hF
      exact go_sub (mm_subc rfl (mm_subc rfl (mm_subc rfl mm_sub0))) (KX _ _ rfl)
    · rw [if_neg c5] at hF
      refine g_icmpF (q := 14) rfl (decide_eq_false c5) rfl ?_
      refine g_iload_n (q := 15) rfl rfl rfl ?_
      by_cases c4 : x2 = 0
      · rw [if_pos c4] at hF
        refine g_ifT rfl (decide_eq_true c4) ?_
        refine g_iconst (q := 35) rfl rfl ?_
        refine g_istore_n (q := 36) rfl rfl ?_
        refine g_iinc (q := 39) rfl rfl rfl ?_
        refine g_goto rfl ?_
        refine go_sub (lo' := mm_lf [(0, .inr (.inl (some 55))), (1, .inl x1), (2, .inl (I 0)), (3, .inl (x3 + I 1))]) (mm_subc rfl (mm_subc rfl (mm_subc rfl (mm_subc rfl mm_sub0)))) ?_
        exact ih _ _ _ _ hF KR KX
      · rw [if_neg c4] at hF
        refine g_ifF (q := 18) rfl (decide_eq_false c4) rfl ?_
        refine g_aload_n (q := 19) rfl rfl rfl ?_
        refine g_getR (q := 22) rfl (fun _ => rfl) rfl ?_
        refine g_iload_n (q := 23) rfl rfl rfl ?_
        refine g_iload_n (q := 24) rfl rfl rfl ?_
        refine g_iadd (q := 25) rfl rfl ?_
        obtain ⟨hi, hF⟩ := ck_I hF
        refine g_iaload (q := 26) rfl rfl rfl hi rfl ?_
        refine g_iconst (q := 27) rfl rfl ?_
        obtain ⟨v1, e_v1, hF⟩ := iw_I hF
        suffices K2 : Go 2 189 35 (mm_lf [(0, .inr (.inl (some 55))), (1, .inl x1), (3, .inl x3)]) [.inl v1] h r by
          clear hF
          by_cases c3 : (I 4) ≤ (h.1 67 (Int32.toNatClampNeg (x1 + x3)))
          · simp only [if_pos c3] at e_v1
            subst e_v1
            refine g_icmpT rfl (decide_eq_true c3) ?_
            refine g_iconst (q := 35) rfl rfl ?_
            exact go_sub (mm_subc rfl (mm_subc rfl (mm_subc rfl mm_sub0))) K2
          · simp only [if_neg c3] at e_v1
            subst e_v1
            refine g_icmpF (q := 30) rfl (decide_eq_false c3) rfl ?_
            refine g_iconst (q := 31) rfl rfl ?_
            refine g_goto rfl ?_
            exact go_sub (mm_subc rfl (mm_subc rfl (mm_subc rfl mm_sub0))) K2
        clear e_v1
        refine g_istore_n (q := 36) rfl rfl ?_
        refine g_iinc (q := 39) rfl rfl rfl ?_
        refine g_goto rfl ?_
        refine go_sub (lo' := mm_lf [(0, .inr (.inl (some 55))), (1, .inl x1), (2, .inl v1), (3, .inl (x3 + I 1))]) (mm_subc rfl (mm_subc rfl (mm_subc rfl (mm_subc rfl mm_sub0)))) ?_
        exact ih _ _ _ _ hF KR KX
theorem A_L_M_turnsCome_52 {x1 : Int32} {x2 : Int32} {r : MRs} : ∀ (n : Nat) (x3 : Int32) (h : MH) (x : MH), L_M_turnsCome_52 x1 x2 n x3 h = some x → (True) → (∀ (h' : MH), x = (h') → Go 2 189 80 (mm_lf [(0, .inr (.inl (some 55))), (2, .inl x2)]) [] h' r) → Go 2 189 52 (mm_lf [(0, .inr (.inl (some 55))), (1, .inl x1), (2, .inl x2), (3, .inl x3)]) [] h r
  | 0, _, _, _, hF, _, _ => by cases hF
  | n + 1, x3, h, x, hF, KR, KX => by
    have ih := fun a3 => A_L_M_turnsCome_52 (x1 := x1) (x2 := x2) (r := r) n a3 
    unfold L_M_turnsCome_52 at hF
    refine g_iload_n (q := 53) rfl rfl rfl ?_
    refine g_aload_n (q := 54) rfl rfl rfl ?_
    refine g_getR (q := 57) rfl (fun _ => rfl) rfl ?_
    refine g_iload_n (q := 58) rfl rfl rfl ?_
    obtain ⟨hi, hF⟩ := ck_I hF
    refine g_iaload (q := 59) rfl rfl rfl hi rfl ?_
    by_cases c10 : (h.1 67 (Int32.toNatClampNeg x1)) < x3
    · rw [if_pos c10] at hF
      refine g_icmpT rfl (decide_eq_true c10) ?_
      injection hF with hF
      subst hF
      exact go_sub (mm_subc rfl (mm_subc rfl mm_sub0)) (KX  _ rfl)
    · rw [if_neg c10] at hF
      refine g_icmpF (q := 62) rfl (decide_eq_false c10) rfl ?_
      refine g_aload_n (q := 63) rfl rfl rfl ?_
      refine g_aload_n (q := 64) rfl rfl rfl ?_
      refine g_getR (q := 67) rfl (fun _ => rfl) rfl ?_
      refine g_iload_n (q := 68) rfl rfl rfl ?_
      refine g_iload_n (q := 69) rfl rfl rfl ?_
      refine g_iadd (q := 70) rfl rfl ?_
      obtain ⟨hi, hF⟩ := ck_I hF
      refine g_iaload (q := 71) rfl rfl rfl hi rfl ?_
      obtain ⟨h9, hC, hF⟩ := bd_I hF
      refine g_cv2 (q := 74) rfl rfl (fun _ => rfl) rfl (A_M_turnNow hC) (by decide +kernel) rfl ?_
      refine g_iinc (q := 77) rfl rfl rfl ?_
      refine g_goto rfl ?_
      refine go_sub (lo' := mm_lf [(0, .inr (.inl (some 55))), (1, .inl x1), (2, .inl x2), (3, .inl (x3 + I 1))]) (mm_subc rfl (mm_subc rfl (mm_subc rfl (mm_subc rfl mm_sub0)))) ?_
      exact ih _ _ _ hF KR KX
theorem A_M_turnsCome {x1 : Int32} {h h' : MH} {v : Int32} (hF : F_M_turnsCome x1 h = some (v, h')) : Ex 3 189 [.inr (.inl (some 55)), .inl x1] h (some (.inl v), h') := by
  unfold F_M_turnsCome at hF
  refine ex_of (d := 2) rfl rfl ?_
  refine g_iconst (q := 1) rfl rfl ?_
  refine g_istore_n (q := 2) rfl rfl ?_
  refine g_iconst (q := 3) rfl rfl ?_
  refine g_istore_n (q := 4) rfl rfl ?_
  refine go_sub (lo' := mm_lf [(0, .inr (.inl (some 55))), (1, .inl x1), (2, .inl (I 1)), (3, .inl (I 1))]) (mm_subc rfl (mm_subc rfl (mm_subc rfl (mm_subc rfl mm_sub0)))) ?_
  obtain ⟨⟨y6, h7⟩, hC, hF⟩ := bd_I hF
  dsimp only at hF
  refine A_L_M_turnsCome_4 5000 _ _ _ _ hC trivial ?_
  intro _ _ e2
  cases e2
  refine g_iload_n (q := 43) rfl rfl rfl ?_
  by_cases c13 : y6 = 0
  · rw [if_pos c13] at hF
    refine g_ifT rfl (decide_eq_true c13) ?_
    refine g_iload_n (q := 85) rfl rfl rfl ?_
    obtain ⟨hz, hF⟩ := cd_I hF
    injection hF with hF
    injection hF with hv hh
    subst hv
    subst hh
    exact g_zret rfl hz
  · rw [if_neg c13] at hF
    refine g_ifF (q := 46) rfl (decide_eq_false c13) rfl ?_
    refine g_aload_n (q := 47) rfl rfl rfl ?_
    obtain ⟨h8, hC, hF⟩ := bd_I hF
    refine g_cv1 (q := 50) rfl rfl (fun _ => rfl) rfl (A_M_think hC) (by decide +kernel) rfl ?_
    refine g_iconst (q := 51) rfl rfl ?_
    refine g_istore_n (q := 52) rfl rfl ?_
    refine go_sub (lo' := mm_lf [(0, .inr (.inl (some 55))), (1, .inl x1), (2, .inl y6), (3, .inl (I 1))]) (mm_subc rfl (mm_subc rfl (mm_subc rfl (mm_subc rfl mm_sub0)))) ?_
    obtain ⟨h11, hC, hF⟩ := bd_I hF
    refine A_L_M_turnsCome_52 5000 _ _ _ hC trivial ?_
    intro _ e2
    cases e2
    refine g_aload_n (q := 81) rfl rfl rfl ?_
    obtain ⟨h12, hC, hF⟩ := bd_I hF
    refine g_cv1 (q := 84) rfl rfl (fun _ => rfl) rfl (A_M_keepThought hC) (by decide +kernel) rfl ?_
    refine g_iload_n (q := 85) rfl rfl rfl ?_
    obtain ⟨hz, hF⟩ := cd_I hF
    injection hF with hF
    injection hF with hv hh
    subst hv
    subst hh
    exact g_zret rfl hz
/-- BothCornersModel.comesTold(I)Z -/
def F_M_comesTold (x1 : Int32) (h : MH) : Option (Int32 × MH) := ck (mm_in ((I 10) * x1) 490) (iw (h.1 67 (Int32.toNatClampNeg ((I 10) * x1))) (fun v1 => ck (mm_in (((I 10) * x1) + (I 1)) 490) (iw (h.1 67 (Int32.toNatClampNeg (((I 10) * x1) + (I 1)))) (fun v2 => ck (mm_in x1 49) (if (h.1 66 (Int32.toNatClampNeg x1)) = I 98 then bd (F_M_isSize v1 h) (fun (r5, h4) => kw (fun (z6 : Int32) (h7 : MH) => if z6 = 0 then cd (z6 &&& 1 = z6) (some (z6, h7)) else ck (mm_in (((I 10) * x1) + (I 2)) 490) (ck (mm_in (((I 10) * x1) + (I 3)) 490) (bd (F_M_bedComes v1 v2 (h7.1 67 (Int32.toNatClampNeg (((I 10) * x1) + (I 2)))) (h7.1 67 (Int32.toNatClampNeg (((I 10) * x1) + (I 3)))) h7) (fun h9 => cd (z6 &&& 1 = z6) (some (z6, h9)))))) (fun k8 => if r5 = 0 then k8 (I 0) h4 else bd (F_M_isSize v2 h4) (fun (r13, h12) => if r13 = 0 then k8 (I 0) h12 else ck (mm_in (((I 10) * x1) + (I 2)) 490) (bd (F_M_isSize (h12.1 67 (Int32.toNatClampNeg (((I 10) * x1) + (I 2)))) h12) (fun (r15, h14) => if r15 = 0 then k8 (I 0) h14 else ck (mm_in (((I 10) * x1) + (I 3)) 490) (bd (F_M_isSize (h14.1 67 (Int32.toNatClampNeg (((I 10) * x1) + (I 3)))) h14) (fun (r17, h16) => if r17 = 0 then k8 (I 0) h16 else if (I 6) ≤ (h16.1 55 0) then k8 (I 0) h16 else k8 (I 1) h16))))))) else if (h.1 66 (Int32.toNatClampNeg x1)) = I 112 then bd (F_M_in (Int32.toInt64 v1) (Lg 1) (Lg 12) h) (fun (r25, h24) => kw (fun (z26 : Int32) (h27 : MH) => if z26 = 0 then cd (z26 &&& 1 = z26) (some (z26, h27)) else ck (mm_in (h27.1 55 2) 4) (hw (mm_hset h27.1 57 (Int32.toNatClampNeg (h27.1 55 2)) v1, h27.2) (fun h29 => ck (mm_in (h29.1 55 2) 4) (hw (mm_hset h29.1 58 (Int32.toNatClampNeg (h29.1 55 2)) v2, h29.2) (fun h30 => hw (mm_hset h30.1 55 2 ((h30.1 55 2) + (I 1)), h30.2) (fun h31 => cd (z26 &&& 1 = z26) (some (z26, h31)))))))) (fun k28 => if r25 = 0 then k28 (I 0) h24 else if (I 4) ≤ (h24.1 55 2) then k28 (I 0) h24 else k28 (I 1) h24)) else if (h.1 66 (Int32.toNatClampNeg x1)) = I 119 then kw (fun (z37 : Int32) (h38 : MH) => if z37 = 0 then cd (z37 &&& 1 = z37) (some (z37, h38)) else ck (mm_in (h38.1 55 5) 6) (hw (mm_hset h38.1 59 (Int32.toNatClampNeg (h38.1 55 5)) v1, h38.2) (fun h40 => ck (mm_in (h40.1 55 5) 6) (hw (mm_hset h40.1 60 (Int32.toNatClampNeg (h40.1 55 5)) v2, h40.2) (fun h41 => hw (mm_hset h41.1 55 5 ((h41.1 55 5) + (I 1)), h41.2) (fun h42 => cd (z37 &&& 1 = z37) (some (z37, h42)))))))) (fun k39 => if (I 6) ≤ v1 then k39 (I 0) h else if (I 6) ≤ (h.1 55 5) then k39 (I 0) h else k39 (I 1) h) else bd (F_M_turnsCome ((I 10) * x1) h) (fun (r48, h47) => cd (r48 &&& 1 = r48) (some (r48, h47))))))))
theorem A_M_comesTold {x1 : Int32} {h h' : MH} {v : Int32} (hF : F_M_comesTold x1 h = some (v, h')) : Ex 4 190 [.inr (.inl (some 55)), .inl x1] h (some (.inl v), h') := by
  unfold F_M_comesTold at hF
  refine ex_of (d := 3) rfl rfl ?_
  refine g_bipush (q := 2) rfl (by decide +kernel) rfl ?_
  refine g_iload_n (q := 3) rfl rfl rfl ?_
  refine g_imul (q := 4) rfl rfl ?_
  refine g_istore_n (q := 5) rfl rfl ?_
  refine g_aload_n (q := 6) rfl rfl rfl ?_
  refine g_getR (q := 9) rfl (fun _ => rfl) rfl ?_
  refine g_iload_n (q := 10) rfl rfl rfl ?_
  obtain ⟨hi, hF⟩ := ck_I hF
  refine g_iaload (q := 11) rfl rfl rfl hi rfl ?_
  refine g_istore_n (q := 12) rfl rfl ?_
  obtain ⟨v1, e_v1, hF⟩ := iw_I hF
  rw [← e_v1]
  refine g_aload_n (q := 13) rfl rfl rfl ?_
  refine g_getR (q := 16) rfl (fun _ => rfl) rfl ?_
  refine g_iload_n (q := 17) rfl rfl rfl ?_
  refine g_iconst (q := 18) rfl rfl ?_
  refine g_iadd (q := 19) rfl rfl ?_
  obtain ⟨hi, hF⟩ := ck_I hF
  refine g_iaload (q := 20) rfl rfl rfl hi rfl ?_
  refine g_istore (q := 22) rfl rfl ?_
  obtain ⟨v2, e_v2, hF⟩ := iw_I hF
  rw [← e_v2]
  refine g_iconst (q := 23) rfl rfl ?_
  refine g_istore (q := 25) rfl rfl ?_
  refine g_aload_n (q := 26) rfl rfl rfl ?_
  refine g_getR (q := 29) rfl (fun _ => rfl) rfl ?_
  refine g_iload_n (q := 30) rfl rfl rfl ?_
  obtain ⟨hi, hF⟩ := ck_I hF
  refine g_iaload (q := 31) rfl rfl rfl hi rfl ?_
  by_cases c3 : (h.1 66 (Int32.toNatClampNeg x1)) = I 98
  · rw [if_pos c3] at hF
    refine g_lsw (off := 33) (t := 64) rfl (by rw [c3]; decide +kernel) (by decide) ?_
    refine g_iload_n (q := 65) rfl rfl rfl ?_
    obtain ⟨⟨r5, h4⟩, hC, hF⟩ := bd_I hF
    dsimp only at hF
    refine g_ci1 (q := 68) rfl rfl (fun _ => rfl) rfl (A_M_isSize hC) (by decide +kernel) rfl ?_
    obtain ⟨k8, e_k8, hF⟩ := kw_I hF
    have K11 : ∀ (z6 : Int32) (h7 : MH), k8 z6 h7 = some (v, h') → Go 3 190 121 (mm_lf [(0, .inr (.inl (some 55))), (2, .inl ((I 10) * x1)), (3, .inl v1), (4, .inl v2)]) [.inl z6] h7 (some (.inl v), h') := by
      intro z6 h7 hF
      rw [e_k8] at hF
      dsimp only at hF
      refine g_istore (q := 123) rfl rfl ?_
      refine g_iload (q := 125) rfl rfl rfl ?_
      by_cases c10 : z6 = 0
      · rw [if_pos c10] at hF
        refine g_ifT rfl (decide_eq_true c10) ?_
        refine g_iload (q := 153) rfl rfl rfl ?_
        obtain ⟨hz, hF⟩ := cd_I hF
        injection hF with hF
        injection hF with hv hh
        subst hv
        subst hh
        exact g_zret rfl hz
      · rw [if_neg c10] at hF
        refine g_ifF (q := 128) rfl (decide_eq_false c10) rfl ?_
        refine g_aload_n (q := 129) rfl rfl rfl ?_
        refine g_iload_n (q := 130) rfl rfl rfl ?_
        refine g_iload (q := 132) rfl rfl rfl ?_
        refine g_aload_n (q := 133) rfl rfl rfl ?_
        refine g_getR (q := 136) rfl (fun _ => rfl) rfl ?_
        refine g_iload_n (q := 137) rfl rfl rfl ?_
        refine g_iconst (q := 138) rfl rfl ?_
        refine g_iadd (q := 139) rfl rfl ?_
        obtain ⟨hi, hF⟩ := ck_I hF
        refine g_iaload (q := 140) rfl rfl rfl hi rfl ?_
        refine g_aload_n (q := 141) rfl rfl rfl ?_
        refine g_getR (q := 144) rfl (fun _ => rfl) rfl ?_
        refine g_iload_n (q := 145) rfl rfl rfl ?_
        refine g_iconst (q := 146) rfl rfl ?_
        refine g_iadd (q := 147) rfl rfl ?_
        obtain ⟨hi, hF⟩ := ck_I hF
        refine g_iaload (q := 148) rfl rfl rfl hi rfl ?_
        obtain ⟨h9, hC, hF⟩ := bd_I hF
        refine g_cv5 (q := 151) rfl rfl (fun _ => rfl) rfl (A_M_bedComes hC) (by decide +kernel) rfl ?_
        refine g_iload (q := 153) rfl rfl rfl ?_
        obtain ⟨hz, hF⟩ := cd_I hF
        injection hF with hF
        injection hF with hv hh
        subst hv
        subst hh
        exact g_zret rfl hz
    clear e_k8
    by_cases c22 : r5 = 0
    · rw [if_pos c22] at hF
      refine g_ifT rfl (decide_eq_true c22) ?_
      refine g_iconst (q := 121) rfl rfl ?_
      exact go_sub (mm_subc rfl (mm_subc rfl (mm_subc rfl (mm_subc rfl mm_sub0)))) (K11 _ _ hF)
    · rw [if_neg c22] at hF
      refine g_ifF (q := 71) rfl (decide_eq_false c22) rfl ?_
      refine g_iload (q := 73) rfl rfl rfl ?_
      obtain ⟨⟨r13, h12⟩, hC, hF⟩ := bd_I hF
      dsimp only at hF
      refine g_ci1 (q := 76) rfl rfl (fun _ => rfl) rfl (A_M_isSize hC) (by decide +kernel) rfl ?_
      by_cases c21 : r13 = 0
      · rw [if_pos c21] at hF
        refine g_ifT rfl (decide_eq_true c21) ?_
        refine g_iconst (q := 121) rfl rfl ?_
        exact go_sub (mm_subc rfl (mm_subc rfl (mm_subc rfl (mm_subc rfl mm_sub0)))) (K11 _ _ hF)
      · rw [if_neg c21] at hF
        refine g_ifF (q := 79) rfl (decide_eq_false c21) rfl ?_
        refine g_aload_n (q := 80) rfl rfl rfl ?_
        refine g_getR (q := 83) rfl (fun _ => rfl) rfl ?_
        refine g_iload_n (q := 84) rfl rfl rfl ?_
        refine g_iconst (q := 85) rfl rfl ?_
        refine g_iadd (q := 86) rfl rfl ?_
        obtain ⟨hi, hF⟩ := ck_I hF
        refine g_iaload (q := 87) rfl rfl rfl hi rfl ?_
        obtain ⟨⟨r15, h14⟩, hC, hF⟩ := bd_I hF
        dsimp only at hF
        refine g_ci1 (q := 90) rfl rfl (fun _ => rfl) rfl (A_M_isSize hC) (by decide +kernel) rfl ?_
        by_cases c20 : r15 = 0
        · rw [if_pos c20] at hF
          refine g_ifT rfl (decide_eq_true c20) ?_
          refine g_iconst (q := 121) rfl rfl ?_
          exact go_sub (mm_subc rfl (mm_subc rfl (mm_subc rfl (mm_subc rfl mm_sub0)))) (K11 _ _ hF)
        · rw [if_neg c20] at hF
          refine g_ifF (q := 93) rfl (decide_eq_false c20) rfl ?_
          refine g_aload_n (q := 94) rfl rfl rfl ?_
          refine g_getR (q := 97) rfl (fun _ => rfl) rfl ?_
          refine g_iload_n (q := 98) rfl rfl rfl ?_
          refine g_iconst (q := 99) rfl rfl ?_
          refine g_iadd (q := 100) rfl rfl ?_
          obtain ⟨hi, hF⟩ := ck_I hF
          refine g_iaload (q := 101) rfl rfl rfl hi rfl ?_
          obtain ⟨⟨r17, h16⟩, hC, hF⟩ := bd_I hF
          dsimp only at hF
          refine g_ci1 (q := 104) rfl rfl (fun _ => rfl) rfl (A_M_isSize hC) (by decide +kernel) rfl ?_
          by_cases c19 : r17 = 0
          · rw [if_pos c19] at hF
            refine g_ifT rfl (decide_eq_true c19) ?_
            refine g_iconst (q := 121) rfl rfl ?_
            exact go_sub (mm_subc rfl (mm_subc rfl (mm_subc rfl (mm_subc rfl mm_sub0)))) (K11 _ _ hF)
          · rw [if_neg c19] at hF
            refine g_ifF (q := 107) rfl (decide_eq_false c19) rfl ?_
            refine g_aload_n (q := 108) rfl rfl rfl ?_
            refine g_getI (q := 111) rfl (fun _ => rfl) rfl ?_
            refine g_bipush (q := 113) rfl (by decide +kernel) rfl ?_
            by_cases c18 : (I 6) ≤ (h16.1 55 0)
            · rw [if_pos c18] at hF
              refine g_icmpT rfl (decide_eq_true c18) ?_
              refine g_iconst (q := 121) rfl rfl ?_
              exact go_sub (mm_subc rfl (mm_subc rfl (mm_subc rfl (mm_subc rfl mm_sub0)))) (K11 _ _ hF)
            · rw [if_neg c18] at hF
              refine g_icmpF (q := 116) rfl (decide_eq_false c18) rfl ?_
              refine g_iconst (q := 117) rfl rfl ?_
              refine g_goto rfl ?_
              exact go_sub (mm_subc rfl (mm_subc rfl (mm_subc rfl (mm_subc rfl mm_sub0)))) (K11 _ _ hF)
  rw [if_neg c3] at hF
  by_cases c23 : (h.1 66 (Int32.toNatClampNeg x1)) = I 112
  · rw [if_pos c23] at hF
    refine g_lsw (off := 123) (t := 154) rfl (by rw [c23]; decide +kernel) (by decide) ?_
    refine g_iload_n (q := 155) rfl rfl rfl ?_
    refine g_i2l (q := 156) rfl rfl ?_
    refine g_lconst (u := 1) (q := 157) rfl (by decide +kernel) rfl ?_
    refine g_ldc2_w (q := 160) rfl rfl ?_
    obtain ⟨⟨r25, h24⟩, hC, hF⟩ := bd_I hF
    dsimp only at hF
    refine g_ci3 (q := 163) rfl rfl (fun _ => rfl) rfl (A_M_in hC) (by decide +kernel) rfl ?_
    obtain ⟨k28, e_k28, hF⟩ := kw_I hF
    have K33 : ∀ (z26 : Int32) (h27 : MH), k28 z26 h27 = some (v, h') → Go 3 190 179 (mm_lf [(0, .inr (.inl (some 55))), (3, .inl v1), (4, .inl v2)]) [.inl z26] h27 (some (.inl v), h') := by
      intro z26 h27 hF
      rw [e_k28] at hF
      dsimp only at hF
      refine g_istore (q := 181) rfl rfl ?_
      refine g_iload (q := 183) rfl rfl rfl ?_
      by_cases c32 : z26 = 0
      · rw [if_pos c32] at hF
        refine g_ifT rfl (decide_eq_true c32) ?_
        refine g_iload (q := 219) rfl rfl rfl ?_
        obtain ⟨hz, hF⟩ := cd_I hF
        injection hF with hF
        injection hF with hv hh
        subst hv
        subst hh
        exact g_zret rfl hz
      · rw [if_neg c32] at hF
        refine g_ifF (q := 186) rfl (decide_eq_false c32) rfl ?_
        refine g_aload_n (q := 187) rfl rfl rfl ?_
        refine g_getR (q := 190) rfl (fun _ => rfl) rfl ?_
        refine g_aload_n (q := 191) rfl rfl rfl ?_
        refine g_getI (q := 194) rfl (fun _ => rfl) rfl ?_
        refine g_iload_n (q := 195) rfl rfl rfl ?_
        obtain ⟨hi, hF⟩ := ck_I hF
        refine g_iastore (q := 196) rfl rfl rfl hi rfl ?_
        obtain ⟨h29, e_h29, hF⟩ := hw_I hF
        rw [← e_h29]
        refine g_aload_n (q := 197) rfl rfl rfl ?_
        refine g_getR (q := 200) rfl (fun _ => rfl) rfl ?_
        refine g_aload_n (q := 201) rfl rfl rfl ?_
        refine g_getI (q := 204) rfl (fun _ => rfl) rfl ?_
        refine g_iload (q := 206) rfl rfl rfl ?_
        obtain ⟨hi, hF⟩ := ck_I hF
        refine g_iastore (q := 207) rfl rfl rfl hi rfl ?_
        obtain ⟨h30, e_h30, hF⟩ := hw_I hF
        rw [← e_h30]
        refine g_aload_n (q := 208) rfl rfl rfl ?_
        refine g_dup (q := 209) rfl rfl rfl ?_
        refine g_getI (q := 212) rfl (fun _ => rfl) rfl ?_
        refine g_iconst (q := 213) rfl rfl ?_
        refine g_iadd (q := 214) rfl rfl ?_
        refine g_putI (q := 217) rfl (fun _ => rfl) rfl ?_
        obtain ⟨h31, e_h31, hF⟩ := hw_I hF
        rw [← e_h31]
        refine g_iload (q := 219) rfl rfl rfl ?_
        obtain ⟨hz, hF⟩ := cd_I hF
        injection hF with hF
        injection hF with hv hh
        subst hv
        subst hh
        exact g_zret rfl hz
    clear e_k28
    by_cases c35 : r25 = 0
    · rw [if_pos c35] at hF
      refine g_ifT rfl (decide_eq_true c35) ?_
      refine g_iconst (q := 179) rfl rfl ?_
      exact go_sub (mm_subc rfl (mm_subc rfl (mm_subc rfl mm_sub0))) (K33 _ _ hF)
    · rw [if_neg c35] at hF
      refine g_ifF (q := 166) rfl (decide_eq_false c35) rfl ?_
      refine g_aload_n (q := 167) rfl rfl rfl ?_
      refine g_getI (q := 170) rfl (fun _ => rfl) rfl ?_
      refine g_iconst (q := 171) rfl rfl ?_
      by_cases c34 : (I 4) ≤ (h24.1 55 2)
      · rw [if_pos c34] at hF
        refine g_icmpT rfl (decide_eq_true c34) ?_
        refine g_iconst (q := 179) rfl rfl ?_
        exact go_sub (mm_subc rfl (mm_subc rfl (mm_subc rfl mm_sub0))) (K33 _ _ hF)
      · rw [if_neg c34] at hF
        refine g_icmpF (q := 174) rfl (decide_eq_false c34) rfl ?_
        refine g_iconst (q := 175) rfl rfl ?_
        refine g_goto rfl ?_
        exact go_sub (mm_subc rfl (mm_subc rfl (mm_subc rfl mm_sub0))) (K33 _ _ hF)
  rw [if_neg c23] at hF
  by_cases c36 : (h.1 66 (Int32.toNatClampNeg x1)) = I 119
  · rw [if_pos c36] at hF
    refine g_lsw (off := 189) (t := 220) rfl (by rw [c36]; decide +kernel) (by decide) ?_
    refine g_iload_n (q := 221) rfl rfl rfl ?_
    refine g_bipush (q := 223) rfl (by decide +kernel) rfl ?_
    obtain ⟨k39, e_k39, hF⟩ := kw_I hF
    have K44 : ∀ (z37 : Int32) (h38 : MH), k39 z37 h38 = some (v, h') → Go 3 190 240 (mm_lf [(0, .inr (.inl (some 55))), (3, .inl v1), (4, .inl v2)]) [.inl z37] h38 (some (.inl v), h') := by
      intro z37 h38 hF
      rw [e_k39] at hF
      dsimp only at hF
      refine g_istore (q := 242) rfl rfl ?_
      refine g_iload (q := 244) rfl rfl rfl ?_
      by_cases c43 : z37 = 0
      · rw [if_pos c43] at hF
        refine g_ifT rfl (decide_eq_true c43) ?_
        refine g_iload (q := 280) rfl rfl rfl ?_
        obtain ⟨hz, hF⟩ := cd_I hF
        injection hF with hF
        injection hF with hv hh
        subst hv
        subst hh
        exact g_zret rfl hz
      · rw [if_neg c43] at hF
        refine g_ifF (q := 247) rfl (decide_eq_false c43) rfl ?_
        refine g_aload_n (q := 248) rfl rfl rfl ?_
        refine g_getR (q := 251) rfl (fun _ => rfl) rfl ?_
        refine g_aload_n (q := 252) rfl rfl rfl ?_
        refine g_getI (q := 255) rfl (fun _ => rfl) rfl ?_
        refine g_iload_n (q := 256) rfl rfl rfl ?_
        obtain ⟨hi, hF⟩ := ck_I hF
        refine g_iastore (q := 257) rfl rfl rfl hi rfl ?_
        obtain ⟨h40, e_h40, hF⟩ := hw_I hF
        rw [← e_h40]
        refine g_aload_n (q := 258) rfl rfl rfl ?_
        refine g_getR (q := 261) rfl (fun _ => rfl) rfl ?_
        refine g_aload_n (q := 262) rfl rfl rfl ?_
        refine g_getI (q := 265) rfl (fun _ => rfl) rfl ?_
        refine g_iload (q := 267) rfl rfl rfl ?_
        obtain ⟨hi, hF⟩ := ck_I hF
        refine g_iastore (q := 268) rfl rfl rfl hi rfl ?_
        obtain ⟨h41, e_h41, hF⟩ := hw_I hF
        rw [← e_h41]
        refine g_aload_n (q := 269) rfl rfl rfl ?_
        refine g_dup (q := 270) rfl rfl rfl ?_
        refine g_getI (q := 273) rfl (fun _ => rfl) rfl ?_
        refine g_iconst (q := 274) rfl rfl ?_
        refine g_iadd (q := 275) rfl rfl ?_
        refine g_putI (q := 278) rfl (fun _ => rfl) rfl ?_
        obtain ⟨h42, e_h42, hF⟩ := hw_I hF
        rw [← e_h42]
        refine g_iload (q := 280) rfl rfl rfl ?_
        obtain ⟨hz, hF⟩ := cd_I hF
        injection hF with hF
        injection hF with hv hh
        subst hv
        subst hh
        exact g_zret rfl hz
    clear e_k39
    by_cases c46 : (I 6) ≤ v1
    · rw [if_pos c46] at hF
      refine g_icmpT rfl (decide_eq_true c46) ?_
      refine g_iconst (q := 240) rfl rfl ?_
      exact go_sub (mm_subc rfl (mm_subc rfl (mm_subc rfl mm_sub0))) (K44 _ _ hF)
    · rw [if_neg c46] at hF
      refine g_icmpF (q := 226) rfl (decide_eq_false c46) rfl ?_
      refine g_aload_n (q := 227) rfl rfl rfl ?_
      refine g_getI (q := 230) rfl (fun _ => rfl) rfl ?_
      refine g_bipush (q := 232) rfl (by decide +kernel) rfl ?_
      by_cases c45 : (I 6) ≤ (h.1 55 5)
      · rw [if_pos c45] at hF
        refine g_icmpT rfl (decide_eq_true c45) ?_
        refine g_iconst (q := 240) rfl rfl ?_
        exact go_sub (mm_subc rfl (mm_subc rfl (mm_subc rfl mm_sub0))) (K44 _ _ hF)
      · rw [if_neg c45] at hF
        refine g_icmpF (q := 235) rfl (decide_eq_false c45) rfl ?_
        refine g_iconst (q := 236) rfl rfl ?_
        refine g_goto rfl ?_
        exact go_sub (mm_subc rfl (mm_subc rfl (mm_subc rfl mm_sub0))) (K44 _ _ hF)
  rw [if_neg c36] at hF
  refine g_lsw (off := 250) (t := 281) rfl ((by refine mm_lswS c3 (by decide) ?_; refine mm_lswS c23 (by decide) ?_; refine mm_lswS c36 (by decide) ?_; rfl)) (by decide) ?_
  refine g_aload_n (q := 282) rfl rfl rfl ?_
  refine g_iload_n (q := 283) rfl rfl rfl ?_
  obtain ⟨⟨r48, h47⟩, hC, hF⟩ := bd_I hF
  dsimp only at hF
  refine g_ci2 (q := 286) rfl rfl (fun _ => rfl) rfl (A_M_turnsCome hC) (by decide +kernel) rfl ?_
  obtain ⟨hz, hF⟩ := cd_I hF
  injection hF with hF
  injection hF with hv hh
  subst hv
  subst hh
  exact g_zret rfl hz
