section GIVE
variable {h0 h : MH} {p : Nat}
theorem gk_step (T : Gk 71 h0 h p) (hp : p < 52) : ∃ h', (∀ v, F_M_carry_2 v h = some (h0.1 71 p, h')) ∧ Gk 71 h0 (mm_hset h'.1 (ca p).1 (ca p).2 (h0.1 71 p), h'.2) (p + 1) := by
  obtain ⟨t1, t2, t3, t4, t5⟩ := T
  have ec : ((p : Int) + 1 - 1) = (p : Int) := by omega
  have q := ca_ne hp
  have r : h.1 71 p = h0.1 71 p := by
    refine t5 71 p (fun j hj e => ?_) (by omega)
    have := ca_ne (show j < 52 by omega)
    rw [e] at this
    omega
  refine ⟨(mm_hset h.1 55 25 (I ((p + 1 : Nat) : Int)), h.2), fun v => ?_, t1, ?_, ?_, ?_, ?_⟩
  · have e1 : (I 0 = 0) = True := eq00
    simp (disch := omega) only [F_M_carry_2, kw_s, t2, e1, if_true, t3, hw_s, hs_ne, hs_eq, I_add, I_sub, ec]
    rw [cd_t t1]
    simp (disch := omega) only [ck_in, I_nat, Int.toNat_natCast, r]
    rfl
  · simp only
    rw [hs_ne (by omega), hs_ne (by omega)]
    exact t2
  · simp only
    rw [hs_ne (by omega), hs_eq]
  · intro j hj
    show mm_hset (mm_hset h.1 55 25 _) (ca p).1 (ca p).2 (h0.1 71 p) (ca j).1 (ca j).2 = h0.1 71 j
    by_cases c : j = p
    · subst c
      rw [hs_eq]
    · have hj' : j < p := by omega
      have ne : ¬ ((ca j).1 = (ca p).1 ∧ (ca j).2 = (ca p).2) := by
        rintro ⟨a, b⟩
        have := ca_inj ⟨j, by omega⟩ ⟨p, hp⟩ (Prod.ext a b)
        exact c (congrArg Fin.val this)
      have q2 := ca_ne (show j < 52 by omega)
      rw [hs_ne ne, hs_ne (by omega)]
      exact t4 j hj'
  · intro k i hk hi
    have n1 : ¬ (k = (ca p).1 ∧ i = (ca p).2) := by
      rintro ⟨a, b⟩
      exact hk p (by omega) (Prod.ext a.symm b.symm)
    show mm_hset (mm_hset h.1 55 25 _) (ca p).1 (ca p).2 (h0.1 71 p) k i = h0.1 k i
    rw [hs_ne n1, hs_ne (by omega)]
    exact t5 k i (fun j hj => hk j (by omega)) hi
theorem gk_82 : ∀ (d i n : Nat) (h : MH), Gk 71 h0 h (4 + i) → i + d = 24 → d < n → ∃ h', L_M_carryAll_2_82 n (I i) h = some h' ∧ Gk 71 h0 h' 28 := by
  intro d
  induction d with
  | zero =>
    intro i n h T e hn
    obtain ⟨k, rfl⟩ := sfuel hn
    obtain rfl : i = 24 := by omega
    refine ⟨h, ?_, T⟩
    simp (disch := omega) only [L_M_carryAll_2_82, I_le]
    rw [if_pos (by omega)]
  | succ d ih =>
    intro i n h T e hn
    obtain ⟨k, rfl⟩ := sfuel hn
    have a : ca (4 + i) = (56, i) := ca_56 ⟨i, by omega⟩
    obtain ⟨h1, p1, T1⟩ := gk_step T (by omega)
    rw [a] at T1
    obtain ⟨h2, p2, T3⟩ := ih (i + 1) k _ T1 (by omega) (by omega)
    refine ⟨h2, ?_, T3⟩
    simp (disch := omega) only [L_M_carryAll_2_82, I_le, if_neg (show ¬ (24 : Int) ≤ (i : Int) by omega), ck_in, I_nat, Int.toNat_natCast, p1, bd_s, hw_s, I_succ]
    exact p2
theorem gk_112 : ∀ (d i n : Nat) (h : MH), Gk 71 h0 h (28 + 3 * i) → i + d = 4 → d < n → ∃ h', L_M_carryAll_2_112 n (I i) h = some h' ∧ Gk 71 h0 h' 40 := by
  intro d
  induction d with
  | zero =>
    intro i n h T e hn
    obtain ⟨k, rfl⟩ := sfuel hn
    obtain rfl : i = 4 := by omega
    refine ⟨h, ?_, T⟩
    simp (disch := omega) only [L_M_carryAll_2_112, I_le]
    rw [if_pos (by omega)]
  | succ d ih =>
    intro i n h T e hn
    obtain ⟨k, rfl⟩ := sfuel hn
    obtain ⟨a1, a2, a3⟩ : ca (28 + 3 * i) = (57, i) ∧ ca (28 + 3 * i + 1) = (58, i) ∧ ca (28 + 3 * i + 2) = (61, i) := ca_57 ⟨i, by omega⟩
    obtain ⟨h1, p1, T1⟩ := gk_step T (by omega)
    rw [a1] at T1
    obtain ⟨h2, p2, T2⟩ := gk_step T1 (by omega)
    rw [a2] at T2
    obtain ⟨h3, p3, T3⟩ := gk_step T2 (by omega)
    rw [a3] at T3
    obtain ⟨h4, p4, T4⟩ := ih (i + 1) k _ T3 (by omega) (by omega)
    refine ⟨h4, ?_, T4⟩
    simp (disch := omega) only [L_M_carryAll_2_112, I_le, if_neg (show ¬ (4 : Int) ≤ (i : Int) by omega), ck_in, I_nat, Int.toNat_natCast, p1, p2, p3, bd_s, hw_s, I_succ]
    exact p4
theorem gk_173 : ∀ (d i n : Nat) (h : MH), Gk 71 h0 h (40 + 2 * i) → i + d = 6 → d < n → ∃ h', L_M_carryAll_2_173 n (I i) h = some h' ∧ Gk 71 h0 h' 52 := by
  intro d
  induction d with
  | zero =>
    intro i n h T e hn
    obtain ⟨k, rfl⟩ := sfuel hn
    obtain rfl : i = 6 := by omega
    refine ⟨h, ?_, T⟩
    simp (disch := omega) only [L_M_carryAll_2_173, I_le]
    rw [if_pos (by omega)]
  | succ d ih =>
    intro i n h T e hn
    obtain ⟨k, rfl⟩ := sfuel hn
    obtain ⟨a1, a2⟩ : ca (40 + 2 * i) = (59, i) ∧ ca (40 + 2 * i + 1) = (60, i) := ca_59 ⟨i, by omega⟩
    obtain ⟨h1, p1, T1⟩ := gk_step T (by omega)
    rw [a1] at T1
    obtain ⟨h2, p2, T2⟩ := gk_step T1 (by omega)
    rw [a2] at T2
    obtain ⟨h4, p4, T4⟩ := ih (i + 1) k _ T2 (by omega) (by omega)
    refine ⟨h4, ?_, T4⟩
    simp (disch := omega) only [L_M_carryAll_2_173, I_le, if_neg (show ¬ (6 : Int) ≤ (i : Int) by omega), ck_in, I_nat, Int.toNat_natCast, p1, p2, bd_s, hw_s, I_succ]
    exact p4
theorem gk_all (o : h0.1 71 3 = I 0 ∨ h0.1 71 3 = I 1) : ∃ h', F_M_carryAll_2 (I 0) h0 = some h' ∧ Gk 71 h0 h' 52 := by
  have T0 : Gk 71 h0 (mm_hset (mm_hset h0.1 55 26 (I 0)) 55 25 (I 0), some 71) 0 := by
    refine ⟨rfl, ?_, by simp only [hs_eq]; rfl, fun j hj => absurd hj (Nat.not_lt_zero j), fun k i hk hi => ?_⟩
    · simp (disch := omega) only [hs_ne, hs_eq]
    · simp (disch := omega) only [hs_ne]
  have a0 : ca 0 = (55, 0) := rfl
  have a1 : ca (0 + 1) = (55, 2) := rfl
  have a2 : ca (0 + 1 + 1) = (55, 5) := rfl
  have a3 : ca (0 + 1 + 1 + 1) = (55, 9) := rfl
  obtain ⟨h1, p1, T1⟩ := gk_step T0 (by omega)
  rw [a0] at T1
  obtain ⟨h2, p2, T2⟩ := gk_step T1 (by omega)
  rw [a1] at T2
  obtain ⟨h3, p3, T3⟩ := gk_step T2 (by omega)
  rw [a2] at T3
  obtain ⟨h4, p4, T4⟩ := gk_step T3 (by omega)
  rw [a3] at T4
  obtain ⟨h5, p5, T5⟩ := gk_82 24 0 5000 _ T4 (by omega) (by omega)
  obtain ⟨h6, p6, T6⟩ := gk_112 4 0 5000 _ T5 (by omega) (by omega)
  obtain ⟨h7, p7, T7⟩ := gk_173 6 0 5000 _ T6 (by omega) (by omega)
  have p5' : L_M_carryAll_2_82 5000 (I 0) (mm_hset h4.1 55 9 (h0.1 71 3), h4.2) = some h5 := p5
  have p6' : L_M_carryAll_2_112 5000 (I 0) h5 = some h6 := p6
  have p7' : L_M_carryAll_2_173 5000 (I 0) h6 = some h7 := p7
  have p4' : ∀ v, F_M_carry_2 v (mm_hset h3.1 55 5 (h0.1 71 (0 + 1 + 1)), h3.2) = some (h0.1 71 3, h4) := p4
  have b2 : (if ¬ h0.1 71 3 = I 1 then I 0 else I 1) = h0.1 71 3 := by rcases o with q | q <;> rw [q] <;> rfl
  have b3 : (h0.1 71 3 &&& 1) = h0.1 71 3 := by rcases o with q | q <;> rw [q] <;> decide
  have b4 : (I 0 &&& 1) = I 0 := by decide
  refine ⟨h7, ?_, T7⟩
  simp only [F_M_carryAll_2, hw_s, cd_t b4, p1, p2, p3, bd_s, iw_s, p4', b2, cd_t b3, p5', p6', p7']
end GIVE
