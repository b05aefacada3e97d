-- the same into the image's row
section TAKE3
variable {h0 h : MH} {p : Nat}
theorem ti_self (T : Tk 68 h0 h p) {k i : Nat} (v : Int32) (e : h.1 k i = v) : Tk 68 h0 (mm_hset h.1 k i v, h.2) p := by
  have s : mm_hset h.1 k i v = h.1 := hs_self e
  rw [s]
  exact T
theorem ti_cell (T : Tk 68 h0 h p) {j : Nat} (hj : j < 52) : h.1 (ca j).1 (ca j).2 = sv h0.1 j := by
  have q := ca_ne hj
  exact T.2.2.2.2 _ _ (by omega) q.1
theorem ti_step (T : Tk 68 h0 h p) (hp : p < 52) : ∃ h', F_M_carry (sv h0.1 p) h = some (sv h0.1 p, h') ∧ Tk 68 h0 h' (p + 1) := by
  obtain ⟨t1, t2, t3, t4, t5⟩ := T
  have ec : ((p : Int) + 1 - 1) = (p : Int) := by omega
  refine ⟨(mm_hset (mm_hset h.1 68 p (sv h0.1 p)) 55 25 (I ((p + 1 : Nat) : Int)), h.2), ?_, t1, ?_, ?_, ?_, ?_⟩
  · have e1 : (I 1 = 0) = False := ne10
    simp (disch := omega) only [F_M_carry, kw_s, t2, e1, if_false, cd_t t1, t3, ck_in, I_nat, Int.toNat_natCast, hw_s, hs_ne, hs_eq, I_add, I_sub, ec]
    rfl
  · simp (disch := omega) only [hs_ne]
    exact t2
  · simp only [hs_eq]
  · intro j hj
    by_cases c : j = p
    · subst c
      simp (disch := omega) only [hs_ne, hs_eq]
    · simp (disch := omega) only [hs_ne]
      exact t4 j (by omega)
  · intro k i hk hi
    simp (disch := omega) only [hs_ne]
    exact t5 k i hk hi
theorem ti_82 : ∀ (d i n : Nat) (h : MH), Tk 68 h0 h (4 + i) → i + d = 24 → d < n → ∃ h', L_M_carryAll_82 n (I i) h = some h' ∧ Tk 68 h0 h' 28 := by
  intro d
  induction d with
  | zero =>
    intro i n h T e hn
    obtain ⟨k, rfl⟩ := sfuel hn
    obtain rfl : i = 24 := by omega
    refine ⟨h, ?_, T⟩
    simp (disch := omega) only [L_M_carryAll_82, I_le]
    rw [if_pos (by omega)]
  | succ d ih =>
    intro i n h T e hn
    obtain ⟨k, rfl⟩ := sfuel hn
    have a : ca (4 + i) = (56, i) := ca_56 ⟨i, by omega⟩
    have c := ti_cell T (j := 4 + i) (by omega)
    have c' : h.1 56 i = sv h0.1 (4 + i) := by rw [a] at c; exact c
    obtain ⟨h1, p1, T1⟩ := ti_step T (by omega)
    have c1 := ti_cell T1 (j := 4 + i) (by omega)
    have c1' : h1.1 56 i = sv h0.1 (4 + i) := by rw [a] at c1; exact c1
    have T2 := ti_self T1 (k := 56) (i := i) _ c1'
    obtain ⟨h2, p2, T3⟩ := ih (i + 1) k _ T2 (by omega) (by omega)
    refine ⟨h2, ?_, T3⟩
    simp (disch := omega) only [L_M_carryAll_82, I_le, if_neg (show ¬ (24 : Int) ≤ (i : Int) by omega), ck_in, I_nat, Int.toNat_natCast, c', p1, bd_s, hw_s, I_succ]
    exact p2
theorem ti_112 : ∀ (d i n : Nat) (h : MH), Tk 68 h0 h (28 + 3 * i) → i + d = 4 → d < n → ∃ h', L_M_carryAll_112 n (I i) h = some h' ∧ Tk 68 h0 h' 40 := by
  intro d
  induction d with
  | zero =>
    intro i n h T e hn
    obtain ⟨k, rfl⟩ := sfuel hn
    obtain rfl : i = 4 := by omega
    refine ⟨h, ?_, T⟩
    simp (disch := omega) only [L_M_carryAll_112, I_le]
    rw [if_pos (by omega)]
  | succ d ih =>
    intro i n h T e hn
    obtain ⟨k, rfl⟩ := sfuel hn
    obtain ⟨a1, a2, a3⟩ : ca (28 + 3 * i) = (57, i) ∧ ca (28 + 3 * i + 1) = (58, i) ∧ ca (28 + 3 * i + 2) = (61, i) := ca_57 ⟨i, by omega⟩
    have cc : ∀ {g : MH} {p : Nat}, Tk 68 h0 g p → g.1 57 i = sv h0.1 (28 + 3 * i) ∧ g.1 58 i = sv h0.1 (28 + 3 * i + 1) ∧ g.1 61 i = sv h0.1 (28 + 3 * i + 2) := by
      intro g p T
      have c1 := ti_cell T (j := 28 + 3 * i) (by omega)
      have c2 := ti_cell T (j := 28 + 3 * i + 1) (by omega)
      have c3 := ti_cell T (j := 28 + 3 * i + 2) (by omega)
      rw [a1] at c1
      rw [a2] at c2
      rw [a3] at c3
      exact ⟨c1, c2, c3⟩
    obtain ⟨h1, p1, T1⟩ := ti_step T (by omega)
    have T1' := ti_self T1 (k := 57) (i := i) _ (cc T1).1
    obtain ⟨h2, p2, T2⟩ := ti_step T1' (by omega)
    have T2' := ti_self T2 (k := 58) (i := i) _ (cc T2).2.1
    obtain ⟨h3, p3, T3⟩ := ti_step T2' (by omega)
    have T3' := ti_self T3 (k := 61) (i := i) _ (cc T3).2.2
    obtain ⟨h4, p4, T4⟩ := ih (i + 1) k _ T3' (by omega) (by omega)
    refine ⟨h4, ?_, T4⟩
    have k1 := (cc T).1
    have k2 : mm_hset h1.1 57 i (sv h0.1 (28 + 3 * i)) 58 i = sv h0.1 (28 + 3 * i + 1) := (cc T1').2.1
    have k3 : mm_hset h2.1 58 i (sv h0.1 (28 + 3 * i + 1)) 61 i = sv h0.1 (28 + 3 * i + 2) := (cc T2').2.2
    simp (disch := omega) only [L_M_carryAll_112, I_le, if_neg (show ¬ (4 : Int) ≤ (i : Int) by omega), ck_in, I_nat, Int.toNat_natCast, k1, p1, bd_s, hw_s]
    simp only [k2, p2, bd_s, hw_s]
    simp only [k3, p3, bd_s, hw_s, I_succ]
    exact p4
theorem ti_173 : ∀ (d i n : Nat) (h : MH), Tk 68 h0 h (40 + 2 * i) → i + d = 6 → d < n → ∃ h', L_M_carryAll_173 n (I i) h = some h' ∧ Tk 68 h0 h' 52 := by
  intro d
  induction d with
  | zero =>
    intro i n h T e hn
    obtain ⟨k, rfl⟩ := sfuel hn
    obtain rfl : i = 6 := by omega
    refine ⟨h, ?_, T⟩
    simp (disch := omega) only [L_M_carryAll_173, I_le]
    rw [if_pos (by omega)]
  | succ d ih =>
    intro i n h T e hn
    obtain ⟨k, rfl⟩ := sfuel hn
    obtain ⟨a1, a2⟩ : ca (40 + 2 * i) = (59, i) ∧ ca (40 + 2 * i + 1) = (60, i) := ca_59 ⟨i, by omega⟩
    have cc : ∀ {g : MH} {p : Nat}, Tk 68 h0 g p → g.1 59 i = sv h0.1 (40 + 2 * i) ∧ g.1 60 i = sv h0.1 (40 + 2 * i + 1) := by
      intro g p T
      have c1 := ti_cell T (j := 40 + 2 * i) (by omega)
      have c2 := ti_cell T (j := 40 + 2 * i + 1) (by omega)
      rw [a1] at c1
      rw [a2] at c2
      exact ⟨c1, c2⟩
    obtain ⟨h1, p1, T1⟩ := ti_step T (by omega)
    have T1' := ti_self T1 (k := 59) (i := i) _ (cc T1).1
    obtain ⟨h2, p2, T2⟩ := ti_step T1' (by omega)
    have T2' := ti_self T2 (k := 60) (i := i) _ (cc T2).2
    obtain ⟨h4, p4, T4⟩ := ih (i + 1) k _ T2' (by omega) (by omega)
    refine ⟨h4, ?_, T4⟩
    have k1 := (cc T).1
    have k2 : mm_hset h1.1 59 i (sv h0.1 (40 + 2 * i)) 60 i = sv h0.1 (40 + 2 * i + 1) := (cc T1').2
    simp (disch := omega) only [L_M_carryAll_173, I_le, if_neg (show ¬ (6 : Int) ≤ (i : Int) by omega), ck_in, I_nat, Int.toNat_natCast, k1, p1, bd_s, hw_s]
    simp only [k2, p2, bd_s, hw_s, I_succ]
    exact p4
theorem ti_all (o : h0.1 55 9 = I 0 ∨ h0.1 55 9 = I 1) : ∃ h', F_M_carryAll (I 1) h0 = some h' ∧ Tk 68 h0 h' 52 := by
  have T0 : Tk 68 h0 (mm_hset (mm_hset h0.1 55 26 (I 1)) 55 25 (I 0), some 68) 0 := by
    refine ⟨rfl, ?_, by simp only [hs_eq]; rfl, fun j hj => absurd hj (Nat.not_lt_zero j), fun k i hk hi => ?_⟩
    · simp (disch := omega) only [hs_ne, hs_eq]
    · simp (disch := omega) only [hs_ne]
  have a0 : ca 0 = (55, 0) := rfl
  have a1 : ca 1 = (55, 2) := rfl
  have a2 : ca 2 = (55, 5) := rfl
  have a3 : ca 3 = (55, 9) := rfl
  have cc : ∀ {g : MH} {p : Nat}, Tk 68 h0 g p → g.1 55 0 = sv h0.1 0 ∧ g.1 55 2 = sv h0.1 1 ∧ g.1 55 5 = sv h0.1 2 ∧ g.1 55 9 = sv h0.1 3 := by
    intro g p T
    exact ⟨ti_cell T (j := 0) (by omega), ti_cell T (j := 1) (by omega), ti_cell T (j := 2) (by omega), ti_cell T (j := 3) (by omega)⟩
  obtain ⟨h1, p1, T1⟩ := ti_step T0 (by omega)
  have T1' := ti_self T1 (k := 55) (i := 0) _ (cc T1).1
  obtain ⟨h2, p2, T2⟩ := ti_step T1' (by omega)
  have T2' := ti_self T2 (k := 55) (i := 2) _ (cc T2).2.1
  obtain ⟨h3, p3, T3⟩ := ti_step T2' (by omega)
  have T3' := ti_self T3 (k := 55) (i := 5) _ (cc T3).2.2.1
  obtain ⟨h4, p4, T4⟩ := ti_step T3' (by omega)
  have T4' := ti_self T4 (k := 55) (i := 9) _ (cc T4).2.2.2
  obtain ⟨h5, p5, T5⟩ := ti_82 24 0 5000 _ T4' (by omega) (by omega)
  obtain ⟨h6, p6, T6⟩ := ti_112 4 0 5000 _ T5 (by omega) (by omega)
  obtain ⟨h7, p7, T7⟩ := ti_173 6 0 5000 _ T6 (by omega) (by omega)
  have p5' : L_M_carryAll_82 5000 (I 0) (mm_hset h4.1 55 9 (sv h0.1 3), h4.2) = some h5 := p5
  have p6' : L_M_carryAll_112 5000 (I 0) h5 = some h6 := p6
  have p7' : L_M_carryAll_173 5000 (I 0) h6 = some h7 := p7
  have s3 : sv h0.1 3 = I 0 ∨ sv h0.1 3 = I 1 := o
  have b1 : (if sv h0.1 3 = 0 then I 0 else I 1) = sv h0.1 3 := by rcases s3 with q | q <;> rw [q] <;> rfl
  have b2 : (if ¬ sv h0.1 3 = I 1 then I 0 else I 1) = sv h0.1 3 := by rcases s3 with q | q <;> rw [q] <;> rfl
  have b3 : (sv h0.1 3 &&& 1) = sv h0.1 3 := by rcases s3 with q | q <;> rw [q] <;> decide
  have b4 : (I 1 &&& 1) = I 1 := by decide
  refine ⟨h7, ?_, T7⟩
  have k0 : mm_hset (mm_hset h0.1 55 26 (I 1)) 55 25 (I 0) 55 0 = sv h0.1 0 := (cc T0).1
  have k1 : mm_hset h1.1 55 0 (sv h0.1 0) 55 2 = sv h0.1 1 := (cc T1').2.1
  have k2 : mm_hset h2.1 55 2 (sv h0.1 1) 55 5 = sv h0.1 2 := (cc T2').2.2.1
  have k3 : mm_hset h3.1 55 5 (sv h0.1 2) 55 9 = sv h0.1 3 := (cc T3').2.2.2
  simp only [F_M_carryAll, hw_s, cd_t b4, k0, p1, bd_s]
  simp only [k1, p2, bd_s, hw_s]
  simp only [k2, p3, bd_s, hw_s]
  simp only [k3, iw_s, b1, p4, bd_s, hw_s, b2, cd_t b3, p5', p6', p7']
end TAKE3
section GIVE3
variable {h0 h : MH} {p : Nat}
theorem gi_step (T : Gk 68 h0 h p) (hp : p < 52) : ∃ h', (∀ v, F_M_carry v h = some (h0.1 68 p, h')) ∧ Gk 68 h0 (mm_hset h'.1 (ca p).1 (ca p).2 (h0.1 68 p), h'.2) (p + 1) := by
  obtain ⟨t1, t2, t3, t4, t5⟩ := T
  have ec : ((p : Int) + 1 - 1) = (p : Int) := by omega
  have q := ca_ne hp
  have r : h.1 68 p = h0.1 68 p := by
    refine t5 68 p (fun j hj e => ?_) (by omega)
    have := ca_ne (show j < 52 by omega)
    rw [e] at this
    omega
  refine ⟨(mm_hset h.1 55 25 (I ((p + 1 : Nat) : Int)), h.2), fun v => ?_, t1, ?_, ?_, ?_, ?_⟩
  · have e1 : (I 0 = 0) = True := eq00
    simp (disch := omega) only [F_M_carry, kw_s, t2, e1, if_true, t3, hw_s, hs_ne, hs_eq, I_add, I_sub, ec]
    rw [cd_t t1]
    simp (disch := omega) only [ck_in, I_nat, Int.toNat_natCast, r]
    rfl
  · simp only
    rw [hs_ne (by omega), hs_ne (by omega)]
    exact t2
  · simp only
    rw [hs_ne (by omega), hs_eq]
  · intro j hj
    show mm_hset (mm_hset h.1 55 25 _) (ca p).1 (ca p).2 (h0.1 68 p) (ca j).1 (ca j).2 = h0.1 68 j
    by_cases c : j = p
    · subst c
      rw [hs_eq]
    · have hj' : j < p := by omega
      have ne : ¬ ((ca j).1 = (ca p).1 ∧ (ca j).2 = (ca p).2) := by
        rintro ⟨a, b⟩
        have := ca_inj ⟨j, by omega⟩ ⟨p, hp⟩ (Prod.ext a b)
        exact c (congrArg Fin.val this)
      have q2 := ca_ne (show j < 52 by omega)
      rw [hs_ne ne, hs_ne (by omega)]
      exact t4 j hj'
  · intro k i hk hi
    have n1 : ¬ (k = (ca p).1 ∧ i = (ca p).2) := by
      rintro ⟨a, b⟩
      exact hk p (by omega) (Prod.ext a.symm b.symm)
    show mm_hset (mm_hset h.1 55 25 _) (ca p).1 (ca p).2 (h0.1 68 p) k i = h0.1 k i
    rw [hs_ne n1, hs_ne (by omega)]
    exact t5 k i (fun j hj => hk j (by omega)) hi
theorem gi_82 : ∀ (d i n : Nat) (h : MH), Gk 68 h0 h (4 + i) → i + d = 24 → d < n → ∃ h', L_M_carryAll_82 n (I i) h = some h' ∧ Gk 68 h0 h' 28 := by
  intro d
  induction d with
  | zero =>
    intro i n h T e hn
    obtain ⟨k, rfl⟩ := sfuel hn
    obtain rfl : i = 24 := by omega
    refine ⟨h, ?_, T⟩
    simp (disch := omega) only [L_M_carryAll_82, I_le]
    rw [if_pos (by omega)]
  | succ d ih =>
    intro i n h T e hn
    obtain ⟨k, rfl⟩ := sfuel hn
    have a : ca (4 + i) = (56, i) := ca_56 ⟨i, by omega⟩
    obtain ⟨h1, p1, T1⟩ := gi_step T (by omega)
    rw [a] at T1
    obtain ⟨h2, p2, T3⟩ := ih (i + 1) k _ T1 (by omega) (by omega)
    refine ⟨h2, ?_, T3⟩
    simp (disch := omega) only [L_M_carryAll_82, I_le, if_neg (show ¬ (24 : Int) ≤ (i : Int) by omega), ck_in, I_nat, Int.toNat_natCast, p1, bd_s, hw_s, I_succ]
    exact p2
theorem gi_112 : ∀ (d i n : Nat) (h : MH), Gk 68 h0 h (28 + 3 * i) → i + d = 4 → d < n → ∃ h', L_M_carryAll_112 n (I i) h = some h' ∧ Gk 68 h0 h' 40 := by
  intro d
  induction d with
  | zero =>
    intro i n h T e hn
    obtain ⟨k, rfl⟩ := sfuel hn
    obtain rfl : i = 4 := by omega
    refine ⟨h, ?_, T⟩
    simp (disch := omega) only [L_M_carryAll_112, I_le]
    rw [if_pos (by omega)]
  | succ d ih =>
    intro i n h T e hn
    obtain ⟨k, rfl⟩ := sfuel hn
    obtain ⟨a1, a2, a3⟩ : ca (28 + 3 * i) = (57, i) ∧ ca (28 + 3 * i + 1) = (58, i) ∧ ca (28 + 3 * i + 2) = (61, i) := ca_57 ⟨i, by omega⟩
    obtain ⟨h1, p1, T1⟩ := gi_step T (by omega)
    rw [a1] at T1
    obtain ⟨h2, p2, T2⟩ := gi_step T1 (by omega)
    rw [a2] at T2
    obtain ⟨h3, p3, T3⟩ := gi_step T2 (by omega)
    rw [a3] at T3
    obtain ⟨h4, p4, T4⟩ := ih (i + 1) k _ T3 (by omega) (by omega)
    refine ⟨h4, ?_, T4⟩
    simp (disch := omega) only [L_M_carryAll_112, I_le, if_neg (show ¬ (4 : Int) ≤ (i : Int) by omega), ck_in, I_nat, Int.toNat_natCast, p1, p2, p3, bd_s, hw_s, I_succ]
    exact p4
theorem gi_173 : ∀ (d i n : Nat) (h : MH), Gk 68 h0 h (40 + 2 * i) → i + d = 6 → d < n → ∃ h', L_M_carryAll_173 n (I i) h = some h' ∧ Gk 68 h0 h' 52 := by
  intro d
  induction d with
  | zero =>
    intro i n h T e hn
    obtain ⟨k, rfl⟩ := sfuel hn
    obtain rfl : i = 6 := by omega
    refine ⟨h, ?_, T⟩
    simp (disch := omega) only [L_M_carryAll_173, I_le]
    rw [if_pos (by omega)]
  | succ d ih =>
    intro i n h T e hn
    obtain ⟨k, rfl⟩ := sfuel hn
    obtain ⟨a1, a2⟩ : ca (40 + 2 * i) = (59, i) ∧ ca (40 + 2 * i + 1) = (60, i) := ca_59 ⟨i, by omega⟩
    obtain ⟨h1, p1, T1⟩ := gi_step T (by omega)
    rw [a1] at T1
    obtain ⟨h2, p2, T2⟩ := gi_step T1 (by omega)
    rw [a2] at T2
    obtain ⟨h4, p4, T4⟩ := ih (i + 1) k _ T2 (by omega) (by omega)
    refine ⟨h4, ?_, T4⟩
    simp (disch := omega) only [L_M_carryAll_173, I_le, if_neg (show ¬ (6 : Int) ≤ (i : Int) by omega), ck_in, I_nat, Int.toNat_natCast, p1, p2, bd_s, hw_s, I_succ]
    exact p4
theorem gi_all (o : h0.1 68 3 = I 0 ∨ h0.1 68 3 = I 1) : ∃ h', F_M_carryAll (I 0) h0 = some h' ∧ Gk 68 h0 h' 52 := by
  have T0 : Gk 68 h0 (mm_hset (mm_hset h0.1 55 26 (I 0)) 55 25 (I 0), some 68) 0 := by
    refine ⟨rfl, ?_, by simp only [hs_eq]; rfl, fun j hj => absurd hj (Nat.not_lt_zero j), fun k i hk hi => ?_⟩
    · simp (disch := omega) only [hs_ne, hs_eq]
    · simp (disch := omega) only [hs_ne]
  have a0 : ca 0 = (55, 0) := rfl
  have a1 : ca (0 + 1) = (55, 2) := rfl
  have a2 : ca (0 + 1 + 1) = (55, 5) := rfl
  have a3 : ca (0 + 1 + 1 + 1) = (55, 9) := rfl
  obtain ⟨h1, p1, T1⟩ := gi_step T0 (by omega)
  rw [a0] at T1
  obtain ⟨h2, p2, T2⟩ := gi_step T1 (by omega)
  rw [a1] at T2
  obtain ⟨h3, p3, T3⟩ := gi_step T2 (by omega)
  rw [a2] at T3
  obtain ⟨h4, p4, T4⟩ := gi_step T3 (by omega)
  rw [a3] at T4
  obtain ⟨h5, p5, T5⟩ := gi_82 24 0 5000 _ T4 (by omega) (by omega)
  obtain ⟨h6, p6, T6⟩ := gi_112 4 0 5000 _ T5 (by omega) (by omega)
  obtain ⟨h7, p7, T7⟩ := gi_173 6 0 5000 _ T6 (by omega) (by omega)
  have p5' : L_M_carryAll_82 5000 (I 0) (mm_hset h4.1 55 9 (h0.1 68 3), h4.2) = some h5 := p5
  have p6' : L_M_carryAll_112 5000 (I 0) h5 = some h6 := p6
  have p7' : L_M_carryAll_173 5000 (I 0) h6 = some h7 := p7
  have p4' : ∀ v, F_M_carry v (mm_hset h3.1 55 5 (h0.1 68 (0 + 1 + 1)), h3.2) = some (h0.1 68 3, h4) := p4
  have b2 : (if ¬ h0.1 68 3 = I 1 then I 0 else I 1) = h0.1 68 3 := by rcases o with q | q <;> rw [q] <;> rfl
  have b3 : (h0.1 68 3 &&& 1) = h0.1 68 3 := by rcases o with q | q <;> rw [q] <;> decide
  have b4 : (I 0 &&& 1) = I 0 := by decide
  refine ⟨h7, ?_, T7⟩
  simp only [F_M_carryAll, hw_s, cd_t b4, p1, p2, p3, bd_s, iw_s, p4', b2, cd_t b3, p5', p6', p7']
end GIVE3
