-- the model's carrying of its house into a row of 52 and back
def ca (j : Nat) : Nat × Nat :=
  if j = 0 then (55, 0) else if j = 1 then (55, 2) else if j = 2 then (55, 5) else if j = 3 then (55, 9) else if j < 28 then (56, j - 4)
  else if j < 40 then ((if (j - 28) % 3 = 0 then 57 else if (j - 28) % 3 = 1 then 58 else 61), (j - 28) / 3)
  else ((if (j - 40) % 2 = 0 then 59 else 60), (j - 40) / 2)
theorem ca_inj : ∀ j k : Fin 52, ca j = ca k → j = k := by decide +kernel
theorem ca_pl : ∀ j : Fin 52, ((ca j).1 = 55 ∧ ((ca j).2 = 0 ∨ (ca j).2 = 2 ∨ (ca j).2 = 5 ∨ (ca j).2 = 9)) ∨ (56 ≤ (ca j).1 ∧ (ca j).1 ≤ 61) := by decide +kernel
theorem ca_56 : ∀ x : Fin 24, ca (4 + x) = (56, (x : Nat)) := by decide +kernel
theorem ca_57 : ∀ x : Fin 4, ca (28 + 3 * x) = (57, (x : Nat)) ∧ ca (28 + 3 * x + 1) = (58, (x : Nat)) ∧ ca (28 + 3 * x + 2) = (61, (x : Nat)) := by decide +kernel
theorem ca_59 : ∀ x : Fin 6, ca (40 + 2 * x) = (59, (x : Nat)) ∧ ca (40 + 2 * x + 1) = (60, (x : Nat)) := by decide +kernel
def sv (f : Nat → Nat → Int32) (j : Nat) : Int32 := f (ca j).1 (ca j).2
/-- taking into row K: the first p of the 52 lie there, all else is as before -/
def Tk (K : Nat) (h0 h : MH) (p : Nat) : Prop := h.2 = some K ∧ h.1 55 26 = I 1 ∧ h.1 55 25 = I p ∧ (∀ j, j < p → h.1 K j = sv h0.1 j) ∧ ∀ k i, ¬ k = K → ¬ (k = 55 ∧ (i = 25 ∨ i = 26)) → h.1 k i = h0.1 k i
/-- giving back from row K: the first p cells are as the row says -/
def Gk (K : Nat) (h0 h : MH) (p : Nat) : Prop := h.2 = some K ∧ h.1 55 26 = I 0 ∧ h.1 55 25 = I p ∧ (∀ j, j < p → sv h.1 j = h0.1 K j) ∧ ∀ k i, (∀ j, j < p → ¬ ca j = (k, i)) → ¬ (k = 55 ∧ (i = 25 ∨ i = 26)) → h.1 k i = h0.1 k i
theorem hs_self {f : Nat → Nat → Int32} {k i : Nat} {v : Int32} (h : f k i = v) : mm_hset f k i v = f := by
  funext a b
  by_cases c : a = k ∧ b = i
  · obtain ⟨rfl, rfl⟩ := c
    rw [hs_eq, h]
  · exact hs_ne c
theorem ca_ne {j : Nat} (hj : j < 52) : ¬ ((ca j).1 = 55 ∧ ((ca j).2 = 25 ∨ (ca j).2 = 26)) ∧ (ca j).1 < 62 := by
  have q := ca_pl ⟨j, hj⟩
  simp only at q
  omega
section TAKE
variable {h0 h : MH} {p : Nat}
theorem tk_self (T : Tk 71 h0 h p) {k i : Nat} (v : Int32) (e : h.1 k i = v) : Tk 71 h0 (mm_hset h.1 k i v, h.2) p := by
  have s : mm_hset h.1 k i v = h.1 := hs_self e
  rw [s]
  exact T
theorem tk_cell (T : Tk 71 h0 h p) {j : Nat} (hj : j < 52) : h.1 (ca j).1 (ca j).2 = sv h0.1 j := by
  have q := ca_ne hj
  exact T.2.2.2.2 _ _ (by omega) q.1
theorem tk_step (T : Tk 71 h0 h p) (hp : p < 52) : ∃ h', F_M_carry_2 (sv h0.1 p) h = some (sv h0.1 p, h') ∧ Tk 71 h0 h' (p + 1) := by
  obtain ⟨t1, t2, t3, t4, t5⟩ := T
  have ec : ((p : Int) + 1 - 1) = (p : Int) := by omega
  refine ⟨(mm_hset (mm_hset h.1 71 p (sv h0.1 p)) 55 25 (I ((p + 1 : Nat) : Int)), h.2), ?_, t1, ?_, ?_, ?_, ?_⟩
  · have e1 : (I 1 = 0) = False := ne10
    simp (disch := omega) only [F_M_carry_2, kw_s, t2, e1, if_false, cd_t t1, t3, ck_in, I_nat, Int.toNat_natCast, hw_s, hs_ne, hs_eq, I_add, I_sub, ec]
    rfl
  · simp (disch := omega) only [hs_ne]
    exact t2
  · simp only [hs_eq]
  · intro j hj
    by_cases c : j = p
    · subst c
      simp (disch := omega) only [hs_ne, hs_eq]
    · simp (disch := omega) only [hs_ne]
      exact t4 j (by omega)
  · intro k i hk hi
    simp (disch := omega) only [hs_ne]
    exact t5 k i hk hi
theorem tk_82 : ∀ (d i n : Nat) (h : MH), Tk 71 h0 h (4 + i) → i + d = 24 → d < n → ∃ h', L_M_carryAll_2_82 n (I i) h = some h' ∧ Tk 71 h0 h' 28 := by
  intro d
  induction d with
  | zero =>
    intro i n h T e hn
    obtain ⟨k, rfl⟩ := sfuel hn
    obtain rfl : i = 24 := by omega
    refine ⟨h, ?_, T⟩
    simp (disch := omega) only [L_M_carryAll_2_82, I_le]
    rw [if_pos (by omega)]
  | succ d ih =>
    intro i n h T e hn
    obtain ⟨k, rfl⟩ := sfuel hn
    have a : ca (4 + i) = (56, i) := ca_56 ⟨i, by omega⟩
    have c := tk_cell T (j := 4 + i) (by omega)
    have c' : h.1 56 i = sv h0.1 (4 + i) := by rw [a] at c; exact c
    obtain ⟨h1, p1, T1⟩ := tk_step T (by omega)
    have c1 := tk_cell T1 (j := 4 + i) (by omega)
    have c1' : h1.1 56 i = sv h0.1 (4 + i) := by rw [a] at c1; exact c1
    have T2 := tk_self T1 (k := 56) (i := i) _ c1'
    obtain ⟨h2, p2, T3⟩ := ih (i + 1) k _ T2 (by omega) (by omega)
    refine ⟨h2, ?_, T3⟩
    simp (disch := omega) only [L_M_carryAll_2_82, I_le, if_neg (show ¬ (24 : Int) ≤ (i : Int) by omega), ck_in, I_nat, Int.toNat_natCast, c', p1, bd_s, hw_s, I_succ]
    exact p2
theorem tk_112 : ∀ (d i n : Nat) (h : MH), Tk 71 h0 h (28 + 3 * i) → i + d = 4 → d < n → ∃ h', L_M_carryAll_2_112 n (I i) h = some h' ∧ Tk 71 h0 h' 40 := by
  intro d
  induction d with
  | zero =>
    intro i n h T e hn
    obtain ⟨k, rfl⟩ := sfuel hn
    obtain rfl : i = 4 := by omega
    refine ⟨h, ?_, T⟩
    simp (disch := omega) only [L_M_carryAll_2_112, I_le]
    rw [if_pos (by omega)]
  | succ d ih =>
    intro i n h T e hn
    obtain ⟨k, rfl⟩ := sfuel hn
    obtain ⟨a1, a2, a3⟩ : ca (28 + 3 * i) = (57, i) ∧ ca (28 + 3 * i + 1) = (58, i) ∧ ca (28 + 3 * i + 2) = (61, i) := ca_57 ⟨i, by omega⟩
    have cc : ∀ {g : MH} {p : Nat}, Tk 71 h0 g p → g.1 57 i = sv h0.1 (28 + 3 * i) ∧ g.1 58 i = sv h0.1 (28 + 3 * i + 1) ∧ g.1 61 i = sv h0.1 (28 + 3 * i + 2) := by
      intro g p T
      have c1 := tk_cell T (j := 28 + 3 * i) (by omega)
      have c2 := tk_cell T (j := 28 + 3 * i + 1) (by omega)
      have c3 := tk_cell T (j := 28 + 3 * i + 2) (by omega)
      rw [a1] at c1
      rw [a2] at c2
      rw [a3] at c3
      exact ⟨c1, c2, c3⟩
    obtain ⟨h1, p1, T1⟩ := tk_step T (by omega)
    have T1' := tk_self T1 (k := 57) (i := i) _ (cc T1).1
    obtain ⟨h2, p2, T2⟩ := tk_step T1' (by omega)
    have T2' := tk_self T2 (k := 58) (i := i) _ (cc T2).2.1
    obtain ⟨h3, p3, T3⟩ := tk_step T2' (by omega)
    have T3' := tk_self T3 (k := 61) (i := i) _ (cc T3).2.2
    obtain ⟨h4, p4, T4⟩ := ih (i + 1) k _ T3' (by omega) (by omega)
    refine ⟨h4, ?_, T4⟩
    have k1 := (cc T).1
    have k2 : mm_hset h1.1 57 i (sv h0.1 (28 + 3 * i)) 58 i = sv h0.1 (28 + 3 * i + 1) := (cc T1').2.1
    have k3 : mm_hset h2.1 58 i (sv h0.1 (28 + 3 * i + 1)) 61 i = sv h0.1 (28 + 3 * i + 2) := (cc T2').2.2
    simp (disch := omega) only [L_M_carryAll_2_112, I_le, if_neg (show ¬ (4 : Int) ≤ (i : Int) by omega), ck_in, I_nat, Int.toNat_natCast, k1, p1, bd_s, hw_s]
    simp only [k2, p2, bd_s, hw_s]
    simp only [k3, p3, bd_s, hw_s, I_succ]
    exact p4
theorem tk_173 : ∀ (d i n : Nat) (h : MH), Tk 71 h0 h (40 + 2 * i) → i + d = 6 → d < n → ∃ h', L_M_carryAll_2_173 n (I i) h = some h' ∧ Tk 71 h0 h' 52 := by
  intro d
  induction d with
  | zero =>
    intro i n h T e hn
    obtain ⟨k, rfl⟩ := sfuel hn
    obtain rfl : i = 6 := by omega
    refine ⟨h, ?_, T⟩
    simp (disch := omega) only [L_M_carryAll_2_173, I_le]
    rw [if_pos (by omega)]
  | succ d ih =>
    intro i n h T e hn
    obtain ⟨k, rfl⟩ := sfuel hn
    obtain ⟨a1, a2⟩ : ca (40 + 2 * i) = (59, i) ∧ ca (40 + 2 * i + 1) = (60, i) := ca_59 ⟨i, by omega⟩
    have cc : ∀ {g : MH} {p : Nat}, Tk 71 h0 g p → g.1 59 i = sv h0.1 (40 + 2 * i) ∧ g.1 60 i = sv h0.1 (40 + 2 * i + 1) := by
      intro g p T
      have c1 := tk_cell T (j := 40 + 2 * i) (by omega)
      have c2 := tk_cell T (j := 40 + 2 * i + 1) (by omega)
      rw [a1] at c1
      rw [a2] at c2
      exact ⟨c1, c2⟩
    obtain ⟨h1, p1, T1⟩ := tk_step T (by omega)
    have T1' := tk_self T1 (k := 59) (i := i) _ (cc T1).1
    obtain ⟨h2, p2, T2⟩ := tk_step T1' (by omega)
    have T2' := tk_self T2 (k := 60) (i := i) _ (cc T2).2
    obtain ⟨h4, p4, T4⟩ := ih (i + 1) k _ T2' (by omega) (by omega)
    refine ⟨h4, ?_, T4⟩
    have k1 := (cc T).1
    have k2 : mm_hset h1.1 59 i (sv h0.1 (40 + 2 * i)) 60 i = sv h0.1 (40 + 2 * i + 1) := (cc T1').2
    simp (disch := omega) only [L_M_carryAll_2_173, I_le, if_neg (show ¬ (6 : Int) ≤ (i : Int) by omega), ck_in, I_nat, Int.toNat_natCast, k1, p1, bd_s, hw_s]
    simp only [k2, p2, bd_s, hw_s, I_succ]
    exact p4
theorem tk_all (o : h0.1 55 9 = I 0 ∨ h0.1 55 9 = I 1) : ∃ h', F_M_carryAll_2 (I 1) h0 = some h' ∧ Tk 71 h0 h' 52 := by
  have T0 : Tk 71 h0 (mm_hset (mm_hset h0.1 55 26 (I 1)) 55 25 (I 0), some 71) 0 := by
    refine ⟨rfl, ?_, by simp only [hs_eq]; rfl, fun j hj => absurd hj (Nat.not_lt_zero j), fun k i hk hi => ?_⟩
    · simp (disch := omega) only [hs_ne, hs_eq]
    · simp (disch := omega) only [hs_ne]
  have a0 : ca 0 = (55, 0) := rfl
  have a1 : ca 1 = (55, 2) := rfl
  have a2 : ca 2 = (55, 5) := rfl
  have a3 : ca 3 = (55, 9) := rfl
  have cc : ∀ {g : MH} {p : Nat}, Tk 71 h0 g p → g.1 55 0 = sv h0.1 0 ∧ g.1 55 2 = sv h0.1 1 ∧ g.1 55 5 = sv h0.1 2 ∧ g.1 55 9 = sv h0.1 3 := by
    intro g p T
    exact ⟨tk_cell T (j := 0) (by omega), tk_cell T (j := 1) (by omega), tk_cell T (j := 2) (by omega), tk_cell T (j := 3) (by omega)⟩
  obtain ⟨h1, p1, T1⟩ := tk_step T0 (by omega)
  have T1' := tk_self T1 (k := 55) (i := 0) _ (cc T1).1
  obtain ⟨h2, p2, T2⟩ := tk_step T1' (by omega)
  have T2' := tk_self T2 (k := 55) (i := 2) _ (cc T2).2.1
  obtain ⟨h3, p3, T3⟩ := tk_step T2' (by omega)
  have T3' := tk_self T3 (k := 55) (i := 5) _ (cc T3).2.2.1
  obtain ⟨h4, p4, T4⟩ := tk_step T3' (by omega)
  have T4' := tk_self T4 (k := 55) (i := 9) _ (cc T4).2.2.2
  obtain ⟨h5, p5, T5⟩ := tk_82 24 0 5000 _ T4' (by omega) (by omega)
  obtain ⟨h6, p6, T6⟩ := tk_112 4 0 5000 _ T5 (by omega) (by omega)
  obtain ⟨h7, p7, T7⟩ := tk_173 6 0 5000 _ T6 (by omega) (by omega)
  have p5' : L_M_carryAll_2_82 5000 (I 0) (mm_hset h4.1 55 9 (sv h0.1 3), h4.2) = some h5 := p5
  have p6' : L_M_carryAll_2_112 5000 (I 0) h5 = some h6 := p6
  have p7' : L_M_carryAll_2_173 5000 (I 0) h6 = some h7 := p7
  have s3 : sv h0.1 3 = I 0 ∨ sv h0.1 3 = I 1 := o
  have b1 : (if sv h0.1 3 = 0 then I 0 else I 1) = sv h0.1 3 := by rcases s3 with q | q <;> rw [q] <;> rfl
  have b2 : (if ¬ sv h0.1 3 = I 1 then I 0 else I 1) = sv h0.1 3 := by rcases s3 with q | q <;> rw [q] <;> rfl
  have b3 : (sv h0.1 3 &&& 1) = sv h0.1 3 := by rcases s3 with q | q <;> rw [q] <;> decide
  have b4 : (I 1 &&& 1) = I 1 := by decide
  refine ⟨h7, ?_, T7⟩
  have k0 : mm_hset (mm_hset h0.1 55 26 (I 1)) 55 25 (I 0) 55 0 = sv h0.1 0 := (cc T0).1
  have k1 : mm_hset h1.1 55 0 (sv h0.1 0) 55 2 = sv h0.1 1 := (cc T1').2.1
  have k2 : mm_hset h2.1 55 2 (sv h0.1 1) 55 5 = sv h0.1 2 := (cc T2').2.2.1
  have k3 : mm_hset h3.1 55 5 (sv h0.1 2) 55 9 = sv h0.1 3 := (cc T3').2.2.2
  simp only [F_M_carryAll_2, hw_s, cd_t b4, k0, p1, bd_s]
  simp only [k1, p2, bd_s, hw_s]
  simp only [k2, p3, bd_s, hw_s]
  simp only [k3, iw_s, b1, p4, bd_s, hw_s, b2, cd_t b3, p5', p6', p7']
end TAKE
