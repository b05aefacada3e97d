-- the class keeps a change
def DO (h0 h : MH) (i : Nat) : Prop := h.2 = h0.2 ∧ (∀ K, 32 ≤ K → K ≤ 34 → ∀ j, h.1 K j = if j + 1 < i then h0.1 K (j + 1) else h0.1 K j) ∧ ∀ k, ¬ (32 ≤ k ∧ k ≤ 34) → h.1 k = h0.1 k
theorem l_drop (h0 : MH) : ∀ (d i n : Nat) (h : MH), DO h0 h i → i + d = 8 → 1 ≤ i → d < n → ∃ h', L_G_dropOldest_2 n (I i) h = some h' ∧ DO h0 h' 8 := by
  intro d
  induction d with
  | zero =>
    intro i n h T e hi hn
    obtain ⟨k, rfl⟩ := sfuel hn
    obtain rfl : i = 8 := by omega
    refine ⟨h, ?_, T⟩
    simp (disch := omega) only [L_G_dropOldest_2, I_le]
    rw [if_pos (by omega)]
  | succ d ih =>
    intro i n h T e hi hn
    obtain ⟨k, rfl⟩ := sfuel hn
    obtain ⟨t1, t2, t3⟩ := T
    have en : ((i : Int) - 1).toNat = i - 1 := by omega
    have v : ∀ K, 32 ≤ K → K ≤ 34 → h.1 K i = h0.1 K i := fun K a b => by rw [t2 K a b i, if_neg (by omega)]
    have key : DO h0 (mm_hset (mm_hset (mm_hset h.1 32 (i - 1) (h.1 32 i)) 33 (i - 1) (h.1 33 i)) 34 (i - 1) (h.1 34 i), h.2) (i + 1) := by
      refine ⟨t1, fun K a b j => ?_, fun k hk => ?_⟩
      · show mm_hset (mm_hset (mm_hset h.1 32 (i - 1) (h.1 32 i)) 33 (i - 1) (h.1 33 i)) 34 (i - 1) (h.1 34 i) K j = _
        by_cases c : j = i - 1
        · subst c
          rw [if_pos (by omega), show i - 1 + 1 = i by omega]
          rcases (show K = 32 ∨ K = 33 ∨ K = 34 by omega) with rfl | rfl | rfl <;> simp (disch := omega) only [hs_ne, hs_eq] <;> exact v _ (by omega) (by omega)
        · rw [hs_ne (by omega), hs_ne (by omega), hs_ne (by omega), t2 K a b j]
          by_cases d : j + 1 < i
          · rw [if_pos d, if_pos (by omega)]
          · rw [if_neg d, if_neg (by omega)]
      · show mm_hset (mm_hset (mm_hset h.1 32 (i - 1) (h.1 32 i)) 33 (i - 1) (h.1 33 i)) 34 (i - 1) (h.1 34 i) k = _
        rw [hrow (by omega), hrow (by omega), hrow (by omega)]
        exact t3 k hk
    obtain ⟨h', p, q⟩ := ih (i + 1) k _ key (by omega) (by omega) (by omega)
    refine ⟨h', ?_, q⟩
    simp (disch := omega) only [L_G_dropOldest_2, I_le, if_neg (show ¬ (8 : Int) ≤ (i : Int) by omega), I_sub, ck_in, I_nat, Int.toNat_natCast, en, hw_s, hs_ne, I_succ]
    exact p
/-- after keep: the change is the newest entry -/
def CK (S : SS) (h h' : MH) (x y z : Int) : Prop :=
  h'.2 = h.2 ∧ h'.1 31 3 = I (pushU (sU S) (sN S)).length ∧
  (∀ i, i + 1 = (pushU (sU S) (sN S)).length → h'.1 32 i = I x ∧ h'.1 33 i = I y ∧ h'.1 34 i = I z) ∧
  (∀ i, i + 1 < (pushU (sU S) (sN S)).length → ∀ K, 32 ≤ K → K ≤ 34 → h'.1 K i = h.1 K (if (sU S).length = 8 then i + 1 else i)) ∧
  ∀ k, ¬ (31 ≤ k ∧ k ≤ 34) → h'.1 k = h.1 k
theorem ck_core {f : Nat → Nat → Int32} {e : Option Nat} {t : Nat} {x y z : Int} (ht : t < 8) (e3 : f 31 3 = I t) :
    (ck (mm_in (f 31 3) 8) (hw (mm_hset f 32 (Int32.toNatClampNeg (f 31 3)) (I x), e) (fun h3 => ck (mm_in (h3.1 31 3) 8) (hw (mm_hset h3.1 33 (Int32.toNatClampNeg (h3.1 31 3)) (I y), h3.2) (fun h4 => ck (mm_in (h4.1 31 3) 8) (hw (mm_hset h4.1 34 (Int32.toNatClampNeg (h4.1 31 3)) (I z), h4.2) (fun h5 => hw (mm_hset h5.1 31 3 ((h5.1 31 3) + (I 1)), h5.2) (fun h6 => some h6)))))))) =
    some (mm_hset (mm_hset (mm_hset (mm_hset f 32 t (I x)) 33 t (I y)) 34 t (I z)) 31 3 (I ((t + 1 : Nat) : Int)), e) := by
  simp (disch := omega) only [e3, hw_s, hs_ne, ck_in, I_nat, Int.toNat_natCast, I_succ]
theorem c_keep {S : SS} {h : MH} {x y z : Int} (J : InvS S) (R : RC S h) : ∃ h', F_G_keep (I x) (I y) (I z) h = some h' ∧ CK S h h' x y z := by
  obtain ⟨J1, J2, J3, J4, J5, J6, J7, J8, J9⟩ := id J
  obtain ⟨u0, u1⟩ := R.2.2.2.2.1
  have pl := pushU_len (U := sU S) (N := sN S)
  by_cases c : (sU S).length = 8
  · rw [if_pos c] at pl
    obtain ⟨h1, p1, w1, w2, w3⟩ := l_drop h 7 1 5000 h ⟨rfl, fun K a b j => by rw [if_neg (by omega)], fun k hk => rfl⟩ (by omega) (by omega) (by omega)
    have p1' : L_G_dropOldest_2 5000 (I 1) h = some h1 := p1
    have e8 : ((sU S).length : Int) = 8 := by omega
    have cc := ck_core (f := mm_hset h1.1 31 3 (I ((7 : Nat) : Int))) (e := h1.2) (t := 7) (x := x) (y := y) (z := z) (by omega) hs_eq
    refine ⟨(mm_hset (mm_hset (mm_hset (mm_hset (mm_hset h1.1 31 3 (I ((7 : Nat) : Int))) 32 7 (I x)) 33 7 (I y)) 34 7 (I z)) 31 3 (I ((7 + 1 : Nat) : Int)), h1.2), ?_, w1, ?_, ?_, ?_, ?_⟩
    · simp (disch := omega) only [F_G_keep, u0, e8, I_lt]
      rw [kw_s, if_neg (by omega)]
      simp only [F_G_dropOldest, p1', bd_s, hw_s]
      exact cc
    · simp only [hs_eq, pl]
    · intro i hi
      rw [pl] at hi
      obtain rfl : i = 7 := by omega
      refine ⟨?_, ?_, ?_⟩ <;> simp (disch := omega) only [hs_ne, hs_eq]
    · intro i hi K a b
      rw [pl] at hi
      simp (disch := omega) only [hs_ne]
      rw [w2 K a b, if_pos (by omega), if_pos c]
    · intro k hk
      simp (disch := omega) only [hrow]
      exact w3 k (by omega)
  · rw [if_neg c] at pl
    have cc := ck_core (f := h.1) (e := h.2) (t := (sU S).length) (x := x) (y := y) (z := z) (by omega) u0
    refine ⟨(mm_hset (mm_hset (mm_hset (mm_hset h.1 32 (sU S).length (I x)) 33 (sU S).length (I y)) 34 (sU S).length (I z)) 31 3 (I (((sU S).length + 1 : Nat) : Int)), h.2), ?_, rfl, ?_, ?_, ?_, ?_⟩
    · simp (disch := omega) only [F_G_keep]
      rw [kw_s]
      have lt : h.1 31 3 < I 8 := by
        rw [u0, I_lt (by omega) (by omega) (by omega) (by omega)]
        omega
      rw [if_pos lt]
      exact cc
    · simp only [hs_eq, pl]
    · intro i hi
      rw [pl] at hi
      obtain rfl : i = (sU S).length := by omega
      refine ⟨?_, ?_, ?_⟩ <;> simp (disch := omega) only [hs_ne, hs_eq]
    · intro i hi K a b
      rw [pl] at hi
      rw [if_neg c]
      simp (disch := omega) only [hs_ne]
    · intro k hk
      simp (disch := omega) only [hrow]
