-- 26 lumpy, 27 forged, 54 judge
def fT (a : HS) (r : List Int) (b w : Nat) : Bool := decide (r.getD b 0 = 99) || decide (sFo a b b (hK a w) (hF a w) = r.getD b 0)
/-- the first of i, i+1, .. (d of them) that is so -/
def fFi (p : Nat → Bool) : Nat → Nat → Option Nat
  | 0, _ => none
  | d + 1, i => if p i = true then some i else fFi p d (i + 1)
def lO (a : HS) (r : List Int) (w : Nat) : Nat → Int
  | 0 => 1
  | n + 1 => if lO a r w n = 0 then 0 else if fT a r n w = true then 1 else 0
theorem lO_b (a : HS) (r : List Int) (w n : Nat) : 0 ≤ lO a r w n ∧ lO a r w n ≤ 1 := by
  cases n with
  | zero => exact ⟨by show (0 : Int) ≤ 1; omega, by show (1 : Int) ≤ 1; omega⟩
  | succ n => unfold lO; split <;> (try split) <;> omega
def lB (a : HS) (r : List Int) : Nat → Int32
  | 0 => I 0
  | n + 1 => if lO a r n r.length = 0 then lB a r n else lB a r n ||| (I 1 <<< (I n &&& 31))
def fA (a : HS) (r : List Int) (b : Nat) : Nat → Int
  | 0 => if r.getD b 0 = 99 then 1 else 0
  | n + 1 => if fA a r b n = 0 then (if fT a r b n = true then 1 else 0) else 1
theorem fA_b (a : HS) (r : List Int) (b n : Nat) : 0 ≤ fA a r b n ∧ fA a r b n ≤ 1 := by
  cases n with
  | zero => unfold fA; split <;> omega
  | succ n => unfold fA; split <;> (try split) <;> omega
theorem fA_99 {a : HS} {r : List Int} {b : Nat} (h : r.getD b 0 = 99) : ∀ n, fA a r b n = 1 := by
  intro n
  induction n with
  | zero => unfold fA; rw [if_pos h]
  | succ n ih => unfold fA; rw [ih, if_neg (by omega)]
section LUM
variable {S : SS} {h : MH}
theorem c_told (J : InvS S) (R : RC S h) {b w : Nat} (hb : b < nB (sN S)) (hr : b < (sRw S).length) (hw : w < nW (sN S)) : F_C_foldsAsTold (I b) (I w) h = some (I (if fT (sN S) (sRw S) b w = true then 1 else 0), h) := by
  have K := is_h J
  have v := row_v J hr
  have hl := J.2.2.2.2.1
  have hw6 := K.2.2.2.2.2 w
  have q := sFo_b K b b (k := hK (sN S) w) hw6.2.2.1 hw6.2.2.2
  have e := R.2.2.2.1.2 b hr
  simp (disch := omega) only [F_C_foldsAsTold, ck_in, I_nat, Int.toNat_natCast, e, I_eq, c_foldsBy (rc_h R) K hb hw, bd_s, iw_s]
  by_cases c1 : (sRw S).getD b 0 = 99
  · have t : fT (sN S) (sRw S) b w = true := by unfold fT; rw [decide_eq_true c1, Bool.true_or]
    rw [if_pos c1, if_pos t]
  · rw [if_neg c1]
    by_cases c2 : sFo (sN S) b b (hK (sN S) w) (hF (sN S) w) = (sRw S).getD b 0
    · have t : fT (sN S) (sRw S) b w = true := by unfold fT; rw [decide_eq_true c2, Bool.or_true]
      rw [if_neg (show ¬ ¬ _ from fun z => z c2), if_pos t]
      exact cd_t (by decide)
    · have t : ¬ fT (sN S) (sRw S) b w = true := by unfold fT; rw [decide_eq_false c1, decide_eq_false c2]; decide
      rw [if_pos c2, if_neg t]
      exact cd_t (by decide)
theorem l_luC (J : InvS S) (R : RC S h) (hl : (sRw S).length ≤ nB (sN S)) {x : Int32} {w : Nat} (hw : w < nW (sN S)) : ∀ d i n : Nat, i + d = (sRw S).length → d < n →
    L_C_lumpy_41 x (I w) n (I (lO (sN S) (sRw S) w i)) (I i) h = some (I (lO (sN S) (sRw S) w (sRw S).length), h) := by
  have j5 := J.2.2.2.2.1
  intro d
  induction d with
  | zero =>
    intro i n e hn
    obtain ⟨m, rfl⟩ := sfuel hn
    obtain rfl : i = (sRw S).length := by omega
    simp (disch := omega) only [L_C_lumpy_41, R.2.2.2.1.1, I_le, if_pos (Int.le_refl _)]
  | succ d ih =>
    intro i n e hn
    obtain ⟨m, rfl⟩ := sfuel hn
    have g := ih (i + 1) m (by omega) (by omega)
    have z := lO_b (sN S) (sRw S) w i
    have told := c_told J R (b := i) (w := w) (by omega) (by omega) hw
    by_cases c : lO (sN S) (sRw S) w i = 0
    · have e1 : lO (sN S) (sRw S) w (i + 1) = 0 := by unfold lO; rw [if_pos c]
      rw [e1] at g
      simp (disch := omega) only [L_C_lumpy_41, R.2.2.2.1.1, I_le, if_neg (show ¬ (((sRw S).length : Int) ≤ (i : Int)) by omega), c, zero_I, if_true, I_succ]
      exact g
    · have c1 : lO (sN S) (sRw S) w i = 1 := by omega
      by_cases f : fT (sN S) (sRw S) i w = true
      · have e1 : lO (sN S) (sRw S) w (i + 1) = 1 := by unfold lO; rw [if_neg c, if_pos f]
        rw [e1] at g
        rw [if_pos f] at told
        simp (disch := omega) only [L_C_lumpy_41, R.2.2.2.1.1, I_le, if_neg (show ¬ (((sRw S).length : Int) ≤ (i : Int)) by omega), c1, zero_I, one_ne, if_false, told, bd_s, iw_s, I_succ]
        exact g
      · have e1 : lO (sN S) (sRw S) w (i + 1) = 0 := by unfold lO; rw [if_neg c, if_neg f]
        rw [e1] at g
        rw [if_neg f] at told
        simp (disch := omega) only [L_C_lumpy_41, R.2.2.2.1.1, I_le, if_neg (show ¬ (((sRw S).length : Int) ≤ (i : Int)) by omega), c1, zero_I, one_ne, if_false, if_true, told, bd_s, iw_s, I_succ]
        exact g
theorem l_luC2 (J : InvS S) (R : RC S h) (hl : (sRw S).length ≤ nB (sN S)) : ∀ d i n : Nat, i + d = nW (sN S) → d < n →
    L_C_lumpy_25 n (lB (sN S) (sRw S) i) (I i) h = some (lB (sN S) (sRw S) (nW (sN S)), h) := by
  have K := is_h J
  have j5 := J.2.2.2.2.1
  have j3 := K.2.2.1
  intro d
  induction d with
  | zero =>
    intro i n e hn
    obtain ⟨m, rfl⟩ := sfuel hn
    obtain rfl : i = nW (sN S) := by omega
    simp (disch := omega) only [L_C_lumpy_25, rn_w (rc_h R), I_le, if_pos (Int.le_refl _)]
  | succ d ih =>
    intro i n e hn
    obtain ⟨m, rfl⟩ := sfuel hn
    have g := ih (i + 1) m (by omega) (by omega)
    have q : L_C_lumpy_41 (lB (sN S) (sRw S) i) (I i) 5000 (I 1) (I 0) h = _ := l_luC J R hl (x := lB (sN S) (sRw S) i) (w := i) (by omega) (sRw S).length 0 5000 (by omega) (by omega)
    have z := lO_b (sN S) (sRw S) i (sRw S).length
    simp (disch := omega) only [L_C_lumpy_25, rn_w (rc_h R), I_le, if_neg (show ¬ ((nW (sN S) : Int) ≤ (i : Int)) by omega), q, bd_s, iw_s, zero_I, I_eq, I_succ]
    exact g
theorem l_luM (J : InvS S) (R : RM S h) (hl : (sRw S).length ≤ nB (sN S)) {x : Int32} {w : Nat} (hw : w < nW (sN S)) : ∀ d i n : Nat, i + d = (sRw S).length → d < n →
    L_M_lumpy_40 x (I w) n (I (lO (sN S) (sRw S) w i)) (I i) h = some (I (lO (sN S) (sRw S) w (sRw S).length), h) := by
  have K := is_h J
  have j5 := J.2.2.2.2.1
  have hw6 := K.2.2.2.2.2 w
  intro d
  induction d with
  | zero =>
    intro i n e hn
    obtain ⟨m, rfl⟩ := sfuel hn
    obtain rfl : i = (sRw S).length := by omega
    simp (disch := omega) only [L_M_lumpy_40, R.2.2.2.1.1, I_le, if_pos (Int.le_refl _)]
  | succ d ih =>
    intro i n e hn
    obtain ⟨m, rfl⟩ := sfuel hn
    have g := ih (i + 1) m (by omega) (by omega)
    have z := lO_b (sN S) (sRw S) w i
    have v := row_v J (show i < (sRw S).length by omega)
    have q := sFo_b K i i (k := hK (sN S) w) hw6.2.2.1 hw6.2.2.2
    have er := R.2.2.2.1.2 i (by omega)
    by_cases c : lO (sN S) (sRw S) w i = 0
    · have e1 : lO (sN S) (sRw S) w (i + 1) = 0 := by unfold lO; rw [if_pos c]
      rw [e1] at g
      simp (disch := omega) only [L_M_lumpy_40, R.2.2.2.1.1, I_le, if_neg (show ¬ (((sRw S).length : Int) ≤ (i : Int)) by omega), c, zero_I, if_true, I_succ]
      exact g
    · have c1 : lO (sN S) (sRw S) w i = 1 := by omega
      have e1 : lO (sN S) (sRw S) w (i + 1) = if fT (sN S) (sRw S) i w = true then 1 else 0 := by
        show (if lO (sN S) (sRw S) w i = 0 then 0 else _) = _
        rw [if_neg c]
      simp (disch := omega) only [L_M_lumpy_40, R.2.2.2.1.1, I_le, if_neg (show ¬ (((sRw S).length : Int) ≤ (i : Int)) by omega), c1, zero_I, one_ne, if_false, ck_in, I_nat, Int.toNat_natCast, er, I_eq, m_foldsOf (rm_h R) K (show i < nB (sN S) by omega) hw, bd_s, iw_s, I_succ]
      by_cases d1 : (sRw S).getD i 0 = 99
      · have t : fT (sN S) (sRw S) i w = true := by unfold fT; rw [decide_eq_true d1, Bool.true_or]
        rw [e1, if_pos t] at g
        rw [if_pos d1]
        exact g
      · rw [if_neg d1]
        by_cases d2 : (sRw S).getD i 0 = sFo (sN S) i i (hK (sN S) w) (hF (sN S) w)
        · have t : fT (sN S) (sRw S) i w = true := by unfold fT; rw [decide_eq_true d2.symm, Bool.or_true]
          rw [e1, if_pos t] at g
          rw [if_neg (show ¬ ¬ _ from fun z => z d2)]
          exact g
        · have t : ¬ fT (sN S) (sRw S) i w = true := by unfold fT; rw [decide_eq_false d1, decide_eq_false (fun z => d2 z.symm)]; decide
          rw [e1, if_neg t] at g
          rw [if_pos d2]
          exact g
theorem l_luM2 (J : InvS S) (R : RM S h) (hl : (sRw S).length ≤ nB (sN S)) : ∀ d i n : Nat, i + d = nW (sN S) → d < n →
    L_M_lumpy_27 n (lB (sN S) (sRw S) i) (I i) h = some (lB (sN S) (sRw S) (nW (sN S)), h) := by
  have K := is_h J
  have j5 := J.2.2.2.2.1
  have j3 := K.2.2.1
  intro d
  induction d with
  | zero =>
    intro i n e hn
    obtain ⟨m, rfl⟩ := sfuel hn
    obtain rfl : i = nW (sN S) := by omega
    simp (disch := omega) only [L_M_lumpy_27, rm_w (rm_h R), I_le, if_pos (Int.le_refl _)]
  | succ d ih =>
    intro i n e hn
    obtain ⟨m, rfl⟩ := sfuel hn
    have g := ih (i + 1) m (by omega) (by omega)
    have q : L_M_lumpy_40 (lB (sN S) (sRw S) i) (I i) 5000 (I 1) (I 0) h = _ := l_luM J R hl (x := lB (sN S) (sRw S) i) (w := i) (by omega) (sRw S).length 0 5000 (by omega) (by omega)
    have z := lO_b (sN S) (sRw S) i (sRw S).length
    have o0 : lB (sN S) (sRw S) i ||| I 0 = lB (sN S) (sRw S) i := Int32.or_zero
    simp (disch := omega) only [L_M_lumpy_27, rm_w (rm_h R), I_le, if_neg (show ¬ ((nW (sN S) : Int) ≤ (i : Int)) by omega), q, bd_s, iw_s, zero_I, I_eq, I_succ]
    have e1 : lB (sN S) (sRw S) (i + 1) = if lO (sN S) (sRw S) i (sRw S).length = 0 then lB (sN S) (sRw S) i else lB (sN S) (sRw S) i ||| (I 1 <<< (I i &&& 31)) := rfl
    by_cases c : lO (sN S) (sRw S) i (sRw S).length = 0
    · rw [e1, if_pos c] at g
      rw [if_pos c, o0]
      exact g
    · rw [e1, if_neg c] at g
      rw [if_neg c]
      exact g
theorem q_lumpy (J : InvS S) : Q2 S F_C_lumpy F_M_lumpy := by
  have K := is_h J
  have j5 := J.2.2.2.2.1
  obtain ⟨j1, j2, j3, -⟩ := id K
  by_cases hl : (sRw S).length ≤ nB (sN S)
  · refine q_pl (lB (sN S) (sRw S) (nW (sN S))) 0 (by omega) (fun h R => ?_) (fun h R => ?_)
    · have g : L_C_lumpy_25 5000 (I 0) (I 0) h = _ := l_luC2 J R hl (nW (sN S)) 0 5000 (by omega) (by omega)
      simp (disch := omega) only [F_C_lumpy, R.2.2.2.1.1, rn_b (rc_h R), I_le, if_pos (show ((sRw S).length : Int) ≤ (nB (sN S) : Int) by omega), g, bd_s]
      rfl
    · have g : L_M_lumpy_27 5000 (I 0) (I 0) (setT h) = _ := l_luM2 J R hl (nW (sN S)) 0 5000 (by omega) (by omega)
      simp (disch := omega) only [F_M_lumpy, setT_d, hw_s, R.2.2.2.1.1, rm_b (rm_h R), I_le, if_pos (show ((sRw S).length : Int) ≤ (nB (sN S) : Int) by omega), g, bd_s]
      rfl
  · refine q_pl (I (-3)) 3 (by omega) (fun h R => ?_) (fun h R => ?_)
    · simp (disch := omega) only [F_C_lumpy, R.2.2.2.1.1, rn_b (rc_h R), I_le, if_neg (show ¬ ((sRw S).length : Int) ≤ (nB (sN S) : Int) by omega), c_ref3, bd_s]
    · simp (disch := omega) only [F_M_lumpy, setT_d, hw_s, R.2.2.2.1.1, rm_b (rm_h R), I_le, if_neg (show ¬ ((sRw S).length : Int) ≤ (nB (sN S) : Int) by omega), m_ref3, bd_s]
theorem l_foC (J : InvS S) (R : RC S h) {b : Nat} (hb : b < nB (sN S)) (hr : b < (sRw S).length) : ∀ d i n : Nat, i + d = nW (sN S) → d < n →
    L_C_forged_50 (I b) n (I (fA (sN S) (sRw S) b i)) (I i) h = some (I (fA (sN S) (sRw S) b (nW (sN S))), h) := by
  have K := is_h J
  have j3 := K.2.2.1
  intro d
  induction d with
  | zero =>
    intro i n e hn
    obtain ⟨m, rfl⟩ := sfuel hn
    obtain rfl : i = nW (sN S) := by omega
    simp (disch := omega) only [L_C_forged_50, rn_w (rc_h R), I_le, if_pos (Int.le_refl _)]
  | succ d ih =>
    intro i n e hn
    obtain ⟨m, rfl⟩ := sfuel hn
    have g := ih (i + 1) m (by omega) (by omega)
    have z := fA_b (sN S) (sRw S) b i
    have told := c_told J R hb hr (w := i) (by omega)
    by_cases c : fA (sN S) (sRw S) b i = 0
    · by_cases f : fT (sN S) (sRw S) b i = true
      · have e1 : fA (sN S) (sRw S) b (i + 1) = 1 := by unfold fA; rw [if_pos c, if_pos f]
        rw [e1] at g
        rw [if_pos f] at told
        simp (disch := omega) only [L_C_forged_50, rn_w (rc_h R), I_le, if_neg (show ¬ ((nW (sN S) : Int) ≤ (i : Int)) by omega), c, zero_I, not_true, one_ne, if_false, told, bd_s, iw_s, I_succ]
        exact g
      · have e1 : fA (sN S) (sRw S) b (i + 1) = 0 := by unfold fA; rw [if_pos c, if_neg f]
        rw [e1] at g
        rw [if_neg f] at told
        simp (disch := omega) only [L_C_forged_50, rn_w (rc_h R), I_le, if_neg (show ¬ ((nW (sN S) : Int) ≤ (i : Int)) by omega), c, zero_I, not_true, if_true, if_false, told, bd_s, iw_s, I_succ]
        exact g
    · have c1 : fA (sN S) (sRw S) b i = 1 := by omega
      have e1 : fA (sN S) (sRw S) b (i + 1) = 1 := by unfold fA; rw [if_neg c]
      rw [e1] at g
      simp (disch := omega) only [L_C_forged_50, rn_w (rc_h R), I_le, if_neg (show ¬ ((nW (sN S) : Int) ≤ (i : Int)) by omega), c1, zero_I, one_ne, not_false_iff, if_true, I_succ]
      exact g
theorem l_foM (J : InvS S) (R : RM S h) {b : Nat} (hb : b < nB (sN S)) (hr : b < (sRw S).length) : ∀ d i n : Nat, i + d = nW (sN S) → d < n →
    L_M_forged_52 (I b) n (I (fA (sN S) (sRw S) b i)) (I i) h = some (I (fA (sN S) (sRw S) b (nW (sN S))), h) := by
  have K := is_h J
  have j3 := K.2.2.1
  have j5 := J.2.2.2.2.1
  have v := row_v J hr
  have er := R.2.2.2.1.2 b hr
  intro d
  induction d with
  | zero =>
    intro i n e hn
    obtain ⟨m, rfl⟩ := sfuel hn
    obtain rfl : i = nW (sN S) := by omega
    simp (disch := omega) only [L_M_forged_52, rm_w (rm_h R), I_le, if_pos (Int.le_refl _)]
  | succ d ih =>
    intro i n e hn
    obtain ⟨m, rfl⟩ := sfuel hn
    have g := ih (i + 1) m (by omega) (by omega)
    have z := fA_b (sN S) (sRw S) b i
    have hw6 := K.2.2.2.2.2 i
    have q := sFo_b K b b (k := hK (sN S) i) hw6.2.2.1 hw6.2.2.2
    by_cases c : fA (sN S) (sRw S) b i = 0
    · have d1 : ¬ (sRw S).getD b 0 = 99 := fun t => by rw [fA_99 t] at c; omega
      have e1 : fA (sN S) (sRw S) b (i + 1) = if fT (sN S) (sRw S) b i = true then 1 else 0 := by
        show (if fA (sN S) (sRw S) b i = 0 then _ else 1) = _
        rw [if_pos c]
      simp (disch := omega) only [L_M_forged_52, rm_w (rm_h R), I_le, if_neg (show ¬ ((nW (sN S) : Int) ≤ (i : Int)) by omega), c, zero_I, not_true, if_false, ck_in, I_nat, Int.toNat_natCast, er, m_foldsOf (rm_h R) K hb (show i < nW (sN S) by omega), I_eq, bd_s, iw_s, I_succ]
      by_cases d2 : (sRw S).getD b 0 = sFo (sN S) b b (hK (sN S) i) (hF (sN S) i)
      · have t : fT (sN S) (sRw S) b i = true := by unfold fT; rw [decide_eq_true d2.symm, Bool.or_true]
        rw [e1, if_pos t] at g
        rw [if_neg (show ¬ ¬ _ from fun z => z d2)]
        exact g
      · have t : ¬ fT (sN S) (sRw S) b i = true := by unfold fT; rw [decide_eq_false d1, decide_eq_false (fun z => d2 z.symm)]; decide
        rw [e1, if_neg t] at g
        rw [if_pos d2]
        exact g
    · have c1 : fA (sN S) (sRw S) b i = 1 := by omega
      have e1 : fA (sN S) (sRw S) b (i + 1) = 1 := by unfold fA; rw [if_neg c]
      rw [e1] at g
      simp (disch := omega) only [L_M_forged_52, rm_w (rm_h R), I_le, if_neg (show ¬ ((nW (sN S) : Int) ≤ (i : Int)) by omega), c1, zero_I, one_ne, not_false_iff, if_true, I_succ]
      exact g
def foP (S : SS) (b : Nat) : Bool := decide (fA (sN S) (sRw S) b (nW (sN S)) = 0)
theorem l_foC2 (J : InvS S) (R : RC S h) (hl : (sRw S).length ≤ nB (sN S)) : ∀ d i n : Nat, i + d = (sRw S).length → d < n → L_C_forged_23 n (I i) h = resI h (fFi (foP S) d i) := by
  have K := is_h J
  have j5 := J.2.2.2.2.1
  have j3 := K.2.2.1
  intro d
  induction d with
  | zero =>
    intro i n e hn
    obtain ⟨m, rfl⟩ := sfuel hn
    obtain rfl : i = (sRw S).length := by omega
    simp (disch := omega) only [L_C_forged_23, R.2.2.2.1.1, I_le, if_pos (Int.le_refl _)]
    rfl
  | succ d ih =>
    intro i n e hn
    obtain ⟨m, rfl⟩ := sfuel hn
    have g := ih (i + 1) m (by omega) (by omega)
    have v := row_v J (show i < (sRw S).length by omega)
    have er := R.2.2.2.1.2 i (by omega)
    have q := l_foC J R (b := i) (by omega) (by omega) (nW (sN S)) 0 5000 (by omega) (by omega)
    have q' : L_C_forged_50 (I i) 5000 (I (fA (sN S) (sRw S) i 0)) (I 0) h = _ := q
    have e0 : (if ¬ (sRw S).getD i 0 = 99 then I 0 else I 1) = I (fA (sN S) (sRw S) i 0) := by
      unfold fA
      by_cases c : (sRw S).getD i 0 = 99
      · rw [if_pos c, if_neg (show ¬ ¬ _ from fun z => z c)]
      · rw [if_neg c, if_pos c]
    have z := fA_b (sN S) (sRw S) i (nW (sN S))
    simp (disch := omega) only [L_C_forged_23, R.2.2.2.1.1, I_le, if_neg (show ¬ (((sRw S).length : Int) ≤ (i : Int)) by omega), ck_in, I_nat, Int.toNat_natCast, er, I_eq, e0, iw_s, q', bd_s, zero_I, I_succ]
    show _ = resI h (if foP S i = true then some i else fFi (foP S) d (i + 1))
    by_cases c : fA (sN S) (sRw S) i (nW (sN S)) = 0
    · rw [if_neg (show ¬ ¬ _ from fun z => z c), if_pos (show foP S i = true from decide_eq_true c)]
      rfl
    · rw [if_pos c, if_neg (show ¬ foP S i = true by unfold foP; rw [decide_eq_false c]; decide)]
      exact g
theorem l_foM2 (J : InvS S) (R : RM S h) (hl : (sRw S).length ≤ nB (sN S)) : ∀ d i n : Nat, i + d = (sRw S).length → d < n → L_M_forged_25 n (I i) h = resI h (fFi (foP S) d i) := by
  have K := is_h J
  have j5 := J.2.2.2.2.1
  have j3 := K.2.2.1
  intro d
  induction d with
  | zero =>
    intro i n e hn
    obtain ⟨m, rfl⟩ := sfuel hn
    obtain rfl : i = (sRw S).length := by omega
    simp (disch := omega) only [L_M_forged_25, R.2.2.2.1.1, I_le, if_pos (Int.le_refl _)]
    rfl
  | succ d ih =>
    intro i n e hn
    obtain ⟨m, rfl⟩ := sfuel hn
    have g := ih (i + 1) m (by omega) (by omega)
    have v := row_v J (show i < (sRw S).length by omega)
    have er := R.2.2.2.1.2 i (by omega)
    have q := l_foM J R (b := i) (by omega) (by omega) (nW (sN S)) 0 5000 (by omega) (by omega)
    have q' : L_M_forged_52 (I i) 5000 (I (fA (sN S) (sRw S) i 0)) (I 0) h = _ := q
    have e0 : (if ¬ (sRw S).getD i 0 = 99 then I 0 else I 1) = I (fA (sN S) (sRw S) i 0) := by
      unfold fA
      by_cases c : (sRw S).getD i 0 = 99
      · rw [if_pos c, if_neg (show ¬ ¬ _ from fun z => z c)]
      · rw [if_neg c, if_pos c]
    have z := fA_b (sN S) (sRw S) i (nW (sN S))
    simp (disch := omega) only [L_M_forged_25, R.2.2.2.1.1, I_le, if_neg (show ¬ (((sRw S).length : Int) ≤ (i : Int)) by omega), ck_in, I_nat, Int.toNat_natCast, er, I_eq, e0, iw_s, q', bd_s, zero_I, I_succ]
    show _ = resI h (if foP S i = true then some i else fFi (foP S) d (i + 1))
    by_cases c : fA (sN S) (sRw S) i (nW (sN S)) = 0
    · rw [if_neg (show ¬ ¬ _ from fun z => z c), if_pos (show foP S i = true from decide_eq_true c)]
      rfl
    · rw [if_pos c, if_neg (show ¬ foP S i = true by unfold foP; rw [decide_eq_false c]; decide)]
      exact g
theorem q_forged (J : InvS S) : Q2 S F_C_forged F_M_forged := by
  have K := is_h J
  have j5 := J.2.2.2.2.1
  obtain ⟨j1, j2, j3, -⟩ := id K
  by_cases hl : (sRw S).length ≤ nB (sN S)
  · refine q_pl (I (o9 (fFi (foP S) (sRw S).length 0))) 0 (by omega) (fun h R => ?_) (fun h R => ?_)
    · have g : L_C_forged_23 5000 (I 0) h = _ := l_foC2 J R hl (sRw S).length 0 5000 (by omega) (by omega)
      simp (disch := omega) only [F_C_forged, R.2.2.2.1.1, rn_b (rc_h R), I_le, if_pos (show ((sRw S).length : Int) ≤ (nB (sN S) : Int) by omega), g, be_res]
      cases fFi (foP S) (sRw S).length 0 <;> rfl
    · have g : L_M_forged_25 5000 (I 0) (setT h) = _ := l_foM2 J R hl (sRw S).length 0 5000 (by omega) (by omega)
      simp (disch := omega) only [F_M_forged, setT_d, hw_s, R.2.2.2.1.1, rm_b (rm_h R), I_le, if_pos (show ((sRw S).length : Int) ≤ (nB (sN S) : Int) by omega), g, be_res]
      cases fFi (foP S) (sRw S).length 0 <;> rfl
  · refine q_pl (I (-3)) 3 (by omega) (fun h R => ?_) (fun h R => ?_)
    · simp (disch := omega) only [F_C_forged, R.2.2.2.1.1, rn_b (rc_h R), I_le, if_neg (show ¬ ((sRw S).length : Int) ≤ (nB (sN S) : Int) by omega), c_ref3, bd_s]
    · simp (disch := omega) only [F_M_forged, setT_d, hw_s, R.2.2.2.1.1, rm_b (rm_h R), I_le, if_neg (show ¬ ((sRw S).length : Int) ≤ (nB (sN S) : Int) by omega), m_ref3, bd_s]
end LUM
