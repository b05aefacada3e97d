-- 37 teacher, 40 split, 41 inTime
def te (a : HS) : Nat → Int
  | 0 => -9
  | n + 1 => if n = 0 then 0 else if sumB a ((te a n).toNat) (nB a) ≤ sumB a n (nB a) then te a n else (n : Int)
def teT (a : HS) : Nat → Int
  | 0 => -9
  | n + 1 => if n = 0 then sumB a 0 (nB a) else if teT a n ≤ sumB a n (nB a) then teT a n else sumB a n (nB a)
theorem te_f {a : HS} : ∀ n : Nat, 0 < n → 0 ≤ te a n ∧ te a n < n ∧ teT a n = sumB a (te a n).toNat (nB a) := by
  intro n
  induction n with
  | zero => intro h; omega
  | succ n ih =>
    intro _
    by_cases hn : n = 0
    · subst hn
      exact ⟨by show (0:Int) ≤ 0; omega, by show (0:Int) < _; omega, rfl⟩
    · obtain ⟨i1, i2, i3⟩ := ih (by omega)
      have e1 : te a (n + 1) = if n = 0 then 0 else if sumB a ((te a n).toNat) (nB a) ≤ sumB a n (nB a) then te a n else (n : Int) := rfl
      have e2 : teT a (n + 1) = if n = 0 then sumB a 0 (nB a) else if teT a n ≤ sumB a n (nB a) then teT a n else sumB a n (nB a) := rfl
      rw [e1, e2, if_neg hn, if_neg hn, i3]
      by_cases c : sumB a (te a n).toNat (nB a) ≤ sumB a n (nB a)
      · rw [if_pos c, if_pos c]
        exact ⟨by omega, by omega, rfl⟩
      · rw [if_neg c, if_neg c]
        exact ⟨by omega, by omega, by rw [Int.toNat_natCast]⟩
theorem te_b {a : HS} (J : InvH a) (hw : 0 < nW a) (n : Nat) (hn : n ≤ 6) : -9 ≤ te a n ∧ te a n < 6 ∧ -9 ≤ teT a n ∧ teT a n ≤ 3000 := by
  have j1 := J.1
  rcases Nat.eq_zero_or_pos n with rfl | h
  · exact ⟨by show (-9:Int) ≤ -9; omega, by show (-9:Int) < 6; omega, by show (-9:Int) ≤ -9; omega, by show (-9:Int) ≤ 3000; omega⟩
  · have q := te_f (a := a) n h
    have q2 := sumB_b J hw (te a n).toNat (nB a)
    omega
section TCH
variable {a : HS} {h : MH}
theorem l_teC (R : RepH 8 a h.1) (J : InvH a) (hw : 0 < nW a) {x : Int32} : ∀ d i n : Nat, i + d = nP a → d < n →
    L_C_teacher_50 x (I ((2 ^ nB a - 1 : Nat) : Int)) n (I (te a i)) (I (teT a i)) (I i) h = some (I (te a (nP a)), I (teT a (nP a)), h) := by
  obtain ⟨j1, j2, j3, j4, j5, j6⟩ := id J
  have pw : 2 ^ nB a ≤ 64 ∧ 1 ≤ 2 ^ nB a := pow_dec ⟨nB a, by omega⟩
  intro d
  induction d with
  | zero =>
    intro i n e hn
    obtain ⟨k, rfl⟩ := sfuel hn
    obtain rfl : i = nP a := by omega
    simp (disch := omega) only [L_C_teacher_50, rn_p R, I_le, if_pos (Int.le_refl _)]
  | succ d ih =>
    intro i n e hn
    obtain ⟨k, rfl⟩ := sfuel hn
    have hi : i < nP a := by omega
    have g := ih (i + 1) k (by omega) (by omega)
    have q := sumB_b J hw i (nB a)
    have q2 := te_b J hw i (by omega)
    have e0 := sumM_full J i (nB a) (Nat.le_refl _)
    have e1 : (if te a i = -9 then (i : Int) else if teT a i ≤ sumB a i (nB a) then te a i else (i : Int)) = te a (i + 1) := by
      show _ = (if i = 0 then (0 : Int) else if sumB a ((te a i).toNat) (nB a) ≤ sumB a i (nB a) then te a i else (i : Int))
      rcases Nat.eq_zero_or_pos i with rfl | hi
      · rw [if_pos (show te a 0 = -9 from rfl), if_pos rfl]
        rfl
      · obtain ⟨i1, i2, i3⟩ := te_f (a := a) i hi
        rw [if_neg (show ¬ te a i = -9 by omega), if_neg (show ¬ i = 0 by omega), i3]
    have e2 : (if te a i = -9 then sumB a i (nB a) else if teT a i ≤ sumB a i (nB a) then teT a i else sumB a i (nB a)) = teT a (i + 1) := by
      show _ = (if i = 0 then sumB a 0 (nB a) else if teT a i ≤ sumB a i (nB a) then teT a i else sumB a i (nB a))
      rcases Nat.eq_zero_or_pos i with rfl | hi
      · rw [if_pos (show te a 0 = -9 from rfl), if_pos rfl]
      · obtain ⟨i1, i2, i3⟩ := te_f (a := a) i hi
        rw [if_neg (show ¬ te a i = -9 by omega), if_neg (show ¬ i = 0 by omega)]
    simp (disch := omega) only [L_C_teacher_50, rn_p R, I_le, if_neg (show ¬ ((nP a : Int) ≤ (i : Int)) by omega), c_btOf R J hw (show 2 ^ nB a - 1 < 64 by omega) hi, e0, bd_s, I_eq, I_ite, e1, e2, iw_s, I_succ]
    exact g
theorem l_teM2 (R : RepM a h.1) (J : InvH a) (hw : 0 < nW a) {x x3 x4 : Int32} {p : Nat} (hp : p < nP a) : ∀ d i n : Nat, i + d = nB a → d < n →
    L_M_teacher_69 x x3 x4 (I p) n (I (sumB a p i)) (I i) h = some (I (sumB a p (nB a)), h) := by
  obtain ⟨j1, j2, j3, j4, j5, j6⟩ := id J
  intro d
  induction d with
  | zero =>
    intro i n e hn
    obtain ⟨k, rfl⟩ := sfuel hn
    obtain rfl : i = nB a := by omega
    simp (disch := omega) only [L_M_teacher_69, rm_b R, I_le, if_pos (Int.le_refl _)]
  | succ d ih =>
    intro i n e hn
    obtain ⟨k, rfl⟩ := sfuel hn
    have hi : i < nB a := by omega
    have g := ih (i + 1) k (by omega) (by omega)
    simp (disch := omega) only [L_M_teacher_69, rm_b R, I_le, if_neg (show ¬ ((nB a : Int) ≤ (i : Int)) by omega), m_bestT R J hi hp hw, bd_s, I_add, I_succ]
    exact g
theorem l_teM (R : RepM a h.1) (J : InvH a) (hw : 0 < nW a) {x : Int32} : ∀ d i n : Nat, i + d = nP a → d < n →
    L_M_teacher_54 x n (I (te a i)) (I (teT a i)) (I i) h = some (I (te a (nP a)), I (teT a (nP a)), h) := by
  obtain ⟨j1, j2, j3, j4, j5, j6⟩ := id J
  intro d
  induction d with
  | zero =>
    intro i n e hn
    obtain ⟨k, rfl⟩ := sfuel hn
    obtain rfl : i = nP a := by omega
    simp (disch := omega) only [L_M_teacher_54, rm_p R, I_le, if_pos (Int.le_refl _)]
  | succ d ih =>
    intro i n e hn
    obtain ⟨k, rfl⟩ := sfuel hn
    have hi : i < nP a := by omega
    have g := ih (i + 1) k (by omega) (by omega)
    have q := sumB_b J hw i (nB a)
    have q2 := te_b J hw i (by omega)
    have g2 : L_M_teacher_69 x (I (te a i)) (I (teT a i)) (I i) 5000 (I 0) (I 0) h = _ := l_teM2 R J hw hi (nB a) 0 5000 (by omega) (by omega)
    have e1 : (if (i : Int) = 0 then (i : Int) else if teT a i ≤ sumB a i (nB a) then te a i else (i : Int)) = te a (i + 1) := by
      show _ = (if i = 0 then (0 : Int) else if sumB a ((te a i).toNat) (nB a) ≤ sumB a i (nB a) then te a i else (i : Int))
      rcases Nat.eq_zero_or_pos i with rfl | hi
      · rw [if_pos (show ((0 : Nat) : Int) = 0 from rfl), if_pos rfl]
        rfl
      · obtain ⟨i1, i2, i3⟩ := te_f (a := a) i hi
        rw [if_neg (show ¬ (i : Int) = 0 by omega), if_neg (show ¬ i = 0 by omega), i3]
    have e2 : (if (i : Int) = 0 then sumB a i (nB a) else if teT a i ≤ sumB a i (nB a) then teT a i else sumB a i (nB a)) = teT a (i + 1) := by
      show _ = (if i = 0 then sumB a 0 (nB a) else if teT a i ≤ sumB a i (nB a) then teT a i else sumB a i (nB a))
      rcases Nat.eq_zero_or_pos i with rfl | hi
      · rw [if_pos (show ((0 : Nat) : Int) = 0 from rfl), if_pos rfl]
      · rw [if_neg (show ¬ (i : Int) = 0 by omega), if_neg (show ¬ i = 0 by omega)]
    simp (disch := omega) only [L_M_teacher_54, zero_I, rm_p R, I_le, if_neg (show ¬ ((nP a : Int) ≤ (i : Int)) by omega), g2, bd_s, I_eq, I_ite, e1, e2, iw_s, I_succ]
    exact g
end TCH
theorem q_teacher {S : SS} (J : InvS S) {x : Int} (e1 : i32 x) : Q2 S (F_C_teacher (I x)) (F_M_teacher (I x)) := by
  have K := is_h J
  obtain ⟨j1, j2, j3, j4, j5, j6⟩ := id K
  obtain ⟨l1, g1⟩ := id e1
  by_cases hx : 0 ≤ x ∧ x ≤ 1
  · rcases Nat.eq_zero_or_pos (nW (sN S)) with h0 | hw
    · refine q_pl (I (-3)) 3 (by omega) (fun h R => ?_) (fun h R => ?_)
      · have R := rc_h R
        simp (disch := omega) only [F_C_teacher, c_other_t hx.1 hx.2 (by omega), bd_s, zero_I, if_true, rn_w R, I_eq, if_neg (show ¬ ¬ (nW (sN S) : Int) = 0 by omega), c_ref3]
      · have R := rm_h R
        simp (disch := omega) only [F_M_teacher, setT_d, hw_s, toI64, m_in, if_pos hx, kw_s, bd_s, zero_I, one_ne, not_false_iff, if_true, rm_w R, I_eq, oz, if_neg (show ¬ ¬ (nW (sN S) : Int) = 0 by omega), lm3, if_false, m_ref3]
    · refine q_pl (I (if ¬ x = 0 then teT (sN S) (nP (sN S)) else te (sN S) (nP (sN S)))) 0 (by omega) (fun h R => ?_) (fun h R => ?_)
      · have R := rc_h R
        have g : L_C_teacher_50 (I x) (I ((2 ^ nB (sN S) - 1 : Nat) : Int)) 5000 (I (-9)) (I (-9)) (I 0) h = _ := l_teC R K hw (nP (sN S)) 0 5000 (by omega) (by omega)
        simp (disch := omega) only [F_C_teacher, c_other_t hx.1 hx.2 (by omega), bd_s, zero_I, if_true, rn_w R, I_eq, if_pos (show ¬ (nW (sN S) : Int) = 0 by omega), c_allBeds R K, g, iw_s, I_ite]
        rfl
      · have R := rm_h R
        have g : L_M_teacher_54 (I x) 5000 (I (-9)) (I (-9)) (I 0) (setT h) = _ := l_teM R K hw (nP (sN S)) 0 5000 (by omega) (by omega)
        simp (disch := omega) only [F_M_teacher, setT_d, hw_s, toI64, m_in, if_pos hx, kw_s, bd_s, zero_I, one_ne, not_false_iff, if_true, rm_w R, I_eq, oz, if_pos (show ¬ (nW (sN S) : Int) = 0 by omega), le00, g, iw_s, I_ite]
        rfl
  · refine q_pl (I (-2)) 2 (by omega) (fun h R => ?_) (fun h R => ?_)
    · simp only [F_C_teacher, c_other_f l1 g1 (show (0:Int) ≤ 1 by omega) (by omega) hx, bd_s, zero_I, one_ne, if_false, c_ref2]
    · simp (disch := omega) only [F_M_teacher, setT_d, hw_s, toI64, m_in, if_neg hx, kw_s, bd_s, zero_I, not_true, if_false, lm2, m_ref2]
-- split
def spV (a : HS) (p q m : Nat) : Int := if sumM a m p (nB a) < sumN a m q (nB a) then sumN a m q (nB a) else sumM a m p (nB a)
def sp (a : HS) (p q : Nat) : Nat → Int
  | 0 => 0
  | n + 1 => if n = 0 then 0 else if spV a p q (sp a p q n).toNat ≤ spV a p q n then sp a p q n else (n : Int)
def spT (a : HS) (p q : Nat) : Nat → Int
  | 0 => 1000000000
  | n + 1 => if spT a p q n ≤ spV a p q n then spT a p q n else spV a p q n
theorem spV_b {a : HS} (J : InvH a) (hw : 0 < nW a) (p q m : Nat) : 0 ≤ spV a p q m ∧ spV a p q m ≤ 3000 := by
  have j1 := J.1
  have q1 := sumM_b J hw m p (nB a)
  have q2 := sumN_b J hw m q (nB a)
  unfold spV
  split <;> omega
theorem sp_f {a : HS} (J : InvH a) (hw : 0 < nW a) (p q : Nat) : ∀ n : Nat, 0 < n → 0 ≤ sp a p q n ∧ sp a p q n < n ∧ spT a p q n = spV a p q (sp a p q n).toNat := by
  intro n
  induction n with
  | zero => intro h; omega
  | succ n ih =>
    intro _
    have qv := spV_b J hw p q n
    by_cases hn : n = 0
    · subst hn
      refine ⟨by show (0:Int) ≤ 0; omega, by show (0:Int) < _; omega, ?_⟩
      show (if (1000000000 : Int) ≤ spV a p q 0 then _ else spV a p q 0) = spV a p q 0
      rw [if_neg (by omega)]
    · obtain ⟨i1, i2, i3⟩ := ih (by omega)
      have e1 : sp a p q (n + 1) = if n = 0 then 0 else if spV a p q (sp a p q n).toNat ≤ spV a p q n then sp a p q n else (n : Int) := rfl
      have e2 : spT a p q (n + 1) = if spT a p q n ≤ spV a p q n then spT a p q n else spV a p q n := rfl
      rw [e1, e2, if_neg hn, i3]
      by_cases c : spV a p q (sp a p q n).toNat ≤ spV a p q n
      · rw [if_pos c, if_pos c]
        exact ⟨by omega, by omega, rfl⟩
      · rw [if_neg c, if_neg c]
        exact ⟨by omega, by omega, by rw [Int.toNat_natCast]⟩
theorem sp_b {a : HS} (J : InvH a) (hw : 0 < nW a) (p q n : Nat) (hn : n ≤ 64) : 0 ≤ sp a p q n ∧ sp a p q n < 65 ∧ 0 ≤ spT a p q n ∧ spT a p q n ≤ 1000000000 := by
  rcases Nat.eq_zero_or_pos n with rfl | h
  · exact ⟨by show (0:Int) ≤ 0; omega, by show (0:Int) < 65; omega, by show (0:Int) ≤ 1000000000; omega, by show (1000000000:Int) ≤ _; omega⟩
  · have f := sp_f J hw p q n h
    have q2 := spV_b J hw p q (sp a p q n).toNat
    omega
section SPL
variable {a : HS} {h : MH}
theorem l_spC (R : RepH 8 a h.1) (J : InvH a) (hw : 0 < nW a) {x3 : Int32} {p q : Nat} (hp : p < nP a) (hq : q < nP a) : ∀ d i n : Nat, i + d = 2 ^ nB a → d < n →
    L_C_split_66 (I p) (I q) x3 (I ((2 ^ nB a - 1 : Nat) : Int)) n (I (sp a p q i)) (I (spT a p q i)) (I i) h = some (I (sp a p q (2 ^ nB a)), I (spT a p q (2 ^ nB a)), h) := by
  obtain ⟨j1, j2, j3, j4, j5, j6⟩ := id J
  have pw : 2 ^ nB a ≤ 64 ∧ 1 ≤ 2 ^ nB a := pow_dec ⟨nB a, by omega⟩
  intro d
  induction d with
  | zero =>
    intro i n e hn
    obtain ⟨k, rfl⟩ := sfuel hn
    have hi : i = 2 ^ nB a := by omega
    simp (disch := omega) only [L_C_split_66, I_lt]
    rw [if_pos (by omega), hi]
  | succ d ih =>
    intro i n e hn
    obtain ⟨k, rfl⟩ := sfuel hn
    have hi : i < 2 ^ nB a := by omega
    have g := ih (i + 1) k (by omega) (by omega)
    have q1 := sumM_b J hw i p (nB a)
    have q2 := sumN_b J hw i q (nB a)
    have qv := spV_b J hw p q i
    have q3 := sp_b J hw p q i (by omega)
    have e0 := sumM_comp J q i hi (nB a) (Nat.le_refl _)
    have en : ((2 ^ nB a - 1 : Nat) : Int) - (i : Int) = ((2 ^ nB a - 1 - i : Nat) : Int) := by omega
    have ev : (if sumM a i p (nB a) < sumN a i q (nB a) then sumN a i q (nB a) else sumM a i p (nB a)) = spV a p q i := rfl
    have e1 : (if spT a p q i ≤ spV a p q i then sp a p q i else (i : Int)) = sp a p q (i + 1) := by
      show _ = (if i = 0 then (0 : Int) else if spV a p q (sp a p q i).toNat ≤ spV a p q i then sp a p q i else (i : Int))
      rcases Nat.eq_zero_or_pos i with rfl | hi
      · rw [if_pos rfl, if_neg (show ¬ (spT a p q 0 ≤ spV a p q 0) by show ¬ ((1000000000 : Int) ≤ spV a p q 0); omega)]
        rfl
      · obtain ⟨i1, i2, i3⟩ := sp_f J hw p q i hi
        rw [if_neg (show ¬ i = 0 by omega), i3]
    simp (disch := omega) only [L_C_split_66, I_lt, if_neg (show ¬ ((2 ^ nB a - 1 : Nat) : Int) < (i : Int) by omega), I_sub, en, c_btOf R J hw (show i < 64 by omega) hp, c_btOf R J hw (show 2 ^ nB a - 1 - i < 64 by omega) hq, e0, bd_s, I_ite, ev, iw_s, I_le, e1, I_succ]
    exact g
theorem l_spM2 (R : RepM a h.1) (J : InvH a) (hw : 0 < nW a) {x3 x5 x6 : Int32} {p q m : Nat} (hp : p < nP a) (hq : q < nP a) (hm : m < 64) : ∀ d i n : Nat, i + d = nB a → d < n →
    L_M_split_100 (I p) (I q) x3 x5 x6 (I m) n (I (sumM a m p i)) (I (sumN a m q i)) (I i) h = some (I (sumM a m p (nB a)), I (sumN a m q (nB a)), h) := by
  obtain ⟨j1, j2, j3, j4, j5, j6⟩ := id J
  intro d
  induction d with
  | zero =>
    intro i n e hn
    obtain ⟨k, rfl⟩ := sfuel hn
    obtain rfl : i = nB a := by omega
    simp (disch := omega) only [L_M_split_100, rm_b R, I_le, if_pos (Int.le_refl _)]
  | succ d ih =>
    intro i n e hn
    obtain ⟨k, rfl⟩ := sfuel hn
    have hi : i < nB a := by omega
    have g := ih (i + 1) k (by omega) (by omega)
    have l := bt_le m i
    have e1 : sumM a m p (i + 1) = sumM a m p i + (if bt m i = 1 then BT a i p else 0) := rfl
    have e2 : sumN a m q (i + 1) = sumN a m q i + (if bt m i = 1 then 0 else BT a i q) := rfl
    rw [e1, e2] at g
    simp (disch := omega) only [L_M_split_100, rm_b R, I_le, if_neg (show ¬ ((nB a : Int) ≤ (i : Int)) by omega), m_hasBit hm (show i < 6 by omega), kw_s, bd_s, zero_I]
    rcases (show bt m i = 0 ∨ bt m i = 1 by omega) with c | c
    · rw [if_neg (by omega), if_neg (by omega)] at g
      simp (disch := omega) only [if_neg (show ¬ bt m i = 1 by omega), if_true, m_bestT R J hi hq hw, bd_s, I_add, I_succ]
      exact g
    · rw [if_pos c, if_pos c] at g
      simp (disch := omega) only [if_pos c, one_ne, if_false, m_bestT R J hi hp hw, bd_s, I_add, I_succ]
      exact g
theorem l_spM (R : RepM a h.1) (J : InvH a) (hw : 0 < nW a) {x3 : Int32} {p q : Nat} (hp : p < nP a) (hq : q < nP a) : ∀ d i n : Nat, i + d = 2 ^ nB a → d < n →
    L_M_split_80 (I p) (I q) x3 n (I (sp a p q i)) (I (if i = 0 then -1 else spT a p q i)) (I i) h = some (I (sp a p q (2 ^ nB a)), I (spT a p q (2 ^ nB a)), h) := by
  obtain ⟨j1, j2, j3, j4, j5, j6⟩ := id J
  have pw : 2 ^ nB a ≤ 64 ∧ 1 ≤ 2 ^ nB a := pow_dec ⟨nB a, by omega⟩
  have two : (I 1 <<< (I (nB a : Int) &&& 31)) = I ((2 ^ nB a : Nat) : Int) := two_dec ⟨nB a, by omega⟩
  intro d
  induction d with
  | zero =>
    intro i n e hn
    obtain ⟨k, rfl⟩ := sfuel hn
    have hi : i = 2 ^ nB a := by omega
    simp (disch := omega) only [L_M_split_80, rm_b R, two, I_le]
    rw [if_pos (by omega), if_neg (by omega), hi]
  | succ d ih =>
    intro i n e hn
    obtain ⟨k, rfl⟩ := sfuel hn
    have hi : i < 2 ^ nB a := by omega
    have g := ih (i + 1) k (by omega) (by omega)
    rw [if_neg (by omega)] at g
    have q1 := sumM_b J hw i p (nB a)
    have q2 := sumN_b J hw i q (nB a)
    have qv := spV_b J hw p q i
    have q3 := sp_b J hw p q i (by omega)
    have ev : (if sumN a i q (nB a) ≤ sumM a i p (nB a) then sumM a i p (nB a) else sumN a i q (nB a)) = spV a p q i := by
      unfold spV
      split <;> split <;> omega
    have g2 : L_M_split_100 (I p) (I q) x3 (I (sp a p q i)) (I (if i = 0 then -1 else spT a p q i)) (I i) 5000 (I 0) (I 0) (I 0) h = _ := l_spM2 R J hw hp hq (show i < 64 by omega) (nB a) 0 5000 (by omega) (by omega)
    simp (disch := omega) only [L_M_split_80, rm_b R, two, I_le, if_neg (show ¬ ((2 ^ nB a : Nat) : Int) ≤ (i : Int) by omega), g2, bd_s, m_least, ev, zero_I]
    rcases Nat.eq_zero_or_pos i with rfl | hi0
    · have s1 : sp a p q (0 + 1) = 0 := rfl
      have s2 : spT a p q (0 + 1) = spV a p q 0 := by
        show (if (1000000000 : Int) ≤ spV a p q 0 then _ else spV a p q 0) = spV a p q 0
        rw [if_neg (by omega)]
      rw [s1, s2] at g
      simp (disch := omega) only [if_true, I_lt, if_pos (show (-1 : Int) < 0 by omega), iw_s, I_succ]
      exact g
    · obtain ⟨i1, i2, i3⟩ := sp_f J hw p q i hi0
      have e1 : (if spT a p q i ≤ spV a p q i then sp a p q i else (i : Int)) = sp a p q (i + 1) := by
        show _ = (if i = 0 then (0 : Int) else if spV a p q (sp a p q i).toNat ≤ spV a p q i then sp a p q i else (i : Int))
        rw [if_neg (show ¬ i = 0 by omega), i3]
      simp (disch := omega) only [if_neg (show ¬ i = 0 by omega), I_lt, if_neg (show ¬ spT a p q i < 0 by omega), I_le, I_ite, e1, iw_s, I_succ]
      exact g
end SPL
