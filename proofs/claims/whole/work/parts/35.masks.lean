theorem q_split {S : SS} (J : InvS S) {x y z : Int} (e1 : i32 x) (e2 : i32 y) (e3 : i32 z) : Q2 S (F_C_split (I x) (I y) (I z)) (F_M_split (I x) (I y) (I z)) := by
  have K := is_h J
  obtain ⟨j1, j2, j3, j4, j5, j6⟩ := id K
  obtain ⟨l3, g3⟩ := id e3
  have pw : 2 ^ nB (sN S) ≤ 64 ∧ 1 ≤ 2 ^ nB (sN S) := pow_dec ⟨nB (sN S), by omega⟩
  by_cases hn : inP (sN S) x ∧ inP (sN S) y ∧ ¬ x = y
  · obtain ⟨hx, hy, hne⟩ := hn
    have ne := ne_I e1 e2 hne
    by_cases hz : 0 ≤ z ∧ z ≤ 1
    · rcases Nat.eq_zero_or_pos (nW (sN S)) with h0 | hw
      · refine q_pl (I (-3)) 3 (by omega) (fun h R => ?_) (fun h R => ?_)
        · have R := rc_h R
          simp (disch := omega) only [F_C_split, c_twoP_t R K hx hy hne, c_other_t hz.1 hz.2 (by omega), bd_s, zero_I, if_true, rn_w R, I_eq, if_neg (show ¬ ¬ (nW (sN S) : Int) = 0 by omega), c_ref3]
        · have R := rm_h R
          simp (disch := omega) only [F_M_split, setT_d, hw_s, m_isOne_t R K hx.1 hx.2, m_isOne_t R K hy.1 hy.2, ne, m_bit_t hz.1 hz.2 (by omega), kw_s, bd_s, zero_I, one_ne, not_true, if_false, rm_w R]
          simp (disch := omega) only [I_eq, if_neg (show ¬ ¬ (nW (sN S) : Int) = 0 by omega), lm3, if_false, m_ref3, bd_s]
      · refine q_pl (I (if ¬ z = 0 then sp (sN S) x.toNat y.toNat (2 ^ nB (sN S)) else spT (sN S) x.toNat y.toNat (2 ^ nB (sN S)))) 0 (by omega) (fun h R => ?_) (fun h R => ?_)
        · obtain ⟨p, hp, rfl⟩ := nn hx
          obtain ⟨q, hq, rfl⟩ := nn hy
          have R := rc_h R
          have g : L_C_split_66 (I p) (I q) (I z) (I ((2 ^ nB (sN S) - 1 : Nat) : Int)) 5000 (I 0) (I 1000000000) (I 0) h = _ := l_spC R K hw hp hq (2 ^ nB (sN S)) 0 5000 (by omega) (by omega)
          simp (disch := omega) only [F_C_split, c_twoP_t R K hx hy hne, c_other_t hz.1 hz.2 (by omega), bd_s, zero_I, if_true, rn_w R, I_eq, if_pos (show ¬ (nW (sN S) : Int) = 0 by omega), c_allBeds R K, g, iw_s, I_ite, Int.toNat_natCast]
          rfl
        · obtain ⟨p, hp, rfl⟩ := nn hx
          obtain ⟨q, hq, rfl⟩ := nn hy
          have R := rm_h R
          have g : L_M_split_80 (I p) (I q) (I z) 5000 (I 0) (I (-1)) (I 0) (setT h) = _ := l_spM R K hw hp hq (2 ^ nB (sN S)) 0 5000 (by omega) (by omega)
          simp (disch := omega) only [F_M_split, setT_d, hw_s, m_isOne_t R K hx.1 hx.2, m_isOne_t R K hy.1 hy.2, ne, m_bit_t hz.1 hz.2 (by omega), kw_s, bd_s, zero_I, one_ne, not_true, if_false, rm_w R]
          simp (disch := omega) only [I_eq, if_pos (show ¬ (nW (sN S) : Int) = 0 by omega), le00, if_true, g, bd_s, iw_s, I_ite, Int.toNat_natCast]
          rfl
    · refine q_pl (I (-2)) 2 (by omega) (fun h R => ?_) (fun h R => ?_)
      · have R := rc_h R
        simp (disch := omega) only [F_C_split, c_twoP_t R K hx hy hne, c_other_f l3 g3 (show (0:Int) ≤ 1 by omega) (by omega) hz, bd_s, zero_I, one_ne, if_true, if_false, c_ref2]
      · have R := rm_h R
        simp (disch := omega) only [F_M_split, setT_d, hw_s, m_isOne_t R K hx.1 hx.2, m_isOne_t R K hy.1 hy.2, ne, m_bit_f e3 (show (0:Int) ≤ 1 by omega) (by omega) hz, kw_s, bd_s, zero_I, one_ne, emm2, not_false_iff, if_true, if_false, lm2, m_ref2]
  · refine q_pl (I (-1)) 1 (by omega) (fun h R => ?_) (fun h R => ?_)
    · simp only [F_C_split, c_twoP_f (rc_h R) K e1 e2 hn, bd_s, zero_I, one_ne, if_false, c_ref1]
    · have R := rm_h R
      by_cases hx : inP (sN S) x
      · by_cases hy : inP (sN S) y
        · have hxy : x = y := Classical.byContradiction fun q => hn ⟨hx, hy, q⟩
          subst hxy
          simp only [F_M_split, setT_d, hw_s, m_isOne_t R K hx.1 hx.2, kw_s, bd_s, zero_I, one_ne, emm1, not_false_iff, lm1, if_false, if_true, m_ref1]
        · simp only [F_M_split, setT_d, hw_s, m_isOne_t R K hx.1 hx.2, m_isOne_f R K e2.1 e2.2 hy, kw_s, bd_s, zero_I, one_ne, emm1, not_false_iff, lm1, if_false, if_true, m_ref1]
      · simp only [F_M_split, setT_d, hw_s, m_isOne_f R K e1.1 e1.2 hx, kw_s, bd_s, zero_I, emm1, not_false_iff, lm1, if_false, if_true, m_ref1]
-- inTime
def iT (a : HS) (p : Nat) (t : Int) : Nat → Nat
  | 0 => 0
  | n + 1 => if t < sumM a n p (nB a) then iT a p t n else if iT a p t n < pc n 6 then pc n 6 else iT a p t n
theorem pc_le (m : Nat) : ∀ n, pc m n ≤ n := by
  intro n
  induction n with
  | zero => exact Nat.le_refl _
  | succ n ih =>
    have := bt_le m n
    show pc m n + bt m n ≤ n + 1
    omega
theorem iT_b (a : HS) (p : Nat) (t : Int) (n : Nat) : iT a p t n ≤ 6 := by
  induction n with
  | zero => show 0 ≤ 6; omega
  | succ n ih =>
    have := pc_le n 6
    show (if t < sumM a n p (nB a) then iT a p t n else if iT a p t n < pc n 6 then pc n 6 else iT a p t n) ≤ 6
    split
    · exact ih
    · split <;> omega
section ITM
variable {a : HS} {h : MH}
theorem l_itC (R : RepH 8 a h.1) (J : InvH a) (hw : 0 < nW a) {p : Nat} {t : Int} (hp : p < nP a) (h0 : 0 ≤ t) (h1 : t ≤ 999) : ∀ d i n : Nat, i + d = 2 ^ nB a → d < n →
    L_C_inTime_70 (I p) (I t) (I ((2 ^ nB a - 1 : Nat) : Int)) n (I ((iT a p t i : Nat) : Int)) (I i) h = some (I ((iT a p t (2 ^ nB a) : Nat) : Int), h) := by
  obtain ⟨j1, j2, j3, j4, j5, j6⟩ := id J
  have pw : 2 ^ nB a ≤ 64 ∧ 1 ≤ 2 ^ nB a := pow_dec ⟨nB a, by omega⟩
  intro d
  induction d with
  | zero =>
    intro i n e hn
    obtain ⟨k, rfl⟩ := sfuel hn
    have hi : i = 2 ^ nB a := by omega
    simp (disch := omega) only [L_C_inTime_70, I_lt]
    rw [if_pos (by omega), hi]
  | succ d ih =>
    intro i n e hn
    obtain ⟨k, rfl⟩ := sfuel hn
    have hi : i < 2 ^ nB a := by omega
    have g := ih (i + 1) k (by omega) (by omega)
    have q1 := sumM_b J hw i p (nB a)
    have b1 := iT_b a p t i
    have b2 := pc_le i 6
    have e1 : iT a p t (i + 1) = (if t < sumM a i p (nB a) then iT a p t i else if iT a p t i < pc i 6 then pc i 6 else iT a p t i) := rfl
    rw [e1] at g
    simp (disch := omega) only [L_C_inTime_70, I_lt, if_neg (show ¬ ((2 ^ nB a - 1 : Nat) : Int) < (i : Int) by omega), c_btOf R J hw (show i < 64 by omega) hp, j_bits (show i < 64 by omega), bd_s, I_succ]
    by_cases c : t < sumM a i p (nB a)
    · rw [if_pos c] at g ⊢
      exact g
    · rw [if_neg c] at g ⊢
      rw [iw_s]
      by_cases c2 : iT a p t i < pc i 6
      · rw [if_pos c2] at g
        rw [if_pos (show ((iT a p t i : Nat) : Int) < ((pc i 6 : Nat) : Int) by omega)]
        exact g
      · rw [if_neg c2] at g
        rw [if_neg (show ¬ ((iT a p t i : Nat) : Int) < ((pc i 6 : Nat) : Int) by omega)]
        exact g
theorem l_itM2 (R : RepM a h.1) (J : InvH a) (hw : 0 < nW a) {x2 x4 : Int32} {p m : Nat} (hp : p < nP a) (hm : m < 64) : ∀ d i n : Nat, i + d = nB a → d < n →
    L_M_inTime_80 (I p) x2 x4 (I m) n (I (sumM a m p i)) (I ((pc m i : Nat) : Int)) (I i) h = some (I (sumM a m p (nB a)), I ((pc m (nB a) : Nat) : Int), h) := by
  obtain ⟨j1, j2, j3, j4, j5, j6⟩ := id J
  intro d
  induction d with
  | zero =>
    intro i n e hn
    obtain ⟨k, rfl⟩ := sfuel hn
    obtain rfl : i = nB a := by omega
    simp (disch := omega) only [L_M_inTime_80, rm_b R, I_le, if_pos (Int.le_refl _)]
  | succ d ih =>
    intro i n e hn
    obtain ⟨k, rfl⟩ := sfuel hn
    have hi : i < nB a := by omega
    have g := ih (i + 1) k (by omega) (by omega)
    have l := bt_le m i
    have e1 : sumM a m p (i + 1) = sumM a m p i + (if bt m i = 1 then BT a i p else 0) := rfl
    have e2 : pc m (i + 1) = pc m i + bt m i := rfl
    rw [e1, e2] at g
    simp (disch := omega) only [L_M_inTime_80, rm_b R, I_le, if_neg (show ¬ ((nB a : Int) ≤ (i : Int)) by omega), m_hasBit hm (show i < 6 by omega), kw_s, bd_s, zero_I]
    rcases (show bt m i = 0 ∨ bt m i = 1 by omega) with c | c
    · rw [if_neg (by omega), c] at g
      simp (disch := omega) only [if_neg (show ¬ bt m i = 1 by omega), if_true, bd_s, iw_s, I_add, I_succ]
      exact g
    · rw [if_pos c, c] at g
      simp (disch := omega) only [if_pos c, one_ne, if_false, m_bestT R J hi hp hw, bd_s, iw_s, I_add, I_succ]
      exact g
theorem l_itM (R : RepM a h.1) (J : InvH a) (hw : 0 < nW a) {p : Nat} {t : Int} (hp : p < nP a) (h0 : 0 ≤ t) (h1 : t ≤ 999) : ∀ d i n : Nat, i + d = 2 ^ nB a → d < n →
    L_M_inTime_60 (I p) (I t) n (I ((iT a p t i : Nat) : Int)) (I i) h = some (I ((iT a p t (2 ^ nB a) : Nat) : Int), h) := by
  obtain ⟨j1, j2, j3, j4, j5, j6⟩ := id J
  have pw : 2 ^ nB a ≤ 64 ∧ 1 ≤ 2 ^ nB a := pow_dec ⟨nB a, by omega⟩
  have two : (I 1 <<< (I (nB a : Int) &&& 31)) = I ((2 ^ nB a : Nat) : Int) := two_dec ⟨nB a, by omega⟩
  intro d
  induction d with
  | zero =>
    intro i n e hn
    obtain ⟨k, rfl⟩ := sfuel hn
    have hi : i = 2 ^ nB a := by omega
    simp (disch := omega) only [L_M_inTime_60, rm_b R, two, I_le]
    rw [if_pos (by omega), hi]
  | succ d ih =>
    intro i n e hn
    obtain ⟨k, rfl⟩ := sfuel hn
    have hi : i < 2 ^ nB a := by omega
    have g := ih (i + 1) k (by omega) (by omega)
    have q1 := sumM_b J hw i p (nB a)
    have b1 := iT_b a p t i
    have b2 := pc_le i 6
    have pe : pc i (nB a) = pc i 6 := pc_dec ⟨nB a, by omega⟩ ⟨i, by omega⟩ hi
    have g2 : L_M_inTime_80 (I p) (I t) (I ((iT a p t i : Nat) : Int)) (I i) 5000 (I 0) (I 0) (I 0) h = _ := l_itM2 R J hw hp (show i < 64 by omega) (nB a) 0 5000 (by omega) (by omega)
    rw [pe] at g2
    have e1 : iT a p t (i + 1) = (if t < sumM a i p (nB a) then iT a p t i else if iT a p t i < pc i 6 then pc i 6 else iT a p t i) := rfl
    rw [e1] at g
    simp (disch := omega) only [L_M_inTime_60, rm_b R, two, I_le, if_neg (show ¬ ((2 ^ nB a : Nat) : Int) ≤ (i : Int) by omega), g2, bd_s, I_lt, I_succ]
    rw [iw_s]
    by_cases c : t < sumM a i p (nB a)
    · rw [if_pos c] at g ⊢
      exact g
    · rw [if_neg c] at g ⊢
      by_cases c2 : iT a p t i < pc i 6
      · rw [if_pos c2] at g
        rw [if_neg (show ¬ ((pc i 6 : Nat) : Int) ≤ ((iT a p t i : Nat) : Int) by omega)]
        exact g
      · rw [if_neg c2] at g
        rw [if_pos (show ((pc i 6 : Nat) : Int) ≤ ((iT a p t i : Nat) : Int) by omega)]
        exact g
end ITM
theorem q_inTime {S : SS} (J : InvS S) {x y : Int} (e1 : i32 x) (e2 : i32 y) : Q2 S (F_C_inTime (I x) (I y)) (F_M_inTime (I x) (I y)) := by
  have K := is_h J
  obtain ⟨j1, j2, j3, j4, j5, j6⟩ := id K
  obtain ⟨l2, g2⟩ := id e2
  have c0 : i32 0 := ⟨by omega, by omega⟩
  have c9 : i32 999 := ⟨by omega, by omega⟩
  have pw : 2 ^ nB (sN S) ≤ 64 ∧ 1 ≤ 2 ^ nB (sN S) := pow_dec ⟨nB (sN S), by omega⟩
  by_cases hx : inP (sN S) x
  · obtain ⟨p, hp, rfl⟩ := nn hx
    by_cases h0 : 0 ≤ y
    · by_cases h1 : y ≤ 999
      · rcases Nat.eq_zero_or_pos (nW (sN S)) with hw0 | hw
        · refine q_pl (I (-3)) 3 (by omega) (fun h R => ?_) (fun h R => ?_)
          · have R := rc_h R
            simp (disch := omega) only [F_C_inTime, c_noOne_t R K hx.1 hx.2, bd_s, zero_I, if_true, I_le, if_pos h0, if_pos h1, rn_w R, I_eq, if_neg (show ¬ ¬ (nW (sN S) : Int) = 0 by omega), c_ref3]
          · have R := rm_h R
            simp (disch := omega) only [F_M_inTime, setT_d, hw_s, m_isOne_t R K hx.1 hx.2, m_num e2 c0 c9, if_pos h0, if_pos h1, kw_s, bd_s, zero_I, one_ne, not_true, if_false, rm_w R]
            simp (disch := omega) only [I_eq, if_neg (show ¬ ¬ (nW (sN S) : Int) = 0 by omega), lm3, if_false, m_ref3, bd_s]
        · refine q_pl (I ((iT (sN S) p y (2 ^ nB (sN S)) : Nat) : Int)) 0 (by omega) (fun h R => ?_) (fun h R => ?_)
          · have R := rc_h R
            have g : L_C_inTime_70 (I p) (I y) (I ((2 ^ nB (sN S) - 1 : Nat) : Int)) 5000 (I 0) (I 0) h = _ := l_itC R K hw hp h0 h1 (2 ^ nB (sN S)) 0 5000 (by omega) (by omega)
            simp (disch := omega) only [F_C_inTime, c_noOne_t R K hx.1 hx.2, bd_s, zero_I, if_true, I_le, if_pos h0, if_pos h1, rn_w R, I_eq, if_pos (show ¬ (nW (sN S) : Int) = 0 by omega), c_allBeds R K, g]
            rfl
          · have R := rm_h R
            have g : L_M_inTime_60 (I p) (I y) 5000 (I 0) (I 0) (setT h) = _ := l_itM R K hw hp h0 h1 (2 ^ nB (sN S)) 0 5000 (by omega) (by omega)
            simp (disch := omega) only [F_M_inTime, setT_d, hw_s, m_isOne_t R K hx.1 hx.2, m_num e2 c0 c9, if_pos h0, if_pos h1, kw_s, bd_s, zero_I, one_ne, not_true, if_false, rm_w R]
            simp (disch := omega) only [I_eq, if_pos (show ¬ (nW (sN S) : Int) = 0 by omega), le00, if_true, g, bd_s]
            rfl
      · refine q_pl (I (-6)) 6 (by omega) (fun h R => ?_) (fun h R => ?_)
        · have R := rc_h R
          simp (disch := omega) only [F_C_inTime, c_noOne_t R K hx.1 hx.2, bd_s, zero_I, if_true, I_le, if_pos h0, if_neg h1, c_ref6]
        · have R := rm_h R
          simp (disch := omega) only [F_M_inTime, setT_d, hw_s, m_isOne_t R K hx.1 hx.2, m_num e2 c0 c9, if_pos h0, if_neg h1, kw_s, bd_s, zero_I, one_ne, emm6, not_false_iff, if_true, if_false, lm6, m_ref6]
    · refine q_pl (I (-4)) 4 (by omega) (fun h R => ?_) (fun h R => ?_)
      · have R := rc_h R
        simp (disch := omega) only [F_C_inTime, c_noOne_t R K hx.1 hx.2, bd_s, zero_I, if_true, I_le, if_neg h0, c_ref4]
      · have R := rm_h R
        simp (disch := omega) only [F_M_inTime, setT_d, hw_s, m_isOne_t R K hx.1 hx.2, m_num e2 c0 c9, if_neg h0, kw_s, bd_s, zero_I, one_ne, emm4, not_false_iff, if_true, if_false, lm4, m_ref4]
  · refine q_pl (I (-1)) 1 (by omega) (fun h R => ?_) (fun h R => ?_)
    · simp only [F_C_inTime, c_noOne_f (rc_h R) K e1.1 e1.2 hx, bd_s, zero_I, one_ne, if_false, c_ref1]
    · simp only [F_M_inTime, setT_d, hw_s, m_isOne_f (rm_h R) K e1.1 e1.2 hx, kw_s, bd_s, zero_I, emm1, not_false_iff, if_true, if_false, lm1, m_ref1]
