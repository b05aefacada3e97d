-- 39 half, 36 rather
theorem oz : ((1 : Int) = 0) = False := eq_false (by omega)
def hHalf (a : HS) (w p b : Nat) : Int := if 6 * sShake (sFo a b b (hK a w) (hF a w)) (sFew (hA a p)) ≤ sTw a b w p then 0 else 1
def sHalf (a : HS) (w p : Nat) : Nat → Int
  | 0 => 0
  | n + 1 => sHalf a w p n + hHalf a w p n
theorem hHalf_b (a : HS) (w p b : Nat) : 0 ≤ hHalf a w p b ∧ hHalf a w p b ≤ 1 := by unfold hHalf; split <;> omega
theorem sHalf_b (a : HS) (w p n : Nat) : 0 ≤ sHalf a w p n ∧ sHalf a w p n ≤ n := by
  induction n with
  | zero => exact ⟨by show (0:Int) ≤ 0; omega, by show (0:Int) ≤ _; omega⟩
  | succ n ih =>
    have := hHalf_b a w p n
    show 0 ≤ sHalf a w p n + hHalf a w p n ∧ sHalf a w p n + hHalf a w p n ≤ _
    omega
def hRat (a : HS) (v w p b : Nat) : Int := if sTw a b v p < sTw a b w p then 1 else 0
def hRtE (a : HS) (v w p b : Nat) : Int := if sTw a b v p = sTw a b w p then 1 else 0
def sRat (a : HS) (v w p : Nat) : Nat → Int
  | 0 => 0
  | n + 1 => sRat a v w p n + hRat a v w p n
def sRtE (a : HS) (v w p : Nat) : Nat → Int
  | 0 => 0
  | n + 1 => sRtE a v w p n + hRtE a v w p n
section HR
variable {a : HS} {h : MH}
theorem l_halfC (R : RepH 8 a h.1) (J : InvH a) {w p : Nat} (hw : w < nW a) (hp : p < nP a) : ∀ d i n : Nat, i + d = nB a → d < n →
    L_C_half_27 (I w) (I p) n (I (sHalf a w p i)) (I i) h = some (I (sHalf a w p (nB a)), h) := by
  obtain ⟨j1, j2, j3, j4, j5, j6⟩ := id J
  have hw6 := j6 w
  have hp5 := j5 p
  have q4 := sFew_b hp5.1 hp5.2.1
  intro d
  induction d with
  | zero =>
    intro i n e hn
    obtain ⟨m, rfl⟩ := sfuel hn
    obtain rfl : i = nB a := by omega
    simp (disch := omega) only [L_C_half_27, rn_b R, I_le, if_pos (Int.le_refl _)]
  | succ d ih =>
    intro i n e hn
    obtain ⟨m, rfl⟩ := sfuel hn
    have hi : i < nB a := by omega
    have g := ih (i + 1) m (by omega) (by omega)
    have q3 := sFo_b J i i (k := hK a w) hw6.2.2.1 hw6.2.2.2
    have q7 := sShake_b q3.1 q3.2 q4.1 (by omega)
    have q6 := sTw_b J i w p
    have eq : 2 * (3 * sShake (sFo a i i (hK a w) (hF a w)) (sFew (hA a p))) = 6 * sShake (sFo a i i (hK a w) (hF a w)) (sFew (hA a p)) := by omega
    have e1 : (if 6 * sShake (sFo a i i (hK a w) (hF a w)) (sFew (hA a p)) ≤ sTw a i w p then sHalf a w p i else sHalf a w p i + 1) = sHalf a w p (i + 1) := by
      show _ = sHalf a w p i + (if 6 * sShake (sFo a i i (hK a w) (hF a w)) (sFew (hA a p)) ≤ sTw a i w p then (0 : Int) else 1)
      split <;> omega
    simp (disch := omega) only [L_C_half_27, rn_b R, I_le, if_neg (show ¬ ((nB a : Int) ≤ (i : Int)) by omega), c_shakes R J hi hw hp, c_timeBy R J hi hw hp, bd_s, I_mul, eq, I_add, I_ite, e1, iw_s]
    exact g
theorem l_halfM (R : RepM a h.1) (J : InvH a) {w p : Nat} (hw : w < nW a) (hp : p < nP a) : ∀ d i n : Nat, i + d = nB a → d < n →
    L_M_half_32 (I w) (I p) n (I (sHalf a w p i)) (I i) h = some (I (sHalf a w p (nB a)), h) := by
  obtain ⟨j1, j2, j3, j4, j5, j6⟩ := id J
  have hw6 := j6 w
  have hp5 := j5 p
  have q4 := sFew_b hp5.1 hp5.2.1
  intro d
  induction d with
  | zero =>
    intro i n e hn
    obtain ⟨m, rfl⟩ := sfuel hn
    obtain rfl : i = nB a := by omega
    simp (disch := omega) only [L_M_half_32, rm_b R, I_le, if_pos (Int.le_refl _)]
  | succ d ih =>
    intro i n e hn
    obtain ⟨m, rfl⟩ := sfuel hn
    have hi : i < nB a := by omega
    have g := ih (i + 1) m (by omega) (by omega)
    have q3 := sFo_b J i i (k := hK a w) hw6.2.2.1 hw6.2.2.2
    have q7 := sShake_b q3.1 q3.2 q4.1 (by omega)
    have q6 := sTw_b J i w p
    simp (disch := omega) only [L_M_half_32, rm_b R, I_le, if_neg (show ¬ ((nB a : Int) ≤ (i : Int)) by omega), m_foldsOf R J hi hw, ck_in, I_nat, Int.toNat_natCast, rm_a R hp, m_few, m_shakes, m_timeOf R J hi hw hp, bd_s, I_mul, I_ite, iw_s, I_add, I_succ]
    exact g
theorem l_ratC (R : RepH 8 a h.1) (J : InvH a) {v w p : Nat} {u : Int32} (hv : v < nW a) (hw : w < nW a) (hp : p < nP a) : ∀ d i n : Nat, i + d = nB a → d < n →
    L_C_rather_48 (I v) (I w) (I p) u n (I (sRat a v w p i)) (I (sRtE a v w p i)) (I i) h = some (I (sRat a v w p (nB a)), I (sRtE a v w p (nB a)), h) := by
  obtain ⟨j1, j2, j3, j4, j5, j6⟩ := id J
  intro d
  induction d with
  | zero =>
    intro i n e hn
    obtain ⟨m, rfl⟩ := sfuel hn
    obtain rfl : i = nB a := by omega
    simp (disch := omega) only [L_C_rather_48, rn_b R, I_le, if_pos (Int.le_refl _)]
  | succ d ih =>
    intro i n e hn
    obtain ⟨m, rfl⟩ := sfuel hn
    have hi : i < nB a := by omega
    have g := ih (i + 1) m (by omega) (by omega)
    have q5 := sTw_b J i v p
    have q6 := sTw_b J i w p
    have e1 : (if sTw a i w p - sTw a i v p ≤ 0 then sRat a v w p i else sRat a v w p i + 1) = sRat a v w p (i + 1) := by
      show _ = sRat a v w p i + (if sTw a i v p < sTw a i w p then (1 : Int) else 0)
      split <;> split <;> omega
    have e2 : (if sTw a i w p - sTw a i v p ≤ 0 then (if ¬ sTw a i w p - sTw a i v p = 0 then sRtE a v w p i else sRtE a v w p i + 1) else sRtE a v w p i) = sRtE a v w p (i + 1) := by
      show _ = sRtE a v w p i + (if sTw a i v p = sTw a i w p then (1 : Int) else 0)
      split <;> split <;> (try split) <;> omega
    simp (disch := omega) only [L_C_rather_48, rn_b R, I_le, if_neg (show ¬ ((nB a : Int) ≤ (i : Int)) by omega), c_timeBy R J hi hw hp, c_timeBy R J hi hv hp, bd_s, I_sub, zero_I, I_eq, ite_self, I_add, I_ite, e1, e2, iw_s]
    exact g
theorem l_ratM0 (R : RepM a h.1) (J : InvH a) {v w p : Nat} (hv : v < nW a) (hw : w < nW a) (hp : p < nP a) : ∀ d i n : Nat, i + d = nB a → d < n →
    L_M_rather_65 (I v) (I w) (I p) (I 0) n (I (sRat a v w p i)) (I i) h = some (I (sRat a v w p (nB a)), h) := by
  obtain ⟨j1, j2, j3, j4, j5, j6⟩ := id J
  intro d
  induction d with
  | zero =>
    intro i n e hn
    obtain ⟨m, rfl⟩ := sfuel hn
    obtain rfl : i = nB a := by omega
    simp (disch := omega) only [L_M_rather_65, rm_b R, I_le, if_pos (Int.le_refl _)]
  | succ d ih =>
    intro i n e hn
    obtain ⟨m, rfl⟩ := sfuel hn
    have hi : i < nB a := by omega
    have g := ih (i + 1) m (by omega) (by omega)
    have q5 := sTw_b J i v p
    have q6 := sTw_b J i w p
    have e1 : sRat a v w p i + (if sTw a i v p - sTw a i w p < 0 then 1 else 0) = sRat a v w p (i + 1) := by
      show _ = sRat a v w p i + (if sTw a i v p < sTw a i w p then (1 : Int) else 0)
      split <;> split <;> omega
    simp (disch := omega) only [L_M_rather_65, rm_b R, I_le, if_neg (show ¬ ((nB a : Int) ≤ (i : Int)) by omega), m_timeOf R J hi hw hp, m_timeOf R J hi hv hp, bd_s, I_sub, zero_I, zero_ne_one, not_true, not_false_iff, if_true, if_false, I_lt, I_ite, iw_s, I_add, e1]
    exact g
theorem l_ratM1 (R : RepM a h.1) (J : InvH a) {v w p : Nat} (hv : v < nW a) (hw : w < nW a) (hp : p < nP a) : ∀ d i n : Nat, i + d = nB a → d < n →
    L_M_rather_65 (I v) (I w) (I p) (I 1) n (I (sRtE a v w p i)) (I i) h = some (I (sRtE a v w p (nB a)), h) := by
  obtain ⟨j1, j2, j3, j4, j5, j6⟩ := id J
  intro d
  induction d with
  | zero =>
    intro i n e hn
    obtain ⟨m, rfl⟩ := sfuel hn
    obtain rfl : i = nB a := by omega
    simp (disch := omega) only [L_M_rather_65, rm_b R, I_le, if_pos (Int.le_refl _)]
  | succ d ih =>
    intro i n e hn
    obtain ⟨m, rfl⟩ := sfuel hn
    have hi : i < nB a := by omega
    have g := ih (i + 1) m (by omega) (by omega)
    have q5 := sTw_b J i v p
    have q6 := sTw_b J i w p
    have e1 : sRtE a v w p i + (if ¬ sTw a i v p - sTw a i w p = 0 then 0 else 1) = sRtE a v w p (i + 1) := by
      show _ = sRtE a v w p i + (if sTw a i v p = sTw a i w p then (1 : Int) else 0)
      split <;> split <;> omega
    simp (disch := omega) only [L_M_rather_65, rm_b R, I_le, if_neg (show ¬ ((nB a : Int) ≤ (i : Int)) by omega), m_timeOf R J hi hw hp, m_timeOf R J hi hv hp, bd_s, I_sub, zero_I, one_ne, oz, not_true, not_false_iff, if_true, if_false, I_eq, I_ite, iw_s, I_add, e1]
    exact g
end HR
theorem q_half {S : SS} (J : InvS S) {y z : Int} (e2 : i32 y) (e3 : i32 z) : Q2 S (F_C_half (I y) (I z)) (F_M_half (I y) (I z)) := by
  have K := is_h J
  by_cases hy : inW (sN S) y
  · by_cases hz : inP (sN S) z
    · obtain ⟨w, hw, rfl⟩ := nn hy
      obtain ⟨p, hp, rfl⟩ := nn hz
      refine q_pl (I (sHalf (sN S) w p (nB (sN S)))) 0 (by omega) (fun h R => ?_) (fun h R => ?_)
      · have R := rc_h R
        have g : L_C_half_27 (I w) (I p) 5000 (I 0) (I 0) h = _ := l_halfC R K hw hp (nB (sN S)) 0 5000 (by omega) (by have := K.1; omega)
        simp only [F_C_half, c_noWay_t R K hy.1 hy.2, c_noOne_t R K hz.1 hz.2, bd_s, zero_I, not_true, if_false, if_true, g]
        rfl
      · have R := rm_h R
        have g : L_M_half_32 (I w) (I p) 5000 (I 0) (I 0) (setT h) = _ := l_halfM R K hw hp (nB (sN S)) 0 5000 (by omega) (by have := K.1; omega)
        simp only [F_M_half, setT_d, hw_s, m_isWay_t R K hy.1 hy.2, m_isOne_t R K hz.1 hz.2, bd_s, zero_I, one_ne, not_false_iff, if_false, if_true, g]
        rfl
    · refine q_pl (I (-1)) 1 (by omega) (fun h R => ?_) (fun h R => ?_)
      · simp only [F_C_half, c_noWay_t (rc_h R) K hy.1 hy.2, c_noOne_f (rc_h R) K e3.1 e3.2 hz, bd_s, zero_I, one_ne, not_true, if_false, c_ref1]
      · simp only [F_M_half, setT_d, hw_s, m_isWay_t (rm_h R) K hy.1 hy.2, m_isOne_f (rm_h R) K e3.1 e3.2 hz, bd_s, zero_I, one_ne, not_true, if_false, m_ref1]
  · refine q_pl (I (-1)) 1 (by omega) (fun h R => ?_) (fun h R => ?_)
    · simp only [F_C_half, c_noWay_f (rc_h R) K e2.1 e2.2 hy, bd_s, zero_I, one_ne, not_false_iff, if_true, c_ref1]
    · simp only [F_M_half, setT_d, hw_s, m_isWay_f (rm_h R) K e2.1 e2.2 hy, bd_s, zero_I, if_true, m_ref1]
theorem q_rather {S : SS} (J : InvS S) {x y z u : Int} (e1 : i32 x) (e2 : i32 y) (e3 : i32 z) (e4 : i32 u) : Q2 S (F_C_rather (I x) (I y) (I z) (I u)) (F_M_rather (I x) (I y) (I z) (I u)) := by
  have K := is_h J
  by_cases hn : inW (sN S) x ∧ inW (sN S) y ∧ ¬ x = y
  · obtain ⟨hx, hy, hne⟩ := hn
    have ne := ne_I e1 e2 hne
    by_cases hz : inP (sN S) z
    · by_cases hu : 0 ≤ u ∧ u ≤ 1
      · obtain ⟨v, hv, rfl⟩ := nn hx
        obtain ⟨w, hw, rfl⟩ := nn hy
        obtain ⟨p, hp, rfl⟩ := nn hz
        rcases (show u = 0 ∨ u = 1 by omega) with rfl | rfl
        · refine q_pl (I (sRat (sN S) v w p (nB (sN S)))) 0 (by omega) (fun h R => ?_) (fun h R => ?_)
          · have R := rc_h R
            have g : L_C_rather_48 (I v) (I w) (I p) (I 0) 5000 (I 0) (I 0) (I 0) h = _ := l_ratC R K hv hw hp (nB (sN S)) 0 5000 (by omega) (by have := K.1; omega)
            simp (disch := omega) only [F_C_rather, c_twoW_t R K hx hy hne, c_noOne_t R K hz.1 hz.2, c_other_t hu.1 hu.2 (by omega), bd_s, zero_I, not_true, if_false, if_true, g, iw_s]
            rfl
          · have R := rm_h R
            have g : L_M_rather_65 (I v) (I w) (I p) (I 0) 5000 (I 0) (I 0) (setT h) = _ := l_ratM0 R K hv hw hp (nB (sN S)) 0 5000 (by omega) (by have := K.1; omega)
            simp (disch := omega) only [F_M_rather, setT_d, hw_s, m_isWay_t R K hx.1 hx.2, m_isWay_t R K hy.1 hy.2, m_isOne_t R K hz.1 hz.2, m_bit_t hu.1 hu.2 (by omega), kw_s, bd_s, zero_I, one_ne, ne, not_true, le00, if_false, if_true, g]
            rfl
        · refine q_pl (I (sRtE (sN S) v w p (nB (sN S)))) 0 (by omega) (fun h R => ?_) (fun h R => ?_)
          · have R := rc_h R
            have g : L_C_rather_48 (I v) (I w) (I p) (I 1) 5000 (I 0) (I 0) (I 0) h = _ := l_ratC R K hv hw hp (nB (sN S)) 0 5000 (by omega) (by have := K.1; omega)
            simp (disch := omega) only [F_C_rather, c_twoW_t R K hx hy hne, c_noOne_t R K hz.1 hz.2, c_other_t hu.1 hu.2 (by omega), bd_s, zero_I, one_ne, not_true, not_false_iff, if_false, if_true, g, iw_s]
            rfl
          · have R := rm_h R
            have g : L_M_rather_65 (I v) (I w) (I p) (I 1) 5000 (I 0) (I 0) (setT h) = _ := l_ratM1 R K hv hw hp (nB (sN S)) 0 5000 (by omega) (by have := K.1; omega)
            simp (disch := omega) only [F_M_rather, setT_d, hw_s, m_isWay_t R K hx.1 hx.2, m_isWay_t R K hy.1 hy.2, m_isOne_t R K hz.1 hz.2, m_bit_t hu.1 hu.2 (by omega), kw_s, bd_s, zero_I, one_ne, ne, not_true, le00, if_false, if_true, g]
            rfl
      · refine q_pl (I (-2)) 2 (by omega) (fun h R => ?_) (fun h R => ?_)
        · have R := rc_h R
          simp (disch := omega) only [F_C_rather, c_twoW_t R K hx hy hne, c_noOne_t R K hz.1 hz.2, c_other_f e4.1 e4.2 (show (0:Int) ≤ 1 by omega) (by omega) hu, bd_s, zero_I, one_ne, not_true, if_false, if_true, c_ref2]
        · have R := rm_h R
          simp (disch := omega) only [F_M_rather, setT_d, hw_s, m_isWay_t R K hx.1 hx.2, m_isWay_t R K hy.1 hy.2, m_isOne_t R K hz.1 hz.2, m_bit_f e4 (show (0:Int) ≤ 1 by omega) (by omega) hu, kw_s, bd_s, zero_I, one_ne, ne, lm2, if_false, m_ref2]
    · refine q_pl (I (-1)) 1 (by omega) (fun h R => ?_) (fun h R => ?_)
      · simp only [F_C_rather, c_twoW_t (rc_h R) K hx hy hne, c_noOne_f (rc_h R) K e3.1 e3.2 hz, bd_s, zero_I, one_ne, not_true, if_false, c_ref1]
      · have R := rm_h R
        simp only [F_M_rather, setT_d, hw_s, m_isWay_t R K hx.1 hx.2, m_isWay_t R K hy.1 hy.2, m_isOne_f R K e3.1 e3.2 hz, kw_s, bd_s, zero_I, one_ne, ne, lm1, if_false, if_true, m_ref1]
  · refine q_pl (I (-1)) 1 (by omega) (fun h R => ?_) (fun h R => ?_)
    · simp only [F_C_rather, c_twoW_f (rc_h R) K e1 e2 hn, bd_s, zero_I, one_ne, not_false_iff, if_true, c_ref1]
    · have R := rm_h R
      by_cases hx : inW (sN S) x
      · by_cases hy : inW (sN S) y
        · have hxy : x = y := Classical.byContradiction fun q => hn ⟨hx, hy, q⟩
          subst hxy
          simp only [F_M_rather, setT_d, hw_s, m_isWay_t R K hx.1 hx.2, kw_s, bd_s, zero_I, one_ne, lm1, if_false, if_true, m_ref1]
        · simp only [F_M_rather, setT_d, hw_s, m_isWay_t R K hx.1 hx.2, m_isWay_f R K e2.1 e2.2 hy, kw_s, bd_s, zero_I, one_ne, lm1, if_false, if_true, m_ref1]
      · simp only [F_M_rather, setT_d, hw_s, m_isWay_f R K e1.1 e1.2 hx, kw_s, bd_s, zero_I, lm1, if_false, if_true, m_ref1]
