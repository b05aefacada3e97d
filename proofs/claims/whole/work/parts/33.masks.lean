-- sets of beds as masks
def bt (m i : Nat) : Nat := m / 2 ^ i % 2
theorem bit_dec : ∀ m : Fin 64, ∀ i : Fin 6, ((I ((m : Nat) : Int) >>> (I ((i : Nat) : Int) &&& 31)) &&& I 1) = I ((bt m i : Nat) : Int) := by decide +kernel
theorem all_dec : ∀ n : Fin 7, (I 1 <<< (I ((n : Nat) : Int) &&& 31)) - I 1 = I ((2 ^ (n : Nat) - 1 : Nat) : Int) := by decide +kernel
theorem two_dec : ∀ n : Fin 7, (I 1 <<< (I ((n : Nat) : Int) &&& 31)) = I ((2 ^ (n : Nat) : Nat) : Int) := by decide +kernel
theorem full_dec : ∀ n : Fin 7, ∀ i : Fin 6, (i : Nat) < n → bt (2 ^ (n : Nat) - 1) i = 1 := by decide +kernel
theorem comp_dec : ∀ n : Fin 7, ∀ m : Fin 64, ∀ i : Fin 6, (m : Nat) < 2 ^ (n : Nat) → (i : Nat) < n → bt (2 ^ (n : Nat) - 1 - m) i = 1 - bt m i := by decide +kernel
theorem pow_dec : ∀ n : Fin 7, 2 ^ (n : Nat) ≤ 64 ∧ 1 ≤ 2 ^ (n : Nat) := by decide +kernel
theorem bt_le (m i : Nat) : bt m i ≤ 1 := by unfold bt; omega
def pc (m : Nat) : Nat → Nat
  | 0 => 0
  | n + 1 => pc m n + bt m n
def bcv (x0 : Int32) : Int32 :=
  let v1 := x0 - (((Int32.toUInt32 x0 >>> (Int32.toUInt32 (I 1) &&& Int32.toUInt32 31)).toInt32) &&& (I 1431655765))
  let v2 := (v1 &&& (I 858993459)) + (((Int32.toUInt32 v1 >>> (Int32.toUInt32 (I 2) &&& Int32.toUInt32 31)).toInt32) &&& (I 858993459))
  let v3 := (v2 + ((Int32.toUInt32 v2 >>> (Int32.toUInt32 (I 4) &&& Int32.toUInt32 31)).toInt32)) &&& (I 252645135)
  let v4 := v3 + ((Int32.toUInt32 v3 >>> (Int32.toUInt32 (I 8) &&& Int32.toUInt32 31)).toInt32)
  let v5 := v4 + ((Int32.toUInt32 v4 >>> (Int32.toUInt32 (I 16) &&& Int32.toUInt32 31)).toInt32)
  v5 &&& (I 63)
theorem bc_dec : ∀ m : Fin 64, bcv (I ((m : Nat) : Int)) = I ((pc m 6 : Nat) : Int) := by decide +kernel
theorem pc_dec : ∀ n : Fin 7, ∀ m : Fin 64, (m : Nat) < 2 ^ (n : Nat) → pc m n = pc m 6 := by decide +kernel
theorem j_bits {m : Nat} (hm : m < 64) (h : MH) : F_J_bitCount (I m) h = some (I ((pc m 6 : Nat) : Int), h) := by
  have e : F_J_bitCount (I m) h = some (bcv (I m), h) := rfl
  rw [e, bc_dec ⟨m, hm⟩]
abbrev BT (a : HS) (b p : Nat) : Int := bestT a b p (nW a)
def sumM (a : HS) (m p : Nat) : Nat → Int
  | 0 => 0
  | n + 1 => sumM a m p n + (if bt m n = 1 then BT a n p else 0)
def sumB (a : HS) (p : Nat) : Nat → Int
  | 0 => 0
  | n + 1 => sumB a p n + BT a n p
/-- those not in the mask -/
def sumN (a : HS) (m p : Nat) : Nat → Int
  | 0 => 0
  | n + 1 => sumN a m p n + (if bt m n = 1 then 0 else BT a n p)
theorem BT_b {a : HS} (J : InvH a) (hw : 0 < nW a) (b p : Nat) : 0 ≤ BT a b p ∧ BT a b p ≤ 432 := by
  have q := bestT_b J b p (nW a)
  exact ⟨q.1, q.2.2 hw⟩
theorem sumM_b {a : HS} (J : InvH a) (hw : 0 < nW a) (m p n : Nat) : 0 ≤ sumM a m p n ∧ sumM a m p n ≤ 432 * n := by
  induction n with
  | zero => exact ⟨by show (0:Int) ≤ 0; omega, by show (0:Int) ≤ _; omega⟩
  | succ n ih =>
    have q := BT_b J hw n p
    show 0 ≤ sumM a m p n + (if bt m n = 1 then BT a n p else 0) ∧ sumM a m p n + (if bt m n = 1 then BT a n p else 0) ≤ _
    split <;> omega
theorem sumN_b {a : HS} (J : InvH a) (hw : 0 < nW a) (m p n : Nat) : 0 ≤ sumN a m p n ∧ sumN a m p n ≤ 432 * n := by
  induction n with
  | zero => exact ⟨by show (0:Int) ≤ 0; omega, by show (0:Int) ≤ _; omega⟩
  | succ n ih =>
    have q := BT_b J hw n p
    show 0 ≤ sumN a m p n + (if bt m n = 1 then 0 else BT a n p) ∧ sumN a m p n + (if bt m n = 1 then 0 else BT a n p) ≤ _
    split <;> omega
theorem sumB_b {a : HS} (J : InvH a) (hw : 0 < nW a) (p n : Nat) : 0 ≤ sumB a p n ∧ sumB a p n ≤ 432 * n := by
  induction n with
  | zero => exact ⟨by show (0:Int) ≤ 0; omega, by show (0:Int) ≤ _; omega⟩
  | succ n ih =>
    have q := BT_b J hw n p
    show 0 ≤ sumB a p n + BT a n p ∧ sumB a p n + BT a n p ≤ _
    omega
theorem sumM_full {a : HS} (J : InvH a) (p : Nat) : ∀ n, n ≤ nB a → sumM a (2 ^ nB a - 1) p n = sumB a p n := by
  intro n
  induction n with
  | zero => intro _; rfl
  | succ n ih =>
    intro hn
    have j := J.1
    show sumM a (2 ^ nB a - 1) p n + (if bt (2 ^ nB a - 1) n = 1 then BT a n p else 0) = sumB a p n + BT a n p
    rw [ih (by omega), if_pos (full_dec ⟨nB a, by omega⟩ ⟨n, by omega⟩ (by show n < nB a; omega))]
theorem sumM_comp {a : HS} (J : InvH a) (p m : Nat) (hm : m < 2 ^ nB a) : ∀ n, n ≤ nB a → sumM a (2 ^ nB a - 1 - m) p n = sumN a m p n := by
  intro n
  induction n with
  | zero => intro _; rfl
  | succ n ih =>
    intro hn
    have j := J.1
    have pw := (pow_dec ⟨nB a, by omega⟩).1
    have e : bt (2 ^ nB a - 1 - m) n = 1 - bt m n := comp_dec ⟨nB a, by omega⟩ ⟨m, by have : 2 ^ nB a ≤ 64 := pw; omega⟩ ⟨n, by omega⟩ hm (by show n < nB a; omega)
    have l := bt_le m n
    show sumM a (2 ^ nB a - 1 - m) p n + (if bt (2 ^ nB a - 1 - m) n = 1 then BT a n p else 0) = sumN a m p n + (if bt m n = 1 then 0 else BT a n p)
    rw [ih (by omega), e]
    rcases (show bt m n = 0 ∨ bt m n = 1 by omega) with q | q <;> rw [q] <;> rfl
section MK
variable {a : HS} {h : MH}
theorem bitI {m i : Nat} (hm : m < 64) (hi : i < 6) : ((I (m : Int) >>> (I (i : Int) &&& 31)) &&& I 1) = I ((bt m i : Nat) : Int) := bit_dec ⟨m, hm⟩ ⟨i, hi⟩
theorem l_btOf (R : RepH 8 a h.1) (J : InvH a) (hw : 0 < nW a) {m p : Nat} (hm : m < 64) (hp : p < nP a) : ∀ d i n : Nat, i + d = nB a → d < n →
    L_H_bestTimeOf_5 (I m) (I p) n (I (sumM a m p i)) (I i) h = some (I (sumM a m p (nB a)), h) := by
  obtain ⟨j1, j2, j3, j4, j5, j6⟩ := id J
  intro d
  induction d with
  | zero =>
    intro i n e hn
    obtain ⟨k, rfl⟩ := sfuel hn
    obtain rfl : i = nB a := by omega
    simp (disch := omega) only [L_H_bestTimeOf_5, rn_b R, I_le, if_pos (Int.le_refl _)]
  | succ d ih =>
    intro i n e hn
    obtain ⟨k, rfl⟩ := sfuel hn
    have hi : i < nB a := by omega
    have g := ih (i + 1) k (by omega) (by omega)
    have l := bt_le m i
    simp (disch := omega) only [L_H_bestTimeOf_5, rn_b R, I_le, if_neg (show ¬ ((nB a : Int) ≤ (i : Int)) by omega), bitI hm (show i < 6 by omega), I_eq, c_bestTime R J hi hp, bd_s, I_add, I_succ]
    have e1 : sumM a m p (i + 1) = sumM a m p i + (if bt m i = 1 then BT a i p else 0) := rfl
    rw [e1] at g
    rcases (show bt m i = 0 ∨ bt m i = 1 by omega) with q | q
    · rw [q, if_neg (by omega), Int.add_zero] at g
      rw [q, if_pos (by omega)]
      exact g
    · rw [q, if_pos rfl] at g
      rw [q, if_neg (by omega)]
      exact g
theorem c_btOf (R : RepH 8 a h.1) (J : InvH a) (hw : 0 < nW a) {m p : Nat} (hm : m < 64) (hp : p < nP a) : F_H_bestTimeOf (I m) (I p) h = some (I (sumM a m p (nB a)), h) := by
  have g : L_H_bestTimeOf_5 (I m) (I p) 5000 (I 0) (I 0) h = _ := l_btOf R J hw hm hp (nB a) 0 5000 (by omega) (by have := J.1; omega)
  simp only [F_H_bestTimeOf, g, bd_s]
theorem c_allBeds (R : RepH 8 a h.1) (J : InvH a) : F_H_allBeds h = some (I ((2 ^ nB a - 1 : Nat) : Int), h) := by
  have e := all_dec ⟨nB a, by have := J.1; omega⟩
  simp only [F_H_allBeds, rn_b R]
  rw [show (I 1 <<< (I (nB a : Int) &&& 31)) - I 1 = I ((2 ^ nB a - 1 : Nat) : Int) from e]
theorem m_hasBit {m i : Nat} (hm : m < 64) (hi : i < 6) : F_M_hasBit (I m) (I i) h = some (I (if bt m i = 1 then 1 else 0), h) := by
  have l := bt_le m i
  simp (disch := omega) only [F_M_hasBit, bitI hm hi, I_eq, iw_s]
  rcases (show bt m i = 0 ∨ bt m i = 1 by omega) with q | q
  · rw [q, if_pos (by omega)]
    exact cd_t (by decide)
  · rw [q, if_neg (by omega)]
    exact cd_t (by decide)
end MK
-- 35 worst, 53 range
def wo (a : HS) (p : Nat) : Nat → Int
  | 0 => -9
  | n + 1 => if wo a p n < 0 then (n : Int) else if BT a n p ≤ BT a (wo a p n).toNat p then wo a p n else (n : Int)
def woT (a : HS) (p : Nat) : Nat → Int
  | 0 => -1
  | n + 1 => if BT a n p ≤ woT a p n then woT a p n else BT a n p
theorem wo_f {a : HS} (J : InvH a) (hw : 0 < nW a) (p : Nat) : ∀ n : Nat, 0 < n → 0 ≤ wo a p n ∧ wo a p n < n ∧ woT a p n = BT a (wo a p n).toNat p := by
  intro n
  induction n with
  | zero => intro h; omega
  | succ n ih =>
    intro _
    have q := BT_b J hw n p
    by_cases hn : n = 0
    · subst hn
      have e1 : wo a p (0 + 1) = 0 := rfl
      have e2 : woT a p (0 + 1) = BT a 0 p := by
        show (if BT a 0 p ≤ -1 then _ else _) = _
        rw [if_neg (by omega)]
      rw [e1, e2]
      exact ⟨by omega, by omega, rfl⟩
    · obtain ⟨i1, i2, i3⟩ := ih (by omega)
      have e1 : wo a p (n + 1) = if wo a p n < 0 then (n : Int) else if BT a n p ≤ BT a (wo a p n).toNat p then wo a p n else (n : Int) := rfl
      have e2 : woT a p (n + 1) = if BT a n p ≤ woT a p n then woT a p n else BT a n p := rfl
      rw [e1, e2, if_neg (by omega), i3]
      by_cases c : BT a n p ≤ BT a (wo a p n).toNat p
      · rw [if_pos c, if_pos c]
        exact ⟨by omega, by omega, rfl⟩
      · rw [if_neg c, if_neg c]
        exact ⟨by omega, by omega, by rw [Int.toNat_natCast]⟩
theorem wo_b {a : HS} (J : InvH a) (hw : 0 < nW a) (p n : Nat) (hn : n ≤ 6) : -9 ≤ wo a p n ∧ wo a p n < 6 ∧ -1 ≤ woT a p n ∧ woT a p n ≤ 432 := by
  rcases Nat.eq_zero_or_pos n with rfl | h
  · exact ⟨by show (-9:Int) ≤ -9; omega, by show (-9:Int) < 6; omega, by show (-1:Int) ≤ -1; omega, by show (-1:Int) ≤ 432; omega⟩
  · have q := wo_f J hw p n h
    have q2 := BT_b J hw (wo a p n).toNat p
    omega
def rMin (a : HS) (p : Nat) (M : Int) : Nat → Int
  | 0 => M
  | n + 1 => if BT a n p < rMin a p M n then BT a n p else rMin a p M n
def rMax (a : HS) (p : Nat) : Nat → Int
  | 0 => 0
  | n + 1 => if rMax a p n < BT a n p then BT a n p else rMax a p n
theorem rMin_b {a : HS} (J : InvH a) (hw : 0 < nW a) (p n : Nat) {M : Int} (h1 : 500 ≤ M) : 0 ≤ rMin a p M n ∧ rMin a p M n ≤ M ∧ 0 ≤ rMax a p n ∧ rMax a p n ≤ 432 := by
  induction n with
  | zero => exact ⟨by show 0 ≤ M; omega, by show M ≤ M; omega, by show (0:Int) ≤ 0; omega, by show (0:Int) ≤ 432; omega⟩
  | succ n ih =>
    have q := BT_b J hw n p
    show 0 ≤ (if BT a n p < rMin a p M n then BT a n p else rMin a p M n) ∧ (if BT a n p < rMin a p M n then BT a n p else rMin a p M n) ≤ M ∧ 0 ≤ (if rMax a p n < BT a n p then BT a n p else rMax a p n) ∧ (if rMax a p n < BT a n p then BT a n p else rMax a p n) ≤ 432
    split <;> split <;> omega
theorem rMin_e {a : HS} (J : InvH a) (hw : 0 < nW a) (p : Nat) {M M' : Int} (h1 : 500 ≤ M) (h2 : 500 ≤ M') : ∀ n, 0 < n → rMin a p M n = rMin a p M' n := by
  intro n
  induction n with
  | zero => intro h; omega
  | succ n ih =>
    intro _
    have q := BT_b J hw n p
    show (if BT a n p < rMin a p M n then BT a n p else rMin a p M n) = (if BT a n p < rMin a p M' n then BT a n p else rMin a p M' n)
    rcases Nat.eq_zero_or_pos n with rfl | hn
    · show (if BT a 0 p < M then BT a 0 p else M) = (if BT a 0 p < M' then BT a 0 p else M')
      rw [if_pos (by omega), if_pos (by omega)]
    · rw [ih hn]
section WR
variable {a : HS} {h : MH}
theorem l_woC (R : RepH 8 a h.1) (J : InvH a) (hw : 0 < nW a) {p : Nat} (hp : p < nP a) : ∀ d i n : Nat, i + d = nB a → d < n →
    L_C_worst_35 (I p) n (I (wo a p i)) (I (woT a p i)) (I i) h = some (I (wo a p (nB a)), h) := by
  obtain ⟨j1, j2, j3, j4, j5, j6⟩ := id J
  intro d
  induction d with
  | zero =>
    intro i n e hn
    obtain ⟨k, rfl⟩ := sfuel hn
    obtain rfl : i = nB a := by omega
    simp (disch := omega) only [L_C_worst_35, rn_b R, I_le, if_pos (Int.le_refl _)]
  | succ d ih =>
    intro i n e hn
    obtain ⟨k, rfl⟩ := sfuel hn
    have hi : i < nB a := by omega
    have g := ih (i + 1) k (by omega) (by omega)
    have q := BT_b J hw i p
    have q' : 0 ≤ bestT a i p (nW a) ∧ bestT a i p (nW a) ≤ 432 := q
    have q2 := wo_b J hw p i (by omega)
    have e1 : (if BT a i p ≤ woT a p i then wo a p i else (i : Int)) = wo a p (i + 1) := by
      show _ = (if wo a p i < 0 then (i : Int) else if BT a i p ≤ BT a (wo a p i).toNat p then wo a p i else (i : Int))
      rcases Nat.eq_zero_or_pos i with rfl | hi
      · rw [if_neg (show ¬ BT a 0 p ≤ woT a p 0 by show ¬ BT a 0 p ≤ -1; omega), if_pos (show wo a p 0 < 0 by show (-9 : Int) < 0; omega)]
      · obtain ⟨i1, i2, i3⟩ := wo_f J hw p i hi
        rw [if_neg (show ¬ wo a p i < 0 by omega), i3]
    simp (disch := omega) only [L_C_worst_35, rn_b R, I_le, if_neg (show ¬ ((nB a : Int) ≤ (i : Int)) by omega), c_bestTime R J hi hp, bd_s, I_ite, e1, iw_s, I_succ]
    exact g
theorem l_woM (R : RepM a h.1) (J : InvH a) (hw : 0 < nW a) {p : Nat} (hp : p < nP a) : ∀ d i n : Nat, i + d = nB a → d < n →
    L_M_worst_24 (I p) n (I (wo a p i)) (I i) h = some (I (wo a p (nB a)), h) := by
  obtain ⟨j1, j2, j3, j4, j5, j6⟩ := id J
  intro d
  induction d with
  | zero =>
    intro i n e hn
    obtain ⟨k, rfl⟩ := sfuel hn
    obtain rfl : i = nB a := by omega
    simp (disch := omega) only [L_M_worst_24, rm_b R, I_le, if_pos (Int.le_refl _)]
  | succ d ih =>
    intro i n e hn
    obtain ⟨k, rfl⟩ := sfuel hn
    have hi : i < nB a := by omega
    have g := ih (i + 1) k (by omega) (by omega)
    have q := BT_b J hw i p
    have q' : 0 ≤ bestT a i p (nW a) ∧ bestT a i p (nW a) ≤ 432 := q
    have q2 := wo_b J hw p i (by omega)
    have e1 : wo a p (i + 1) = (if wo a p i < 0 then (i : Int) else if BT a i p ≤ BT a (wo a p i).toNat p then wo a p i else (i : Int)) := rfl
    rw [e1] at g
    simp (disch := omega) only [L_M_worst_24, zero_I, rm_b R, rm_w R, I_le, I_lt, if_neg (show ¬ ((nB a : Int) ≤ (i : Int)) by omega), if_neg (show ¬ ((nW a : Int) ≤ 0) by omega), I_succ]
    by_cases c : wo a p i < 0
    · rw [if_pos c] at g ⊢
      exact g
    · rw [if_neg c] at g ⊢
      have hi0 : 0 < i := by
        rcases Nat.eq_zero_or_pos i with rfl | hi
        · exact absurd (show wo a p 0 < 0 by show (-9 : Int) < 0; omega) c
        · exact hi
      have f := wo_f J hw p i hi0
      obtain ⟨v, hv⟩ : ∃ v : Nat, wo a p i = v := ⟨(wo a p i).toNat, by omega⟩
      rw [hv] at g f ⊢
      have q4 := BT_b J hw v p
      have q4' : 0 ≤ bestT a v p (nW a) ∧ bestT a v p (nW a) ≤ 432 := q4
      simp only [Int.toNat_natCast] at g
      simp (disch := omega) only [m_bestT R J hi hp hw, m_bestT R J (show v < nB a by omega) hp hw, bd_s, I_le, I_ite, iw_s]
      exact g
theorem l_rgC (R : RepH 8 a h.1) (J : InvH a) (hw : 0 < nW a) {p : Nat} (hp : p < nP a) : ∀ d i n : Nat, i + d = nB a → d < n →
    L_C_range_39 (I p) n (I (rMin a p 1000000000 i)) (I (rMax a p i)) (I i) h = some (I (rMin a p 1000000000 (nB a)), I (rMax a p (nB a)), h) := by
  obtain ⟨j1, j2, j3, j4, j5, j6⟩ := id J
  intro d
  induction d with
  | zero =>
    intro i n e hn
    obtain ⟨k, rfl⟩ := sfuel hn
    obtain rfl : i = nB a := by omega
    simp (disch := omega) only [L_C_range_39, rn_b R, I_le, if_pos (Int.le_refl _)]
  | succ d ih =>
    intro i n e hn
    obtain ⟨k, rfl⟩ := sfuel hn
    have hi : i < nB a := by omega
    have g := ih (i + 1) k (by omega) (by omega)
    have q := BT_b J hw i p
    have q' : 0 ≤ bestT a i p (nW a) ∧ bestT a i p (nW a) ≤ 432 := q
    have q2 := rMin_b J hw p i (M := 1000000000) (by omega)
    simp (disch := omega) only [L_C_range_39, rn_b R, I_le, if_neg (show ¬ ((nB a : Int) ≤ (i : Int)) by omega), c_bestTime R J hi hp, bd_s, I_lt, I_ite, iw_s, I_succ]
    exact g
theorem l_rgM (R : RepM a h.1) (J : InvH a) (hw : 0 < nW a) {p : Nat} (hp : p < nP a) : ∀ d i n : Nat, i + d = nB a → d < n →
    L_M_range_51 (I p) n (I (rMin a p 9999 i)) (I (rMax a p i)) (I i) h = some (I (rMin a p 9999 (nB a)), I (rMax a p (nB a)), h) := by
  obtain ⟨j1, j2, j3, j4, j5, j6⟩ := id J
  intro d
  induction d with
  | zero =>
    intro i n e hn
    obtain ⟨k, rfl⟩ := sfuel hn
    obtain rfl : i = nB a := by omega
    simp (disch := omega) only [L_M_range_51, rm_b R, I_le, if_pos (Int.le_refl _)]
  | succ d ih =>
    intro i n e hn
    obtain ⟨k, rfl⟩ := sfuel hn
    have hi : i < nB a := by omega
    have g := ih (i + 1) k (by omega) (by omega)
    have q := BT_b J hw i p
    have q' : 0 ≤ bestT a i p (nW a) ∧ bestT a i p (nW a) ≤ 432 := q
    have q2 := rMin_b J hw p i (M := 9999) (by omega)
    have e1 : (if rMin a p 9999 i ≤ BT a i p then rMin a p 9999 i else BT a i p) = rMin a p 9999 (i + 1) := by
      show _ = (if BT a i p < rMin a p 9999 i then BT a i p else rMin a p 9999 i)
      split <;> split <;> omega
    have e2 : (if BT a i p ≤ rMax a p i then rMax a p i else BT a i p) = rMax a p (i + 1) := by
      show _ = (if rMax a p i < BT a i p then BT a i p else rMax a p i)
      split <;> split <;> omega
    simp (disch := omega) only [L_M_range_51, rm_b R, I_le, if_neg (show ¬ ((nB a : Int) ≤ (i : Int)) by omega), m_bestT R J hi hp hw, bd_s, I_ite, e1, e2, iw_s, I_succ]
    exact g
theorem l_wo0 (R : RepM a h.1) (J : InvH a) {p : Nat} (h0 : nW a = 0) (n : Nat) : L_M_worst_24 (I p) (n + 1) (I (-9)) (I 0) h = some (I (-9), h) := by
  have j1 := J.1
  simp (disch := omega) only [L_M_worst_24, zero_I, rm_b R, rm_w R, h0, I_le]
  by_cases hb : (nB a : Int) ≤ 0
  · rw [if_pos hb]
  · rw [if_neg hb]
    rfl
end WR
theorem q_worst {S : SS} (J : InvS S) {z : Int} (e3 : i32 z) : Q2 S (F_C_worst (I z)) (F_M_worst (I z)) := by
  have K := is_h J
  obtain ⟨j1, j2, j3, j4, j5, j6⟩ := id K
  by_cases hz : inP (sN S) z
  · obtain ⟨p, hp, rfl⟩ := nn hz
    rcases Nat.eq_zero_or_pos (nW (sN S)) with h0 | hw
    · refine q_pl (I (-9)) 0 (by omega) (fun h R => ?_) (fun h R => ?_)
      · have R := rc_h R
        simp only [F_C_worst, c_noOne_t R K hz.1 hz.2, bd_s, zero_I, if_true, rn_w R, h0]
        simp
        rfl
      · have R := rm_h R
        have g : L_M_worst_24 (I p) 5000 (I (-9)) (I 0) (setT h) = some (I (-9), setT h) := l_wo0 R K h0 4999
        simp (disch := omega) only [F_M_worst, setT_d, hw_s, m_isOne_t R K hz.1 hz.2, bd_s, zero_I, one_ne, not_false_iff, if_true, g]
        rfl
    · refine q_pl (I (wo (sN S) p (nB (sN S)))) 0 (by omega) (fun h R => ?_) (fun h R => ?_)
      · have R := rc_h R
        have g : L_C_worst_35 (I p) 5000 (I (-9)) (I (-1)) (I 0) h = _ := l_woC R K hw hp (nB (sN S)) 0 5000 (by omega) (by omega)
        simp (disch := omega) only [F_C_worst, c_noOne_t R K hz.1 hz.2, bd_s, zero_I, if_true, rn_w R, I_eq, if_pos (show ¬ (nW (sN S) : Int) = 0 by omega), g]
        rfl
      · have R := rm_h R
        have g : L_M_worst_24 (I p) 5000 (I (-9)) (I 0) (setT h) = _ := l_woM R K hw hp (nB (sN S)) 0 5000 (by omega) (by omega)
        simp (disch := omega) only [F_M_worst, setT_d, hw_s, m_isOne_t R K hz.1 hz.2, bd_s, zero_I, one_ne, not_false_iff, if_true, g]
        rfl
  · refine q_pl (I (-1)) 1 (by omega) (fun h R => ?_) (fun h R => ?_)
    · simp only [F_C_worst, c_noOne_f (rc_h R) K e3.1 e3.2 hz, bd_s, zero_I, one_ne, if_false, c_ref1]
    · simp only [F_M_worst, setT_d, hw_s, m_isOne_f (rm_h R) K e3.1 e3.2 hz, bd_s, zero_I, not_true, if_false, m_ref1]
theorem q_range {S : SS} (J : InvS S) {z : Int} (e3 : i32 z) : Q2 S (F_C_range (I z)) (F_M_range (I z)) := by
  have K := is_h J
  obtain ⟨j1, j2, j3, j4, j5, j6⟩ := id K
  by_cases hz : inP (sN S) z
  · obtain ⟨p, hp, rfl⟩ := nn hz
    rcases Nat.eq_zero_or_pos (nW (sN S)) with h0 | hw
    · refine q_pl (I (-3)) 3 (by omega) (fun h R => ?_) (fun h R => ?_)
      · have R := rc_h R
        simp (disch := omega) only [F_C_range, c_noOne_t R K hz.1 hz.2, bd_s, zero_I, if_true, rn_w R, I_eq, if_neg (show ¬ ¬ (nW (sN S) : Int) = 0 by omega), c_ref3]
      · have R := rm_h R
        simp (disch := omega) only [F_M_range, setT_d, hw_s, m_isOne_t R K hz.1 hz.2, kw_s, bd_s, zero_I, one_ne, oz, not_false_iff, if_true, rm_w R, I_eq, if_neg (show ¬ ¬ (nW (sN S) : Int) = 0 by omega), lm3, if_false, m_ref3]
    · refine q_pl (I (if ¬ (nB (sN S) : Int) = 0 then rMax (sN S) p (nB (sN S)) - rMin (sN S) p 1000000000 (nB (sN S)) else 0)) 0 (by omega) (fun h R => ?_) (fun h R => ?_)
      · have R := rc_h R
        have g : L_C_range_39 (I p) 5000 (I 1000000000) (I 0) (I 0) h = _ := l_rgC R K hw hp (nB (sN S)) 0 5000 (by omega) (by omega)
        simp (disch := omega) only [F_C_range, c_noOne_t R K hz.1 hz.2, bd_s, zero_I, if_true, rn_w R, I_eq, if_pos (show ¬ (nW (sN S) : Int) = 0 by omega), g, rn_b R, I_sub, I_ite, iw_s]
        rfl
      · have R := rm_h R
        have g : L_M_range_51 (I p) 5000 (I 9999) (I 0) (I 0) (setT h) = _ := l_rgM R K hw hp (nB (sN S)) 0 5000 (by omega) (by omega)
        have e : (if ¬ (nB (sN S) : Int) = 0 then rMax (sN S) p (nB (sN S)) - rMin (sN S) p 9999 (nB (sN S)) else 0) = (if ¬ (nB (sN S) : Int) = 0 then rMax (sN S) p (nB (sN S)) - rMin (sN S) p 1000000000 (nB (sN S)) else 0) := by
          by_cases hb : (nB (sN S) : Int) = 0
          · rw [if_neg (by omega), if_neg (by omega)]
          · rw [if_pos hb, if_pos hb, rMin_e K hw p (M := 9999) (M' := 1000000000) (by omega) (by omega) _ (by omega)]
        simp (disch := omega) only [F_M_range, setT_d, hw_s, m_isOne_t R K hz.1 hz.2, kw_s, bd_s, zero_I, one_ne, oz, not_false_iff, if_true, rm_w R, I_eq, if_pos (show ¬ (nW (sN S) : Int) = 0 by omega), le00, g, rm_b R, I_sub, I_ite, e, iw_s]
        rfl
  · refine q_pl (I (-1)) 1 (by omega) (fun h R => ?_) (fun h R => ?_)
    · simp only [F_C_range, c_noOne_f (rc_h R) K e3.1 e3.2 hz, bd_s, zero_I, one_ne, if_false, c_ref1]
    · simp only [F_M_range, setT_d, hw_s, m_isOne_f (rm_h R) K e3.1 e3.2 hz, kw_s, bd_s, zero_I, not_true, if_false, lm1, m_ref1]
