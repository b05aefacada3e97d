-- the best way and its time
theorem I_succ (i : Nat) : I (i : Int) + I 1 = I ((i + 1 : Nat) : Int) := by rw [I_add]; rfl
def bestW (a : HS) (b p : Nat) : Nat → Int
  | 0 => -9
  | n + 1 => if bestW a b p n < 0 then (n : Int) else if sTw a b (bestW a b p n).toNat p ≤ sTw a b n p then bestW a b p n else (n : Int)
def bestT (a : HS) (b p : Nat) : Nat → Int
  | 0 => 1000000000
  | n + 1 => if bestT a b p n ≤ sTw a b n p then bestT a b p n else sTw a b n p
theorem best_f {a : HS} (J : InvH a) (b p : Nat) : ∀ n : Nat, 0 < n → 0 ≤ bestW a b p n ∧ bestW a b p n < n ∧ bestT a b p n = sTw a b (bestW a b p n).toNat p := by
  intro n
  induction n with
  | zero => intro h; omega
  | succ n ih =>
    intro _
    have q := sTw_b J b n p
    by_cases hn : n = 0
    · subst hn
      have e1 : bestW a b p (0 + 1) = 0 := rfl
      have e2 : bestT a b p (0 + 1) = sTw a b 0 p := by
        show (if (1000000000 : Int) ≤ sTw a b 0 p then _ else _) = _
        rw [if_neg (by omega)]
      rw [e1, e2]
      exact ⟨by omega, by omega, rfl⟩
    · obtain ⟨i1, i2, i3⟩ := ih (by omega)
      have e1 : bestW a b p (n + 1) = if bestW a b p n < 0 then (n : Int) else if sTw a b (bestW a b p n).toNat p ≤ sTw a b n p then bestW a b p n else (n : Int) := rfl
      have e2 : bestT a b p (n + 1) = if bestT a b p n ≤ sTw a b n p then bestT a b p n else sTw a b n p := rfl
      rw [e1, e2, if_neg (by omega), i3]
      by_cases c : sTw a b (bestW a b p n).toNat p ≤ sTw a b n p
      · rw [if_pos c, if_pos c]
        exact ⟨by omega, by omega, rfl⟩
      · rw [if_neg c, if_neg c]
        exact ⟨by omega, by omega, by rw [Int.toNat_natCast]⟩
theorem bestT_b {a : HS} (J : InvH a) (b p n : Nat) : 0 ≤ bestT a b p n ∧ bestT a b p n ≤ 1000000000 ∧ (0 < n → bestT a b p n ≤ 432) := by
  rcases Nat.eq_zero_or_pos n with rfl | h
  · exact ⟨by show (0:Int) ≤ 1000000000; omega, by show (1000000000 : Int) ≤ 1000000000; omega, fun h => by omega⟩
  · rw [(best_f J b p n h).2.2]
    have q := sTw_b J b (bestW a b p n).toNat p
    exact ⟨by omega, by omega, fun _ => by omega⟩
theorem bestW_b {a : HS} (J : InvH a) (b p n : Nat) (hn : n ≤ 6) : -9 ≤ bestW a b p n ∧ bestW a b p n < 6 := by
  rcases Nat.eq_zero_or_pos n with rfl | h
  · exact ⟨by show (-9:Int) ≤ -9; omega, by show (-9:Int) < 6; omega⟩
  · have q := best_f J b p n h
    omega
theorem sfuel {d n : Nat} (h : d < n) : ∃ m, n = m + 1 := ⟨n - 1, by omega⟩
section BST
variable {a : HS} {h : MH}
theorem l_bestFor (R : RepH 8 a h.1) (J : InvH a) {b p : Nat} (hb : b < nB a) (hp : p < nP a) : ∀ d i n : Nat, i + d = nW a → d < n →
    L_H_bestFor_10 (I b) (I p) n (I (bestW a b p i)) (I (bestT a b p i)) (I i) h = some (I (bestW a b p (nW a)), h) := by
  obtain ⟨j1, j2, j3, j4, j5, j6⟩ := id J
  intro d
  induction d with
  | zero =>
    intro i n e hn
    obtain ⟨m, rfl⟩ := sfuel hn
    obtain rfl : i = nW a := by omega
    simp (disch := omega) only [L_H_bestFor_10, rn_w R, I_le, if_pos (Int.le_refl _)]
  | succ d ih =>
    intro i n e hn
    obtain ⟨m, rfl⟩ := sfuel hn
    have q := sTw_b J b i p
    have q2 := bestT_b J b p i
    have q3 := bestW_b J b p i (by omega)
    have g := ih (i + 1) m (by omega) (by omega)
    simp (disch := omega) only [L_H_bestFor_10, rn_w R, I_le, if_neg (show ¬ ((nW a : Int) ≤ (i : Int)) by omega), c_timeBy R J hb (show i < nW a by omega) hp, bd_some, I_ite, iw_d, I_succ]
    have e1 : (if bestT a b p i ≤ sTw a b i p then bestW a b p i else (i : Int)) = bestW a b p (i + 1) := by
      show _ = (if bestW a b p i < 0 then (i : Int) else if sTw a b (bestW a b p i).toNat p ≤ sTw a b i p then bestW a b p i else (i : Int))
      rcases Nat.eq_zero_or_pos i with rfl | hi
      · rw [if_neg (show ¬ bestT a b p 0 ≤ sTw a b 0 p by show ¬ (1000000000 : Int) ≤ sTw a b 0 p; omega), if_pos (show bestW a b p 0 < 0 by show (-9 : Int) < 0; omega)]
      · obtain ⟨i1, i2, i3⟩ := best_f J b p i hi
        rw [if_neg (show ¬ bestW a b p i < 0 by omega), i3]
    rw [e1]
    exact g
theorem c_bestFor (R : RepH 8 a h.1) (J : InvH a) {b p : Nat} (hb : b < nB a) (hp : p < nP a) : F_H_bestFor (I b) (I p) h = some (I (bestW a b p (nW a)), h) := by
  have g := l_bestFor R J hb hp (nW a) 0 5000 (by omega) (by have := J.2.2.1; omega)
  have g' : L_H_bestFor_10 (I b) (I p) 5000 (I (-9)) (I 1000000000) (I 0) h = _ := g
  simp only [F_H_bestFor, g', bd_some]
theorem l_bestTime (R : RepH 8 a h.1) (J : InvH a) {b p : Nat} (hb : b < nB a) (hp : p < nP a) : ∀ d i n : Nat, i + d = nW a → d < n →
    L_H_bestTime_6 (I b) (I p) n (I (bestT a b p i)) (I i) h = some (I (bestT a b p (nW a)), h) := by
  obtain ⟨j1, j2, j3, j4, j5, j6⟩ := id J
  intro d
  induction d with
  | zero =>
    intro i n e hn
    obtain ⟨m, rfl⟩ := sfuel hn
    obtain rfl : i = nW a := by omega
    simp (disch := omega) only [L_H_bestTime_6, rn_w R, I_le, if_pos (Int.le_refl _)]
  | succ d ih =>
    intro i n e hn
    obtain ⟨m, rfl⟩ := sfuel hn
    have q := sTw_b J b i p
    have q' : 0 ≤ sT a b (hK a i) (hF a i) (hA a p) (hS a p) ∧ sT a b (hK a i) (hF a i) (hA a p) (hS a p) ≤ 432 := q
    have q2 := bestT_b J b p i
    have hw6 := j6 i
    have hp5 := j5 p
    have hi : i < nW a := by omega
    have g := ih (i + 1) m (by omega) (by omega)
    simp (disch := omega) only [L_H_bestTime_6, rn_w R, I_le, if_neg (show ¬ ((nW a : Int) ≤ (i : Int)) by omega), ck_in, I_nat, Int.toNat_natCast, rn_a R hp, rn_s R hp, rn_k R hi, rn_f R hi, c_timeOf R J hb, bd_some, I_lt, I_ite, iw_d, I_succ]
    have e1 : (if sT a b (hK a i) (hF a i) (hA a p) (hS a p) < bestT a b p i then sT a b (hK a i) (hF a i) (hA a p) (hS a p) else bestT a b p i) = bestT a b p (i + 1) := by
      show _ = (if bestT a b p i ≤ sT a b (hK a i) (hF a i) (hA a p) (hS a p) then bestT a b p i else sT a b (hK a i) (hF a i) (hA a p) (hS a p))
      split <;> split <;> omega
    rw [e1]
    exact g
theorem c_bestTime (R : RepH 8 a h.1) (J : InvH a) {b p : Nat} (hb : b < nB a) (hp : p < nP a) : F_H_bestTime (I b) (I p) h = some (I (bestT a b p (nW a)), h) := by
  have g := l_bestTime R J hb hp (nW a) 0 5000 (by omega) (by have := J.2.2.1; omega)
  have g' : L_H_bestTime_6 (I b) (I p) 5000 (I 1000000000) (I 0) h = _ := g
  simp only [F_H_bestTime, g', bd_some]
theorem l_mbest (R : RepM a h.1) (J : InvH a) {b p : Nat} (hb : b < nB a) (hp : p < nP a) : ∀ d i n : Nat, i + d = nW a → d < n →
    L_M_bestWayOf_6 (I b) (I p) n (I (bestW a b p i)) (I i) h = some (I (bestW a b p (nW a)), h) := by
  obtain ⟨j1, j2, j3, j4, j5, j6⟩ := id J
  intro d
  induction d with
  | zero =>
    intro i n e hn
    obtain ⟨m, rfl⟩ := sfuel hn
    obtain rfl : i = nW a := by omega
    simp (disch := omega) only [L_M_bestWayOf_6, rm_w R, I_le, if_pos (Int.le_refl _)]
  | succ d ih =>
    intro i n e hn
    obtain ⟨m, rfl⟩ := sfuel hn
    have q := sTw_b J b i p
    have q3 := bestW_b J b p i (by omega)
    have g := ih (i + 1) m (by omega) (by omega)
    have e1 : bestW a b p (i + 1) = (if bestW a b p i < 0 then (i : Int) else if sTw a b (bestW a b p i).toNat p ≤ sTw a b i p then bestW a b p i else (i : Int)) := rfl
    rw [e1] at g
    simp (disch := omega) only [L_M_bestWayOf_6, zero_I, rm_w R, I_le, I_lt, if_neg (show ¬ ((nW a : Int) ≤ (i : Int)) by omega), I_succ]
    by_cases c : bestW a b p i < 0
    · rw [if_pos c] at g ⊢
      exact g
    · rw [if_neg c] at g ⊢
      have hi : 0 < i := by
        rcases Nat.eq_zero_or_pos i with rfl | hi
        · exact absurd (show bestW a b p 0 < 0 by show (-9 : Int) < 0; omega) c
        · exact hi
      have f := best_f J b p i hi
      obtain ⟨v, hv⟩ : ∃ v : Nat, bestW a b p i = v := ⟨(bestW a b p i).toNat, by omega⟩
      rw [hv] at g f ⊢
      have q4 := sTw_b J b v p
      simp only [Int.toNat_natCast] at g
      simp (disch := omega) only [m_timeOf R J hb (show i < nW a by omega) hp, m_timeOf R J hb (show v < nW a by omega) hp, bd_some, I_le, I_ite, iw_d]
      exact g
theorem m_best (R : RepM a h.1) (J : InvH a) {b p : Nat} (hb : b < nB a) (hp : p < nP a) : F_M_bestWayOf (I b) (I p) h = some (I (bestW a b p (nW a)), h) := by
  have g := l_mbest R J hb hp (nW a) 0 5000 (by omega) (by have := J.2.2.1; omega)
  have g' : L_M_bestWayOf_6 (I b) (I p) 5000 (I (-9)) (I 0) h = _ := g
  simp only [F_M_bestWayOf, g', bd_some]
theorem m_bestT (R : RepM a h.1) (J : InvH a) {b p : Nat} (hb : b < nB a) (hp : p < nP a) (hw : 0 < nW a) : F_M_bestTimeOf (I b) (I p) h = some (I (bestT a b p (nW a)), h) := by
  have f := best_f J b p (nW a) hw
  obtain ⟨v, hv⟩ : ∃ v : Nat, bestW a b p (nW a) = v := ⟨(bestW a b p (nW a)).toNat, by omega⟩
  rw [hv] at f
  simp only [F_M_bestTimeOf, m_best R J hb hp, hv, bd_some, m_timeOf R J hb (show v < nW a by omega) hp, f.2.2, Int.toNat_natCast]
/-- the time of all the first n beds -/
def sumT (a : HS) (w p : Nat) : Nat → Int
  | 0 => 0
  | n + 1 => sumT a w p n + sTw a n w p
theorem sumT_b {a : HS} (J : InvH a) (w p n : Nat) : 0 ≤ sumT a w p n ∧ sumT a w p n ≤ 432 * n := by
  induction n with
  | zero => exact ⟨by show (0:Int) ≤ 0; omega, by show (0:Int) ≤ _; omega⟩
  | succ n ih =>
    have q := sTw_b J n w p
    show 0 ≤ sumT a w p n + sTw a n w p ∧ sumT a w p n + sTw a n w p ≤ _
    omega
theorem l_all (R : RepH 8 a h.1) (J : InvH a) {w p : Nat} (hw : w < nW a) (hp : p < nP a) : ∀ d i n : Nat, i + d = nB a → d < n →
    L_H_timeOfAll_5 (I w) (I p) n (I (sumT a w p i)) (I i) h = some (I (sumT a w p (nB a)), h) := by
  obtain ⟨j1, j2, j3, j4, j5, j6⟩ := id J
  intro d
  induction d with
  | zero =>
    intro i n e hn
    obtain ⟨m, rfl⟩ := sfuel hn
    obtain rfl : i = nB a := by omega
    simp (disch := omega) only [L_H_timeOfAll_5, rn_b R, I_le, if_pos (Int.le_refl _)]
  | succ d ih =>
    intro i n e hn
    obtain ⟨m, rfl⟩ := sfuel hn
    have g := ih (i + 1) m (by omega) (by omega)
    simp (disch := omega) only [L_H_timeOfAll_5, rn_b R, I_le, if_neg (show ¬ ((nB a : Int) ≤ (i : Int)) by omega), c_timeBy R J (show i < nB a by omega) hw hp, bd_some, I_add, I_succ]
    exact g
theorem c_all (R : RepH 8 a h.1) (J : InvH a) {w p : Nat} (hw : w < nW a) (hp : p < nP a) : F_H_timeOfAll (I w) (I p) h = some (I (sumT a w p (nB a)), h) := by
  have g := l_all R J hw hp (nB a) 0 5000 (by omega) (by have := J.1; omega)
  have g' : L_H_timeOfAll_5 (I w) (I p) 5000 (I 0) (I 0) h = _ := g
  simp only [F_H_timeOfAll, g', bd_some]
theorem l_mall (R : RepM a h.1) (J : InvH a) {w p : Nat} (hw : w < nW a) (hp : p < nP a) : ∀ d i n : Nat, i + d = nB a → d < n →
    L_M_timeOfAll_5 (I w) (I p) n (I (sumT a w p i)) (I i) h = some (I (sumT a w p (nB a)), h) := by
  obtain ⟨j1, j2, j3, j4, j5, j6⟩ := id J
  intro d
  induction d with
  | zero =>
    intro i n e hn
    obtain ⟨m, rfl⟩ := sfuel hn
    obtain rfl : i = nB a := by omega
    simp (disch := omega) only [L_M_timeOfAll_5, rm_b R, I_le, if_pos (Int.le_refl _)]
  | succ d ih =>
    intro i n e hn
    obtain ⟨m, rfl⟩ := sfuel hn
    have g := ih (i + 1) m (by omega) (by omega)
    simp (disch := omega) only [L_M_timeOfAll_5, rm_b R, I_le, if_neg (show ¬ ((nB a : Int) ≤ (i : Int)) by omega), m_timeOf R J (show i < nB a by omega) hw hp, bd_some, I_add, I_succ]
    exact g
theorem m_all (R : RepM a h.1) (J : InvH a) {w p : Nat} (hw : w < nW a) (hp : p < nP a) : F_M_timeOfAll (I w) (I p) h = some (I (sumT a w p (nB a)), h) := by
  have g := l_mall R J hw hp (nB a) 0 5000 (by omega) (by have := J.1; omega)
  have g' : L_M_timeOfAll_5 (I w) (I p) 5000 (I 0) (I 0) h = _ := g
  simp only [F_M_timeOfAll, g', bd_some]
end BST
