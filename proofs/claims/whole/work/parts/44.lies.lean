theorem q_commute {S : SS} (J : InvS S) {x y : Int} (e1 : i32 x) (e2 : i32 y) : Q2 S (F_C_commute (I x) (I y)) (F_M_commute (I x) (I y)) := by
  have ok := J.2.2.2.2.2.2.2.2
  have hl := ok_lt ok
  obtain ⟨l1, g1⟩ := id e1
  obtain ⟨l2, g2⟩ := id e2
  by_cases hx : 0 ≤ x ∧ x ≤ 3
  · by_cases hy : 0 ≤ y ∧ y ≤ 3
    · obtain ⟨t, rfl⟩ : ∃ c : Nat, x = c := ⟨x.toNat, by omega⟩
      obtain ⟨u, rfl⟩ : ∃ c : Nat, y = c := ⟨y.toNat, by omega⟩
      have ht : t < 4 := by omega
      have hu : u < 4 := by omega
      have a1 : tl 228 t < 512 := tl_lt ⟨228, by omega⟩ ⟨t, ht⟩
      have a2 : tl 228 u < 512 := tl_lt ⟨228, by omega⟩ ⟨u, hu⟩
      have a3 : tl (tl 228 t) u < 512 := tl_lt ⟨tl 228 t, a1⟩ ⟨u, hu⟩
      have a4 : tl (tl 228 u) t < 512 := tl_lt ⟨tl 228 u, a2⟩ ⟨t, ht⟩
      have b1 : tl (hLie (sN S)) t < 512 := tl_lt ⟨hLie (sN S), hl⟩ ⟨t, ht⟩
      have b2 : tl (hLie (sN S)) u < 512 := tl_lt ⟨hLie (sN S), hl⟩ ⟨u, hu⟩
      have b3 : tl (tl (hLie (sN S)) t) u < 512 := tl_lt ⟨tl (hLie (sN S)) t, b1⟩ ⟨u, hu⟩
      have b4 : tl (tl (hLie (sN S)) u) t < 512 := tl_lt ⟨tl (hLie (sN S)) u, b2⟩ ⟨t, ht⟩
      have cd1 : decide (cod (tl (tl (hLie (sN S)) t) u) = cod (tl (tl (hLie (sN S)) u) t)) = decide (tl (tl 228 t) u = tl (tl 228 u) t) := com_dec ⟨hLie (sN S), hl⟩ ⟨t, ht⟩ ⟨u, hu⟩ ok
      have cd2 : cod (tl (tl (hLie (sN S)) t) u) = cod (tl (tl (hLie (sN S)) u) t) ↔ tl (tl 228 t) u = tl (tl 228 u) t := by
        rw [← decide_eq_true_iff (p := cod (tl (tl (hLie (sN S)) t) u) = cod (tl (tl (hLie (sN S)) u) t)), cd1, decide_eq_true_iff]
      have k1 := cod_lt b3
      have k2 := cod_lt b4
      refine ⟨(I (if tl (tl 228 t) u = tl (tl 228 u) t then 1 else 0), 0), by omega, fun h R => ⟨h, ?_, ScC_rfl _⟩, fun h R => ?_⟩
      · have f1 : F_L_turned (I 228) (I (t : Int)) h = _ := c_turned (l := 228) (h := h) (by omega) ht
        have f2 : F_L_turned (I 228) (I (u : Int)) h = _ := c_turned (l := 228) (h := h) (by omega) hu
        simp (disch := omega) only [F_C_commute, c_noTurn_t (show (0:Int) ≤ (t : Int) by omega) (show (t : Int) < 4 by omega), c_noTurn_t (show (0:Int) ≤ (u : Int) by omega) (show (u : Int) < 4 by omega), bd_s, zero_I, not_true, if_false, if_true, f1, f2, c_turned a1 hu, c_turned a2 ht, I_eq, iw_s]
        by_cases c : tl (tl 228 t) u = tl (tl 228 u) t
        · rw [if_pos c, if_neg (by omega)]
        · rw [if_neg c, if_pos (by omega)]
      · have R0 := RM_Sc R (ScM_setT h)
        obtain ⟨h1, p1, t1, s1⟩ := m_think (rm_h R0) hl
        obtain ⟨h2, p2, t2, s2⟩ := m_turnNow hl ht t1
        obtain ⟨h3, p3, t3, s3⟩ := m_turnNow b1 hu t2
        have q1 := m_code b3 t3
        have S3 := ScM_tr s1 (ScM_tr s2 s3)
        obtain ⟨h4, p4, t4, s4⟩ := m_think (rm_h (RM_Sc R0 S3)) hl
        obtain ⟨h5, p5, t5, s5⟩ := m_turnNow hl hu t4
        obtain ⟨h6, p6, t6, s6⟩ := m_turnNow b2 ht t5
        have q2 := m_code b4 t6
        refine ⟨h6, ?_, ScM_tr S3 (ScM_tr s4 (ScM_tr s5 s6))⟩
        simp (disch := omega) only [F_M_commute, setT_d, hw_s, toI64, m_in, if_pos hx, if_pos hy, bd_s, zero_I, one_ne, oz, not_false_iff, if_true, if_false, p1, p2, p3, q1, p4, p5, p6, q2, I_eq, iw_s]
        by_cases c : tl (tl 228 t) u = tl (tl 228 u) t
        · have := cd2.mpr c
          rw [if_pos c, if_neg (by omega)]
        · have : ¬ cod (tl (tl (hLie (sN S)) t) u) = cod (tl (tl (hLie (sN S)) u) t) := fun q => c (cd2.mp q)
          rw [if_neg c, if_pos (by omega)]
    · refine q_pl (I (-2)) 2 (by omega) (fun h R => ?_) (fun h R => ?_)
      · simp only [F_C_commute, c_noTurn_t hx.1 (show x < 4 by omega), c_noTurn_f e2 (show ¬ (0 ≤ y ∧ y < 4) by omega), bd_s, zero_I, one_ne, not_true, if_false, c_ref2]
      · simp (disch := omega) only [F_M_commute, setT_d, hw_s, toI64, m_in, if_pos hx, if_neg hy, bd_s, zero_I, one_ne, oz, not_true, if_false, m_ref2]
  · refine q_pl (I (-2)) 2 (by omega) (fun h R => ?_) (fun h R => ?_)
    · simp only [F_C_commute, c_noTurn_f e1 (show ¬ (0 ≤ x ∧ x < 4) by omega), bd_s, zero_I, one_ne, not_false_iff, if_true, c_ref2]
    · simp (disch := omega) only [F_M_commute, setT_d, hw_s, toI64, m_in, if_neg hx, bd_s, zero_I, if_true, m_ref2]
-- rows of turns
def tOK (r : List Int) : Prop := ∀ i, i < r.length → r.getD i 0 < 4
def rdn (l : Nat) (r : List Int) : Nat → Nat
  | 0 => l
  | n + 1 => tl (rdn l r n) (r.getD n 0).toNat
theorem row_v {S : SS} (J : InvS S) {i : Nat} (hi : i < (sRw S).length) : 0 ≤ (sRw S).getD i 0 ∧ (sRw S).getD i 0 ≤ 99 := by
  have e : (sRw S).getD i 0 = (sRw S)[i] := by simp [List.getD_eq_getElem?_getD, hi]
  rw [e]
  exact J.2.2.2.2.2.1 _ (List.getElem_mem hi)
theorem rdn_lt {l : Nat} {r : List Int} (hl : l < 512) (v : ∀ i, i < r.length → 0 ≤ r.getD i 0) (ok : tOK r) : ∀ n, n ≤ r.length → rdn l r n < 512 := by
  intro n
  induction n with
  | zero => intro _; exact hl
  | succ n ih =>
    intro hn
    have a := ok n (by omega)
    have b := v n (by omega)
    exact tl_lt ⟨rdn l r n, ih (by omega)⟩ ⟨(r.getD n 0).toNat, by omega⟩
theorem rdn_ok {l : Nat} {r : List Int} (hl : okLie l = true) (v : ∀ i, i < r.length → 0 ≤ r.getD i 0) (ok : tOK r) : ∀ n, n ≤ r.length → okLie (rdn l r n) = true := by
  intro n
  induction n with
  | zero => intro _; exact hl
  | succ n ih =>
    intro hn
    have a := ok n (by omega)
    have b := v n (by omega)
    have q := ih (by omega)
    exact tl_ok ⟨rdn l r n, ok_lt q⟩ ⟨(r.getD n 0).toNat, by omega⟩ q
section RWT
variable {S : SS} {h : MH}
theorem l_rowT_t (J : InvS S) (R : RC S h) (ok : tOK (sRw S)) : ∀ d i n : Nat, i + d = (sRw S).length → d < n → L_C_rowIsTurns_2 n (I i) h = some (.inr h) := by
  have len := J.2.2.2.2.1
  obtain ⟨r0, r1⟩ := R.2.2.2.1
  intro d
  induction d with
  | zero =>
    intro i n e hn
    obtain ⟨k, rfl⟩ := sfuel hn
    simp (disch := omega) only [L_C_rowIsTurns_2, r0, I_le]
    rw [if_pos (by omega)]
  | succ d ih =>
    intro i n e hn
    obtain ⟨k, rfl⟩ := sfuel hn
    have g := ih (i + 1) k (by omega) (by omega)
    have v := row_v J (i := i) (by omega)
    have o := ok i (by omega)
    simp (disch := omega) only [L_C_rowIsTurns_2, r0, I_le, if_neg (show ¬ ((sRw S).length : Int) ≤ (i : Int) by omega), ck_in, I_nat, Int.toNat_natCast, r1 i (by omega), c_noTurn_t v.1 o, bd_s, zero_I, if_true, I_succ]
    exact g
theorem l_rowT_f (J : InvS S) (R : RC S h) : ∀ d i n : Nat, i + d = (sRw S).length → d < n → (∃ j, i ≤ j ∧ j < (sRw S).length ∧ ¬ (sRw S).getD j 0 < 4) → L_C_rowIsTurns_2 n (I i) h = some (.inl (I 0, h)) := by
  have len := J.2.2.2.2.1
  obtain ⟨r0, r1⟩ := R.2.2.2.1
  intro d
  induction d with
  | zero =>
    intro i n e hn ⟨j, a, b, c⟩
    omega
  | succ d ih =>
    intro i n e hn ⟨j, a, b, c⟩
    obtain ⟨k, rfl⟩ := sfuel hn
    have v := row_v J (i := i) (by omega)
    simp (disch := omega) only [L_C_rowIsTurns_2, r0, I_le, if_neg (show ¬ ((sRw S).length : Int) ≤ (i : Int) by omega), ck_in, I_nat, Int.toNat_natCast, r1 i (by omega), zero_I, I_succ]
    by_cases o : (sRw S).getD i 0 < 4
    · have ne : ¬ j = i := by
        rintro rfl
        exact c o
      have g := ih (i + 1) k (by omega) (by omega) ⟨j, by omega, b, c⟩
      simp only [c_noTurn_t v.1 o, bd_s, zero_I, if_true]
      exact g
    · simp only [c_noTurn_f (show i32 ((sRw S).getD i 0) from ⟨by omega, by omega⟩) (show ¬ (0 ≤ (sRw S).getD i 0 ∧ (sRw S).getD i 0 < 4) by omega), bd_s, zero_I, one_ne, if_false]
theorem c_rowT_t (J : InvS S) (R : RC S h) (ok : tOK (sRw S)) : F_C_rowIsTurns h = some (I 1, h) := by
  have g : L_C_rowIsTurns_2 5000 (I 0) h = _ := l_rowT_t J R ok (sRw S).length 0 5000 (by omega) (by have := J.2.2.2.2.1; omega)
  simp only [F_C_rowIsTurns, g]
  rfl
theorem c_rowT_f (J : InvS S) (R : RC S h) (ok : ¬ tOK (sRw S)) : F_C_rowIsTurns h = some (I 0, h) := by
  have ex : ∃ j, 0 ≤ j ∧ j < (sRw S).length ∧ ¬ (sRw S).getD j 0 < 4 := by
    apply Classical.byContradiction
    intro q
    exact ok fun i hi => Classical.byContradiction fun c => q ⟨i, by omega, hi, c⟩
  have g : L_C_rowIsTurns_2 5000 (I 0) h = _ := l_rowT_f J R (sRw S).length 0 5000 (by omega) (by have := J.2.2.2.2.1; omega) ex
  simp only [F_C_rowIsTurns, g]
  rfl
theorem l_rdnC (J : InvS S) (R : RC S h) (ok : tOK (sRw S)) {l : Nat} (hl : l < 512) : ∀ d i n : Nat, i + d = (sRw S).length → d < n → L_C_rowDone_4 n (I ((rdn l (sRw S) i : Nat) : Int)) (I i) h = some (I ((rdn l (sRw S) (sRw S).length : Nat) : Int), h) := by
  have len := J.2.2.2.2.1
  obtain ⟨r0, r1⟩ := R.2.2.2.1
  intro d
  induction d with
  | zero =>
    intro i n e hn
    obtain ⟨k, rfl⟩ := sfuel hn
    have hi : i = (sRw S).length := by omega
    simp (disch := omega) only [L_C_rowDone_4, r0, I_le]
    rw [if_pos (by omega), hi]
  | succ d ih =>
    intro i n e hn
    obtain ⟨k, rfl⟩ := sfuel hn
    have g := ih (i + 1) k (by omega) (by omega)
    have v := row_v J (i := i) (by omega)
    have o := ok i (by omega)
    have lt := rdn_lt hl (fun i hi => (row_v J hi).1) ok i (by omega)
    obtain ⟨t, ht⟩ : ∃ t : Nat, (sRw S).getD i 0 = t := ⟨((sRw S).getD i 0).toNat, by omega⟩
    have e1 : rdn l (sRw S) (i + 1) = tl (rdn l (sRw S) i) t := by
      show tl (rdn l (sRw S) i) ((sRw S).getD i 0).toNat = _
      rw [ht, Int.toNat_natCast]
    rw [e1] at g
    simp (disch := omega) only [L_C_rowDone_4, r0, I_le, if_neg (show ¬ ((sRw S).length : Int) ≤ (i : Int) by omega), ck_in, I_nat, Int.toNat_natCast, r1 i (by omega), ht, c_turned lt (show t < 4 by omega), bd_s, I_succ]
    exact g
theorem c_rdn (J : InvS S) (R : RC S h) (ok : tOK (sRw S)) {l : Nat} (hl : l < 512) : F_C_rowDone (I l) h = some (I ((rdn l (sRw S) (sRw S).length : Nat) : Int), h) := by
  have g : L_C_rowDone_4 5000 (I l) (I 0) h = _ := l_rdnC J R ok hl (sRw S).length 0 5000 (by omega) (by have := J.2.2.2.2.1; omega)
  simp only [F_C_rowDone, g, bd_s]
end RWT
