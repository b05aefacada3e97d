-- 30 lands
section LND
variable {S : SS} {h : MH}
theorem l_are_t (J : InvS S) (R : RM S h) (ok : tOK (sRw S)) : ∀ d i n : Nat, i + d = (sRw S).length → d < n → L_M_areTurns_4 n (I 1) (I i) h = some (I 1, h) := by
  have len := J.2.2.2.2.1
  obtain ⟨r0, r1⟩ := R.2.2.2.1
  intro d
  induction d with
  | zero =>
    intro i n e hn
    obtain ⟨k, rfl⟩ := sfuel hn
    simp (disch := omega) only [L_M_areTurns_4, r0, I_le]
    rw [if_pos (by omega)]
  | succ d ih =>
    intro i n e hn
    obtain ⟨k, rfl⟩ := sfuel hn
    have g := ih (i + 1) k (by omega) (by omega)
    have v := row_v J (i := i) (by omega)
    have o := ok i (by omega)
    simp (disch := omega) only [L_M_areTurns_4, r0, I_le, if_neg (show ¬ ((sRw S).length : Int) ≤ (i : Int) by omega), zero_I, one_ne, if_false, ck_in, I_nat, Int.toNat_natCast, r1 i (by omega), if_neg (show ¬ (4 : Int) ≤ (sRw S).getD i 0 by omega), iw_s, I_succ]
    exact g
theorem l_are_0 (J : InvS S) (R : RM S h) : ∀ d i n : Nat, i + d = (sRw S).length → d < n → L_M_areTurns_4 n (I 0) (I i) h = some (I 0, h) := by
  have len := J.2.2.2.2.1
  obtain ⟨r0, r1⟩ := R.2.2.2.1
  intro d
  induction d with
  | zero =>
    intro i n e hn
    obtain ⟨k, rfl⟩ := sfuel hn
    simp (disch := omega) only [L_M_areTurns_4, r0, I_le]
    rw [if_pos (by omega)]
  | succ d ih =>
    intro i n e hn
    obtain ⟨k, rfl⟩ := sfuel hn
    have g := ih (i + 1) k (by omega) (by omega)
    simp (disch := omega) only [L_M_areTurns_4, r0, I_le, if_neg (show ¬ ((sRw S).length : Int) ≤ (i : Int) by omega), zero_I, if_true, I_succ]
    exact g
theorem l_are_f (J : InvS S) (R : RM S h) : ∀ d i n : Nat, i + d = (sRw S).length → d < n → (∃ j, i ≤ j ∧ j < (sRw S).length ∧ ¬ (sRw S).getD j 0 < 4) → L_M_areTurns_4 n (I 1) (I i) h = some (I 0, h) := by
  have len := J.2.2.2.2.1
  obtain ⟨r0, r1⟩ := R.2.2.2.1
  intro d
  induction d with
  | zero =>
    intro i n e hn ⟨j, a, b, c⟩
    omega
  | succ d ih =>
    intro i n e hn ⟨j, a, b, c⟩
    obtain ⟨k, rfl⟩ := sfuel hn
    have v := row_v J (i := i) (by omega)
    simp (disch := omega) only [L_M_areTurns_4, r0, I_le, if_neg (show ¬ ((sRw S).length : Int) ≤ (i : Int) by omega), zero_I, one_ne, if_false, ck_in, I_nat, Int.toNat_natCast, r1 i (by omega), iw_s, I_succ]
    by_cases o : (sRw S).getD i 0 < 4
    · have ne : ¬ j = i := by
        rintro rfl
        exact c o
      rw [if_neg (show ¬ (4 : Int) ≤ (sRw S).getD i 0 by omega)]
      exact ih (i + 1) k (by omega) (by omega) ⟨j, by omega, b, c⟩
    · rw [if_pos (show (4 : Int) ≤ (sRw S).getD i 0 by omega)]
      exact l_are_0 J R d (i + 1) k (by omega) (by omega)
theorem m_are_t (J : InvS S) (R : RM S h) (ok : tOK (sRw S)) : F_M_areTurns h = some (I 1, h) := by
  have g : L_M_areTurns_4 5000 (I 1) (I 0) h = _ := l_are_t J R ok (sRw S).length 0 5000 (by omega) (by have := J.2.2.2.2.1; omega)
  simp only [F_M_areTurns, g, bd_s]
  exact cd_t (by decide)
theorem m_are_f (J : InvS S) (R : RM S h) (ok : ¬ tOK (sRw S)) : F_M_areTurns h = some (I 0, h) := by
  have ex : ∃ j, 0 ≤ j ∧ j < (sRw S).length ∧ ¬ (sRw S).getD j 0 < 4 := by
    apply Classical.byContradiction
    intro q
    exact ok fun i hi => Classical.byContradiction fun c => q ⟨i, by omega, hi, c⟩
  have g : L_M_areTurns_4 5000 (I 1) (I 0) h = _ := l_are_f J R (sRw S).length 0 5000 (by omega) (by have := J.2.2.2.2.1; omega) ex
  simp only [F_M_areTurns, g, bd_s]
  exact cd_t (by decide)
theorem l_rdnM (J : InvS S) (ok : tOK (sRw S)) {l : Nat} {x : Int32} (hl : l < 512) : ∀ (d i n : Nat) (h : MH), RM S h → RepT (rdn l (sRw S) i) h.1 → i + d = (sRw S).length → d < n → ∃ h', L_M_lands_51 x n (I i) h = some h' ∧ RepT (rdn l (sRw S) (sRw S).length) h'.1 ∧ ScM h h' := by
  have len := J.2.2.2.2.1
  intro d
  induction d with
  | zero =>
    intro i n h R T e hn
    obtain ⟨k, rfl⟩ := sfuel hn
    obtain ⟨r0, r1⟩ := R.2.2.2.1
    have hi : i = (sRw S).length := by omega
    refine ⟨h, ?_, by rw [← hi]; exact T, ScM_rfl h⟩
    simp (disch := omega) only [L_M_lands_51, r0, I_le]
    rw [if_pos (by omega)]
  | succ d ih =>
    intro i n h R T e hn
    obtain ⟨k, rfl⟩ := sfuel hn
    obtain ⟨r0, r1⟩ := R.2.2.2.1
    have v := row_v J (i := i) (by omega)
    have o := ok i (by omega)
    have lt := rdn_lt hl (fun i hi => (row_v J hi).1) ok i (by omega)
    obtain ⟨t, ht⟩ : ∃ t : Nat, (sRw S).getD i 0 = t := ⟨((sRw S).getD i 0).toNat, by omega⟩
    obtain ⟨h1, p1, t1, s1⟩ := m_turnNow (t := t) lt (by omega) T
    have e1 : rdn l (sRw S) (i + 1) = tl (rdn l (sRw S) i) t := by
      show tl (rdn l (sRw S) i) ((sRw S).getD i 0).toNat = _
      rw [ht, Int.toNat_natCast]
    rw [← e1] at t1
    obtain ⟨h2, p2, t2, s2⟩ := ih (i + 1) k h1 (RM_Sc R s1) t1 (by omega) (by omega)
    refine ⟨h2, ?_, t2, ScM_tr s1 s2⟩
    simp (disch := omega) only [L_M_lands_51, r0, I_le, if_neg (show ¬ ((sRw S).length : Int) ≤ (i : Int) by omega), ck_in, I_nat, Int.toNat_natCast, r1 i (by omega), ht, p1, bd_s, I_succ]
    exact p2
theorem l_plM {c n l : Nat} (T : RepT l h.1) (ok : okLie l = true) (hc : c < 4) : L_M_lands_77 (I c) (n + 1 + 1 + 1 + 1) (I 0) h = some (I ((plc l c : Nat) : Int), h) := by
  have hl := ok_lt ok
  have p : dig l (plc l c) = c ∧ plc l c < 4 := plc_dec ⟨l, hl⟩ ⟨c, hc⟩ ok
  have r0 := T.2 0 (by omega)
  have r1 := T.2 1 (by omega)
  have r2 := T.2 2 (by omega)
  have r3 := T.2 3 (by omega)
  have b0 := dig_lt l 0
  have b1 := dig_lt l 1
  have b2 := dig_lt l 2
  have b3 := dig_lt l 3
  have z0 : (0 : Int).toNat = 0 := rfl
  have z1 : (0 + 1 : Int).toNat = 1 := rfl
  have z2 : (0 + 1 + 1 : Int).toNat = 2 := rfl
  have z3 : (0 + 1 + 1 + 1 : Int).toNat = 3 := rfl
  simp (disch := omega) only [L_M_lands_77, ck_in, I_nat, I_add, z0, z1, z2, z3, r0, r1, r2, r3, I_eq]
  by_cases d0 : dig l 0 = c
  · have e : plc l c = 0 := by unfold plc; rw [if_pos d0]
    rw [if_pos (by omega), e]
    rfl
  · rw [if_neg (by omega)]
    by_cases d1 : dig l 1 = c
    · have e : plc l c = 1 := by unfold plc; rw [if_neg d0, if_pos d1]
      rw [if_pos (by omega), e]
      rfl
    · rw [if_neg (by omega)]
      by_cases d2 : dig l 2 = c
      · have e : plc l c = 2 := by unfold plc; rw [if_neg d0, if_neg d1, if_pos d2]
        rw [if_pos (by omega), e]
        rfl
      · rw [if_neg (by omega)]
        have e : plc l c = 3 := by unfold plc; rw [if_neg d0, if_neg d1, if_neg d2]
        rw [e] at p
        rw [if_pos (by omega), e]
        rfl
end LND
theorem q_lands {S : SS} (J : InvS S) {x : Int} (e1 : i32 x) : Q2 S (F_C_lands (I x)) (F_M_lands (I x)) := by
  have ok := J.2.2.2.2.2.2.2.2
  have hl := ok_lt ok
  obtain ⟨l1, g1⟩ := id e1
  by_cases hx : 0 ≤ x ∧ x ≤ 3
  · obtain ⟨c, rfl⟩ : ∃ c : Nat, x = c := ⟨x.toNat, by omega⟩
    have hc : c < 4 := by omega
    by_cases tk : tOK (sRw S)
    · have ro := rdn_ok ok (fun i hi => (row_v J hi).1) tk (sRw S).length (Nat.le_refl _)
      have rl := ok_lt ro
      refine ⟨(I ((plc (rdn (hLie (sN S)) (sRw S) (sRw S).length) c : Nat) : Int), 0), by omega, fun h R => ⟨h, ?_, ScC_rfl _⟩, fun h R => ?_⟩
      · simp (disch := omega) only [F_C_lands, show F_C_noCorner (I (c : Int)) h = some (I 0, h) from c_noTurn_t (by omega) (by omega), bd_s, zero_I, if_true, c_rowT_t J R tk, one_ne, not_false_iff, rn_l (rc_h R), c_rdn J R tk hl, c_plc rl hc]
      · have R0 := RM_Sc R (ScM_setT h)
        obtain ⟨h1, p1, t1, s1⟩ := m_think (rm_h R0) hl
        obtain ⟨h2, p2, t2, s2⟩ := l_rdnM (x := I (c : Int)) J tk hl (sRw S).length 0 5000 h1 (RM_Sc R0 s1) t1 (by omega) (by have := J.2.2.2.2.1; omega)
        have p2' : L_M_lands_51 (I (c : Int)) 5000 (I 0) h1 = some h2 := p2
        have g : L_M_lands_77 (I (c : Int)) 5000 (I 0) h2 = _ := l_plM (n := 4996) t2 ro hc
        refine ⟨h2, ?_, ScM_tr s1 s2⟩
        simp (disch := omega) only [F_M_lands, setT_d, hw_s, kw_s, toI64, m_in, if_pos hx, bd_s, zero_I, one_ne, oz, not_false_iff, if_true, if_false, m_are_t J R0 tk, le00, p1, p2', g]
    · refine q_pl (I (-3)) 3 (by omega) (fun h R => ?_) (fun h R => ?_)
      · simp (disch := omega) only [F_C_lands, show F_C_noCorner (I (c : Int)) h = some (I 0, h) from c_noTurn_t (by omega) (by omega), bd_s, zero_I, if_true, c_rowT_f J R tk, not_true, if_false, c_ref3]
      · simp (disch := omega) only [F_M_lands, setT_d, hw_s, kw_s, toI64, m_in, if_pos hx, bd_s, zero_I, one_ne, oz, not_false_iff, if_true, if_false, m_are_f J R tk, lm3, m_ref3]
  · refine q_pl (I (-1)) 1 (by omega) (fun h R => ?_) (fun h R => ?_)
    · simp only [F_C_lands, show F_C_noCorner (I x) h = some (I 1, h) from c_noTurn_f e1 (by omega), bd_s, zero_I, one_ne, if_false, c_ref1]
    · simp (disch := omega) only [F_M_lands, setT_d, hw_s, kw_s, toI64, m_in, if_neg hx, bd_s, zero_I, not_true, if_false, lm1, m_ref1]
