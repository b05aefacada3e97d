-- 59 count
theorem q_count {S : SS} (J : InvS S) {x : Int} (e1 : i32 x) : Q2 S (F_C_count (I x)) (F_M_count (I x)) := by
  have hl := ok_lt J.2.2.2.2.2.2.2.2
  obtain ⟨l1, g1⟩ := id e1
  by_cases c : 0 ≤ x ∧ x ≤ 7
  · refine q_pl (I (if x = 0 then (nB (sN S) : Int) else if x = 1 then (nP (sN S) : Int) else if x = 2 then (nW (sN S) : Int) else if x = 3 then ((own (hLie (sN S)) 4 : Nat) : Int) else if x = 4 then ((hLie (sN S) / 256 : Nat) : Int) else if x = 5 then ((sLt S).length : Int) else if x = 6 then ((sRw S).length : Int) else ((sU S).length : Int))) 0 (by omega) (fun h R => ?_) (fun h R => ?_)
    · have R0 := rc_h R
      rcases (show x = 0 ∨ x = 1 ∨ x = 2 ∨ x = 3 ∨ x = 4 ∨ x = 5 ∨ x = 6 ∨ x = 7 by omega) with rfl | rfl | rfl | rfl | rfl | rfl | rfl | rfl <;>
        simp (disch := omega) [F_C_count, I_eq, I_lt, rn_b R0, rn_p R0, rn_w R0, rn_l R0, c_own hl, c_inOut hl, bd_s, R.2.2.1.1, R.2.2.2.1.1, R.2.2.2.2.1.1] <;> rfl
    · have R0 := rm_h R
      have o := rm_o R0
      have e : (if (setT h).1 55 9 = 0 then I 0 else I 1) = I ((hLie (sN S) / 256 : Nat) : Int) := by
        rw [o]
        rcases (show hLie (sN S) / 256 = 0 ∨ hLie (sN S) / 256 = 1 by omega) with q | q <;> rw [q] <;> rfl
      rcases (show x = 0 ∨ x = 1 ∨ x = 2 ∨ x = 3 ∨ x = 4 ∨ x = 5 ∨ x = 6 ∨ x = 7 by omega) with rfl | rfl | rfl | rfl | rfl | rfl | rfl | rfl <;>
        simp (disch := omega) only [F_M_count, setT_d, hw_s, I_eq, if_true, if_neg (show ¬ (1 : Int) = 0 by omega), if_neg (show ¬ (2 : Int) = 0 by omega), if_neg (show ¬ (2 : Int) = 1 by omega), if_neg (show ¬ (3 : Int) = 0 by omega), if_neg (show ¬ (3 : Int) = 1 by omega), if_neg (show ¬ (3 : Int) = 2 by omega), if_neg (show ¬ (4 : Int) = 0 by omega), if_neg (show ¬ (4 : Int) = 1 by omega), if_neg (show ¬ (4 : Int) = 2 by omega), if_neg (show ¬ (4 : Int) = 3 by omega), if_neg (show ¬ (5 : Int) = 0 by omega), if_neg (show ¬ (5 : Int) = 1 by omega), if_neg (show ¬ (5 : Int) = 2 by omega), if_neg (show ¬ (5 : Int) = 3 by omega), if_neg (show ¬ (5 : Int) = 4 by omega), if_neg (show ¬ (6 : Int) = 0 by omega), if_neg (show ¬ (6 : Int) = 1 by omega), if_neg (show ¬ (6 : Int) = 2 by omega), if_neg (show ¬ (6 : Int) = 3 by omega), if_neg (show ¬ (6 : Int) = 4 by omega), if_neg (show ¬ (6 : Int) = 5 by omega), if_neg (show ¬ (7 : Int) = 0 by omega), if_neg (show ¬ (7 : Int) = 1 by omega), if_neg (show ¬ (7 : Int) = 2 by omega), if_neg (show ¬ (7 : Int) = 3 by omega), if_neg (show ¬ (7 : Int) = 4 by omega), if_neg (show ¬ (7 : Int) = 5 by omega), if_neg (show ¬ (7 : Int) = 6 by omega), rm_b R0, rm_p R0, rm_w R0, m_own R0, e, iw_s, bd_s, R.2.2.1.1, R.2.2.2.1.1, R.2.2.2.2.1.1] <;> rfl
  · by_cases d : 11 ≤ x ∧ x ≤ 16
    · have en : (x - 10).toNat < 7 := by omega
      refine q_pl (sR S (x - 10).toNat) 0 (by omega) (fun h R => ?_) (fun h R => ?_)
      · have r := R.2.2.2.2.2 (x - 10).toNat en
        simp (disch := omega) only [F_C_count, I_lt, if_neg (show ¬ x < 11 by omega), if_neg (show ¬ 16 < x by omega), I_sub, ck_in, I_nat, r]
        rfl
      · have r := R.2.2.2.2.2 (x - 10).toNat en
        simp (disch := omega) only [F_M_count, setT_d, hw_s, I_eq, if_neg (show ¬ x = 0 by omega), if_neg (show ¬ x = 1 by omega), if_neg (show ¬ x = 2 by omega), if_neg (show ¬ x = 3 by omega), if_neg (show ¬ x = 4 by omega), if_neg (show ¬ x = 5 by omega), if_neg (show ¬ x = 6 by omega), if_neg (show ¬ x = 7 by omega), toI64, m_in, if_pos d, bd_s, zero_I, one_ne, oz, if_false, I_sub, ck_in, I_nat, r]
        rfl
    · refine q_pl (I (-9)) 0 (by omega) (fun h R => ?_) (fun h R => ?_)
      · by_cases q : x < 11
        · simp (disch := omega) only [F_C_count, I_lt, I_eq, if_pos q, if_neg (show ¬ x = 0 by omega), if_neg (show ¬ x = 1 by omega), if_neg (show ¬ x = 2 by omega), if_neg (show ¬ x = 3 by omega), if_neg (show ¬ x = 4 by omega), if_neg (show ¬ x = 5 by omega), if_neg (show ¬ x = 6 by omega), if_neg (show ¬ x = 7 by omega)]
          rfl
        · simp (disch := omega) only [F_C_count, I_lt, I_eq, if_neg q, if_pos (show 16 < x by omega), if_neg (show ¬ x = 0 by omega), if_neg (show ¬ x = 1 by omega), if_neg (show ¬ x = 2 by omega), if_neg (show ¬ x = 3 by omega), if_neg (show ¬ x = 4 by omega), if_neg (show ¬ x = 5 by omega), if_neg (show ¬ x = 6 by omega), if_neg (show ¬ x = 7 by omega)]
          rfl
      · simp (disch := omega) only [F_M_count, setT_d, hw_s, I_eq, if_neg (show ¬ x = 0 by omega), if_neg (show ¬ x = 1 by omega), if_neg (show ¬ x = 2 by omega), if_neg (show ¬ x = 3 by omega), if_neg (show ¬ x = 4 by omega), if_neg (show ¬ x = 5 by omega), if_neg (show ¬ x = 6 by omega), if_neg (show ¬ x = 7 by omega), toI64, m_in, if_neg d, bd_s, zero_I, if_true]
        rfl
