-- 4, 5, 6: what is told
theorem q_bedOf {S : SS} (J : InvS S) {x y : Int} (e1 : i32 x) (e2 : i32 y) : Q2 S (F_C_bedOf (I x) (I y)) (F_M_bedOf (I x) (I y)) := by
  have K := is_h J
  obtain ⟨l2, g2⟩ := id e2
  by_cases hx : inB (sN S) x
  · obtain ⟨b, hb, rfl⟩ := nn hx
    obtain ⟨j1, j2, j3, j4, j5, j6⟩ := id K
    have hb4 := j4 b
    by_cases hu : 0 ≤ y ∧ y ≤ 3
    · refine q_pl (I (if y = 0 then hL (sN S) b else if y = 1 then hB (sN S) b else if y = 2 then hC (sN S) b else hD (sN S) b)) 0 (by omega) (fun h R => ?_) (fun h R => ?_)
      · have R := rc_h R
        simp only [F_C_bedOf, c_noBed_t R K hx.1 hx.2, bd_some, zero_I, if_true, c_other_t hu.1 hu.2 (by omega), kw_d]
        rcases (show y = 0 ∨ y = 1 ∨ y = 2 ∨ y = 3 by omega) with rfl | rfl | rfl | rfl <;>
          simp (disch := omega) [I_eq, I_le, I_rem, ck_in, I_nat, rn_q R hb, rn_c R hb, c_len, c_bre, e100, m100, bd_some] <;> first | rfl | exact ⟨by omega, rfl⟩
      · have R := rm_h R
        simp (disch := omega) only [F_M_bedOf, setT_d, hw_d, m_isBed_t R K hx.1 hx.2, bd_some, zero_I, one_ne, if_false, toI64, m_in, if_pos hu, not_false_iff, if_true]
        rcases (show y = 0 ∨ y = 1 ∨ y = 2 ∨ y = 3 by omega) with rfl | rfl | rfl | rfl <;>
          simp (disch := omega) [I_eq, I_mul, I_add, ck_in, I_nat, n40, n41, n42, n43, rm_L R hb, rm_B R hb, rm_C R hb, rm_D R hb] <;> rfl
    · refine q_pl (I (-2)) 2 (by omega) (fun h R => ?_) (fun h R => ?_)
      · have R := rc_h R
        simp only [F_C_bedOf, c_noBed_t R K hx.1 hx.2, bd_some, zero_I, if_true, c_other_f l2 g2 (show (0:Int) ≤ 3 by omega) (by omega) hu, one_ne, if_false, c_ref2]
      · have R := rm_h R
        simp (disch := omega) only [F_M_bedOf, setT_d, hw_d, m_isBed_t R K hx.1 hx.2, bd_some, zero_I, one_ne, if_false, toI64, m_in, if_neg hu, not_true, iw_d, m_ref2]
  · refine q_pl (I (-1)) 1 (by omega) (fun h R => ?_) (fun h R => ?_)
    · simp only [F_C_bedOf, c_noBed_f (rc_h R) K e1.1 e1.2 hx, bd_some, zero_I, one_ne, if_false, c_ref1]
    · simp only [F_M_bedOf, setT_d, hw_d, m_isBed_f (rm_h R) K e1.1 e1.2 hx, bd_some, zero_I, if_true, iw_d, m_ref1]
theorem q_personOf {S : SS} (J : InvS S) {x y : Int} (e1 : i32 x) (e2 : i32 y) : Q2 S (F_C_personOf (I x) (I y)) (F_M_personOf (I x) (I y)) := by
  have K := is_h J
  obtain ⟨l2, g2⟩ := id e2
  by_cases hx : inP (sN S) x
  · obtain ⟨p, hp, rfl⟩ := nn hx
    obtain ⟨j1, j2, j3, j4, j5, j6⟩ := id K
    by_cases hu : 0 ≤ y ∧ y ≤ 1
    · refine q_pl (I (if y = 0 then hA (sN S) p else hS (sN S) p)) 0 (by omega) (fun h R => ?_) (fun h R => ?_)
      · have R := rc_h R
        simp only [F_C_personOf, c_noOne_t R K hx.1 hx.2, bd_some, zero_I, if_true, c_other_t hu.1 hu.2 (by omega)]
        rcases (show y = 0 ∨ y = 1 by omega) with rfl | rfl <;>
          simp (disch := omega) [I_eq, ck_in, I_nat, rn_a R hp, rn_s R hp] <;> rfl
      · have R := rm_h R
        simp (disch := omega) only [F_M_personOf, setT_d, hw_d, m_isOne_t R K hx.1 hx.2, bd_some, zero_I, one_ne, if_false, toI64, m_in, if_pos hu, not_false_iff, if_true]
        rcases (show y = 0 ∨ y = 1 by omega) with rfl | rfl <;>
          simp (disch := omega) [I_eq, ck_in, I_nat, rm_a R hp, rm_s R hp] <;> rfl
    · refine q_pl (I (-2)) 2 (by omega) (fun h R => ?_) (fun h R => ?_)
      · have R := rc_h R
        simp only [F_C_personOf, c_noOne_t R K hx.1 hx.2, bd_some, zero_I, if_true, c_other_f l2 g2 (show (0:Int) ≤ 1 by omega) (by omega) hu, one_ne, if_false, c_ref2]
      · have R := rm_h R
        simp (disch := omega) only [F_M_personOf, setT_d, hw_d, m_isOne_t R K hx.1 hx.2, bd_some, zero_I, one_ne, if_false, toI64, m_in, if_neg hu, not_true, iw_d, m_ref2]
  · refine q_pl (I (-1)) 1 (by omega) (fun h R => ?_) (fun h R => ?_)
    · simp only [F_C_personOf, c_noOne_f (rc_h R) K e1.1 e1.2 hx, bd_some, zero_I, one_ne, if_false, c_ref1]
    · simp only [F_M_personOf, setT_d, hw_d, m_isOne_f (rm_h R) K e1.1 e1.2 hx, bd_some, zero_I, if_true, iw_d, m_ref1]
theorem q_wayOf {S : SS} (J : InvS S) {x y : Int} (e1 : i32 x) (e2 : i32 y) : Q2 S (F_C_wayOf (I x) (I y)) (F_M_wayOf (I x) (I y)) := by
  have K := is_h J
  obtain ⟨l2, g2⟩ := id e2
  by_cases hx : inW (sN S) x
  · obtain ⟨w, hw, rfl⟩ := nn hx
    obtain ⟨j1, j2, j3, j4, j5, j6⟩ := id K
    by_cases hu : 0 ≤ y ∧ y ≤ 1
    · refine q_pl (I (if y = 0 then hK (sN S) w else hF (sN S) w)) 0 (by omega) (fun h R => ?_) (fun h R => ?_)
      · have R := rc_h R
        simp only [F_C_wayOf, c_noWay_t R K hx.1 hx.2, bd_some, zero_I, if_true, c_other_t hu.1 hu.2 (by omega)]
        rcases (show y = 0 ∨ y = 1 by omega) with rfl | rfl <;>
          simp (disch := omega) [I_eq, ck_in, I_nat, rn_k R hw, rn_f R hw] <;> rfl
      · have R := rm_h R
        simp (disch := omega) only [F_M_wayOf, setT_d, hw_d, m_isWay_t R K hx.1 hx.2, bd_some, zero_I, one_ne, if_false, toI64, m_in, if_pos hu, not_false_iff, if_true]
        rcases (show y = 0 ∨ y = 1 by omega) with rfl | rfl <;>
          simp (disch := omega) [I_eq, ck_in, I_nat, rm_k R hw, rm_f R hw] <;> rfl
    · refine q_pl (I (-2)) 2 (by omega) (fun h R => ?_) (fun h R => ?_)
      · have R := rc_h R
        simp only [F_C_wayOf, c_noWay_t R K hx.1 hx.2, bd_some, zero_I, if_true, c_other_f l2 g2 (show (0:Int) ≤ 1 by omega) (by omega) hu, one_ne, if_false, c_ref2]
      · have R := rm_h R
        simp (disch := omega) only [F_M_wayOf, setT_d, hw_d, m_isWay_t R K hx.1 hx.2, bd_some, zero_I, one_ne, if_false, toI64, m_in, if_neg hu, not_true, iw_d, m_ref2]
  · refine q_pl (I (-1)) 1 (by omega) (fun h R => ?_) (fun h R => ?_)
    · simp only [F_C_wayOf, c_noWay_f (rc_h R) K e1.1 e1.2 hx, bd_some, zero_I, one_ne, if_false, c_ref1]
    · simp only [F_M_wayOf, setT_d, hw_d, m_isWay_f (rm_h R) K e1.1 e1.2 hx, bd_some, zero_I, if_true, iw_d, m_ref1]
-- 15 bestWay
theorem q_bestWay {S : SS} (J : InvS S) {x z : Int} (e1 : i32 x) (e3 : i32 z) : Q2 S (F_C_bestWay (I x) (I z)) (F_M_bestWay (I x) (I z)) := by
  have K := is_h J
  by_cases hx : inB (sN S) x
  · by_cases hz : inP (sN S) z
    · obtain ⟨b, hb, rfl⟩ := nn hx
      obtain ⟨p, hp, rfl⟩ := nn hz
      refine q_pl (I (bestW (sN S) b p (nW (sN S)))) 0 (by omega) (fun h R => ?_) (fun h R => ?_)
      · have R := rc_h R
        simp only [F_C_bestWay, c_noBed_t R K hx.1 hx.2, c_noOne_t R K hz.1 hz.2, c_bestFor R K hb hp, bd_some, zero_I, not_true, if_false, if_true]
        rfl
      · have R := rm_h R
        simp only [F_M_bestWay, setT_d, hw_d, m_isBed_t R K hx.1 hx.2, m_isOne_t R K hz.1 hz.2, m_best R K hb hp, bd_some, zero_I, one_ne, if_false]
        rfl
    · refine q_pl (I (-1)) 1 (by omega) (fun h R => ?_) (fun h R => ?_)
      · simp only [F_C_bestWay, c_noBed_t (rc_h R) K hx.1 hx.2, c_noOne_f (rc_h R) K e3.1 e3.2 hz, bd_some, zero_I, one_ne, not_true, if_false, c_ref1]
      · simp only [F_M_bestWay, setT_d, hw_d, m_isBed_t (rm_h R) K hx.1 hx.2, m_isOne_f (rm_h R) K e3.1 e3.2 hz, bd_some, zero_I, one_ne, if_false, if_true, m_ref1]
  · refine q_pl (I (-1)) 1 (by omega) (fun h R => ?_) (fun h R => ?_)
    · simp only [F_C_bestWay, c_noBed_f (rc_h R) K e1.1 e1.2 hx, bd_some, zero_I, one_ne, not_false_iff, if_true, c_ref1]
    · simp only [F_M_bestWay, setT_d, hw_d, m_isBed_f (rm_h R) K e1.1 e1.2 hx, bd_some, zero_I, if_true, m_ref1]
-- 17 onBed
theorem q_onBed {S : SS} (J : InvS S) {x y z : Int} (e1 : i32 x) (e2 : i32 y) (e3 : i32 z) : Q2 S (F_C_onBed (I x) (I y) (I z)) (F_M_onBed (I x) (I y) (I z)) := by
  have K := is_h J
  by_cases hn : inB (sN S) x ∧ inW (sN S) y ∧ inP (sN S) z
  · obtain ⟨hx, hy, hz⟩ := id hn
    obtain ⟨b, hb, rfl⟩ := nn hx
    obtain ⟨w, hw, rfl⟩ := nn hy
    obtain ⟨p, hp, rfl⟩ := nn hz
    obtain ⟨j1, j2, j3, j4, j5, j6⟩ := id K
    have hw6 := j6 w
    have hp5 := j5 p
    have q1 := sTw_b K b w p
    refine q_pl (I (sTw (sN S) b w p - (sT (sN S) b (hK (sN S) w) (hF (sN S) w) (if hA (sN S) p + 3 < 12 then hA (sN S) p + 3 else 12) (hS (sN S) p) + 8))) 0 (by omega) (fun h R => ?_) (fun h R => ?_)
    · have R := rc_h R
      have ar : 1 ≤ (if hA (sN S) p + 3 < 12 then hA (sN S) p + 3 else 12) ∧ (if hA (sN S) p + 3 < 12 then hA (sN S) p + 3 else 12) ≤ 12 := by split <;> omega
      have q2 := sT_b K b (k := hK (sN S) w) hw6.2.2.1 hw6.2.2.2 hp5.2.2.1 ar.1 ar.2
      have tw := c_timeWith R K hb hw ar.1 ar.2 hp5.2.2.1 hp5.2.2.2
      simp (disch := omega) only [F_C_onBed, c_lacks_t R K hx hy hz, bd_some, zero_I, if_true, ck_in, I_nat, Int.toNat_natCast, rn_a R hp, rn_s R hp, I_add, I_lt, I_ite, iw_d, tw, c_timeBy R K hb hw hp, I_sub]
      rfl
    · have R := rm_h R
      have e : (if hA (sN S) p + 3 ≤ 12 then hA (sN S) p + 3 else 12) = (if hA (sN S) p + 3 < 12 then hA (sN S) p + 3 else 12) := by split <;> split <;> omega
      have ar : 1 ≤ (if hA (sN S) p + 3 < 12 then hA (sN S) p + 3 else 12) ∧ (if hA (sN S) p + 3 < 12 then hA (sN S) p + 3 else 12) ≤ 12 := by split <;> omega
      have tw := m_timeBy R K hb hw6.1 hw6.2.1 hw6.2.2.1 hw6.2.2.2 ar.1 ar.2 hp5.2.2.1 hp5.2.2.2
      simp (disch := omega) only [F_M_onBed, setT_d, hw_d, m_three_t R K hx hy hz, bd_some, zero_I, le00, if_true, ck_in, I_nat, Int.toNat_natCast, rm_k R hw, rm_f R hw, rm_a R hp, rm_s R hp, I_add, m_most, e, tw, m_timeOf R K hb hw hp, I_sub]
      rfl
  · refine q_pl (I 1000000001) 1 (by omega) (fun h R => ?_) (fun h R => ?_)
    · simp only [F_C_onBed, c_lacks_f (rc_h R) K e1 e2 e3 hn, bd_some, zero_I, one_ne, if_false, c_ref1, I_sub]
      rfl
    · simp only [F_M_onBed, setT_d, hw_d, m_three_f (rm_h R) K e1 e2 e3 hn, bd_some, zero_I, le0m (show (-7:Int) < -1 by omega) (by omega), if_false, m_ref1, I_sub]
      rfl
