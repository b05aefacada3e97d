-- 20 crosswise
def iabs (x : Int) : Int := if 0 ≤ x then x else -x
section CRW
variable {a : HS} {h : MH}
theorem m_abs {x : Int} (h1 : -1000 ≤ x) (h2 : x ≤ 1000) : F_M_apart (I x) (I 0) h = some (I (iabs x), h) := by
  simp (disch := omega) only [F_M_apart, I_sub, I_le, I_ite, iw_s]
  congr 3
  unfold iabs
  split <;> split <;> omega
theorem c_tells {r l b : Int} (h1 : 1 ≤ r) (h2 : r ≤ 24) (h3 : 1 ≤ l) (h4 : l ≤ 24) (h5 : 1 ≤ b) (h6 : b ≤ 24) : F_C_tellsApart (I r) (I (100 * l + b)) h = some (I (iabs (dist r l - dist r b)), h) := by
  have d1 := dist_b (x := r) (y := l) (by omega) (by omega) (by omega) (by omega)
  have d2 := dist_b (x := r) (y := b) (by omega) (by omega) (by omega) (by omega)
  simp (disch := omega) only [F_C_tellsApart, c_len, c_bre, bd_s, iw_s, e100, m100, abs_I]
  congr 3
  show (if dist r b ≤ dist r l then dist r l - dist r b else dist r b - dist r l) = _
  unfold iabs
  split <;> split <;> omega
end CRW
theorem q_crosswise {S : SS} (J : InvS S) {x y : Int} (e1 : i32 x) (e2 : i32 y) : Q2 S (F_C_crosswise (I x) (I y)) (F_M_crosswise (I x) (I y)) := by
  have K := is_h J
  by_cases hx : inB (sN S) x
  · obtain ⟨b, hb, rfl⟩ := nn hx
    obtain ⟨j1, j2, j3, j4, j5, j6⟩ := id K
    obtain ⟨b1, b2, b3, b4, b5, b6, b7, b8⟩ := j4 b
    have d1 := dist_b (x := hL (sN S) b) (y := hC (sN S) b) (by omega) (by omega) (by omega) (by omega)
    have d2 := dist_b (x := hL (sN S) b) (y := hD (sN S) b) (by omega) (by omega) (by omega) (by omega)
    have d3 := dist_b (x := hB (sN S) b) (y := hD (sN S) b) (by omega) (by omega) (by omega) (by omega)
    have d4 := dist_b (x := hB (sN S) b) (y := hC (sN S) b) (by omega) (by omega) (by omega) (by omega)
    by_cases hu : 0 ≤ y ∧ y ≤ 1
    · rcases (show y = 0 ∨ y = 1 by omega) with rfl | rfl
      · refine q_pl (I (dist (hL (sN S) b) (hC (sN S) b) + dist (hB (sN S) b) (hD (sN S) b) - (dist (hL (sN S) b) (hD (sN S) b) + dist (hB (sN S) b) (hC (sN S) b)))) 0 (by omega) (fun h R => ?_) (fun h R => ?_)
        · have R := rc_h R
          simp (disch := omega) only [F_C_crosswise, c_noBed_t R K hx.1 hx.2, bd_s, zero_I, if_true, c_other_t hu.1 hu.2 (by omega), not_true, if_false, ck_in, I_nat, Int.toNat_natCast, rn_q R hb, rn_c R hb, c_along b1 b2 b3 b4 b5 b6 b7 b8, c_across b1 b2 b3 b4 b5 b6 b7 b8, I_sub]
          rfl
        · have R := rm_h R
          have e : dist (hL (sN S) b) (hC (sN S) b) - dist (hL (sN S) b) (hD (sN S) b) + (dist (hB (sN S) b) (hD (sN S) b) - dist (hB (sN S) b) (hC (sN S) b)) = dist (hL (sN S) b) (hC (sN S) b) + dist (hB (sN S) b) (hD (sN S) b) - (dist (hL (sN S) b) (hD (sN S) b) + dist (hB (sN S) b) (hC (sN S) b)) := by omega
          simp (disch := omega) only [F_M_crosswise, setT_d, hw_s, m_isBed_t R K hx.1 hx.2, kw_s, bd_s, zero_I, one_ne, if_false, m_bit_t hu.1 hu.2 (by omega), le00, if_true, not_true, I_mul, ck_in, I_nat, n40, n41, n42, n43, I_add, rm_L R hb, rm_B R hb, rm_C R hb, rm_D R hb, m_apart, I_sub, e]
          rfl
      · refine q_pl (I (if iabs (dist (hB (sN S) b) (hC (sN S) b) - dist (hB (sN S) b) (hD (sN S) b)) ≤ iabs (dist (hL (sN S) b) (hC (sN S) b) - dist (hL (sN S) b) (hD (sN S) b)) then 0 else 1)) 0 (by omega) (fun h R => ?_) (fun h R => ?_)
        · have R := rc_h R
          have t1 := c_tells (h := h) b3 b4 b5 b6 b7 b8
          have t2 := c_tells (h := h) b1 b2 b5 b6 b7 b8
          have i1 : 0 ≤ iabs (dist (hB (sN S) b) (hC (sN S) b) - dist (hB (sN S) b) (hD (sN S) b)) ∧ iabs (dist (hB (sN S) b) (hC (sN S) b) - dist (hB (sN S) b) (hD (sN S) b)) ≤ 100 := by unfold iabs; split <;> omega
          have i2 : 0 ≤ iabs (dist (hL (sN S) b) (hC (sN S) b) - dist (hL (sN S) b) (hD (sN S) b)) ∧ iabs (dist (hL (sN S) b) (hC (sN S) b) - dist (hL (sN S) b) (hD (sN S) b)) ≤ 100 := by unfold iabs; split <;> omega
          simp (disch := omega) only [F_C_crosswise, c_noBed_t R K hx.1 hx.2, bd_s, zero_I, if_true, c_other_t hu.1 hu.2 (by omega), one_ne, not_false_iff, ck_in, I_nat, Int.toNat_natCast, rn_q R hb, rn_c R hb, c_len, c_bre, e100, m100, t1, t2, I_le, I_ite, iw_s]
          rfl
        · have R := rm_h R
          have i1 : iabs (dist (hB (sN S) b) (hD (sN S) b) - dist (hB (sN S) b) (hC (sN S) b)) = iabs (dist (hB (sN S) b) (hC (sN S) b) - dist (hB (sN S) b) (hD (sN S) b)) := by unfold iabs; split <;> split <;> omega
          have i2 : 0 ≤ iabs (dist (hL (sN S) b) (hC (sN S) b) - dist (hL (sN S) b) (hD (sN S) b)) ∧ iabs (dist (hL (sN S) b) (hC (sN S) b) - dist (hL (sN S) b) (hD (sN S) b)) ≤ 100 := by unfold iabs; split <;> omega
          have i3 : 0 ≤ iabs (dist (hB (sN S) b) (hC (sN S) b) - dist (hB (sN S) b) (hD (sN S) b)) ∧ iabs (dist (hB (sN S) b) (hC (sN S) b) - dist (hB (sN S) b) (hD (sN S) b)) ≤ 100 := by unfold iabs; split <;> omega
          simp (disch := omega) only [F_M_crosswise, setT_d, hw_s, m_isBed_t R K hx.1 hx.2, kw_s, bd_s, zero_I, one_ne, if_false, m_bit_t hu.1 hu.2 (by omega), le00, if_true, not_false_iff, I_mul, ck_in, I_nat, n40, n41, n42, n43, I_add, rm_L R hb, rm_B R hb, rm_C R hb, rm_D R hb, m_apart, I_sub, m_abs, i1, I_le, I_ite, iw_s]
          rfl
    · refine q_pl (I 1000000002) 2 (by omega) (fun h R => ?_) (fun h R => ?_)
      · have R := rc_h R
        simp (disch := omega) only [F_C_crosswise, c_noBed_t R K hx.1 hx.2, bd_s, zero_I, if_true, c_other_f e2.1 e2.2 (show (0:Int) ≤ 1 by omega) (by omega) hu, one_ne, if_false, c_ref2, I_sub]
        rfl
      · have R := rm_h R
        simp (disch := omega) only [F_M_crosswise, setT_d, hw_s, m_isBed_t R K hx.1 hx.2, kw_s, bd_s, zero_I, one_ne, if_false, m_bit_f e2 (show (0:Int) ≤ 1 by omega) (by omega) hu, lm2, m_ref2, I_sub]
        rfl
  · refine q_pl (I 1000000001) 1 (by omega) (fun h R => ?_) (fun h R => ?_)
    · simp (disch := omega) only [F_C_crosswise, c_noBed_f (rc_h R) K e1.1 e1.2 hx, bd_s, zero_I, one_ne, if_false, c_ref1, I_sub]
      rfl
    · simp (disch := omega) only [F_M_crosswise, setT_d, hw_s, m_isBed_f (rm_h R) K e1.1 e1.2 hx, kw_s, bd_s, zero_I, if_true, lm1, if_false, m_ref1, I_sub]
      rfl
-- 33 look
section LOOK
variable {a : HS} {h : MH} {y z u : Int}
def catR (a : HS) (y z u : Int) : Prop := inW a y ∧ inP a z
theorem c_cat_n (R : RepH 8 a h.1) (J : InvH a) (e1 : i32 y) (e2 : i32 z) (hn : ¬ (inW a y ∧ inP a z)) : F_C_catRefusal (I y) (I z) (I u) h = some (I (-1), h) := by
  by_cases h1 : inW a y
  · have h2 : ¬ inP a z := fun q => hn ⟨h1, q⟩
    simp only [F_C_catRefusal, c_noWay_t R J h1.1 h1.2, c_noOne_f R J e2.1 e2.2 h2, bd_s, zero_I, one_ne, not_true, if_false]
  · simp only [F_C_catRefusal, c_noWay_f R J e1.1 e1.2 h1, bd_s, zero_I, one_ne, not_false_iff, if_true]
theorem c_cat_t (R : RepH 8 a h.1) (J : InvH a) (e3 : i32 u) (h1 : inW a y) (h2 : inP a z) : F_C_catRefusal (I y) (I z) (I u) h = some (I (if 2 ≤ u then (if u ≤ 20 then 0 else -6) else -4), h) := by
  obtain ⟨l, g⟩ := e3
  simp (disch := omega) only [F_C_catRefusal, c_noWay_t R J h1.1 h1.2, c_noOne_t R J h2.1 h2.2, bd_s, zero_I, not_true, if_false, if_true, I_le]
  by_cases c : 2 ≤ u
  · rw [if_pos c, if_pos c]
    simp (disch := omega) only [I_le, I_ite, iw_s]
  · rw [if_neg c, if_neg c]
end LOOK
theorem look_eq {r n u : Int} (h1 : 2 ≤ u) (h2 : u ≤ 20) : (r * (u + 1) ≤ (r + 5 * n) * u) = (r ≤ 5 * n * u) := by
  rw [Int.mul_add, Int.add_mul, Int.mul_one]
  generalize r * u = k
  generalize 5 * n * u = m
  exact propext ⟨fun h => by omega, fun h => by omega⟩
theorem mul20 {r u : Int} (h1 : 0 ≤ r) (h2 : r ≤ 3000) (h3 : 0 ≤ u) (h4 : u ≤ 21) : 0 ≤ r * u ∧ r * u ≤ 63000 := by
  have a1 : r * u ≤ 3000 * u := Int.mul_le_mul_of_nonneg_right h2 h3
  have a2 : 0 ≤ r * u := Int.mul_nonneg h1 h3
  omega
theorem q_look {S : SS} (J : InvS S) {y z u : Int} (e2 : i32 y) (e3 : i32 z) (e4 : i32 u) : Q2 S (F_C_look (I y) (I z) (I u)) (F_M_look (I y) (I z) (I u)) := by
  have K := is_h J
  have c0 : i32 2 := ⟨by omega, by omega⟩
  have c40 : i32 20 := ⟨by omega, by omega⟩
  obtain ⟨l4, g4⟩ := id e4
  by_cases hn : inW (sN S) y ∧ inP (sN S) z
  · obtain ⟨hy, hz⟩ := id hn
    obtain ⟨w, hw, rfl⟩ := nn hy
    obtain ⟨p, hp, rfl⟩ := nn hz
    obtain ⟨j1, j2, j3, j4, j5, j6⟩ := id K
    have q1 := sumT_b K w p (nB (sN S))
    by_cases h0 : 2 ≤ u
    · by_cases h1 : u ≤ 20
      · have q2 := mul20 q1.1 (show _ ≤ (3000 : Int) by omega) (show 0 ≤ u + 1 by omega) (by omega)
        have q3 := mul20 (show 0 ≤ sumT (sN S) w p (nB (sN S)) + 5 * (nB (sN S) : Int) by omega) (by omega) (show 0 ≤ u by omega) (by omega)
        have q4 := mul20 (show 0 ≤ 5 * (nB (sN S) : Int) by omega) (by omega) (show 0 ≤ u by omega) (by omega)
        have le := look_eq (r := sumT (sN S) w p (nB (sN S))) (n := (nB (sN S) : Int)) h0 h1
        refine q_pl (I (if sumT (sN S) w p (nB (sN S)) ≤ 5 * (nB (sN S) : Int) * u then 0 else 1)) 0 (by omega) (fun h R => ?_) (fun h R => ?_)
        · have R := rc_h R
          simp (disch := omega) only [F_C_look, c_cat_t R K e4 hy hz, if_pos h0, if_pos h1, bd_s, zero_I, if_true, c_all R K hw hp, rn_b R, I_mul, I_le, I_ite, iw_s]
          rfl
        · have R := rm_h R
          simp (disch := omega) only [F_M_look, setT_d, hw_s, m_isWay_t R K hy.1 hy.2, m_isOne_t R K hz.1 hz.2, kw_s, bd_s, zero_I, one_ne, if_false, m_num e4 c0 c40, if_pos h0, if_pos h1, le00, if_true, m_all R K hw hp, rm_b R, I_add, I_mul, I_le, le, I_ite, iw_s]
          rfl
      · refine q_pl (I (-6)) 6 (by omega) (fun h R => ?_) (fun h R => ?_)
        · have R := rc_h R
          simp (disch := omega) only [F_C_look, c_cat_t R K e4 hy hz, if_pos h0, if_neg h1, bd_s, zero_I, emm6, if_false, c_ref6]
        · have R := rm_h R
          simp (disch := omega) only [F_M_look, setT_d, hw_s, m_isWay_t R K hy.1 hy.2, m_isOne_t R K hz.1 hz.2, kw_s, bd_s, zero_I, one_ne, if_false, m_num e4 c0 c40, if_pos h0, if_neg h1, lm6, m_ref6]
    · refine q_pl (I (-4)) 4 (by omega) (fun h R => ?_) (fun h R => ?_)
      · have R := rc_h R
        simp (disch := omega) only [F_C_look, c_cat_t R K e4 hy hz, if_neg h0, bd_s, zero_I, emm4, if_false, c_ref4]
      · have R := rm_h R
        simp (disch := omega) only [F_M_look, setT_d, hw_s, m_isWay_t R K hy.1 hy.2, m_isOne_t R K hz.1 hz.2, kw_s, bd_s, zero_I, one_ne, if_false, m_num e4 c0 c40, if_neg h0, lm4, m_ref4]
  · refine q_pl (I (-1)) 1 (by omega) (fun h R => ?_) (fun h R => ?_)
    · simp only [F_C_look, c_cat_n (rc_h R) K e2 e3 hn, bd_s, zero_I, emm1, if_false, c_ref1]
    · have R := rm_h R
      by_cases hy : inW (sN S) y
      · have hz : ¬ inP (sN S) z := fun q => hn ⟨hy, q⟩
        simp only [F_M_look, setT_d, hw_s, m_isWay_t R K hy.1 hy.2, m_isOne_f R K e3.1 e3.2 hz, kw_s, bd_s, zero_I, one_ne, if_false, if_true, lm1, m_ref1]
      · simp only [F_M_look, setT_d, hw_s, m_isWay_f R K e2.1 e2.2 hy, kw_s, bd_s, zero_I, if_true, lm1, if_false, m_ref1]
