-- two at once
section TWO
variable {a : HS} {h : MH} {x y z u : Int}
theorem ne_I {x y : Int} (e1 : i32 x) (e2 : i32 y) (h : ¬ x = y) : (I x = I y) = False := by rw [I_eq e1.1 e1.2 e2.1 e2.2]; exact eq_false h
theorem c_twoP_t (R : RepH 8 a h.1) (J : InvH a) (h1 : inP a x) (h2 : inP a y) (hne : ¬ x = y) : F_C_noTwoPeople (I x) (I y) h = some (I 0, h) := by
  obtain ⟨j1, j2, j3, -⟩ := id J
  have e : (I x = I y) = False := ne_I ⟨by have := h1.1; omega, by have := h1.2; omega⟩ ⟨by have := h2.1; omega, by have := h2.2; omega⟩ hne
  simp only [F_C_noTwoPeople, c_noOne_t R J h1.1 h1.2, c_noOne_t R J h2.1 h2.2, bd_some, zero_I, e, not_true, not_false_iff, if_false, if_true, iw_d]
  exact cd_t (by decide)
theorem c_twoP_f (R : RepH 8 a h.1) (J : InvH a) (e1 : i32 x) (e2 : i32 y) (hn : ¬ (inP a x ∧ inP a y ∧ ¬ x = y)) : F_C_noTwoPeople (I x) (I y) h = some (I 1, h) := by
  by_cases h1 : inP a x
  · by_cases h2 : inP a y
    · have hxy : x = y := Classical.byContradiction fun q => hn ⟨h1, h2, q⟩
      subst hxy
      simp only [F_C_noTwoPeople, c_noOne_t R J h1.1 h1.2, bd_some, zero_I, not_true, if_false, iw_d]
      exact cd_t (by decide)
    · simp only [F_C_noTwoPeople, c_noOne_t R J h1.1 h1.2, c_noOne_f R J e2.1 e2.2 h2, bd_some, zero_I, one_ne, not_true, not_false_iff, if_false, if_true, iw_d]
      exact cd_t (by decide)
  · simp only [F_C_noTwoPeople, c_noOne_f R J e1.1 e1.2 h1, bd_some, zero_I, one_ne, not_true, not_false_iff, if_false, if_true, iw_d]
theorem c_twoW_t (R : RepH 8 a h.1) (J : InvH a) (h1 : inW a x) (h2 : inW a y) (hne : ¬ x = y) : F_C_noTwoWays (I x) (I y) h = some (I 0, h) := by
  obtain ⟨j1, j2, j3, -⟩ := id J
  have e : (I x = I y) = False := ne_I ⟨by have := h1.1; omega, by have := h1.2; omega⟩ ⟨by have := h2.1; omega, by have := h2.2; omega⟩ hne
  simp only [F_C_noTwoWays, c_noWay_t R J h1.1 h1.2, c_noWay_t R J h2.1 h2.2, bd_some, zero_I, e, not_true, not_false_iff, if_false, if_true, iw_d]
  exact cd_t (by decide)
theorem c_twoW_f (R : RepH 8 a h.1) (J : InvH a) (e1 : i32 x) (e2 : i32 y) (hn : ¬ (inW a x ∧ inW a y ∧ ¬ x = y)) : F_C_noTwoWays (I x) (I y) h = some (I 1, h) := by
  by_cases h1 : inW a x
  · by_cases h2 : inW a y
    · have hxy : x = y := Classical.byContradiction fun q => hn ⟨h1, h2, q⟩
      subst hxy
      simp only [F_C_noTwoWays, c_noWay_t R J h1.1 h1.2, bd_some, zero_I, not_true, if_false, iw_d]
      exact cd_t (by decide)
    · simp only [F_C_noTwoWays, c_noWay_t R J h1.1 h1.2, c_noWay_f R J e2.1 e2.2 h2, bd_some, zero_I, one_ne, not_true, not_false_iff, if_false, if_true, iw_d]
      exact cd_t (by decide)
  · simp only [F_C_noTwoWays, c_noWay_f R J e1.1 e1.2 h1, bd_some, zero_I, one_ne, not_true, not_false_iff, if_false, if_true, iw_d]
def both (a : HS) (x y z u : Int) : Prop := (inB a x ∧ inW a y ∧ inP a z) ∧ inP a u ∧ ¬ z = u
theorem m_both_t (R : RepM a h.1) (J : InvH a) (hn : both a x y z u) : F_M_wrongBoth (I x) (I y) (I z) (I u) h = some (I 0, h) := by
  obtain ⟨h1, h2, h3⟩ := hn
  obtain ⟨j1, j2, j3, -⟩ := id J
  have e : (I z = I u) = False := ne_I ⟨by have := h1.2.2.1; omega, by have := h1.2.2.2; omega⟩ ⟨by have := h2.1; omega, by have := h2.2; omega⟩ h3
  simp only [F_M_wrongBoth, m_isOne_t R J h2.1 h2.2, m_three_t R J h1.1 h1.2.1 h1.2.2, bd_some, zero_I, one_ne, e, if_false]
theorem m_both_f (R : RepM a h.1) (J : InvH a) (e1 : i32 x) (e2 : i32 y) (e3 : i32 z) (e4 : i32 u) (hn : ¬ both a x y z u) : F_M_wrongBoth (I x) (I y) (I z) (I u) h = some (I (-1), h) := by
  by_cases h2 : inP a u
  · by_cases h3 : z = u
    · subst h3
      simp only [F_M_wrongBoth, m_isOne_t R J h2.1 h2.2, bd_some, zero_I, one_ne, if_false, if_true]
    · have h1 : ¬ (inB a x ∧ inW a y ∧ inP a z) := fun h1 => hn ⟨h1, h2, h3⟩
      simp only [F_M_wrongBoth, m_isOne_t R J h2.1 h2.2, m_three_f R J e1 e2 e3 h1, bd_some, zero_I, one_ne, ne_I e3 e4 h3, if_false]
  · simp only [F_M_wrongBoth, m_isOne_f R J e4.1 e4.2 h2, bd_some, zero_I, if_true]
theorem m_num {l r : Int} (e1 : i32 x) (e2 : i32 l) (e3 : i32 r) : F_M_wrongNumber (I x) (I l) (I r) h = some (I (if l ≤ x then (if x ≤ r then 0 else -6) else -4), h) := by
  obtain ⟨a1, a2⟩ := e1
  obtain ⟨b1, b2⟩ := e2
  obtain ⟨c1, c2⟩ := e3
  simp (disch := omega) only [F_M_wrongNumber, I_le, I_ite, iw_d]
def sTog (a : HS) (b w p q : Nat) : Int := (if sSe a b (hK a w) (hF a w) (hS a p) < sSe a b (hK a w) (hF a w) (hS a q) then sSe a b (hK a w) (hF a w) (hS a q) else sSe a b (hK a w) (hF a w) (hS a p)) / 2 + 2 + 3 * sShake (sFo a b b (hK a w) (hF a w)) (sFew (hA a p) + sFew (hA a q))
theorem sTog_b {a : HS} (J : InvH a) (b w p q : Nat) : 0 ≤ sTog a b w p q ∧ sTog a b w p q ≤ 1000 := by
  obtain ⟨j1, j2, j3, j4, j5, j6⟩ := id J
  have hw6 := j6 w
  have hp := j5 p
  have hq := j5 q
  have q1 := sSe_b J b (k := hK a w) hw6.2.2.1 hw6.2.2.2 hp.2.2.1
  have q2 := sSe_b J b (k := hK a w) hw6.2.2.1 hw6.2.2.2 hq.2.2.1
  have q3 := sFo_b J b b (k := hK a w) hw6.2.2.1 hw6.2.2.2
  have q4 := sFew_b hp.1 hp.2.1
  have q5 := sFew_b hq.1 hq.2.1
  have q6 := sShake_b q3.1 q3.2 (show 1 ≤ sFew (hA a p) + sFew (hA a q) by omega) (by omega)
  unfold sTog
  split <;> omega
theorem c_tog (R : RepH 8 a h.1) (J : InvH a) {b w p q : Nat} (hb : b < nB a) (hw : w < nW a) (hp : p < nP a) (hq : q < nP a) : F_H_timeTogether (I b) (I w) (I p) (I q) h = some (I (sTog a b w p q), h) := by
  obtain ⟨j1, j2, j3, j4, j5, j6⟩ := id J
  have hw6 := j6 w
  have hp5 := j5 p
  have hq5 := j5 q
  have q1 := sSe_b J b (k := hK a w) hw6.2.2.1 hw6.2.2.2 hp5.2.2.1
  have q2 := sSe_b J b (k := hK a w) hw6.2.2.1 hw6.2.2.2 hq5.2.2.1
  have q3 := sFo_b J b b (k := hK a w) hw6.2.2.1 hw6.2.2.2
  have q4 := sFew_b hp5.1 hp5.2.1
  have q5 := sFew_b hq5.1 hq5.2.1
  have q6 := sShake_b q3.1 q3.2 (show 1 ≤ sFew (hA a p) + sFew (hA a q) by omega) (by omega)
  unfold F_H_timeTogether
  rw [c_secs R J hb hw hp, bd_some]
  dsimp only
  rw [c_secs R J hb hw hq, bd_some]
  dsimp only
  rw [iw_d, ck_in (by omega) (by omega) (by omega), I_nat (by omega) (by omega), Int.toNat_natCast, rn_a R hp, c_few (by omega) (by omega), bd_some]
  dsimp only
  rw [ck_in (by omega) (by omega) (by omega), I_nat (by omega) (by omega), Int.toNat_natCast, rn_a R hq, c_few (by omega) (by omega), bd_some]
  dsimp only
  rw [c_foldsBy R J hb hw, bd_some]
  dsimp only
  rw [I_add, c_till q3.1 q3.2 (by omega) (by omega), bd_some]
  dsimp only
  simp (disch := omega) only [I_lt, I_ite]
  rw [I_div (by split <;> omega) (by split <;> omega) (by omega) (by omega), I_mul, I_add, I_add]
  rfl
theorem m_tog (R : RepM a h.1) (J : InvH a) {b w p q : Nat} (hb : b < nB a) (hw : w < nW a) (hp : p < nP a) (hq : q < nP a) : F_M_togetherOf (I b) (I w) (I p) (I q) h = some (I (sTog a b w p q), h) := by
  obtain ⟨j1, j2, j3, j4, j5, j6⟩ := id J
  have hw6 := j6 w
  have hp5 := j5 p
  have hq5 := j5 q
  have q1 := sSe_b J b (k := hK a w) hw6.2.2.1 hw6.2.2.2 hp5.2.2.1
  have q2 := sSe_b J b (k := hK a w) hw6.2.2.1 hw6.2.2.2 hq5.2.2.1
  have q3 := sFo_b J b b (k := hK a w) hw6.2.2.1 hw6.2.2.2
  have q4 := sFew_b hp5.1 hp5.2.1
  have q5 := sFew_b hq5.1 hq5.2.1
  have q6 := sShake_b q3.1 q3.2 (show 1 ≤ sFew (hA a p) + sFew (hA a q) by omega) (by omega)
  have ew : ck (mm_in (I (w : Int)) 6) = fun (x : Option (Int32 × MH)) => x := funext fun x => ck_in (by omega) (by omega) (by omega)
  have ep : ck (mm_in (I (p : Int)) 4) = fun (x : Option (Int32 × MH)) => x := funext fun x => ck_in (by omega) (by omega) (by omega)
  have eq : ck (mm_in (I (q : Int)) 4) = fun (x : Option (Int32 × MH)) => x := funext fun x => ck_in (by omega) (by omega) (by omega)
  have nw : (I (w : Int)).toNatClampNeg = w := by rw [I_nat (by omega) (by omega), Int.toNat_natCast]
  have np : (I (p : Int)).toNatClampNeg = p := by rw [I_nat (by omega) (by omega), Int.toNat_natCast]
  have nq : (I (q : Int)).toNatClampNeg = q := by rw [I_nat (by omega) (by omega), Int.toNat_natCast]
  unfold F_M_togetherOf
  simp only [ew, ep, eq, nw, np, nq]
  rw [rm_k R hw, rm_f R hw, rm_s R hp, m_secsOf R J hb hw6.1 hw6.2.1 hw6.2.2.1 hw6.2.2.2 hp5.2.2.1 hp5.2.2.2, bd_some]
  dsimp only
  rw [rm_k R hw, rm_f R hw, rm_s R hq, m_secsOf R J hb hw6.1 hw6.2.1 hw6.2.2.1 hw6.2.2.2 hq5.2.2.1 hq5.2.2.2, bd_some]
  dsimp only
  rw [rm_a R hp, m_few (by omega) (by omega), bd_some]
  dsimp only
  rw [rm_a R hq, m_few (by omega) (by omega), bd_some]
  dsimp only
  rw [m_least (by omega) (by omega) (by omega) (by omega), bd_some]
  dsimp only
  rw [m_foldsOf R J hb hw, bd_some]
  dsimp only
  rw [I_add, m_shakes q3.1 (by omega) (by omega) (by omega), bd_some]
  dsimp only
  rw [I_div (by split <;> omega) (by split <;> omega) (by omega) (by omega), I_mul, I_add, I_add]
  have e : (if sSe a b (hK a w) (hF a w) (hS a q) ≤ sSe a b (hK a w) (hF a w) (hS a p) then sSe a b (hK a w) (hF a w) (hS a p) else sSe a b (hK a w) (hF a w) (hS a q)) = (if sSe a b (hK a w) (hF a w) (hS a p) < sSe a b (hK a w) (hF a w) (hS a q) then sSe a b (hK a w) (hF a w) (hS a q) else sSe a b (hK a w) (hF a w) (hS a p)) := by split <;> split <;> omega
  rw [e]
  rfl
end TWO
-- 18 together, 19 waits
theorem q_together {S : SS} (J : InvS S) {x y z u : Int} (e1 : i32 x) (e2 : i32 y) (e3 : i32 z) (e4 : i32 u) : Q2 S (F_C_together (I x) (I y) (I z) (I u)) (F_M_together (I x) (I y) (I z) (I u)) := by
  have K := is_h J
  by_cases hn : both (sN S) x y z u
  · obtain ⟨⟨hx, hy, hz⟩, hu, hne⟩ := id hn
    obtain ⟨b, hb, rfl⟩ := nn hx
    obtain ⟨w, hw, rfl⟩ := nn hy
    obtain ⟨p, hp, rfl⟩ := nn hz
    obtain ⟨q, hq, rfl⟩ := nn hu
    refine q_pl (I (sTog (sN S) b w p q)) 0 (by omega) (fun h R => ?_) (fun h R => ?_)
    · have R := rc_h R
      simp only [F_C_together, c_noBed_t R K hx.1 hx.2, c_noWay_t R K hy.1 hy.2, c_twoP_t R K hz hu hne, c_tog R K hb hw hp hq, bd_some, zero_I, not_true, if_false, if_true]
      rfl
    · have R := rm_h R
      simp only [F_M_together, setT_d, hw_d, m_both_t R K hn, m_tog R K hb hw hp hq, bd_some, zero_I, le00, if_true]
      rfl
  · refine q_pl (I (-1)) 1 (by omega) (fun h R => ?_) (fun h R => ?_)
    · have R := rc_h R
      by_cases hx : inB (sN S) x
      · by_cases hy : inW (sN S) y
        · have h2 : ¬ (inP (sN S) z ∧ inP (sN S) u ∧ ¬ z = u) := fun t => hn ⟨⟨hx, hy, t.1⟩, t.2.1, t.2.2⟩
          simp only [F_C_together, c_noBed_t R K hx.1 hx.2, c_noWay_t R K hy.1 hy.2, c_twoP_f R K e3 e4 h2, bd_some, zero_I, one_ne, not_true, if_false, c_ref1]
        · simp only [F_C_together, c_noBed_t R K hx.1 hx.2, c_noWay_f R K e2.1 e2.2 hy, bd_some, zero_I, one_ne, not_true, not_false_iff, if_false, if_true, c_ref1]
      · simp only [F_C_together, c_noBed_f R K e1.1 e1.2 hx, bd_some, zero_I, one_ne, not_false_iff, if_true, c_ref1]
    · simp only [F_M_together, setT_d, hw_d, m_both_f (rm_h R) K e1 e2 e3 e4 hn, bd_some, zero_I, le0m (show (-7:Int) < -1 by omega) (by omega), if_false, m_ref1]
theorem q_waits {S : SS} (J : InvS S) {x y z u : Int} (e1 : i32 x) (e2 : i32 y) (e3 : i32 z) (e4 : i32 u) : Q2 S (F_C_waits (I x) (I y) (I z) (I u)) (F_M_waits (I x) (I y) (I z) (I u)) := by
  have K := is_h J
  by_cases hn : both (sN S) x y z u
  · obtain ⟨⟨hx, hy, hz⟩, hu, hne⟩ := id hn
    obtain ⟨b, hb, rfl⟩ := nn hx
    obtain ⟨w, hw, rfl⟩ := nn hy
    obtain ⟨p, hp, rfl⟩ := nn hz
    obtain ⟨q, hq, rfl⟩ := nn hu
    have q1 := sTog_b K b w p q
    have q2 := sTw_b K b w p
    refine q_pl (I (if 0 ≤ sTw (sN S) b w p - sTog (sN S) b w p q then sTw (sN S) b w p - sTog (sN S) b w p q else -9)) 0 (by omega) (fun h R => ?_) (fun h R => ?_)
    · have R := rc_h R
      simp (disch := omega) only [F_C_waits, c_noBed_t R K hx.1 hx.2, c_noWay_t R K hy.1 hy.2, c_twoP_t R K hz hu hne, c_tog R K hb hw hp hq, c_timeBy R K hb hw hp, bd_some, zero_I, not_true, if_false, if_true, I_sub, I_le, I_ite, iw_d]
      rfl
    · have R := rm_h R
      simp (disch := omega) only [F_M_waits, setT_d, hw_d, m_both_t R K hn, m_tog R K hb hw hp hq, m_timeOf R K hb hw hp, bd_some, zero_I, le00, if_true, I_sub, I_le, I_ite, iw_d]
      rfl
  · refine q_pl (I (-1)) 1 (by omega) (fun h R => ?_) (fun h R => ?_)
    · have R := rc_h R
      by_cases hx : inB (sN S) x
      · by_cases hy : inW (sN S) y
        · have h2 : ¬ (inP (sN S) z ∧ inP (sN S) u ∧ ¬ z = u) := fun t => hn ⟨⟨hx, hy, t.1⟩, t.2.1, t.2.2⟩
          simp only [F_C_waits, c_noBed_t R K hx.1 hx.2, c_noWay_t R K hy.1 hy.2, c_twoP_f R K e3 e4 h2, bd_some, zero_I, one_ne, not_true, if_false, c_ref1]
        · simp only [F_C_waits, c_noBed_t R K hx.1 hx.2, c_noWay_f R K e2.1 e2.2 hy, bd_some, zero_I, one_ne, not_true, not_false_iff, if_false, if_true, c_ref1]
      · simp only [F_C_waits, c_noBed_f R K e1.1 e1.2 hx, bd_some, zero_I, one_ne, not_false_iff, if_true, c_ref1]
    · simp only [F_M_waits, setT_d, hw_d, m_both_f (rm_h R) K e1 e2 e3 e4 hn, bd_some, zero_I, le0m (show (-7:Int) < -1 by omega) (by omega), if_false, m_ref1]
