-- the plain questions
theorem c_ref1 (h : MH) : F_C_refuse (I (-1)) h = some (I (-1), refC 1 h) := rfl
theorem c_ref2 (h : MH) : F_C_refuse (I (-2)) h = some (I (-2), refC 2 h) := rfl
theorem c_ref3 (h : MH) : F_C_refuse (I (-3)) h = some (I (-3), refC 3 h) := rfl
theorem c_ref4 (h : MH) : F_C_refuse (I (-4)) h = some (I (-4), refC 4 h) := rfl
theorem c_ref5 (h : MH) : F_C_refuse (I (-5)) h = some (I (-5), refC 5 h) := rfl
theorem c_ref6 (h : MH) : F_C_refuse (I (-6)) h = some (I (-6), refC 6 h) := rfl
theorem m_ref1 (h : MH) : F_M_refuse (I (-1)) h = some (I (-1), refM 1 h) := rfl
theorem m_ref2 (h : MH) : F_M_refuse (I (-2)) h = some (I (-2), refM 2 h) := rfl
theorem m_ref3 (h : MH) : F_M_refuse (I (-3)) h = some (I (-3), refM 3 h) := rfl
theorem m_ref4 (h : MH) : F_M_refuse (I (-4)) h = some (I (-4), refM 4 h) := rfl
theorem m_ref5 (h : MH) : F_M_refuse (I (-5)) h = some (I (-5), refM 5 h) := rfl
theorem m_ref6 (h : MH) : F_M_refuse (I (-6)) h = some (I (-6), refM 6 h) := rfl
theorem setT_d (h : MH) : (mm_hset h.1 55 10 (I 0), h.2) = setT h := rfl
theorem nn {x : Int} {n : Nat} (h : 0 ≤ x ∧ x < n) : ∃ b : Nat, b < n ∧ x = (b : Int) := ⟨x.toNat, by omega, by omega⟩
/-- the form of a plain question: no change but the refusal -/
theorem q_pl {α : Type} {S : SS} {F G : MH → Option (α × MH)} (v : α) (r : Nat) (hr : r < 7) (c : ∀ h, RC S h → F h = some (v, refC r h)) (m : ∀ h, RM S (setT h) → G h = some (v, refM r (setT h))) : Q2 S F G :=
  ⟨(v, r), hr, fun h R => ⟨_, c h R, ScC_rfl _⟩, fun h R => ⟨_, m h (RM_Sc R (ScM_setT h)), ScM_rfl _⟩⟩
theorem one_ne : (I 1 = I 0) = False := eq_false (by decide)
section LK
variable {a : HS} {h : MH} {x y z : Int}
def inB (a : HS) (x : Int) : Prop := 0 ≤ x ∧ x < nB a
def inP (a : HS) (x : Int) : Prop := 0 ≤ x ∧ x < nP a
def inW (a : HS) (x : Int) : Prop := 0 ≤ x ∧ x < nW a
def i32 (x : Int) : Prop := -2147483648 ≤ x ∧ x < 2147483648
theorem c_lacks_t (R : RepH 8 a h.1) (J : InvH a) (h1 : inB a x) (h2 : inW a y) (h3 : inP a z) : F_C_lacks (I x) (I y) (I z) h = some (I 0, h) := by
  obtain ⟨j1, j2, j3, -⟩ := id J
  simp only [F_C_lacks, c_noBed_t R J h1.1 h1.2, c_noWay_t R J h2.1 h2.2, c_noOne_t R J h3.1 h3.2, bd_some, zero_I, not_true, if_false, if_true, iw_d]
  exact cd_t (by decide)
theorem c_lacks_f (R : RepH 8 a h.1) (J : InvH a) (e1 : i32 x) (e2 : i32 y) (e3 : i32 z) (hn : ¬ (inB a x ∧ inW a y ∧ inP a z)) : F_C_lacks (I x) (I y) (I z) h = some (I 1, h) := by
  by_cases h1 : inB a x
  · by_cases h2 : inW a y
    · have h3 : ¬ inP a z := fun h3 => hn ⟨h1, h2, h3⟩
      simp only [F_C_lacks, c_noBed_t R J h1.1 h1.2, c_noWay_t R J h2.1 h2.2, c_noOne_f R J e3.1 e3.2 h3, bd_some, zero_I, one_ne, not_true, if_false, if_true, iw_d]
      exact cd_t (by decide)
    · simp only [F_C_lacks, c_noBed_t R J h1.1 h1.2, c_noWay_f R J e2.1 e2.2 h2, bd_some, zero_I, one_ne, not_true, not_false_iff, if_false, if_true, iw_d]
  · simp only [F_C_lacks, c_noBed_f R J e1.1 e1.2 h1, bd_some, zero_I, one_ne, not_true, not_false_iff, if_false, if_true, iw_d]
theorem m_three_t (R : RepM a h.1) (J : InvH a) (h1 : inB a x) (h2 : inW a y) (h3 : inP a z) : F_M_wrongThree (I x) (I y) (I z) h = some (I 0, h) := by
  simp only [F_M_wrongThree, m_isBed_t R J h1.1 h1.2, m_isWay_t R J h2.1 h2.2, m_isOne_t R J h3.1 h3.2, bd_some, zero_I, one_ne, if_false, if_true, iw_d]
theorem m_three_f (R : RepM a h.1) (J : InvH a) (e1 : i32 x) (e2 : i32 y) (e3 : i32 z) (hn : ¬ (inB a x ∧ inW a y ∧ inP a z)) : F_M_wrongThree (I x) (I y) (I z) h = some (I (-1), h) := by
  by_cases h1 : inB a x
  · by_cases h2 : inW a y
    · have h3 : ¬ inP a z := fun h3 => hn ⟨h1, h2, h3⟩
      simp only [F_M_wrongThree, m_isBed_t R J h1.1 h1.2, m_isWay_t R J h2.1 h2.2, m_isOne_f R J e3.1 e3.2 h3, bd_some, zero_I, one_ne, if_false, if_true, iw_d]
    · simp only [F_M_wrongThree, m_isBed_t R J h1.1 h1.2, m_isWay_f R J e2.1 e2.2 h2, bd_some, zero_I, one_ne, if_false, if_true, iw_d]
  · simp only [F_M_wrongThree, m_isBed_f R J e1.1 e1.2 h1, bd_some, zero_I, one_ne, if_false, if_true, iw_d]
theorem m_bit_t {u : Int} (h1 : 0 ≤ y) (h2 : y ≤ u) (h3 : u < 2147483648) : F_M_wrongBit (I 0) (I y) (I u) h = some (I 0, h) := by
  simp (disch := omega) only [F_M_wrongBit, zero_I, not_true, if_false, toI64]
  show bd (F_M_in (Lg y) (Lg 0) (Lg u) h) _ = _
  simp (disch := omega) only [m_in, if_pos (show 0 ≤ y ∧ y ≤ u from ⟨h1, h2⟩), bd_some, one_ne, not_false_iff, if_true, iw_d]
theorem m_bit_f {u : Int} (e : i32 y) (e2 : 0 ≤ u) (h3 : u < 2147483648) (hn : ¬ (0 ≤ y ∧ y ≤ u)) : F_M_wrongBit (I 0) (I y) (I u) h = some (I (-2), h) := by
  obtain ⟨e0, e1⟩ := e
  simp (disch := omega) only [F_M_wrongBit, zero_I, not_true, if_false, toI64]
  show bd (F_M_in (Lg y) (Lg 0) (Lg u) h) _ = _
  simp (disch := omega) only [m_in, if_neg hn, bd_some, not_true, if_false, iw_d]
theorem m_bit_n {r u : Int} (h1 : -7 < r) (h2 : r < 0) : F_M_wrongBit (I r) (I y) (I u) h = some (I r, h) := by
  have e : (I r = I 0) = False := by rw [I_eq (by omega) (by omega) (by omega) (by omega)]; exact eq_false (by omega)
  simp only [F_M_wrongBit, zero_I, e, not_false_iff, if_true]
end LK
theorem le0m {r : Int} (h1 : -7 < r) (h2 : r < 0) : (I 0 ≤ I r) = False := by rw [I_le (by omega) (by omega) (by omega) (by omega)]; exact eq_false (by omega)
theorem le00 : (I 0 ≤ I 0) = True := eq_true (by decide)
-- 14 takes
theorem q_takes {S : SS} (J : InvS S) {x y z u : Int} (e1 : i32 x) (e2 : i32 y) (e3 : i32 z) (e4 : i32 u) : Q2 S (F_C_takes (I x) (I y) (I z) (I u)) (F_M_takes (I x) (I y) (I z) (I u)) := by
  have K := is_h J
  have Ku := e4
  obtain ⟨l4, g4⟩ := e4
  by_cases hn : inB (sN S) x ∧ inW (sN S) y ∧ inP (sN S) z
  · obtain ⟨hx, hy, hz⟩ := id hn
    obtain ⟨b, hb, rfl⟩ := nn hx
    obtain ⟨w, hw, rfl⟩ := nn hy
    obtain ⟨p, hp, rfl⟩ := nn hz
    obtain ⟨j1, j2, j3, j4, j5, j6⟩ := id K
    have hw6 := j6 w
    have hp5 := j5 p
    by_cases hu : 0 ≤ u ∧ u ≤ 3
    · refine q_pl (I (if u = 0 then sSe (sN S) b (hK (sN S) w) (hF (sN S) w) (hS (sN S) p) else if u = 1 then sFo (sN S) b b (hK (sN S) w) (hF (sN S) w) else if u = 2 then sShake (sFo (sN S) b b (hK (sN S) w) (hF (sN S) w)) (sFew (hA (sN S) p)) else sTw (sN S) b w p)) 0 (by omega) (fun h R => ?_) (fun h R => ?_)
      · have R := rc_h R
        simp only [F_C_takes, c_lacks_t R K hx hy hz, bd_some, zero_I, if_true]
        rcases (show u = 0 ∨ u = 1 ∨ u = 2 ∨ u = 3 by omega) with rfl | rfl | rfl | rfl <;>
          simp (disch := omega) [I_eq, c_secs R K hb hw hp, c_foldsBy R K hb hw, c_shakes R K hb hw hp, c_timeBy R K hb hw hp, bd_some] <;> rfl
      · have R := rm_h R
        have q1 := sFo_b K b b (k := hK (sN S) w) hw6.2.2.1 hw6.2.2.2
        have q2 := sFew_b (ar := hA (sN S) p) (by omega) (by omega)
        simp only [F_M_takes, setT_d, hw_d, m_three_t R K hx hy hz, bd_some, zero_I, m_bit_t hu.1 hu.2 (by omega), le00, if_true]
        rcases (show u = 0 ∨ u = 1 ∨ u = 2 ∨ u = 3 by omega) with rfl | rfl | rfl | rfl <;>
          simp (disch := omega) [I_eq, ck_in, I_nat, rm_k R hw, rm_f R hw, rm_s R hp, rm_a R hp, m_secsOf R K hb, m_foldsOf R K hb hw, m_few, m_shakes, m_timeOf R K hb hw hp, bd_some] <;> rfl
    · refine q_pl (I (-2)) 2 (by omega) (fun h R => ?_) (fun h R => ?_)
      · have R := rc_h R
        simp only [F_C_takes, c_lacks_t R K hx hy hz, bd_some, zero_I, if_true]
        simp (disch := omega) only [I_eq, if_neg (show ¬ u = 0 by omega), if_neg (show ¬ u = 1 by omega), if_neg (show ¬ u = 2 by omega), if_neg (show ¬ u = 3 by omega), c_ref2, bd_some]
      · have R := rm_h R
        simp only [F_M_takes, setT_d, hw_d, m_three_t R K hx hy hz, bd_some, zero_I, m_bit_f Ku (by omega) (by omega) hu, le0m (show (-7:Int) < -2 by omega) (by omega), if_false, m_ref2]
  · refine q_pl (I (-1)) 1 (by omega) (fun h R => ?_) (fun h R => ?_)
    · simp only [F_C_takes, c_lacks_f (rc_h R) K e1 e2 e3 hn, bd_some, zero_I, one_ne, if_false, c_ref1]
    · simp only [F_M_takes, setT_d, hw_d, m_three_f (rm_h R) K e1 e2 e3 hn, bd_some, zero_I, m_bit_n (show (-7:Int) < -1 by omega) (by omega), le0m (show (-7:Int) < -1 by omega) (by omega), if_false, m_ref1]
