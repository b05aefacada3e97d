-- 10 skill
def setS (a : HS) (p : Nat) (v : Int) : HS := (fun q i => if q = 5 ∧ i = p then v else a.1 q i, a.2)
theorem setS_S {a : HS} {p : Nat} {v : Int} (i : Nat) : hS (setS a p v) i = if i = p then v else hS a i := by
  show (if (5 : Nat) = 5 ∧ i = p then v else hS a i) = _
  by_cases c : i = p <;> simp [c]
theorem unDo_S {a : HS} {p : Nat} {v : Int} : a = unDo (setS a p v) 0 p (hS a p) := by
  have e : a.1 = fun q i => if q = 5 ∧ i = p then hS a p else (if q = 5 ∧ i = p then v else a.1 q i) := by
    funext q i
    by_cases c : q = 5 ∧ i = p
    · rw [if_pos c, c.1, c.2]
    · rw [if_neg c, if_neg c]
  show (a.1, a.2) = ((fun q i => if q = 5 ∧ i = p then hS a p else (if q = 5 ∧ i = p then v else a.1 q i)), a.2)
  rw [← e]
theorem invS {a : HS} (J : InvH a) {p : Nat} {v : Int} (h1 : 0 ≤ v) (h2 : v ≤ 9) : InvH (setS a p v) := by
  obtain ⟨j1, j2, j3, j4, j5, j6⟩ := J
  refine ⟨j1, j2, j3, j4, fun i => ?_, j6⟩
  have q := j5 i
  rw [setS_S]
  show 1 ≤ hA a i ∧ hA a i ≤ 12 ∧ _
  split <;> omega
theorem s_skill {S : SS} (J : InvS S) {x y : Int} (e1 : i32 x) (e2 : i32 y) : Step S (F_C_skill (I x) (I y)) (F_M_skill (I x) (I y)) := by
  obtain ⟨J1, J2, J3, J4, J5, J6, J7, J8, J9⟩ := id J
  obtain ⟨j1, j2, j3, j4, j5, j6⟩ := id J1
  have c0 : i32 0 := ⟨by omega, by omega⟩
  have c9 : i32 9 := ⟨by omega, by omega⟩
  obtain ⟨l2, g2⟩ := id e2
  by_cases hx : inP (sN S) x
  · by_cases h0 : 0 ≤ y
    · by_cases h1 : y ≤ 9
      · obtain ⟨p, hp, rfl⟩ := nn hx
        have hp5 := j5 p
        refine ⟨I (hS (sN S) p), chS S (setS (sN S) p y), InvS_push J (invS J1 h0 h1) J9, fun h R => ?_, fun h R => ?_⟩
        · obtain ⟨k1, p1, C⟩ := c_keep (x := (0 : Int)) (y := (p : Int)) (z := hS (sN S) p) J R
          obtain ⟨r1, r2, r3, r4, r5, r6⟩ := id R
          obtain ⟨c1, c2, c3, c4, c5⟩ := id C
          have e12 : h.1 12 p = I (hS (sN S) p) := rn_s r1 hp
          refine ⟨(mm_hset k1.1 12 p (I y), k1.2), ?_, ⟨?_, RImg_cg (h := h) (by simp (disch := omega) only [hs_ne, c5]) (fun k a b => by simp (disch := omega) only [hrow, c5]) r2, ⟨by simp (disch := omega) only [hs_ne, c5]; exact r3.1, fun i hi => by simp (disch := omega) only [hs_ne, c5]; exact r3.2 i hi⟩, ⟨by simp (disch := omega) only [hs_ne, c5]; exact r4.1, fun i hi => by simp (disch := omega) only [hs_ne, c5]; exact r4.2 i hi⟩, RUn_push (x := 0) (y := p) r5 J7 C (by omega) (by omega) (fun _ => hp) (fun q => by omega) (by omega) (by omega) rfl rfl unDo_S (by simp (disch := omega) only [hs_ne]) (fun k a b => by simp (disch := omega) only [hrow]), fun i hi => by simp (disch := omega) only [hs_ne, c5]; exact r6 i hi⟩, fun k i hk => by simp (disch := omega) only [hs_ne, c5]⟩
          · simp (disch := omega) only [F_C_skill, c_noOne_t r1 J1 hx.1 hx.2, bd_s, zero_I, if_true, I_le, if_pos h0, if_pos h1, ck_in, I_nat, Int.toNat_natCast, e12, p1, hw_s]
          · obtain ⟨t1, t2, t3, t4, t5, t6, t7, t8, t9, t10⟩ := r1
            refine ⟨by simp (disch := omega) only [hs_ne, c5]; exact t1, by simp (disch := omega) only [hs_ne, c5]; exact t2, by simp (disch := omega) only [hs_ne, c5]; exact t3, by simp (disch := omega) only [hs_ne, c5]; exact t4, fun b hb => by simp (disch := omega) only [hs_ne, c5]; exact t5 b hb, fun b hb => by simp (disch := omega) only [hs_ne, c5]; exact t6 b hb, fun i hi => by simp (disch := omega) only [hs_ne, c5]; exact t7 i hi, fun i hi => ?_, fun w hw => by simp (disch := omega) only [hs_ne, c5]; exact t9 w hw, fun w hw => by simp (disch := omega) only [hs_ne, c5]; exact t10 w hw⟩
            show _ = I (hS (setS (sN S) p y) i)
            rw [setS_S]
            by_cases c : i = p
            · subst c
              simp (disch := omega) only [hs_eq, if_true]
            · rw [if_neg c]
              simp (disch := omega) only [hs_ne, c5]
              exact t8 i hi
        · have R' := RM_Sc R (ScM_setT h)
          obtain ⟨k1, p1, C⟩ := m_keepTurn J R'
          obtain ⟨r1, r2, r3, r4, r5, r6⟩ := id R'
          obtain ⟨c1, c2, c3⟩ := id C
          have c3r : ∀ k, ¬ k = 70 → ¬ k = 71 → ¬ k = 55 → k1.1 k = (setT h).1 k := fun k a b c => funext fun i => c3 k i a b (by omega)
          have e58 : k1.1 58 p = I (hS (sN S) p) := (c3 58 p (by omega) (by omega) (by omega)).trans (rm_s r1 hp)
          refine ⟨(mm_hset k1.1 58 p (I y), k1.2), ?_, ⟨?_, RImgM_cg (h := setT h) (by simp (disch := omega) only [hs_ne, c3]) (by simp (disch := omega) only [hrow, c3r]) r2, ⟨by simp (disch := omega) only [hs_ne, c3]; exact r3.1, fun i hi => by simp (disch := omega) only [hs_ne, c3]; exact r3.2 i hi⟩, ⟨by simp (disch := omega) only [hs_ne, c3]; exact r4.1, fun i hi => by simp (disch := omega) only [hs_ne, c3]; exact r4.2 i hi⟩, RUnM_push C (by simp (disch := omega) only [hs_ne]) (by simp (disch := omega) only [hrow]), fun i hi => by simp (disch := omega) only [hs_ne, c3]; exact r6 i hi⟩, fun k i hk => by simp (disch := omega) only [hs_ne, c3, setT]⟩
          · simp (disch := omega) only [F_M_skill, setT_d, hw_s, m_isOne_t r1 J1 hx.1 hx.2, kw_s, bd_s, zero_I, one_ne, if_false, m_num e2 c0 c9, if_pos h0, if_pos h1, le00, if_true, p1, ck_in, I_nat, Int.toNat_natCast, e58]
          · obtain ⟨t1, t2, t3, t4, t5, t6, t7, t8, t9, t10⟩ := r1
            refine ⟨by simp (disch := omega) only [hs_ne, c3]; exact t1, by simp (disch := omega) only [hs_ne, c3]; exact t2, by simp (disch := omega) only [hs_ne, c3]; exact t3, by simp (disch := omega) only [hs_ne, c3]; exact t4, fun b hb => by simp (disch := omega) only [hs_ne, c3]; exact t5 b hb, fun i hi => by simp (disch := omega) only [hs_ne, c3]; exact t6 i hi, fun i hi => ?_, fun w hw => by simp (disch := omega) only [hs_ne, c3]; exact t8 w hw, fun w hw => by simp (disch := omega) only [hs_ne, c3]; exact t9 w hw, fun c hc => by simp (disch := omega) only [hs_ne, c3]; exact t10 c hc⟩
            show _ = I (hS (setS (sN S) p y) i)
            rw [setS_S]
            by_cases c : i = p
            · subst c
              simp (disch := omega) only [hs_eq, if_true]
            · rw [if_neg c]
              simp (disch := omega) only [hs_ne, c3]
              exact t7 i hi
      · refine st_ref J (I (-6)) 6 (by omega) (fun h R => ?_) (fun h R => ?_)
        · simp (disch := omega) only [F_C_skill, c_noOne_t (rc_h R) J1 hx.1 hx.2, bd_s, zero_I, if_true, I_le, if_pos h0, if_neg h1, c_ref6]
        · simp (disch := omega) only [F_M_skill, setT_d, hw_s, m_isOne_t (rm_h R) J1 hx.1 hx.2, kw_s, bd_s, zero_I, one_ne, if_false, m_num e2 c0 c9, if_pos h0, if_neg h1, lm6, m_ref6]
    · refine st_ref J (I (-4)) 4 (by omega) (fun h R => ?_) (fun h R => ?_)
      · simp (disch := omega) only [F_C_skill, c_noOne_t (rc_h R) J1 hx.1 hx.2, bd_s, zero_I, if_true, I_le, if_neg h0, c_ref4]
      · simp (disch := omega) only [F_M_skill, setT_d, hw_s, m_isOne_t (rm_h R) J1 hx.1 hx.2, kw_s, bd_s, zero_I, one_ne, if_false, m_num e2 c0 c9, if_neg h0, lm4, m_ref4]
  · refine st_ref J (I (-1)) 1 (by omega) (fun h R => ?_) (fun h R => ?_)
    · simp only [F_C_skill, c_noOne_f (rc_h R) J1 e1.1 e1.2 hx, bd_s, zero_I, one_ne, if_false, c_ref1]
    · simp only [F_M_skill, setT_d, hw_s, m_isOne_f (rm_h R) J1 e1.1 e1.2 hx, kw_s, bd_s, zero_I, if_true, lm1, if_false, m_ref1]
