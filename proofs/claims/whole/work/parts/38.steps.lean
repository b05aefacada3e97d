-- 7, 8, 9: a bed, a person, a way comes
def addP (a : HS) (x y : Int) : HS := (fun q i => if q = 4 ∧ i = nP a then x else if q = 5 ∧ i = nP a then y else a.1 q i, nB a, nP a + 1, nW a, hLie a)
def addW (a : HS) (x y : Int) : HS := (fun q i => if q = 6 ∧ i = nW a then x else if q = 7 ∧ i = nW a then y else a.1 q i, nB a, nP a, nW a + 1, hLie a)
def addB (a : HS) (x y : Int) : HS := (fun q i => if q < 4 ∧ i = nB a then (if q = 0 then x / 100 else if q = 1 then x % 100 else if q = 2 then y / 100 else y % 100) else a.1 q i, nB a + 1, nP a, nW a, hLie a)
theorem comes_t {z : Int} {h : MH} (h0 : 0 ≤ z) (h1 : z < 100) : F_C_comes (I z) h = some (I z, (mm_hset h.1 31 3 (I 0), h.2)) := by
  simp (disch := omega) only [F_C_comes, zero_I, I_le, if_pos h0, hw_s]
theorem comes4 (h : MH) : F_C_comes (I (-4)) h = some (I (-4), refC 4 h) := by simp only [F_C_comes, zero_I, lm4, if_false, c_ref4, bd_s]
theorem comes6 (h : MH) : F_C_comes (I (-6)) h = some (I (-6), refC 6 h) := by simp only [F_C_comes, zero_I, lm6, if_false, c_ref6, bd_s]
theorem comes2 (h : MH) : F_C_comes (I (-2)) h = some (I (-2), refC 2 h) := by simp only [F_C_comes, zero_I, lm2, if_false, c_ref2, bd_s]
theorem invP {a : HS} (J : InvH a) {x y : Int} (h1 : 1 ≤ x) (h2 : x ≤ 12) (h3 : 0 ≤ y) (h4 : y ≤ 9) (hn : nP a < 4) : InvH (addP a x y) := by
  obtain ⟨j1, j2, j3, j4, j5, j6⟩ := J
  refine ⟨j1, by show nP a + 1 ≤ 4; omega, j3, j4, fun p => ?_, j6⟩
  have q := j5 p
  show 1 ≤ (if (4 : Nat) = 4 ∧ p = nP a then x else if (4 : Nat) = 5 ∧ p = nP a then y else hA a p) ∧ (if (4 : Nat) = 4 ∧ p = nP a then x else if (4 : Nat) = 5 ∧ p = nP a then y else hA a p) ≤ 12 ∧ 0 ≤ (if (5 : Nat) = 4 ∧ p = nP a then x else if (5 : Nat) = 5 ∧ p = nP a then y else hS a p) ∧ (if (5 : Nat) = 4 ∧ p = nP a then x else if (5 : Nat) = 5 ∧ p = nP a then y else hS a p) ≤ 9
  by_cases c : p = nP a <;> simp [c] <;> first | exact ⟨h1, h2, h3, h4⟩ | exact q
theorem addP_A {a : HS} {x y : Int} (p : Nat) : hA (addP a x y) p = if p = nP a then x else hA a p := by
  show (if (4 : Nat) = 4 ∧ p = nP a then x else if (4 : Nat) = 5 ∧ p = nP a then y else hA a p) = _
  by_cases c : p = nP a <;> simp [c]
theorem addP_S {a : HS} {x y : Int} (p : Nat) : hS (addP a x y) p = if p = nP a then y else hS a p := by
  show (if (5 : Nat) = 4 ∧ p = nP a then x else if (5 : Nat) = 5 ∧ p = nP a then y else hS a p) = _
  by_cases c : p = nP a <;> simp [c]
theorem s_person {S : SS} (J : InvS S) {x y : Int} (e1 : i32 x) (e2 : i32 y) : Step S (F_C_person (I x) (I y)) (F_M_person (I x) (I y)) := by
  obtain ⟨l1, g1⟩ := id e1
  obtain ⟨l2, g2⟩ := id e2
  obtain ⟨J1, J2, J3, J4, J5, J6, J7, J8, J9⟩ := id J
  obtain ⟨j1, j2, j3, j4, j5, j6⟩ := id J1
  by_cases h1 : x < 1
  · refine st_ref J (I (-4)) 4 (by omega) (fun h R => ?_) (fun h R => ?_)
    · simp (disch := omega) only [F_C_person, F_H_addPerson_2, I_lt, if_pos h1, bd_s, comes4]
    · simp (disch := omega) only [F_M_person, setT_d, hw_s, kw_s, I_lt, if_pos h1, zero_I, lm4, if_false, m_ref4, bd_s]
  · by_cases h2 : 0 ≤ y
    · by_cases h3 : 12 < x
      · refine st_ref J (I (-6)) 6 (by omega) (fun h R => ?_) (fun h R => ?_)
        · simp (disch := omega) only [F_C_person, F_H_addPerson_2, zero_I, I_lt, I_le, if_neg h1, if_pos h2, if_pos h3, bd_s, comes6]
        · simp (disch := omega) only [F_M_person, setT_d, hw_s, kw_s, zero_I, I_lt, I_le, if_neg h1, if_pos h2, if_pos h3]
          simp only [if_neg (show ¬ (0 : Int) ≤ -6 by omega), m_ref6, bd_s]
      · by_cases h4 : 9 < y
        · refine st_ref J (I (-6)) 6 (by omega) (fun h R => ?_) (fun h R => ?_)
          · simp (disch := omega) only [F_C_person, F_H_addPerson_2, zero_I, I_lt, I_le, if_neg h1, if_pos h2, if_neg h3, if_pos h4, bd_s, comes6]
          · simp (disch := omega) only [F_M_person, setT_d, hw_s, kw_s, zero_I, I_lt, I_le, if_neg h1, if_pos h2, if_neg h3, if_pos h4]
            simp only [if_neg (show ¬ (0 : Int) ≤ -6 by omega), m_ref6, bd_s]
        · by_cases h5 : nP (sN S) = 4
          · refine st_ref J (I (-6)) 6 (by omega) (fun h R => ?_) (fun h R => ?_)
            · simp (disch := omega) only [F_C_person, F_H_addPerson_2, zero_I, I_lt, I_le, if_neg h1, if_pos h2, if_neg h3, if_neg h4, rn_p (rc_h R), if_neg (show ¬ (nP (sN S) : Int) < 4 by omega), bd_s, comes6]
            · simp (disch := omega) only [F_M_person, setT_d, hw_s, kw_s, zero_I, I_lt, I_le, I_eq, if_neg h1, if_pos h2, if_neg h3, if_neg h4, rm_p (rm_h R), if_neg (show ¬ ¬ (nP (sN S) : Int) = 4 by omega)]
              simp only [if_neg (show ¬ (0 : Int) ≤ -6 by omega), m_ref6, bd_s]
          · have h5' : nP (sN S) < 4 := by omega
            refine ⟨I (nP (sN S) : Int), (addP (sN S) x y, sI S, sLt S, sRw S, [], sR S), ⟨invP J1 (by omega) (by omega) h2 (by omega) h5', J2, J3, J4, J5, J6, by show 0 ≤ 8; omega, fun a ha => absurd (show a ∈ ([] : List HS) from ha) List.not_mem_nil, J9⟩, fun h R => ?_, fun h R => ?_⟩
            · obtain ⟨r1, r2, r3, r4, r5, r6⟩ := R
              refine ⟨(mm_hset (mm_hset (mm_hset (mm_hset h.1 11 (nP (sN S)) (I x)) 12 (nP (sN S)) (I y)) 8 8 (I ((nP (sN S) + 1 : Nat) : Int))) 31 3 (I 0), h.2), ?_, ⟨?_, RImg_cg (by simp (disch := omega) only [hs_ne]) (fun k a b => by simp (disch := omega) only [hrow]) r2, ⟨by simp (disch := omega) only [hs_ne]; exact r3.1, fun i hi => by simp (disch := omega) only [hs_ne]; exact r3.2 i hi⟩, ⟨by simp (disch := omega) only [hs_ne]; exact r4.1, fun i hi => by simp (disch := omega) only [hs_ne]; exact r4.2 i hi⟩, ⟨by simp only [hs_eq]; rfl, fun i hi => absurd hi (Nat.not_lt_zero i)⟩, fun i hi => by simp (disch := omega) only [hs_ne]; exact r6 i hi⟩, fun k i hk => by simp (disch := omega) only [hs_ne]⟩
              · have ec : ((nP (sN S) : Int) + 1 - 1) = (nP (sN S) : Int) := by omega
                have ct := fun (h' : MH) => comes_t (z := (nP (sN S) : Int)) (h := h') (by omega) (by omega)
                simp (disch := omega) only [F_C_person, F_H_addPerson_2, zero_I, I_lt, I_le, if_neg h1, if_pos h2, if_neg h3, if_neg h4, rn_p r1, if_pos (show (nP (sN S) : Int) < 4 by omega), ck_in, I_nat, Int.toNat_natCast, hw_s, hs_ne, hs_eq, I_add, I_sub, ec, bd_s, ct]
                rfl
              · obtain ⟨t1, t2, t3, t4, t5, t6, t7, t8, t9, t10⟩ := r1
                refine ⟨by simp (disch := omega) only [hs_ne]; exact t1, by simp (disch := omega) only [hs_ne, hs_eq]; rfl, by simp (disch := omega) only [hs_ne]; exact t3, by simp (disch := omega) only [hs_ne]; exact t4, fun b hb => by simp (disch := omega) only [hs_ne]; exact t5 b hb, fun b hb => by simp (disch := omega) only [hs_ne]; exact t6 b hb, fun p hp => ?_, fun p hp => ?_, fun w hw => by simp (disch := omega) only [hs_ne]; exact t9 w hw, fun w hw => by simp (disch := omega) only [hs_ne]; exact t10 w hw⟩
                · have hp' : p < nP (sN S) + 1 := hp
                  show _ = I (hA (addP (sN S) x y) p)
                  rw [addP_A]
                  by_cases c : p = nP (sN S)
                  · subst c
                    simp (disch := omega) only [hs_ne, hs_eq, if_true]
                  · rw [if_neg c]
                    simp (disch := omega) only [hs_ne]
                    exact t7 p (by omega)
                · have hp' : p < nP (sN S) + 1 := hp
                  show _ = I (hS (addP (sN S) x y) p)
                  rw [addP_S]
                  by_cases c : p = nP (sN S)
                  · subst c
                    simp (disch := omega) only [hs_ne, hs_eq, if_true]
                  · rw [if_neg c]
                    simp (disch := omega) only [hs_ne]
                    exact t8 p (by omega)
            · have R' := RM_Sc R (ScM_setT h)
              obtain ⟨r1, r2, r3, r4, r5, r6⟩ := R'
              refine ⟨(mm_hset (mm_hset (mm_hset (mm_hset (setT h).1 57 (nP (sN S)) (I x)) 58 (nP (sN S)) (I y)) 55 2 (I ((nP (sN S) + 1 : Nat) : Int))) 55 30 (I 0), h.2), ?_, ⟨?_, RImgM_cg (by simp (disch := omega) only [hs_ne]) (by simp (disch := omega) only [hrow]) r2, ⟨by simp (disch := omega) only [hs_ne]; exact r3.1, fun i hi => by simp (disch := omega) only [hs_ne]; exact r3.2 i hi⟩, ⟨by simp (disch := omega) only [hs_ne]; exact r4.1, fun i hi => by simp (disch := omega) only [hs_ne]; exact r4.2 i hi⟩, ⟨by simp only [hs_eq]; rfl, fun i hi => absurd hi (Nat.not_lt_zero i)⟩, fun i hi => by simp (disch := omega) only [hs_ne]; exact r6 i hi⟩, fun k i hk => by simp (disch := omega) only [hs_ne, setT]⟩
              · have ec : ((nP (sN S) : Int) + 1 - 1) = (nP (sN S) : Int) := by omega
                simp (disch := omega) only [F_M_person, setT_d, hw_s, kw_s, zero_I, I_lt, I_le, I_eq, if_neg h1, if_pos h2, if_neg h3, if_neg h4, rm_p r1, if_pos (show ¬ (nP (sN S) : Int) = 4 by omega), if_pos (show (0 : Int) ≤ 0 by omega), ck_in, I_nat, Int.toNat_natCast, hs_ne, hs_eq, I_add, I_sub, ec]
                rfl
              · obtain ⟨t1, t2, t3, t4, t5, t6, t7, t8, t9, t10⟩ := r1
                refine ⟨by simp (disch := omega) only [hs_ne]; exact t1, by simp (disch := omega) only [hs_ne, hs_eq]; rfl, by simp (disch := omega) only [hs_ne]; exact t3, by simp (disch := omega) only [hs_ne]; exact t4, fun b hb => by simp (disch := omega) only [hs_ne]; exact t5 b hb, fun p hp => ?_, fun p hp => ?_, fun w hw => by simp (disch := omega) only [hs_ne]; exact t8 w hw, fun w hw => by simp (disch := omega) only [hs_ne]; exact t9 w hw, fun c hc => by simp (disch := omega) only [hs_ne]; exact t10 c hc⟩
                · have hp' : p < nP (sN S) + 1 := hp
                  show _ = I (hA (addP (sN S) x y) p)
                  rw [addP_A]
                  by_cases c : p = nP (sN S)
                  · subst c
                    simp (disch := omega) only [hs_ne, hs_eq, if_true]
                  · rw [if_neg c]
                    simp (disch := omega) only [hs_ne]
                    exact t6 p (by omega)
                · have hp' : p < nP (sN S) + 1 := hp
                  show _ = I (hS (addP (sN S) x y) p)
                  rw [addP_S]
                  by_cases c : p = nP (sN S)
                  · subst c
                    simp (disch := omega) only [hs_ne, hs_eq, if_true]
                  · rw [if_neg c]
                    simp (disch := omega) only [hs_ne]
                    exact t7 p (by omega)
    · refine st_ref J (I (-4)) 4 (by omega) (fun h R => ?_) (fun h R => ?_)
      · simp (disch := omega) only [F_C_person, F_H_addPerson_2, zero_I, I_lt, I_le, if_neg h1, if_neg h2, bd_s, comes4]
      · simp (disch := omega) only [F_M_person, setT_d, hw_s, kw_s, zero_I, I_lt, I_le, if_neg h1, if_neg h2]
        simp only [if_neg (show ¬ (0 : Int) ≤ -4 by omega), m_ref4, bd_s]
