-- 54 row, 56 clear
theorem s_row {S : SS} (J : InvS S) {x : Int} (e1 : i32 x) : Step S (F_C_row (I x)) (F_M_row (I x)) := by
  obtain ⟨l1, g1⟩ := id e1
  obtain ⟨J1, J2, J3, J4, J5, J6, J7, J8, J9⟩ := id J
  by_cases h0 : 0 ≤ x
  · by_cases h1 : 99 < x
    · refine st_ref J (I (-6)) 6 (by omega) (fun h R => ?_) (fun h R => ?_)
      · simp (disch := omega) only [F_C_row, zero_I, I_le, I_lt, if_pos h0, if_pos h1, c_ref6, bd_s]
      · simp (disch := omega) only [F_M_row, setT_d, hw_s, zero_I, I_le, I_lt, if_pos h0, if_pos h1, m_ref6, bd_s]
    · by_cases h2 : (sRw S).length = 12
      · refine st_ref J (I (-6)) 6 (by omega) (fun h R => ?_) (fun h R => ?_)
        · simp (disch := omega) only [F_C_row, zero_I, I_le, I_lt, if_pos h0, if_neg h1, R.2.2.2.1.1, if_neg (show ¬ ((sRw S).length : Int) < 12 by omega), c_ref6, bd_s]
        · simp (disch := omega) only [F_M_row, setT_d, hw_s, zero_I, I_le, I_lt, if_pos h0, if_neg h1, R.2.2.2.1.1, I_eq, if_neg (show ¬ ¬ ((sRw S).length : Int) = 12 by omega), m_ref6, bd_s]
      · have h2' : (sRw S).length < 12 := by omega
        refine ⟨I (((sRw S).length + 1 : Nat) : Int), (sN S, sI S, sLt S, sRw S ++ [x], sU S, sR S), ⟨J1, J2, J3, J4, ?_, ?_, J7, J8, J9⟩, fun h R => ?_, fun h R => ?_⟩
        · show (sRw S ++ [x]).length ≤ 12
          rw [List.length_append]
          show (sRw S).length + 1 ≤ 12
          omega
        · intro y hy
          rcases List.mem_append.mp hy with q | q
          · exact J6 y q
          · have : y = x := by simpa using q
            omega
        · obtain ⟨r1, r2, r4, ⟨r3, r3'⟩, r5, r6⟩ := R
          refine ⟨(mm_hset (mm_hset h.1 53 (sRw S).length (I x)) 0 9 (I (((sRw S).length + 1 : Nat) : Int)), h.2), ?_, ⟨RepH_cg (fun k a b => by simp (disch := omega) only [hrow]) r1, RImg_cg (by simp (disch := omega) only [hs_ne]) (fun k a b => by simp (disch := omega) only [hrow]) r2, ?_, ?_, RUn_cg (by simp (disch := omega) only [hs_ne]) (fun k a b => by simp (disch := omega) only [hrow]) r5, fun i hi => ?_⟩, fun k i hk => by simp (disch := omega) only [hs_ne]⟩
          · simp (disch := omega) only [F_C_row, zero_I, I_le, I_lt, if_pos h0, if_neg h1, r3, if_pos (show ((sRw S).length : Int) < 12 by omega), ck_in, I_nat, Int.toNat_natCast, hw_s, hs_ne, hs_eq, I_succ, bd_s]
          · refine ⟨(by simp (disch := omega) only [hs_ne, r4.1]), fun i hi => (by simp (disch := omega) only [hs_ne, r4.2 i hi])⟩
          · refine ⟨?_, fun i hi => ?_⟩
            · simp only [hs_eq]
              rw [List.length_append]
              rfl
            · have hi2 : i < (sRw S ++ [x]).length := hi
              have hi' : i < (sRw S).length + 1 := by simpa using hi2
              have ee : (sRw S ++ [x]).getD i 0 = _ := getD_app hi'
              simp only [ee]
              rw [hs_ne (by omega)]
              by_cases c : i = (sRw S).length
              · subst c
                rw [hs_eq, if_pos rfl]
              · rw [hs_ne (by omega), if_neg c]
                exact r3' i (by omega)
          · simp (disch := omega) only [hs_ne, r6 i hi]
        · have R' := RM_Sc R (ScM_setT h)
          obtain ⟨r1, r2, r4, ⟨r3, r3'⟩, r5, r6⟩ := R'
          refine ⟨(mm_hset (mm_hset (setT h).1 74 (sRw S).length (I x)) 55 34 (I (((sRw S).length + 1 : Nat) : Int)), h.2), ?_, ⟨RepM_cg (by simp (disch := omega) only [hs_ne]) (by simp (disch := omega) only [hs_ne]) (by simp (disch := omega) only [hs_ne]) (by simp (disch := omega) only [hs_ne]) (fun k a b => by simp (disch := omega) only [hrow]) r1, RImgM_cg (by simp (disch := omega) only [hs_ne]) (by simp (disch := omega) only [hrow]) r2, ?_, ?_, RUnM_cg (by simp (disch := omega) only [hs_ne]) (by simp (disch := omega) only [hrow]) r5, fun i hi => ?_⟩, fun k i hk => by simp (disch := omega) only [hs_ne, setT]⟩
          · simp (disch := omega) only [F_M_row, setT_d, zero_I, I_le, I_lt, if_pos h0, if_neg h1, r3, I_eq, if_pos (show ¬ ((sRw S).length : Int) = 12 by omega), ck_in, I_nat, Int.toNat_natCast, hw_s, hs_ne, hs_eq, I_succ, bd_s]
            rfl
          · refine ⟨(by simp (disch := omega) only [hs_ne, r4.1]), fun i hi => (by simp (disch := omega) only [hs_ne, r4.2 i hi])⟩
          · refine ⟨?_, fun i hi => ?_⟩
            · simp only [hs_eq]
              rw [List.length_append]
              rfl
            · have hi2 : i < (sRw S ++ [x]).length := hi
              have hi' : i < (sRw S).length + 1 := by simpa using hi2
              have ee : (sRw S ++ [x]).getD i 0 = _ := getD_app hi'
              simp only [ee]
              rw [hs_ne (by omega)]
              by_cases c : i = (sRw S).length
              · subst c
                rw [hs_eq, if_pos rfl]
              · rw [hs_ne (by omega), if_neg c]
                exact r3' i (by omega)
          · simp (disch := omega) only [hs_ne, r6 i hi]
  · refine st_ref J (I (-4)) 4 (by omega) (fun h R => ?_) (fun h R => ?_)
    · simp (disch := omega) only [F_C_row, zero_I, I_le, if_neg h0, c_ref4, bd_s]
    · simp (disch := omega) only [F_M_row, setT_d, hw_s, zero_I, I_le, if_neg h0, m_ref4, bd_s]

theorem s_clear {S : SS} (J : InvS S) : Step S F_C_clear F_M_clear := by
  obtain ⟨J1, J2, J3, J4, J5, J6, J7, J8, J9⟩ := id J
  refine ⟨I ((sRw S).length : Int), (sN S, sI S, sLt S, [], sU S, sR S), ⟨J1, J2, J3, J4, by show 0 ≤ 12; omega, fun x hx => absurd (show x ∈ ([] : List Int) from hx) List.not_mem_nil, J7, J8, J9⟩, fun h R => ?_, fun h R => ?_⟩
  · obtain ⟨r1, r2, r3, r4, r5, r6⟩ := R
    refine ⟨(mm_hset h.1 0 9 (I 0), h.2), ?_, ⟨RepH_cg (fun k a b => by simp (disch := omega) only [hrow]) r1, RImg_cg (by simp (disch := omega) only [hs_ne]) (fun k a b => by simp (disch := omega) only [hrow]) r2, ⟨by simp (disch := omega) only [hs_ne]; exact r3.1, fun i hi => by simp (disch := omega) only [hs_ne]; exact r3.2 i hi⟩, ⟨by simp only [hs_eq]; rfl, fun i hi => absurd hi (Nat.not_lt_zero i)⟩, RUn_cg (by simp (disch := omega) only [hs_ne]) (fun k a b => by simp (disch := omega) only [hrow]) r5, fun i hi => by simp (disch := omega) only [hs_ne]; exact r6 i hi⟩, fun k i hk => by simp (disch := omega) only [hs_ne]⟩
    simp only [F_C_clear, hw_s, r4.1]
  · have R' := RM_Sc R (ScM_setT h)
    obtain ⟨r1, r2, r3, r4, r5, r6⟩ := R'
    refine ⟨(mm_hset (setT h).1 55 34 (I 0), h.2), ?_, ⟨RepM_cg (by simp (disch := omega) only [hs_ne]) (by simp (disch := omega) only [hs_ne]) (by simp (disch := omega) only [hs_ne]) (by simp (disch := omega) only [hs_ne]) (fun k a b => by simp (disch := omega) only [hrow]) r1, RImgM_cg (by simp (disch := omega) only [hs_ne]) (by simp (disch := omega) only [hrow]) r2, ⟨by simp (disch := omega) only [hs_ne]; exact r3.1, fun i hi => by simp (disch := omega) only [hs_ne]; exact r3.2 i hi⟩, ⟨by simp only [hs_eq]; rfl, fun i hi => absurd hi (Nat.not_lt_zero i)⟩, RUnM_cg (by simp (disch := omega) only [hs_ne]) (by simp (disch := omega) only [hrow]) r5, fun i hi => by simp (disch := omega) only [hs_ne]; exact r6 i hi⟩, fun k i hk => by simp (disch := omega) only [hs_ne, setT]⟩
    simp only [F_M_clear, setT_d, hw_s, r4.1]
    rfl
