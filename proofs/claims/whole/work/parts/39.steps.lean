theorem invW {a : HS} (J : InvH a) {x y : Int} (h1 : 0 ≤ x) (h2 : x ≤ 5) (h3 : 0 ≤ y) (h4 : y ≤ 9) (hn : nW a < 6) : InvH (addW a x y) := by
  obtain ⟨j1, j2, j3, j4, j5, j6⟩ := J
  refine ⟨j1, j2, by show nW a + 1 ≤ 6; omega, j4, j5, fun p => ?_⟩
  have q := j6 p
  show 0 ≤ (if (6 : Nat) = 6 ∧ p = nW a then x else if (6 : Nat) = 7 ∧ p = nW a then y else hK a p) ∧ (if (6 : Nat) = 6 ∧ p = nW a then x else if (6 : Nat) = 7 ∧ p = nW a then y else hK a p) ≤ 5 ∧ 0 ≤ (if (7 : Nat) = 6 ∧ p = nW a then x else if (7 : Nat) = 7 ∧ p = nW a then y else hF a p) ∧ (if (7 : Nat) = 6 ∧ p = nW a then x else if (7 : Nat) = 7 ∧ p = nW a then y else hF a p) ≤ 9
  by_cases c : p = nW a <;> simp [c] <;> first | exact ⟨h1, h2, h3, h4⟩ | exact q
theorem addW_K {a : HS} {x y : Int} (p : Nat) : hK (addW a x y) p = if p = nW a then x else hK a p := by
  show (if (6 : Nat) = 6 ∧ p = nW a then x else if (6 : Nat) = 7 ∧ p = nW a then y else hK a p) = _
  by_cases c : p = nW a <;> simp [c]
theorem addW_F {a : HS} {x y : Int} (p : Nat) : hF (addW a x y) p = if p = nW a then y else hF a p := by
  show (if (7 : Nat) = 6 ∧ p = nW a then x else if (7 : Nat) = 7 ∧ p = nW a then y else hF a p) = _
  by_cases c : p = nW a <;> simp [c]
theorem s_way {S : SS} (J : InvS S) {x y : Int} (e1 : i32 x) (e2 : i32 y) : Step S (F_C_way (I x) (I y)) (F_M_way (I x) (I y)) := by
  obtain ⟨l1, g1⟩ := id e1
  obtain ⟨l2, g2⟩ := id e2
  obtain ⟨J1, J2, J3, J4, J5, J6, J7, J8, J9⟩ := id J
  obtain ⟨j1, j2, j3, j4, j5, j6⟩ := id J1
  by_cases hx : 0 ≤ x ∧ x ≤ 5
  · by_cases h2 : 0 ≤ y
    · by_cases h4 : 9 < y
      · refine st_ref J (I (-6)) 6 (by omega) (fun h R => ?_) (fun h R => ?_)
        · simp (disch := omega) only [F_C_way, F_H_addWay_2, c_other_t hx.1 hx.2 (by omega), zero_I, I_lt, I_le, if_true, if_pos h2, if_pos h4, bd_s, comes6]
        · simp (disch := omega) only [F_M_way, setT_d, hw_s, kw_s, toI64, m_in, if_pos hx, bd_s, zero_I, one_ne, oz, not_false_iff, if_true, I_lt, I_le, if_pos h2, if_pos h4]
          simp only [if_neg (show ¬ (0 : Int) ≤ -6 by omega), m_ref6, bd_s]
      · by_cases h5 : nW (sN S) = 6
        · refine st_ref J (I (-6)) 6 (by omega) (fun h R => ?_) (fun h R => ?_)
          · simp (disch := omega) only [F_C_way, F_H_addWay_2, c_other_t hx.1 hx.2 (by omega), zero_I, I_lt, I_le, if_true, if_pos h2, if_neg h4, rn_w (rc_h R), if_neg (show ¬ (nW (sN S) : Int) < 6 by omega), bd_s, comes6]
          · simp (disch := omega) only [F_M_way, setT_d, hw_s, kw_s, toI64, m_in, if_pos hx, bd_s, zero_I, one_ne, oz, not_false_iff, if_true, I_lt, I_le, I_eq, if_pos h2, if_neg h4, rm_w (rm_h R), if_neg (show ¬ ¬ (nW (sN S) : Int) = 6 by omega)]
            simp only [if_neg (show ¬ (0 : Int) ≤ -6 by omega), m_ref6, bd_s]
        · have h5' : nW (sN S) < 6 := by omega
          refine ⟨I (nW (sN S) : Int), (addW (sN S) x y, sI S, sLt S, sRw S, [], sR S), ⟨invW J1 hx.1 hx.2 h2 (by omega) h5', J2, J3, J4, J5, J6, by show 0 ≤ 8; omega, fun a ha => absurd (show a ∈ ([] : List HS) from ha) List.not_mem_nil, J9⟩, fun h R => ?_, fun h R => ?_⟩
          · obtain ⟨r1, r2, r3, r4, r5, r6⟩ := R
            refine ⟨(mm_hset (mm_hset (mm_hset (mm_hset h.1 13 (nW (sN S)) (I x)) 14 (nW (sN S)) (I y)) 8 9 (I ((nW (sN S) + 1 : Nat) : Int))) 31 3 (I 0), h.2), ?_, ⟨?_, RImg_cg (by simp (disch := omega) only [hs_ne]) (fun k a b => by simp (disch := omega) only [hrow]) r2, ⟨by simp (disch := omega) only [hs_ne]; exact r3.1, fun i hi => by simp (disch := omega) only [hs_ne]; exact r3.2 i hi⟩, ⟨by simp (disch := omega) only [hs_ne]; exact r4.1, fun i hi => by simp (disch := omega) only [hs_ne]; exact r4.2 i hi⟩, ⟨by simp only [hs_eq]; rfl, fun i hi => absurd hi (Nat.not_lt_zero i)⟩, fun i hi => by simp (disch := omega) only [hs_ne]; exact r6 i hi⟩, fun k i hk => by simp (disch := omega) only [hs_ne]⟩
            · have ec : ((nW (sN S) : Int) + 1 - 1) = (nW (sN S) : Int) := by omega
              have ct := fun (h' : MH) => comes_t (z := (nW (sN S) : Int)) (h := h') (by omega) (by omega)
              simp (disch := omega) only [F_C_way, F_H_addWay_2, zero_I, I_lt, I_le, c_other_t hx.1 hx.2 (by omega), toI64, m_in, if_pos hx, one_ne, not_false_iff, if_true, if_pos h2, if_neg h4, rn_w r1, if_pos (show (nW (sN S) : Int) < 6 by omega), ck_in, I_nat, Int.toNat_natCast, hw_s, hs_ne, hs_eq, I_add, I_sub, ec, bd_s, ct]
              rfl
            · obtain ⟨t1, t2, t3, t4, t5, t6, t7, t8, t9, t10⟩ := r1
              refine ⟨by simp (disch := omega) only [hs_ne]; exact t1, by simp (disch := omega) only [hs_ne]; exact t2, by simp (disch := omega) only [hs_ne, hs_eq]; rfl, by simp (disch := omega) only [hs_ne]; exact t4, fun b hb => by simp (disch := omega) only [hs_ne]; exact t5 b hb, fun b hb => by simp (disch := omega) only [hs_ne]; exact t6 b hb, fun w hw => by simp (disch := omega) only [hs_ne]; exact t7 w hw, fun w hw => by simp (disch := omega) only [hs_ne]; exact t8 w hw, fun p hp => ?_, fun p hp => ?_⟩
              · have hp' : p < nW (sN S) + 1 := hp
                show _ = I (hK (addW (sN S) x y) p)
                rw [addW_K]
                by_cases c : p = nW (sN S)
                · subst c
                  simp (disch := omega) only [hs_ne, hs_eq, if_true]
                · rw [if_neg c]
                  simp (disch := omega) only [hs_ne]
                  exact t9 p (by omega)
              · have hp' : p < nW (sN S) + 1 := hp
                show _ = I (hF (addW (sN S) x y) p)
                rw [addW_F]
                by_cases c : p = nW (sN S)
                · subst c
                  simp (disch := omega) only [hs_ne, hs_eq, if_true]
                · rw [if_neg c]
                  simp (disch := omega) only [hs_ne]
                  exact t10 p (by omega)
          · have R' := RM_Sc R (ScM_setT h)
            obtain ⟨r1, r2, r3, r4, r5, r6⟩ := R'
            refine ⟨(mm_hset (mm_hset (mm_hset (mm_hset (setT h).1 59 (nW (sN S)) (I x)) 60 (nW (sN S)) (I y)) 55 5 (I ((nW (sN S) + 1 : Nat) : Int))) 55 30 (I 0), h.2), ?_, ⟨?_, RImgM_cg (by simp (disch := omega) only [hs_ne]) (by simp (disch := omega) only [hrow]) r2, ⟨by simp (disch := omega) only [hs_ne]; exact r3.1, fun i hi => by simp (disch := omega) only [hs_ne]; exact r3.2 i hi⟩, ⟨by simp (disch := omega) only [hs_ne]; exact r4.1, fun i hi => by simp (disch := omega) only [hs_ne]; exact r4.2 i hi⟩, ⟨by simp only [hs_eq]; rfl, fun i hi => absurd hi (Nat.not_lt_zero i)⟩, fun i hi => by simp (disch := omega) only [hs_ne]; exact r6 i hi⟩, fun k i hk => by simp (disch := omega) only [hs_ne, setT]⟩
            · have ec : ((nW (sN S) : Int) + 1 - 1) = (nW (sN S) : Int) := by omega
              simp (disch := omega) only [F_M_way, setT_d, hw_s, kw_s, zero_I, I_lt, I_le, I_eq, c_other_t hx.1 hx.2 (by omega), toI64, m_in, if_pos hx, one_ne, not_false_iff, if_true, if_pos h2, if_neg h4, rm_w r1, if_pos (show ¬ (nW (sN S) : Int) = 6 by omega), if_pos (show (0 : Int) ≤ 0 by omega), oz, bd_s, ck_in, I_nat, Int.toNat_natCast, hs_ne, hs_eq, I_add, I_sub, ec]
              rfl
            · obtain ⟨t1, t2, t3, t4, t5, t6, t7, t8, t9, t10⟩ := r1
              refine ⟨by simp (disch := omega) only [hs_ne]; exact t1, by simp (disch := omega) only [hs_ne]; exact t2, by simp (disch := omega) only [hs_ne, hs_eq]; rfl, by simp (disch := omega) only [hs_ne]; exact t4, fun b hb => by simp (disch := omega) only [hs_ne]; exact t5 b hb, fun w hw => by simp (disch := omega) only [hs_ne]; exact t6 w hw, fun w hw => by simp (disch := omega) only [hs_ne]; exact t7 w hw, fun p hp => ?_, fun p hp => ?_, fun c hc => by simp (disch := omega) only [hs_ne]; exact t10 c hc⟩
              · have hp' : p < nW (sN S) + 1 := hp
                show _ = I (hK (addW (sN S) x y) p)
                rw [addW_K]
                by_cases c : p = nW (sN S)
                · subst c
                  simp (disch := omega) only [hs_ne, hs_eq, if_true]
                · rw [if_neg c]
                  simp (disch := omega) only [hs_ne]
                  exact t8 p (by omega)
              · have hp' : p < nW (sN S) + 1 := hp
                show _ = I (hF (addW (sN S) x y) p)
                rw [addW_F]
                by_cases c : p = nW (sN S)
                · subst c
                  simp (disch := omega) only [hs_ne, hs_eq, if_true]
                · rw [if_neg c]
                  simp (disch := omega) only [hs_ne]
                  exact t9 p (by omega)
    · refine st_ref J (I (-4)) 4 (by omega) (fun h R => ?_) (fun h R => ?_)
      · simp (disch := omega) only [F_C_way, F_H_addWay_2, c_other_t hx.1 hx.2 (by omega), zero_I, I_lt, I_le, if_true, if_neg h2, bd_s, comes4]
      · simp (disch := omega) only [F_M_way, setT_d, hw_s, kw_s, toI64, m_in, if_pos hx, bd_s, zero_I, one_ne, oz, not_false_iff, if_true, I_lt, I_le, if_neg h2]
        simp only [if_neg (show ¬ (0 : Int) ≤ -4 by omega), m_ref4, bd_s]
  · refine st_ref J (I (-2)) 2 (by omega) (fun h R => ?_) (fun h R => ?_)
    · simp (disch := omega) only [F_C_way, F_H_addWay_2, c_other_f l1 g1 (show (0:Int) ≤ 5 by omega) (by omega) hx, zero_I, one_ne, if_false, bd_s, comes2]
    · simp (disch := omega) only [F_M_way, setT_d, hw_s, kw_s, toI64, m_in, if_neg hx, bd_s, zero_I, not_true, if_false, lm2, m_ref2]
