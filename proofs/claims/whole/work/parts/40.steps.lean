theorem neg_div {x : Int} (h0 : -2147483648 ≤ x) (h1 : x < 0) : (I x / I 100 < I 1) = True := by
  have e : x.tdiv 100 = -((-x) / 100) := by
    rw [← Int.tdiv_eq_ediv_of_nonneg (show 0 ≤ -x by omega), Int.neg_tdiv, Int.neg_neg]
  have b : (x.tdiv 100).bmod 4294967296 = x.tdiv 100 := Int.bmod_eq_of_le (by omega) (by omega)
  refine eq_true ?_
  rw [Int32.lt_iff_toInt_lt, Int32.toInt_div, toInt_I (by omega) (by omega), toInt_I (by omega) (by omega), toInt_I (by omega) (by omega)]
  show (x.tdiv 100).bmod 4294967296 < 1
  rw [b, e]
  omega
def small (x : Int) : Prop := ¬ (100 ≤ x ∧ 1 ≤ x % 100)
def large (x : Int) : Prop := 24 < x / 100 ∨ 24 < x % 100
section SZ
variable {h : MH} {x : Int}
theorem c_small_t (e : i32 x) (s : small x) : F_C_tooSmall (I x) h = some (I 1, h) := by
  obtain ⟨l, g⟩ := e
  unfold small at s
  by_cases hx : x < 0
  · simp only [F_C_tooSmall, F_C_lengthOf, bd_s, neg_div l hx, if_true]
  · by_cases h1 : x / 100 < 1
    · simp (disch := omega) only [F_C_tooSmall, F_C_lengthOf, bd_s, I_div, I_lt, if_pos h1]
    · simp (disch := omega) only [F_C_tooSmall, F_C_lengthOf, F_C_breadthOf, bd_s, I_div, I_rem, I_lt, I_le, if_neg h1, if_neg (show ¬ 1 ≤ x % 100 by omega), iw_s]
      exact cd_t (by decide)
theorem c_small_f (e : i32 x) (s : ¬ small x) : F_C_tooSmall (I x) h = some (I 0, h) := by
  obtain ⟨l, g⟩ := e
  have s' : 100 ≤ x ∧ 1 ≤ x % 100 := Classical.byContradiction fun q => s q
  simp (disch := omega) only [F_C_tooSmall, F_C_lengthOf, F_C_breadthOf, bd_s, I_div, I_rem, I_lt, I_le, if_neg (show ¬ x / 100 < 1 by omega), if_pos s'.2, iw_s]
  exact cd_t (by decide)
theorem c_large_t (e : i32 x) (s : ¬ small x) (q : large x) : F_C_tooLarge (I x) h = some (I 1, h) := by
  obtain ⟨l, g⟩ := e
  have s' : 100 ≤ x ∧ 1 ≤ x % 100 := Classical.byContradiction fun q => s q
  unfold large at q
  by_cases c : 24 < x / 100
  · simp (disch := omega) only [F_C_tooLarge, F_C_lengthOf, F_C_breadthOf, bd_s, I_div, I_lt, if_pos c]
  · simp (disch := omega) only [F_C_tooLarge, F_C_lengthOf, F_C_breadthOf, bd_s, I_div, I_rem, I_lt, I_le, if_neg c, if_neg (show ¬ x % 100 ≤ 24 by omega), iw_s]
    exact cd_t (by decide)
theorem c_large_f (e : i32 x) (s : ¬ small x) (q : ¬ large x) : F_C_tooLarge (I x) h = some (I 0, h) := by
  obtain ⟨l, g⟩ := e
  have s' : 100 ≤ x ∧ 1 ≤ x % 100 := Classical.byContradiction fun q => s q
  unfold large at q
  simp (disch := omega) only [F_C_tooLarge, F_C_lengthOf, F_C_breadthOf, bd_s, I_div, I_rem, I_lt, I_le, if_neg (show ¬ 24 < x / 100 by omega), if_pos (show x % 100 ≤ 24 by omega), iw_s]
  exact cd_t (by decide)
theorem m_size_s (e : i32 x) (s : small x) : F_M_wrongSize (I x) h = some (I (-4), h) := by
  obtain ⟨l, g⟩ := e
  unfold small at s
  by_cases hx : x < 0
  · simp (disch := omega) only [F_M_wrongSize, zero_I, I_lt, if_pos hx]
  · by_cases h1 : x / 100 < 1
    · simp (disch := omega) only [F_M_wrongSize, zero_I, I_lt, I_div, if_neg hx, if_pos h1]
    · simp (disch := omega) only [F_M_wrongSize, zero_I, I_lt, I_le, I_div, I_rem, if_neg hx, if_neg h1, if_neg (show ¬ 1 ≤ x % 100 by omega)]
theorem m_size_l (e : i32 x) (s : ¬ small x) (q : large x) : F_M_wrongSize (I x) h = some (I (-6), h) := by
  obtain ⟨l, g⟩ := e
  have s' : 100 ≤ x ∧ 1 ≤ x % 100 := Classical.byContradiction fun q => s q
  unfold large at q
  by_cases c : 24 < x / 100
  · simp (disch := omega) only [F_M_wrongSize, zero_I, I_lt, I_le, I_div, I_rem, if_neg (show ¬ x < 0 by omega), if_neg (show ¬ x / 100 < 1 by omega), if_pos s'.2, if_pos c]
  · simp (disch := omega) only [F_M_wrongSize, zero_I, I_lt, I_le, I_div, I_rem, if_neg (show ¬ x < 0 by omega), if_neg (show ¬ x / 100 < 1 by omega), if_pos s'.2, if_neg c, if_neg (show ¬ x % 100 ≤ 24 by omega), iw_s]
theorem m_size_f (e : i32 x) (s : ¬ small x) (q : ¬ large x) : F_M_wrongSize (I x) h = some (I 0, h) := by
  obtain ⟨l, g⟩ := e
  have s' : 100 ≤ x ∧ 1 ≤ x % 100 := Classical.byContradiction fun q => s q
  unfold large at q
  simp (disch := omega) only [F_M_wrongSize, zero_I, I_lt, I_le, I_div, I_rem, if_neg (show ¬ x < 0 by omega), if_neg (show ¬ x / 100 < 1 by omega), if_pos s'.2, if_neg (show ¬ 24 < x / 100 by omega), if_pos (show x % 100 ≤ 24 by omega), iw_s]
theorem size_b (s : ¬ small x) (q : ¬ large x) : 100 ≤ x ∧ x ≤ 2424 ∧ 1 ≤ x / 100 ∧ x / 100 ≤ 24 ∧ 1 ≤ x % 100 ∧ x % 100 ≤ 24 := by
  have s' : 100 ≤ x ∧ 1 ≤ x % 100 := Classical.byContradiction fun q => s q
  unfold large at q
  omega
end SZ
theorem addB_0 {a : HS} {x y : Int} (b : Nat) : hL (addB a x y) b = if b = nB a then x / 100 else hL a b := by
  show (if (0 : Nat) < 4 ∧ b = nB a then (if (0 : Nat) = 0 then x / 100 else if (0 : Nat) = 1 then x % 100 else if (0 : Nat) = 2 then y / 100 else y % 100) else hL a b) = _
  by_cases c : b = nB a <;> simp [c]
theorem addB_1 {a : HS} {x y : Int} (b : Nat) : hB (addB a x y) b = if b = nB a then x % 100 else hB a b := by
  show (if (1 : Nat) < 4 ∧ b = nB a then (if (1 : Nat) = 0 then x / 100 else if (1 : Nat) = 1 then x % 100 else if (1 : Nat) = 2 then y / 100 else y % 100) else hB a b) = _
  by_cases c : b = nB a <;> simp [c]
theorem addB_2 {a : HS} {x y : Int} (b : Nat) : hC (addB a x y) b = if b = nB a then y / 100 else hC a b := by
  show (if (2 : Nat) < 4 ∧ b = nB a then (if (2 : Nat) = 0 then x / 100 else if (2 : Nat) = 1 then x % 100 else if (2 : Nat) = 2 then y / 100 else y % 100) else hC a b) = _
  by_cases c : b = nB a <;> simp [c]
theorem addB_3 {a : HS} {x y : Int} (b : Nat) : hD (addB a x y) b = if b = nB a then y % 100 else hD a b := by
  show (if (3 : Nat) < 4 ∧ b = nB a then (if (3 : Nat) = 0 then x / 100 else if (3 : Nat) = 1 then x % 100 else if (3 : Nat) = 2 then y / 100 else y % 100) else hD a b) = _
  by_cases c : b = nB a <;> simp [c]
theorem invB {a : HS} (J : InvH a) {x y : Int} (s1 : ¬ small x) (q1 : ¬ large x) (s2 : ¬ small y) (q2 : ¬ large y) (hn : nB a < 6) : InvH (addB a x y) := by
  obtain ⟨j1, j2, j3, j4, j5, j6⟩ := J
  have b1 := size_b s1 q1
  have b2 := size_b s2 q2
  refine ⟨by show nB a + 1 ≤ 6; omega, j2, j3, fun b => ?_, j5, j6⟩
  have q := j4 b
  rw [addB_0, addB_1, addB_2, addB_3]
  by_cases c : b = nB a
  · simp only [if_pos c]
    omega
  · simp only [if_neg c]
    omega
theorem bedC {f : Nat → Nat → Int32} {n : Nat} {u v w z : Int} {e : Option Nat} (hn : n < 6) (h0 : f 55 0 = I n) : F_M_bedComes (I u) (I v) (I w) (I z) (f, e) = some (mm_hset (mm_hset (mm_hset (mm_hset (mm_hset f 56 (4 * n) (I u)) 56 (4 * n + 1) (I v)) 56 (4 * n + 2) (I w)) 56 (4 * n + 3) (I z)) 55 0 (I ((n + 1 : Nat) : Int)), e) := by
  simp (disch := omega) only [F_M_bedComes, h0, hw_s, hs_ne, I_mul, I_add, ck_in, I_nat, n40, n41, n42, n43]
  rfl
theorem s_bed {S : SS} (J : InvS S) {x y : Int} (e1 : i32 x) (e2 : i32 y) : Step S (F_C_bed (I x) (I y)) (F_M_bed (I x) (I y)) := by
  obtain ⟨l1, g1⟩ := id e1
  obtain ⟨l2, g2⟩ := id e2
  obtain ⟨J1, J2, J3, J4, J5, J6, J7, J8, J9⟩ := id J
  obtain ⟨j1, j2, j3, j4, j5, j6⟩ := id J1
  have e64 : (I (-6) = I (-4)) = False := eq_false (by decide)
  have e04 : (I 0 = I (-4)) = False := eq_false (by decide)
  have l60 : (I (-6) < I 0) = True := eq_true (by decide)
  have l00 : (I 0 < I 0) = False := eq_false (by decide)
  by_cases s1 : small x
  · refine st_ref J (I (-4)) 4 (by omega) (fun h R => ?_) (fun h R => ?_)
    · simp only [F_C_bed, F_H_addBed_2, c_small_t e1 s1, bd_s, zero_I, one_ne, not_false_iff, if_true, comes4]
    · have w2 : ∃ r, F_M_wrongSize (I y) (setT h) = some (r, setT h) := by
        by_cases s2 : small y
        · exact ⟨_, m_size_s e2 s2⟩
        · by_cases q2 : large y
          · exact ⟨_, m_size_l e2 s2 q2⟩
          · exact ⟨_, m_size_f e2 s2 q2⟩
      obtain ⟨r, w2⟩ := w2
      simp only [F_M_bed, setT_d, hw_s, kw_s, m_size_s e1 s1, w2, bd_s, zero_I, lm4, if_true, if_false, m_ref4]
  · by_cases s2 : small y
    · refine st_ref J (I (-4)) 4 (by omega) (fun h R => ?_) (fun h R => ?_)
      · simp only [F_C_bed, F_H_addBed_2, c_small_f e1 s1, c_small_t e2 s2, bd_s, zero_I, one_ne, not_true, if_false, comes4]
      · by_cases q1 : large x
        · simp only [F_M_bed, setT_d, hw_s, kw_s, m_size_l e1 s1 q1, m_size_s e2 s2, bd_s, zero_I, e64, lm4, not_true, if_false, m_ref4]
        · simp only [F_M_bed, setT_d, hw_s, kw_s, m_size_f e1 s1 q1, m_size_s e2 s2, bd_s, zero_I, e04, lm4, not_true, if_false, m_ref4]
    · by_cases q1 : large x
      · refine st_ref J (I (-6)) 6 (by omega) (fun h R => ?_) (fun h R => ?_)
        · simp only [F_C_bed, F_H_addBed_2, c_small_f e1 s1, c_small_f e2 s2, c_large_t e1 s1 q1, bd_s, zero_I, one_ne, not_true, not_false_iff, if_true, if_false, comes6]
        · by_cases q2 : large y
          · simp only [F_M_bed, setT_d, hw_s, kw_s, m_size_l e1 s1 q1, m_size_l e2 s2 q2, bd_s, zero_I, e64, lm6, l60, not_false_iff, if_true, if_false, m_ref6]
          · simp only [F_M_bed, setT_d, hw_s, kw_s, m_size_l e1 s1 q1, m_size_f e2 s2 q2, bd_s, zero_I, e64, e04, lm6, l60, not_false_iff, if_true, if_false, m_ref6]
      · by_cases q2 : large y
        · refine st_ref J (I (-6)) 6 (by omega) (fun h R => ?_) (fun h R => ?_)
          · simp only [F_C_bed, F_H_addBed_2, c_small_f e1 s1, c_small_f e2 s2, c_large_f e1 s1 q1, c_large_t e2 s2 q2, bd_s, zero_I, one_ne, not_true, not_false_iff, if_true, if_false, comes6]
          · simp only [F_M_bed, setT_d, hw_s, kw_s, m_size_f e1 s1 q1, m_size_l e2 s2 q2, bd_s, zero_I, e64, e04, lm6, l60, l00, not_false_iff, if_true, if_false, m_ref6]
        · by_cases h5 : nB (sN S) = 6
          · refine st_ref J (I (-6)) 6 (by omega) (fun h R => ?_) (fun h R => ?_)
            · simp (disch := omega) only [F_C_bed, F_H_addBed_2, c_small_f e1 s1, c_small_f e2 s2, c_large_f e1 s1 q1, c_large_f e2 s2 q2, bd_s, zero_I, not_true, if_true, if_false, rn_b (rc_h R), I_lt, if_neg (show ¬ (nB (sN S) : Int) < 6 by omega), comes6]
            · have R := rm_h R
              simp only [F_M_bed, setT_d, hw_s, kw_s, m_size_f e1 s1 q1, m_size_f e2 s2 q2, bd_s, zero_I, e04, l00, not_false_iff, if_true, if_false, rm_b R]
              simp (disch := omega) only [I_eq, if_neg (show ¬ ¬ (nB (sN S) : Int) = 6 by omega), lm6, if_false, m_ref6, bd_s]
          · have h5' : nB (sN S) < 6 := by omega
            have b1 := size_b s1 q1
            have b2 := size_b s2 q2
            refine ⟨I (nB (sN S) : Int), (addB (sN S) x y, sI S, sLt S, sRw S, [], sR S), ⟨invB J1 s1 q1 s2 q2 h5', J2, J3, J4, J5, J6, by show 0 ≤ 8; omega, fun a ha => absurd (show a ∈ ([] : List HS) from ha) List.not_mem_nil, J9⟩, fun h R => ?_, fun h R => ?_⟩
            · obtain ⟨r1, r2, r3, r4, r5, r6⟩ := R
              refine ⟨(mm_hset (mm_hset (mm_hset (mm_hset h.1 9 (nB (sN S)) (I x)) 10 (nB (sN S)) (I y)) 8 7 (I ((nB (sN S) + 1 : Nat) : Int))) 31 3 (I 0), h.2), ?_, ⟨?_, RImg_cg (by simp (disch := omega) only [hs_ne]) (fun k a b => by simp (disch := omega) only [hrow]) r2, ⟨by simp (disch := omega) only [hs_ne]; exact r3.1, fun i hi => by simp (disch := omega) only [hs_ne]; exact r3.2 i hi⟩, ⟨by simp (disch := omega) only [hs_ne]; exact r4.1, fun i hi => by simp (disch := omega) only [hs_ne]; exact r4.2 i hi⟩, ⟨by simp only [hs_eq]; rfl, fun i hi => absurd hi (Nat.not_lt_zero i)⟩, fun i hi => by simp (disch := omega) only [hs_ne]; exact r6 i hi⟩, fun k i hk => by simp (disch := omega) only [hs_ne]⟩
              · have ec : ((nB (sN S) : Int) + 1 - 1) = (nB (sN S) : Int) := by omega
                have ct := fun (h' : MH) => comes_t (z := (nB (sN S) : Int)) (h := h') (by omega) (by omega)
                simp (disch := omega) only [F_C_bed, F_H_addBed_2, c_small_f e1 s1, c_small_f e2 s2, c_large_f e1 s1 q1, c_large_f e2 s2 q2, bd_s, zero_I, not_true, if_true, if_false, rn_b r1, I_lt, if_pos (show (nB (sN S) : Int) < 6 by omega), ck_in, I_nat, Int.toNat_natCast, hw_s, hs_ne, hs_eq, I_add, I_sub, ec, ct]
                rfl
              · obtain ⟨t1, t2, t3, t4, t5, t6, t7, t8, t9, t10⟩ := r1
                refine ⟨by simp (disch := omega) only [hs_ne, hs_eq]; rfl, by simp (disch := omega) only [hs_ne]; exact t2, by simp (disch := omega) only [hs_ne]; exact t3, by simp (disch := omega) only [hs_ne]; exact t4, fun p hp => ?_, fun p hp => ?_, fun w hw => by simp (disch := omega) only [hs_ne]; exact t7 w hw, fun w hw => by simp (disch := omega) only [hs_ne]; exact t8 w hw, fun w hw => by simp (disch := omega) only [hs_ne]; exact t9 w hw, fun w hw => by simp (disch := omega) only [hs_ne]; exact t10 w hw⟩
                · have hp' : p < nB (sN S) + 1 := hp
                  show _ = I (100 * hL (addB (sN S) x y) p + hB (addB (sN S) x y) p)
                  rw [addB_0, addB_1]
                  by_cases c : p = nB (sN S)
                  · subst c
                    simp (disch := omega) only [hs_ne, hs_eq, if_true]
                    congr 1
                    omega
                  · rw [if_neg c, if_neg c]
                    simp (disch := omega) only [hs_ne]
                    exact t5 p (by omega)
                · have hp' : p < nB (sN S) + 1 := hp
                  show _ = I (100 * hC (addB (sN S) x y) p + hD (addB (sN S) x y) p)
                  rw [addB_2, addB_3]
                  by_cases c : p = nB (sN S)
                  · subst c
                    simp (disch := omega) only [hs_ne, hs_eq, if_true]
                    congr 1
                    omega
                  · rw [if_neg c, if_neg c]
                    simp (disch := omega) only [hs_ne]
                    exact t6 p (by omega)
            · have R' := RM_Sc R (ScM_setT h)
              obtain ⟨r1, r2, r3, r4, r5, r6⟩ := R'
              have bc := bedC (f := (setT h).1) (u := x / 100) (v := x % 100) (w := y / 100) (z := y % 100) (e := h.2) h5' (rm_b r1)
              refine ⟨(mm_hset (mm_hset (mm_hset (mm_hset (mm_hset (mm_hset (setT h).1 56 (4 * nB (sN S)) (I (x / 100))) 56 (4 * nB (sN S) + 1) (I (x % 100))) 56 (4 * nB (sN S) + 2) (I (y / 100))) 56 (4 * nB (sN S) + 3) (I (y % 100))) 55 0 (I ((nB (sN S) + 1 : Nat) : Int))) 55 30 (I 0), h.2), ?_, ⟨?_, RImgM_cg (by simp (disch := omega) only [hs_ne]) (by simp (disch := omega) only [hrow]) r2, ⟨by simp (disch := omega) only [hs_ne]; exact r3.1, fun i hi => by simp (disch := omega) only [hs_ne]; exact r3.2 i hi⟩, ⟨by simp (disch := omega) only [hs_ne]; exact r4.1, fun i hi => by simp (disch := omega) only [hs_ne]; exact r4.2 i hi⟩, ⟨by simp only [hs_eq]; rfl, fun i hi => absurd hi (Nat.not_lt_zero i)⟩, fun i hi => by simp (disch := omega) only [hs_ne]; exact r6 i hi⟩, fun k i hk => by simp (disch := omega) only [hs_ne, setT]⟩
              · have ec : (((nB (sN S) + 1 : Nat) : Int) - 1) = (nB (sN S) : Int) := by omega
                have bc' : F_M_bedComes (I (x / 100)) (I (x % 100)) (I (y / 100)) (I (y % 100)) (setT h) = _ := bc
                simp only [F_M_bed, setT_d, hw_s, kw_s, m_size_f e1 s1 q1, m_size_f e2 s2 q2, bd_s, zero_I, e04, l00, not_false_iff, if_true, if_false, rm_b r1]
                simp (disch := omega) only [I_eq, if_pos (show ¬ (nB (sN S) : Int) = 6 by omega), le00, if_true, I_div, I_rem, bc', bd_s, hs_ne, hs_eq, I_sub, ec]
              · obtain ⟨t1, t2, t3, t4, t5, t6, t7, t8, t9, t10⟩ := r1
                refine ⟨by simp (disch := omega) only [hs_ne, hs_eq]; rfl, by simp (disch := omega) only [hs_ne]; exact t2, by simp (disch := omega) only [hs_ne]; exact t3, by simp (disch := omega) only [hs_ne]; exact t4, fun p hp => ?_, fun w hw => by simp (disch := omega) only [hs_ne]; exact t6 w hw, fun w hw => by simp (disch := omega) only [hs_ne]; exact t7 w hw, fun w hw => by simp (disch := omega) only [hs_ne]; exact t8 w hw, fun w hw => by simp (disch := omega) only [hs_ne]; exact t9 w hw, fun c hc => by simp (disch := omega) only [hs_ne]; exact t10 c hc⟩
                have hp' : p < nB (sN S) + 1 := hp
                show _ = I (hL (addB (sN S) x y) p) ∧ _ = I (hB (addB (sN S) x y) p) ∧ _ = I (hC (addB (sN S) x y) p) ∧ _ = I (hD (addB (sN S) x y) p)
                rw [addB_0, addB_1, addB_2, addB_3]
                by_cases c : p = nB (sN S)
                · subst c
                  simp (disch := omega) only [hs_ne, hs_eq, if_true, and_self]
                · simp only [if_neg c]
                  simp (disch := omega) only [hs_ne]
                  exact t5 p (by omega)
