-- 11 cover
def setC (a : HS) (b : Nat) (v : Int) : HS := (fun q i => if q = 2 ∧ i = b then v / 100 else if q = 3 ∧ i = b then v % 100 else a.1 q i, a.2)
theorem setC_C {a : HS} {b : Nat} {v : Int} (i : Nat) : hC (setC a b v) i = if i = b then v / 100 else hC a i := by
  show (if (2 : Nat) = 2 ∧ i = b then v / 100 else if (2 : Nat) = 3 ∧ i = b then v % 100 else hC a i) = _
  by_cases c : i = b <;> simp [c]
theorem setC_D {a : HS} {b : Nat} {v : Int} (i : Nat) : hD (setC a b v) i = if i = b then v % 100 else hD a i := by
  show (if (3 : Nat) = 2 ∧ i = b then v / 100 else if (3 : Nat) = 3 ∧ i = b then v % 100 else hD a i) = _
  by_cases c : i = b <;> simp [c]
theorem unDo_C {a : HS} {b : Nat} {v : Int} (h3 : 0 ≤ hD a b) (h4 : hD a b ≤ 24) : a = unDo (setC a b v) 1 b (100 * hC a b + hD a b) := by
  have e : a.1 = fun q i => if q = 2 ∧ i = b then (100 * hC a b + hD a b) / 100 else if q = 3 ∧ i = b then (100 * hC a b + hD a b) % 100 else (if q = 2 ∧ i = b then v / 100 else if q = 3 ∧ i = b then v % 100 else a.1 q i) := by
    funext q i
    by_cases c : q = 2 ∧ i = b
    · rw [if_pos c, c.1, c.2, e100 h3 h4]
    · rw [if_neg c]
      by_cases d : q = 3 ∧ i = b
      · rw [if_pos d, d.1, d.2, m100 h3 h4]
      · rw [if_neg d, if_neg c, if_neg d]
  show (a.1, a.2) = ((fun q i => if q = 2 ∧ i = b then (100 * hC a b + hD a b) / 100 else if q = 3 ∧ i = b then (100 * hC a b + hD a b) % 100 else (if q = 2 ∧ i = b then v / 100 else if q = 3 ∧ i = b then v % 100 else a.1 q i)), a.2)
  rw [← e]
theorem invC {a : HS} (J : InvH a) {b : Nat} {v : Int} (s : ¬ small v) (q : ¬ large v) : InvH (setC a b v) := by
  obtain ⟨j1, j2, j3, j4, j5, j6⟩ := J
  have sb := size_b s q
  refine ⟨j1, j2, j3, fun i => ?_, j5, j6⟩
  have q := j4 i
  rw [setC_C, setC_D]
  show 1 ≤ hL a i ∧ hL a i ≤ 24 ∧ 1 ≤ hB a i ∧ hB a i ≤ 24 ∧ _
  split <;> omega
theorem s_cover {S : SS} (J : InvS S) {x y : Int} (e1 : i32 x) (e2 : i32 y) : Step S (F_C_cover (I x) (I y)) (F_M_cover (I x) (I y)) := by
  obtain ⟨J1, J2, J3, J4, J5, J6, J7, J8, J9⟩ := id J
  obtain ⟨j1, j2, j3, j4, j5, j6⟩ := id J1
  obtain ⟨l2, g2⟩ := id e2
  by_cases hx : inB (sN S) x
  · by_cases s1 : small y
    · refine st_ref J (I (-4)) 4 (by omega) (fun h R => ?_) (fun h R => ?_)
      · simp (disch := omega) only [F_C_cover, c_noBed_t (rc_h R) J1 hx.1 hx.2, c_small_t e2 s1, bd_s, zero_I, one_ne, if_true, if_false, c_ref4]
      · simp (disch := omega) only [F_M_cover, setT_d, hw_s, m_isBed_t (rm_h R) J1 hx.1 hx.2, kw_s, bd_s, zero_I, one_ne, if_false, m_size_s e2 s1, lm4, m_ref4]
    · by_cases q1 : large y
      · refine st_ref J (I (-6)) 6 (by omega) (fun h R => ?_) (fun h R => ?_)
        · simp (disch := omega) only [F_C_cover, c_noBed_t (rc_h R) J1 hx.1 hx.2, c_small_f e2 s1, c_large_t e2 s1 q1, bd_s, zero_I, one_ne, if_true, if_false, c_ref6]
        · simp (disch := omega) only [F_M_cover, setT_d, hw_s, m_isBed_t (rm_h R) J1 hx.1 hx.2, kw_s, bd_s, zero_I, one_ne, if_false, m_size_l e2 s1 q1, lm6, m_ref6]
      · obtain ⟨b, hb, rfl⟩ := nn hx
        have hb4 := j4 b
        have sb := size_b s1 q1
        have vb : 0 ≤ 100 * hC (sN S) b + hD (sN S) b ∧ 100 * hC (sN S) b + hD (sN S) b < 2147483648 := by omega
        refine ⟨I (100 * hC (sN S) b + hD (sN S) b), chS S (setC (sN S) b y), InvS_push J (invC J1 s1 q1) J9, fun h R => ?_, fun h R => ?_⟩
        · obtain ⟨k1, p1, C⟩ := c_keep (x := (1 : Int)) (y := (b : Int)) (z := 100 * hC (sN S) b + hD (sN S) b) J R
          obtain ⟨r1, r2, r3, r4, r5, r6⟩ := id R
          obtain ⟨c1, c2, c3, c4, c5⟩ := id C
          have e10 : h.1 10 b = I (100 * hC (sN S) b + hD (sN S) b) := rn_c r1 hb
          refine ⟨(mm_hset k1.1 10 b (I y), k1.2), ?_, ⟨?_, RImg_cg (h := h) (by simp (disch := omega) only [hs_ne, c5]) (fun k a b => by simp (disch := omega) only [hrow, c5]) r2, ⟨by simp (disch := omega) only [hs_ne, c5]; exact r3.1, fun i hi => by simp (disch := omega) only [hs_ne, c5]; exact r3.2 i hi⟩, ⟨by simp (disch := omega) only [hs_ne, c5]; exact r4.1, fun i hi => by simp (disch := omega) only [hs_ne, c5]; exact r4.2 i hi⟩, RUn_push (x := 1) (y := b) r5 J7 C (by omega) (by omega) (fun q => by omega) (fun _ => hb) vb.1 vb.2 rfl rfl (unDo_C (by omega) (by omega)) (by simp (disch := omega) only [hs_ne]) (fun k a b => by simp (disch := omega) only [hrow]), fun i hi => by simp (disch := omega) only [hs_ne, c5]; exact r6 i hi⟩, fun k i hk => by simp (disch := omega) only [hs_ne, c5]⟩
          · simp (disch := omega) only [F_C_cover, c_noBed_t r1 J1 hx.1 hx.2, c_small_f e2 s1, c_large_f e2 s1 q1, bd_s, zero_I, if_true, ck_in, I_nat, Int.toNat_natCast, e10, p1, hw_s]
          · obtain ⟨t1, t2, t3, t4, t5, t6, t7, t8, t9, t10⟩ := r1
            refine ⟨by simp (disch := omega) only [hs_ne, c5]; exact t1, by simp (disch := omega) only [hs_ne, c5]; exact t2, by simp (disch := omega) only [hs_ne, c5]; exact t3, by simp (disch := omega) only [hs_ne, c5]; exact t4, fun b hb => by simp (disch := omega) only [hs_ne, c5]; exact t5 b hb, fun i hi => ?_, fun i hi => by simp (disch := omega) only [hs_ne, c5]; exact t7 i hi, fun i hi => by simp (disch := omega) only [hs_ne, c5]; exact t8 i hi, fun w hw => by simp (disch := omega) only [hs_ne, c5]; exact t9 w hw, fun w hw => by simp (disch := omega) only [hs_ne, c5]; exact t10 w hw⟩
            show _ = I (100 * hC (setC (sN S) b y) i + hD (setC (sN S) b y) i)
            rw [setC_C, setC_D]
            by_cases c : i = b
            · subst c
              simp (disch := omega) only [hs_eq, if_true]
              congr 1
              omega
            · rw [if_neg c, if_neg c]
              simp (disch := omega) only [hs_ne, c5]
              exact t6 i hi
        · have R' := RM_Sc R (ScM_setT h)
          obtain ⟨k1, p1, C⟩ := m_keepTurn J R'
          obtain ⟨r1, r2, r3, r4, r5, r6⟩ := id R'
          obtain ⟨c1, c2, c3⟩ := id C
          have c3r : ∀ k, ¬ k = 70 → ¬ k = 71 → ¬ k = 55 → k1.1 k = (setT h).1 k := fun k a b c => funext fun i => c3 k i a b (by omega)
          have eC : k1.1 56 (4 * b + 2) = I (hC (sN S) b) := (c3 56 _ (by omega) (by omega) (by omega)).trans (rm_C r1 hb)
          have eD : k1.1 56 (4 * b + 3) = I (hD (sN S) b) := (c3 56 _ (by omega) (by omega) (by omega)).trans (rm_D r1 hb)
          refine ⟨(mm_hset (mm_hset k1.1 56 (4 * b + 2) (I (y / 100))) 56 (4 * b + 3) (I (y % 100)), k1.2), ?_, ⟨?_, RImgM_cg (h := setT h) (by simp (disch := omega) only [hs_ne, c3]) (by simp (disch := omega) only [hrow, c3r]) r2, ⟨by simp (disch := omega) only [hs_ne, c3]; exact r3.1, fun i hi => by simp (disch := omega) only [hs_ne, c3]; exact r3.2 i hi⟩, ⟨by simp (disch := omega) only [hs_ne, c3]; exact r4.1, fun i hi => by simp (disch := omega) only [hs_ne, c3]; exact r4.2 i hi⟩, RUnM_push C (by simp (disch := omega) only [hs_ne]) (by simp (disch := omega) only [hrow]), fun i hi => by simp (disch := omega) only [hs_ne, c3]; exact r6 i hi⟩, fun k i hk => by simp (disch := omega) only [hs_ne, c3, setT]⟩
          · simp (disch := omega) only [F_M_cover, setT_d, hw_s, m_isBed_t r1 J1 hx.1 hx.2, kw_s, bd_s, zero_I, one_ne, if_false, m_size_f e2 s1 q1, le00, if_true, p1, I_mul, I_add, ck_in, I_nat, n42, n43, eC, eD, iw_s, I_div, I_rem]
          · obtain ⟨t1, t2, t3, t4, t5, t6, t7, t8, t9, t10⟩ := r1
            refine ⟨by simp (disch := omega) only [hs_ne, c3]; exact t1, by simp (disch := omega) only [hs_ne, c3]; exact t2, by simp (disch := omega) only [hs_ne, c3]; exact t3, by simp (disch := omega) only [hs_ne, c3]; exact t4, fun i hi => ?_, fun i hi => by simp (disch := omega) only [hs_ne, c3]; exact t6 i hi, fun i hi => by simp (disch := omega) only [hs_ne, c3]; exact t7 i hi, fun w hw => by simp (disch := omega) only [hs_ne, c3]; exact t8 w hw, fun w hw => by simp (disch := omega) only [hs_ne, c3]; exact t9 w hw, fun c hc => by simp (disch := omega) only [hs_ne, c3]; exact t10 c hc⟩
            have z := t5 i hi
            show _ = I (hL (sN S) i) ∧ _ = I (hB (sN S) i) ∧ _ = I (hC (setC (sN S) b y) i) ∧ _ = I (hD (setC (sN S) b y) i)
            rw [setC_C, setC_D]
            by_cases c : i = b
            · subst c
              refine ⟨?_, ?_, ?_, ?_⟩
              · simp (disch := omega) only [hs_ne, c3]
                exact z.1
              · simp (disch := omega) only [hs_ne, c3]
                exact z.2.1
              · simp (disch := omega) only [hs_ne, hs_eq, if_true]
              · simp (disch := omega) only [hs_eq, if_true]
            · rw [if_neg c, if_neg c]
              simp (disch := omega) only [hs_ne, c3]
              exact z
  · refine st_ref J (I (-1)) 1 (by omega) (fun h R => ?_) (fun h R => ?_)
    · simp only [F_C_cover, c_noBed_f (rc_h R) J1 e1.1 e1.2 hx, bd_s, zero_I, one_ne, if_false, c_ref1]
    · simp only [F_M_cover, setT_d, hw_s, m_isBed_f (rm_h R) J1 e1.1 e1.2 hx, kw_s, bd_s, zero_I, if_true, lm1, if_false, m_ref1]
