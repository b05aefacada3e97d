theorem scM_63 : ∀ i, scM 63 i = true := fun i => by unfold scM; simp
theorem scM_k63 {k i : Nat} (e : scM k i = false) : ¬ k = 63 := by
  rintro rfl
  rw [scM_63] at e
  exact absurd e (by decide)
theorem scM_k13 {k i : Nat} (e : scM k i = false) : ¬ (k = 55 ∧ i = 13) := by
  rintro ⟨rfl, rfl⟩
  exact absurd e (by decide)
section THK
variable {a : HS} {h : MH}
theorem m_think (R : RepM a h.1) (hl : hLie a < 512) : ∃ h', F_M_think h = some h' ∧ RepT (hLie a) h'.1 ∧ ScM h h' := by
  have r0 := rm_l R (c := 0) (by omega)
  have r1 := rm_l R (c := 1) (by omega)
  have r2 := rm_l R (c := 2) (by omega)
  have r3 := rm_l R (c := 3) (by omega)
  have ro := rm_o R
  have z0 : (0 : Int).toNat = 0 := rfl
  have z1 : (0 + 1 : Int).toNat = 1 := rfl
  have z2 : (0 + 1 + 1 : Int).toNat = 2 := rfl
  have z3 : (0 + 1 + 1 + 1 : Int).toNat = 3 := rfl
  have g : ∀ n, L_M_think_2 (n + 1 + 1 + 1 + 1 + 1) (I 0) h = some (mm_hset (mm_hset (mm_hset (mm_hset h.1 63 0 (h.1 61 0)) 63 1 (h.1 61 1)) 63 2 (h.1 61 2)) 63 3 (h.1 61 3), h.2) := by
    intro n
    simp (disch := omega) only [L_M_think_2, I_le, I_add, if_neg (show ¬ (4 : Int) ≤ 0 by omega), if_neg (show ¬ (4 : Int) ≤ 0 + 1 by omega), if_neg (show ¬ (4 : Int) ≤ 0 + 1 + 1 by omega), if_neg (show ¬ (4 : Int) ≤ 0 + 1 + 1 + 1 by omega), if_pos (show (4 : Int) ≤ 0 + 1 + 1 + 1 + 1 by omega), ck_in, I_nat, z0, z1, z2, z3, hw_s, hs_ne]
  have g' : L_M_think_2 5000 (I 0) h = _ := g 4995
  have bit : (h.1 55 9 &&& 1) = h.1 55 9 := by
    rw [ro]
    rcases (show hLie a / 256 = 0 ∨ hLie a / 256 = 1 by omega) with q | q <;> rw [q] <;> decide
  refine ⟨(mm_hset (mm_hset (mm_hset (mm_hset (mm_hset h.1 63 0 (h.1 61 0)) 63 1 (h.1 61 1)) 63 2 (h.1 61 2)) 63 3 (h.1 61 3)) 55 13 (h.1 55 9), h.2), ?_, ⟨?_, fun c hc => ?_⟩, fun k i e => ?_⟩
  · simp (disch := omega) only [F_M_think, g', bd_s, hs_ne, hw_s]
    exact cd_t bit
  · simp only [hs_eq]
    exact ro
  · rcases (show c = 0 ∨ c = 1 ∨ c = 2 ∨ c = 3 by omega) with rfl | rfl | rfl | rfl <;> simp (disch := omega) only [hs_ne, hs_eq] <;> first | exact r0 | exact r1 | exact r2 | exact r3
  · have q1 := scM_k63 e
    have q2 := scM_k13 e
    simp (disch := omega) only [hs_ne]
def cod (l : Nat) : Nat := (((l / 256 * 4 + dig l 0) * 4 + dig l 1) * 4 + dig l 2) * 4 + dig l 3
theorem m_code {l : Nat} (hl : l < 512) (T : RepT l h.1) : F_M_codeNow h = some (I ((cod l : Nat) : Int), h) := by
  obtain ⟨o, d⟩ := T
  have d0 := d 0 (by omega)
  have d1 := d 1 (by omega)
  have d2 := d 2 (by omega)
  have d3 := d 3 (by omega)
  have b0 := dig_lt l 0
  have b1 := dig_lt l 1
  have b2 := dig_lt l 2
  have b3 := dig_lt l 3
  have z0 : (0 : Int).toNat = 0 := rfl
  have z1 : (0 + 1 : Int).toNat = 1 := rfl
  have z2 : (0 + 1 + 1 : Int).toNat = 2 := rfl
  have z3 : (0 + 1 + 1 + 1 : Int).toNat = 3 := rfl
  have g : ∀ n (x : Int), L_M_codeNow_15 (n + 1 + 1 + 1 + 1 + 1) (I x) (I 0) h = some (I (4 * (4 * (4 * (4 * x + dig l 0) + dig l 1) + dig l 2) + dig l 3), h) := by
    intro n x
    simp (disch := omega) only [L_M_codeNow_15, I_le, if_neg (show ¬ (4 : Int) ≤ 0 by omega), if_neg (show ¬ (4 : Int) ≤ 0 + 1 by omega), if_neg (show ¬ (4 : Int) ≤ 0 + 1 + 1 by omega), if_neg (show ¬ (4 : Int) ≤ 0 + 1 + 1 + 1 by omega), if_pos (show (4 : Int) ≤ 0 + 1 + 1 + 1 + 1 by omega), ck_in, I_nat, z0, z1, z2, z3, d0, d1, d2, d3, I_mul, I_add, iw_s]
  have g' : ∀ x : Int, L_M_codeNow_15 5000 (I x) (I 0) h = _ := g 4995
  have e : (if h.1 55 13 = 0 then I 0 else I 1) = I ((l / 256 : Nat) : Int) := by
    rw [o]
    rcases (show l / 256 = 0 ∨ l / 256 = 1 by omega) with q | q <;> rw [q] <;> rfl
  simp only [F_M_codeNow, iw_s, e, g', bd_s]
  unfold cod
  congr 3
  omega
theorem cod_lt {l : Nat} (hl : l < 512) : cod l < 512 := by
  have b0 := dig_lt l 0
  have b1 := dig_lt l 1
  have b2 := dig_lt l 2
  have b3 := dig_lt l 3
  unfold cod
  omega
end THK
theorem com_dec : ∀ l : Fin 512, ∀ t u : Fin 4, okLie l = true → decide (cod (tl (tl l t) u) = cod (tl (tl l u) t)) = decide (tl (tl 228 t) u = tl (tl 228 u) t) := by decide +kernel
theorem ok_228 : okLie 228 = true := by decide
-- 32 mixed, 28 corner, 46 commute
theorem q_mixed {S : SS} (J : InvS S) : Q2 S F_C_mixed F_M_mixed := by
  have hl := ok_lt J.2.2.2.2.2.2.2.2
  have b := own_le (hLie (sN S)) 4
  refine q_pl (I (4 - ((own (hLie (sN S)) 4 : Nat) : Int))) 0 (by omega) (fun h R => ?_) (fun h R => ?_)
  · simp only [F_C_mixed, rn_l (rc_h R), c_own hl, bd_s, I_sub]
    rfl
  · simp only [F_M_mixed, setT_d, hw_s, m_own (rm_h R), bd_s, I_sub]
    rfl
theorem l_cor {a : HS} {h : MH} {c n : Nat} {x2 : Int32} (R : RepM a h.1) (ok : okLie (hLie a) = true) (hc : c < 4) : L_M_corner_64 (I c) x2 (n + 1 + 1 + 1 + 1) (I 0) h = some (I ((plc (hLie a) c : Nat) : Int), h) := by
  have hl := ok_lt ok
  have p : dig (hLie a) (plc (hLie a) c) = c ∧ plc (hLie a) c < 4 := plc_dec ⟨hLie a, hl⟩ ⟨c, hc⟩ ok
  have r0 : h.1 61 0 = I ((dig (hLie a) 0 : Nat) : Int) := rm_l R (c := 0) (by omega)
  have r1 : h.1 61 1 = I ((dig (hLie a) 1 : Nat) : Int) := rm_l R (c := 1) (by omega)
  have r2 : h.1 61 2 = I ((dig (hLie a) 2 : Nat) : Int) := rm_l R (c := 2) (by omega)
  have r3 : h.1 61 3 = I ((dig (hLie a) 3 : Nat) : Int) := rm_l R (c := 3) (by omega)
  have b0 := dig_lt (hLie a) 0
  have b1 := dig_lt (hLie a) 1
  have b2 := dig_lt (hLie a) 2
  have b3 := dig_lt (hLie a) 3
  have z0 : (0 : Int).toNat = 0 := rfl
  have z1 : (0 + 1 : Int).toNat = 1 := rfl
  have z2 : (0 + 1 + 1 : Int).toNat = 2 := rfl
  have z3 : (0 + 1 + 1 + 1 : Int).toNat = 3 := rfl
  simp (disch := omega) only [L_M_corner_64, ck_in, I_nat, I_add, z0, z1, z2, z3, r0, r1, r2, r3, I_eq]
  by_cases d0 : dig (hLie a) 0 = c
  · have e : plc (hLie a) c = 0 := by unfold plc; rw [if_pos d0]
    rw [if_pos (by omega), e]
    rfl
  · rw [if_neg (by omega)]
    by_cases d1 : dig (hLie a) 1 = c
    · have e : plc (hLie a) c = 1 := by unfold plc; rw [if_neg d0, if_pos d1]
      rw [if_pos (by omega), e]
      rfl
    · rw [if_neg (by omega)]
      by_cases d2 : dig (hLie a) 2 = c
      · have e : plc (hLie a) c = 2 := by unfold plc; rw [if_neg d0, if_neg d1, if_pos d2]
        rw [if_pos (by omega), e]
        rfl
      · rw [if_neg (by omega)]
        have e : plc (hLie a) c = 3 := by unfold plc; rw [if_neg d0, if_neg d1, if_neg d2]
        rw [e] at p
        rw [if_pos (by omega), e]
        rfl
theorem q_corner {S : SS} (J : InvS S) {x y : Int} (e1 : i32 x) (e2 : i32 y) : Q2 S (F_C_corner (I x) (I y)) (F_M_corner (I x) (I y)) := by
  have ok := J.2.2.2.2.2.2.2.2
  have hl := ok_lt ok
  obtain ⟨l1, g1⟩ := id e1
  obtain ⟨l2, g2⟩ := id e2
  by_cases h2 : y = 2
  · subst h2
    refine q_pl (I ((hLie (sN S) / 256 : Nat) : Int)) 0 (by omega) (fun h R => ?_) (fun h R => ?_)
    · simp only [F_C_corner, not_true, if_false, rn_l (rc_h R), c_inOut hl, bd_s]
      rfl
    · have R := rm_h R
      have o := rm_o R
      have e : (if (setT h).1 55 9 = 0 then I 0 else I 1) = I ((hLie (sN S) / 256 : Nat) : Int) := by
        rw [o]
        rcases (show hLie (sN S) / 256 = 0 ∨ hLie (sN S) / 256 = 1 by omega) with q | q <;> rw [q] <;> rfl
      simp only [F_M_corner, setT_d, hw_s, kw_s, if_true, m_bit_t (show (0:Int) ≤ 2 by omega) (show (2:Int) ≤ 2 by omega) (by omega), bd_s, zero_I, le00, not_true, if_false]
      rw [iw_s]
      show some ((if (setT h).1 55 9 = 0 then I 0 else I 1), setT h) = _
      rw [e]
      rfl
  · by_cases hx : 0 ≤ x ∧ x ≤ 3
    · obtain ⟨c, rfl⟩ : ∃ c : Nat, x = c := ⟨x.toNat, by omega⟩
      have hc : c < 4 := by omega
      have hx' : 0 ≤ (c : Int) ∧ (c : Int) < 4 := by omega
      by_cases hy : 0 ≤ y ∧ y ≤ 1
      · refine q_pl (I (if ¬ y = 0 then ((dig (hLie (sN S)) c : Nat) : Int) else ((plc (hLie (sN S)) c : Nat) : Int))) 0 (by omega) (fun h R => ?_) (fun h R => ?_)
        · have R := rc_h R
          simp (disch := omega) only [F_C_corner, I_eq, if_pos (show ¬ y = 2 by omega), c_noTurn_t, bd_s, zero_I, if_true, c_other_t hy.1 hy.2 (by omega), rn_l R, c_cornerAt hl hc, c_plc hl hc, show F_C_noCorner (I (c : Int)) h = some (I 0, h) from c_noTurn_t hx'.1 hx'.2]
          by_cases c0 : y = 0
          · rw [if_neg (by omega), if_neg (by omega)]
            rfl
          · rw [if_pos c0, if_pos c0]
            rfl
        · have R := rm_h R
          have g : L_M_corner_64 (I c) (I y) 5000 (I 0) (setT h) = _ := l_cor (n := 4996) R ok hc
          have rl : (setT h).1 61 c = I ((dig (hLie (sN S)) c : Nat) : Int) := rm_l R hc
          simp (disch := omega) only [F_M_corner, setT_d, hw_s, kw_s, I_eq, if_neg (show ¬ y = 2 by omega), if_pos (show ¬ y = 2 by omega), toI64, m_in, if_pos hx, bd_s, zero_I, one_ne, oz, if_false, m_bit_t hy.1 (show y ≤ 2 by omega) (show (2:Int) < 2147483648 by omega), le00, if_true, g, ck_in, I_nat, Int.toNat_natCast, rl]
          by_cases c0 : y = 0
          · rw [if_neg (by omega), if_neg (by omega)]
            rfl
          · rw [if_pos c0, if_pos c0]
            rfl
      · refine q_pl (I (-2)) 2 (by omega) (fun h R => ?_) (fun h R => ?_)
        · simp (disch := omega) only [F_C_corner, I_eq, if_pos (show ¬ y = 2 by omega), bd_s, zero_I, if_true, c_other_f l2 g2 (show (0:Int) ≤ 1 by omega) (by omega) hy, oz, if_false, c_ref2, show F_C_noCorner (I (c : Int)) h = some (I 0, h) from c_noTurn_t hx'.1 hx'.2]
        · simp (disch := omega) only [F_M_corner, setT_d, hw_s, kw_s, I_eq, if_neg (show ¬ y = 2 by omega), toI64, m_in, if_pos hx, bd_s, zero_I, one_ne, oz, if_false, m_bit_f e2 (show (0:Int) ≤ 2 by omega) (by omega) (show ¬ (0 ≤ y ∧ y ≤ 2) by omega), lm2, m_ref2]
    · have hx' : ¬ (0 ≤ x ∧ x < 4) := by omega
      refine q_pl (I (-1)) 1 (by omega) (fun h R => ?_) (fun h R => ?_)
      · simp (disch := omega) only [F_C_corner, I_eq, if_pos (show ¬ y = 2 by omega), bd_s, zero_I, oz, if_false, c_ref1, show F_C_noCorner (I x) h = some (I 1, h) from c_noTurn_f e1 hx']
      · simp (disch := omega) only [F_M_corner, setT_d, hw_s, kw_s, I_eq, if_neg (show ¬ y = 2 by omega), toI64, m_in, if_neg hx, bd_s, zero_I, if_true, lm1, if_false, m_ref1]
