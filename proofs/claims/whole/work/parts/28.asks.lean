-- 48 left
theorem mul_b {x w : Int} (h1 : 0 ≤ x) (h2 : x ≤ 200) (h3 : 1 ≤ w) (h4 : w ≤ 7) : 0 ≤ x * w ∧ x * w ≤ 1400 := by
  rcases (show w = 1 ∨ w = 2 ∨ w = 3 ∨ w = 4 ∨ w = 5 ∨ w = 6 ∨ w = 7 by omega) with rfl | rfl | rfl | rfl | rfl | rfl | rfl <;> omega
theorem bd_s {α β : Type} (y : α) (f : α → Option β) : bd (some y) f = f y := Eq.trans (bd_some y f) rfl
theorem iw_s {α : Type} (v : Int32) (f : Int32 → α) : iw v f = f v := Eq.trans (iw_d v f) rfl
theorem kw_s {α β : Type} (k : α) (f : α → β) : kw k f = f k := Eq.trans (kw_d k f) rfl
theorem hw_s {α : Type} (v : MH) (f : MH → α) : hw v f = f v := Eq.trans (hw_d v f) rfl
theorem q_left {S : SS} (J : InvS S) {x y z u : Int} (e1 : i32 x) (e2 : i32 y) (e3 : i32 z) (e4 : i32 u) : Q2 S (F_C_left (I x) (I y) (I z) (I u)) (F_M_left (I x) (I y) (I z) (I u)) := by
  have K := is_h J
  have c0 : i32 0 := ⟨by omega, by omega⟩
  have c40 : i32 40 := ⟨by omega, by omega⟩
  obtain ⟨l4, g4⟩ := id e4
  by_cases hn : inB (sN S) x ∧ inW (sN S) y ∧ inP (sN S) z
  · obtain ⟨hx, hy, hz⟩ := id hn
    obtain ⟨b, hb, rfl⟩ := nn hx
    obtain ⟨w, hw, rfl⟩ := nn hy
    obtain ⟨p, hp, rfl⟩ := nn hz
    obtain ⟨j1, j2, j3, j4, j5, j6⟩ := id K
    have hw6 := j6 w
    have hp5 := j5 p
    have q3 := sFo_b K b b (k := hK (sN S) w) hw6.2.2.1 hw6.2.2.2
    have q4 := sFew_b hp5.1 hp5.2.1
    by_cases h0 : 0 ≤ u
    · by_cases h1 : u ≤ 40
      · have q5 := mul_b h0 (by omega) q4.1 q4.2
        obtain ⟨t, ht⟩ : ∃ t, t = u * sFew (hA (sN S) p) := ⟨_, rfl⟩
        obtain ⟨fo, hf⟩ : ∃ fo, fo = sFo (sN S) b b (hK (sN S) w) (hF (sN S) w) := ⟨_, rfl⟩
        rw [← ht] at q5
        rw [← hf] at q3
        refine q_pl (I (if 0 < fo - t then fo - t else 0)) 0 (by omega) (fun h R => ?_) (fun h R => ?_)
        · have R := rc_h R
          simp (disch := omega) only [F_C_left, c_lacks_t R K hx hy hz, bd_s, zero_I, if_true, I_le, if_pos h0, if_pos h1, c_foldsBy R K hb hw, ck_in, I_nat, Int.toNat_natCast, rn_a R hp]
          rw [c_few (by omega) (by omega), bd_s]
          dsimp only
          rw [I_mul, ← ht, ← hf, I_sub, iw_s]
          simp (disch := omega) only [I_lt, I_ite]
          rfl
        · have R := rm_h R
          have e : (if 0 ≤ fo - t then fo - t else 0) = (if 0 < fo - t then fo - t else 0) := by split <;> split <;> omega
          simp (disch := omega) only [F_M_left, setT_d, hw_d, m_three_t R K hx hy hz, bd_s, zero_I, not_true, if_false, m_num e4 c0 c40, if_pos h0, if_pos h1, kw_s, le00, if_true, m_foldsOf R K hb hw, ck_in, I_nat, Int.toNat_natCast, rm_a R hp]
          rw [m_few (by omega) (by omega), bd_s]
          dsimp only
          rw [I_mul, ← ht, ← hf, I_sub, m_least (by omega) (by omega) (by omega) (by omega), bd_s, e]
          rfl
      · refine q_pl (I (-6)) 6 (by omega) (fun h R => ?_) (fun h R => ?_)
        · have R := rc_h R
          simp (disch := omega) only [F_C_left, c_lacks_t R K hx hy hz, bd_s, zero_I, if_true, I_le, if_pos h0, if_neg h1, c_ref6]
        · have R := rm_h R
          simp (disch := omega) only [F_M_left, setT_d, hw_d, m_three_t R K hx hy hz, bd_s, zero_I, not_true, if_false, m_num e4 c0 c40, if_pos h0, if_neg h1, kw_s, le0m (show (-7:Int) < -6 by omega) (by omega), m_ref6]
    · refine q_pl (I (-4)) 4 (by omega) (fun h R => ?_) (fun h R => ?_)
      · have R := rc_h R
        simp (disch := omega) only [F_C_left, c_lacks_t R K hx hy hz, bd_s, zero_I, if_true, I_le, if_neg h0, c_ref4]
      · have R := rm_h R
        simp (disch := omega) only [F_M_left, setT_d, hw_d, m_three_t R K hx hy hz, bd_s, zero_I, not_true, if_false, m_num e4 c0 c40, if_neg h0, kw_s, le0m (show (-7:Int) < -4 by omega) (by omega), m_ref4]
  · refine q_pl (I (-1)) 1 (by omega) (fun h R => ?_) (fun h R => ?_)
    · simp only [F_C_left, c_lacks_f (rc_h R) K e1 e2 e3 hn, bd_s, zero_I, one_ne, if_false, c_ref1]
    · have em : (I (-1) = I 0) = False := eq_false (by decide)
      simp only [F_M_left, setT_d, hw_d, m_three_f (rm_h R) K e1 e2 e3 hn, bd_s, zero_I, em, not_false_iff, if_true, kw_s, le0m (show (-7:Int) < -1 by omega) (by omega), if_false, m_ref1]
-- 25 tapes
theorem l_tapes {u d : Int} (h0 : 0 ≤ u) (h1 : u ≤ 9999) (hd : d ≤ 432) (hd0 : -432 ≤ d) {h : MH} : ∀ k i n : Nat, i + k = 1000 → 1 ≤ i → k < n → (0 < d → ((i : Int) - 1) * d ≤ u) →
    L_M_tapes_74 (I u) (I d) n (I i) h = some (if 0 < d ∧ u / d + 1 ≤ 999 then .inl (I (u / d + 1), h) else .inr h) := by
  intro k
  induction k with
  | zero =>
    intro i n e hi hn hu
    obtain ⟨m, rfl⟩ := sfuel hn
    obtain rfl : i = 1000 := by omega
    have hc : ¬ (0 < d ∧ u / d + 1 ≤ 999) := by
      rintro ⟨a, b⟩
      have q := hu a
      have : (999 : Int) ≤ u / d := (Int.le_ediv_iff_mul_le a).mpr (by omega)
      omega
    simp (disch := omega) only [L_M_tapes_74, I_lt, if_neg hc]
    rw [if_pos (by omega)]
  | succ k ih =>
    intro i n e hi hn hu
    obtain ⟨m, rfl⟩ := sfuel hn
    have g := ih (i + 1) m (by omega) (by omega) (by omega)
    have hb : -432000 ≤ (i : Int) * d ∧ (i : Int) * d ≤ 432000 := by
      have a1 : (i : Int) * d ≤ (i : Int) * 432 := Int.mul_le_mul_of_nonneg_left hd (by omega)
      have a2 : (i : Int) * (-432) ≤ (i : Int) * d := Int.mul_le_mul_of_nonneg_left hd0 (by omega)
      omega
    simp (disch := omega) only [L_M_tapes_74, I_lt, I_mul, I_le, I_succ]
    rw [if_neg (show ¬ (999 : Int) < (i : Int) by omega)]
    by_cases c : (i : Int) * d ≤ u
    · rw [if_pos c]
      refine g (fun _ => ?_)
      have : (((i + 1 : Nat) : Int) - 1) = i := by omega
      rw [this]
      exact c
    · rw [if_neg c]
      have hd1 : 0 < d := by
        rcases Int.lt_or_le 0 d with q | q
        · exact q
        · have : (i : Int) * d ≤ 0 := Int.mul_nonpos_of_nonneg_of_nonpos (by omega) q
          omega
      have q := hu hd1
      have e1 : u / d = (i : Int) - 1 := by
        have a1 : (i : Int) - 1 ≤ u / d := (Int.le_ediv_iff_mul_le hd1).mpr q
        have a2 : u / d < (i : Int) := (Int.ediv_lt_iff_lt_mul hd1).mpr (by omega)
        omega
      rw [e1, if_pos (show 0 < d ∧ (i : Int) - 1 + 1 ≤ 999 from ⟨hd1, by omega⟩)]
      rw [show (i : Int) - 1 + 1 = i by omega]
theorem q_tapes {S : SS} (J : InvS S) {x y z u : Int} (e1 : i32 x) (e2 : i32 y) (e3 : i32 z) (e4 : i32 u) : Q2 S (F_C_tapes (I x) (I y) (I z) (I u)) (F_M_tapes (I x) (I y) (I z) (I u)) := by
  have K := is_h J
  have c0 : i32 0 := ⟨by omega, by omega⟩
  have c40 : i32 9999 := ⟨by omega, by omega⟩
  obtain ⟨l4, g4⟩ := id e4
  by_cases hn : inB (sN S) x ∧ inW (sN S) y ∧ inP (sN S) z
  · obtain ⟨hx, hy, hz⟩ := id hn
    obtain ⟨b, hb, rfl⟩ := nn hx
    obtain ⟨w, hw, rfl⟩ := nn hy
    obtain ⟨p, hp, rfl⟩ := nn hz
    obtain ⟨j1, j2, j3, j4, j5, j6⟩ := id K
    have hw6 := j6 w
    have hp5 := j5 p
    have q3 := sTw_b K b w p
    have q4 := sT_b K b (k := 5) (f := 0) (by omega) (by omega) hp5.2.2.1 hp5.1 hp5.2.1
    by_cases h0 : 0 ≤ u
    · by_cases h1 : u ≤ 9999
      · obtain ⟨d, hd⟩ : ∃ d, d = sTw (sN S) b w p - sT (sN S) b 5 0 (hA (sN S) p) (hS (sN S) p) := ⟨_, rfl⟩
        refine q_pl (I (if 0 < d ∧ u / d + 1 ≤ 999 then u / d + 1 else -9)) 0 (by omega) (fun h R => ?_) (fun h R => ?_)
        · have R := rc_h R
          have t5 := c_timeOf R K hb (show (0:Int) ≤ 5 by omega) (by omega) (show (0:Int) ≤ 0 by omega) (by omega) hp5.1 hp5.2.1 hp5.2.2.1 hp5.2.2.2
          simp (disch := omega) only [F_C_tapes, c_lacks_t R K hx hy hz, bd_some, zero_I, if_true, I_le, if_pos h0, if_pos h1, ck_in, I_nat, Int.toNat_natCast, rn_a R hp, rn_s R hp, t5, c_timeBy R K hb hw hp, I_sub, I_lt, ← hd]
          by_cases hd1 : 0 < d
          · have b1 : 0 ≤ u / d := Int.ediv_nonneg h0 (by omega)
            have b2 : u / d ≤ u := Int.ediv_le_self d h0
            rw [if_pos hd1, cd_t (by rw [I_eq (by omega) (by omega) (by omega) (by omega)]; omega), I_div h0 (by omega) hd1 (by omega), I_add, iw_d]
            simp (disch := omega) only [I_le, I_ite]
            by_cases hc : u / d + 1 ≤ 999
            · rw [if_pos hc, if_pos ⟨hd1, hc⟩]
              rfl
            · rw [if_neg hc, if_neg (fun q => hc q.2)]
              rfl
          · rw [if_neg hd1, if_neg (fun q => hd1 q.1)]
            rfl
        · have R := rm_h R
          have t5 := m_timeBy R K hb (show (0:Int) ≤ 5 by omega) (by omega) (show (0:Int) ≤ 0 by omega) (by omega) hp5.1 hp5.2.1 hp5.2.2.1 hp5.2.2.2
          have g := l_tapes (d := d) h0 h1 (by omega) (by omega) (h := setT h) 999 1 5000 (by omega) (by omega) (by omega) (fun _ => by omega)
          have g' : L_M_tapes_74 (I u) (I d) 5000 (I 1) (setT h) = _ := g
          simp (disch := omega) only [F_M_tapes, setT_d, hw_d, m_three_t R K hx hy hz, bd_some, zero_I, not_true, if_false, m_num e4 c0 c40, if_pos h0, if_pos h1, kw_d, le00, if_true, m_timeOf R K hb hw hp, ck_in, I_nat, Int.toNat_natCast, rm_a R hp, rm_s R hp, t5, I_sub, ← hd, g']
          by_cases hc : 0 < d ∧ u / d + 1 ≤ 999
          · rw [if_pos hc, if_pos hc]
            rfl
          · rw [if_neg hc, if_neg hc]
            rfl
      · refine q_pl (I (-6)) 6 (by omega) (fun h R => ?_) (fun h R => ?_)
        · have R := rc_h R
          simp (disch := omega) only [F_C_tapes, c_lacks_t R K hx hy hz, bd_some, zero_I, if_true, I_le, if_pos h0, if_neg h1, c_ref6]
        · have R := rm_h R
          simp (disch := omega) only [F_M_tapes, setT_d, hw_d, m_three_t R K hx hy hz, bd_some, zero_I, not_true, if_false, m_num e4 c0 c40, if_pos h0, if_neg h1, kw_d, le0m (show (-7:Int) < -6 by omega) (by omega), m_ref6]
    · refine q_pl (I (-4)) 4 (by omega) (fun h R => ?_) (fun h R => ?_)
      · have R := rc_h R
        simp (disch := omega) only [F_C_tapes, c_lacks_t R K hx hy hz, bd_some, zero_I, if_true, I_le, if_neg h0, c_ref4]
      · have R := rm_h R
        simp (disch := omega) only [F_M_tapes, setT_d, hw_d, m_three_t R K hx hy hz, bd_some, zero_I, not_true, if_false, m_num e4 c0 c40, if_neg h0, kw_d, le0m (show (-7:Int) < -4 by omega) (by omega), m_ref4]
  · refine q_pl (I (-1)) 1 (by omega) (fun h R => ?_) (fun h R => ?_)
    · simp only [F_C_tapes, c_lacks_f (rc_h R) K e1 e2 e3 hn, bd_some, zero_I, one_ne, if_false, c_ref1]
    · have em : (I (-1) = I 0) = False := eq_false (by decide)
      simp only [F_M_tapes, setT_d, hw_d, m_three_f (rm_h R) K e1 e2 e3 hn, bd_some, zero_I, em, not_false_iff, if_true, kw_d, le0m (show (-7:Int) < -1 by omega) (by omega), if_false, m_ref1]
