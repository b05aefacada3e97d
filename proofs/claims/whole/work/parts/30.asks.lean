-- 16 anew
theorem ceil_sub {fo w u : Int} (h3 : 1 ≤ w) (h4 : w ≤ 7) : sShake (fo - u * w) w = sShake fo w - u := by
  unfold sShake
  rcases (show w = 1 ∨ w = 2 ∨ w = 3 ∨ w = 4 ∨ w = 5 ∨ w = 6 ∨ w = 7 by omega) with rfl | rfl | rfl | rfl | rfl | rfl | rfl <;> omega
theorem ceil_le {fo w u : Int} (h3 : 1 ≤ w) (h4 : w ≤ 7) (h : fo - u * w ≤ 0) : sShake fo w ≤ u := by
  unfold sShake
  rcases (show w = 1 ∨ w = 2 ∨ w = 3 ∨ w = 4 ∨ w = 5 ∨ w = 6 ∨ w = 7 by omega) with rfl | rfl | rfl | rfl | rfl | rfl | rfl <;> omega
section AN
variable {a : HS} {h : MH}
theorem m_isAnew (R : RepM a h.1) (J : InvH a) {b w w' p : Nat} {u : Int} (hb : b < nB a) (hw : w < nW a) (hw' : w' < nW a) (hp : p < nP a) (h0 : 0 ≤ u) (h1 : u ≤ 200) :
    F_M_isAnew (I b) (I p) (I w) (I w') (I u) h = some (I (if 3 * (sShake (sFo a b b (hK a w) (hF a w)) (sFew (hA a p)) - u) ≤ sTw a b w' p then 0 else 1), h) := by
  obtain ⟨j1, j2, j3, j4, j5, j6⟩ := id J
  have hw6 := j6 w
  have hp5 := j5 p
  have q3 := sFo_b J b b (k := hK a w) hw6.2.2.1 hw6.2.2.2
  have q4 := sFew_b hp5.1 hp5.2.1
  have q5 := mul_b h0 h1 q4.1 q4.2
  have q6 := sTw_b J b w' p
  have q7 := sShake_b q3.1 q3.2 q4.1 (by omega)
  have c1 := ceil_sub (fo := sFo a b b (hK a w) (hF a w)) (u := u) q4.1 q4.2
  obtain ⟨fo, hf⟩ : ∃ fo, fo = sFo a b b (hK a w) (hF a w) := ⟨_, rfl⟩
  obtain ⟨k, hk⟩ : ∃ k, k = sFew (hA a p) := ⟨_, rfl⟩
  obtain ⟨t, ht⟩ : ∃ t, t = u * k := ⟨_, rfl⟩
  have c2 : fo - t ≤ 0 → sShake fo k ≤ u := by
    intro q
    rw [hk]
    exact ceil_le q4.1 q4.2 (by rw [← hk, ← ht]; exact q)
  rw [← hf, ← hk, ← ht] at c1
  rw [← hk] at q4 q5
  rw [← ht] at q5
  rw [← hf] at q3
  rw [← hf, ← hk] at q7 ⊢
  simp (disch := omega) only [F_M_isAnew, ck_in, I_nat, Int.toNat_natCast, rm_a R hp, m_few, ← hk, bd_s, m_foldsOf R J hb hw, ← hf, I_mul, ← ht, I_sub, zero_I, I_le, m_timeOf R J hb hw' hp]
  by_cases c : fo - t ≤ 0
  · have := c2 c
    rw [if_pos c, if_pos (by omega)]
  · rw [if_neg c]
    rw [m_shakes (by omega) (by omega) q4.1 (by omega), bd_s, c1]
    dsimp only
    rw [iw_s]
    simp (disch := omega) only [I_mul, I_le, I_ite]
    exact cd_t (of_eq_true (bit_I _))
/-- the first number i, i+1, .. (d of them) after which anew is not faster -/
def anF (s t : Int) : Nat → Nat → Nat
  | 0, i => i
  | d + 1, i => if 3 * (s - i) ≤ t then i else anF s t d (i + 1)
theorem l_anC {s t : Int} (h0 : 0 ≤ s) (h1 : s ≤ 114) (h2 : 0 ≤ t) (h3 : t ≤ 432) : ∀ d i n : Nat, i + d = 115 → d < n → L_C_anew_119 (I s) (I t) n (I i) h = some (I (anF s t d i), h) := by
  intro d
  induction d with
  | zero =>
    intro i n e hn
    obtain ⟨m, rfl⟩ := sfuel hn
    obtain rfl : i = 115 := by omega
    simp (disch := omega) only [L_C_anew_119, I_le]
    rw [if_pos (by omega)]
    rfl
  | succ d ih =>
    intro i n e hn
    obtain ⟨m, rfl⟩ := sfuel hn
    have g := ih (i + 1) m (by omega) (by omega)
    simp (disch := omega) only [L_C_anew_119, I_le, I_sub, I_mul, I_succ]
    show _ = some (I ((if 3 * (s - i) ≤ t then i else anF s t d (i + 1) : Nat) : Int), h)
    by_cases c : 3 * (s - i) ≤ t
    · rw [if_pos c, if_pos c]
      split <;> rfl
    · rw [if_neg c, if_neg c, if_neg (by omega)]
      exact g
theorem l_anM (R : RepM a h.1) (J : InvH a) {b w w' p : Nat} (hb : b < nB a) (hw : w < nW a) (hw' : w' < nW a) (hp : p < nP a) : ∀ d i n : Nat, i + d = 115 → d < n →
    L_M_anew_99 (I b) (I p) (I w) (I w') n (I i) h = some (I (anF (sShake (sFo a b b (hK a w) (hF a w)) (sFew (hA a p))) (sTw a b w' p) d i), h) := by
  obtain ⟨j1, j2, j3, j4, j5, j6⟩ := id J
  have hw6 := j6 w
  have hp5 := j5 p
  have q3 := sFo_b J b b (k := hK a w) hw6.2.2.1 hw6.2.2.2
  have q4 := sFew_b hp5.1 hp5.2.1
  have q6 := sTw_b J b w' p
  have q7 := sShake_b q3.1 q3.2 q4.1 (by omega)
  intro d
  induction d with
  | zero =>
    intro i n e hn
    obtain ⟨m, rfl⟩ := sfuel hn
    obtain rfl : i = 115 := by omega
    have g := m_isAnew R J hb hw hw' hp (u := 115) (by omega) (by omega)
    rw [if_pos (by omega)] at g
    have g' : F_M_isAnew (I (b : Int)) (I (p : Int)) (I (w : Int)) (I (w' : Int)) (I ((115 : Nat) : Int)) h = _ := g
    simp only [L_M_anew_99, g', bd_s, zero_I, if_true]
    rfl
  | succ d ih =>
    intro i n e hn
    obtain ⟨m, rfl⟩ := sfuel hn
    have g := ih (i + 1) m (by omega) (by omega)
    have g2 := m_isAnew R J hb hw hw' hp (u := i) (by omega) (by omega)
    simp only [L_M_anew_99, g2, bd_s, zero_I, I_succ]
    show _ = some (I ((if 3 * (sShake (sFo a b b (hK a w) (hF a w)) (sFew (hA a p)) - i) ≤ sTw a b w' p then i else anF (sShake (sFo a b b (hK a w) (hF a w)) (sFew (hA a p))) (sTw a b w' p) d (i + 1) : Nat) : Int), h)
    by_cases c : 3 * (sShake (sFo a b b (hK a w) (hF a w)) (sFew (hA a p)) - i) ≤ sTw a b w' p
    · simp only [if_pos c, if_true]
    · simp only [if_neg c, one_ne, if_false]
      exact g
end AN
theorem q_anew {S : SS} (J : InvS S) {x y z u v s : Int} (e1 : i32 x) (e2 : i32 y) (e3 : i32 z) (e4 : i32 u) (e5 : i32 v) (e6 : i32 s) : Q2 S (F_C_anew (I x) (I y) (I z) (I u) (I v) (I s)) (F_M_anew (I x) (I y) (I z) (I u) (I v) (I s)) := by
  have K := is_h J
  have c0 : i32 0 := ⟨by omega, by omega⟩
  have c40 : i32 40 := ⟨by omega, by omega⟩
  obtain ⟨l5, g5⟩ := id e5
  by_cases hn : inB (sN S) x ∧ inW (sN S) z ∧ inP (sN S) y
  · by_cases hn2 : inW (sN S) u ∧ ¬ u = z
    · obtain ⟨hx, hz, hy⟩ := id hn
      obtain ⟨hu, hne⟩ := id hn2
      have h2 : ¬ z = u := fun q => hne q.symm
      have ne := ne_I e4 e3 hne
      obtain ⟨b, hb, rfl⟩ := nn hx
      obtain ⟨w, hw, rfl⟩ := nn hz
      obtain ⟨p, hp, rfl⟩ := nn hy
      obtain ⟨w', hw', rfl⟩ := nn hu
      obtain ⟨j1, j2, j3, j4, j5, j6⟩ := id K
      have hw6 := j6 w
      have hp5 := j5 p
      have q3 := sFo_b K b b (k := hK (sN S) w) hw6.2.2.1 hw6.2.2.2
      have q4 := sFew_b hp5.1 hp5.2.1
      have q6 := sTw_b K b w' p
      have q7 := sShake_b q3.1 q3.2 q4.1 (by omega)
      by_cases h0 : 0 ≤ v
      · by_cases h1 : v ≤ 40
        · by_cases hv : 0 ≤ s ∧ s ≤ 1
          · rcases (show s = 0 ∨ s = 1 by omega) with rfl | rfl
            · refine q_pl (I (if 3 * (sShake (sFo (sN S) b b (hK (sN S) w) (hF (sN S) w)) (sFew (hA (sN S) p)) - v) ≤ sTw (sN S) b w' p then 0 else 1)) 0 (by omega) (fun h R => ?_) (fun h R => ?_)
              · have R := rc_h R
                simp (disch := omega) only [F_C_anew, c_lacks_t R K hx hz hy, bd_s, zero_I, not_true, if_false, c_twoW_t R K hz hu h2, if_true, I_le, if_pos h0, if_pos h1, c_other_t hv.1 hv.2 (by omega), c_shakes R K hb hw hp, c_timeBy R K hb hw' hp, I_sub, I_mul, I_ite, iw_s]
                rfl
              · have R := rm_h R
                have g := m_isAnew R K hb hw hw' hp h0 (show v ≤ 200 by omega)
                simp (disch := omega) only [F_M_anew, setT_d, hw_s, m_isWay_t R K hu.1 hu.2, kw_s, bd_s, zero_I, one_ne, ne, if_false, m_three_t R K hx hz hy, not_true, m_num e5 c0 c40, if_pos h0, if_pos h1, m_bit_t hv.1 hv.2 (by omega), le00, if_true, g]
                by_cases c : 3 * (sShake (sFo (sN S) b b (hK (sN S) w) (hF (sN S) w)) (sFew (hA (sN S) p)) - v) ≤ sTw (sN S) b w' p
                · simp only [if_pos c, if_true, iw_s]
                  rfl
                · simp only [if_neg c, one_ne, if_false, iw_s]
                  rfl
            · refine q_pl (I (anF (sShake (sFo (sN S) b b (hK (sN S) w) (hF (sN S) w)) (sFew (hA (sN S) p))) (sTw (sN S) b w' p) 115 0)) 0 (by omega) (fun h R => ?_) (fun h R => ?_)
              · have R := rc_h R
                have g : L_C_anew_119 _ _ 5000 (I 0) h = _ := l_anC (h := h) q7.1 q7.2 q6.1 q6.2 115 0 5000 (by omega) (by omega)
                simp (disch := omega) only [F_C_anew, c_lacks_t R K hx hz hy, bd_s, zero_I, not_true, if_false, c_twoW_t R K hz hu h2, if_true, I_le, if_pos h0, if_pos h1, c_other_t hv.1 hv.2 (by omega), c_shakes R K hb hw hp, c_timeBy R K hb hw' hp, one_ne, not_false_iff, g]
                rfl
              · have R := rm_h R
                have g : L_M_anew_99 (I b) (I p) (I w) (I w') 5000 (I 0) (setT h) = _ := l_anM R K hb hw hw' hp 115 0 5000 (by omega) (by omega)
                simp (disch := omega) only [F_M_anew, setT_d, hw_s, m_isWay_t R K hu.1 hu.2, kw_s, bd_s, zero_I, one_ne, ne, not_false_iff, if_false, m_three_t R K hx hz hy, not_true, m_num e5 c0 c40, if_pos h0, if_pos h1, m_bit_t hv.1 hv.2 (by omega), le00, if_true, g]
                rfl
          · refine q_pl (I (-2)) 2 (by omega) (fun h R => ?_) (fun h R => ?_)
            · have R := rc_h R
              simp (disch := omega) only [F_C_anew, c_lacks_t R K hx hz hy, bd_s, zero_I, not_true, if_false, c_twoW_t R K hz hu h2, if_true, I_le, if_pos h0, if_pos h1, c_other_f e6.1 e6.2 (show (0:Int) ≤ 1 by omega) (by omega) hv, one_ne, c_ref2]
            · have R := rm_h R
              simp (disch := omega) only [F_M_anew, setT_d, hw_s, m_isWay_t R K hu.1 hu.2, kw_s, bd_s, zero_I, one_ne, ne, if_false, m_three_t R K hx hz hy, not_true, m_num e5 c0 c40, if_pos h0, if_pos h1, m_bit_f e6 (show (0:Int) ≤ 1 by omega) (by omega) hv, lm2, m_ref2]
        · refine q_pl (I (-6)) 6 (by omega) (fun h R => ?_) (fun h R => ?_)
          · have R := rc_h R
            simp (disch := omega) only [F_C_anew, c_lacks_t R K hx hz hy, bd_s, zero_I, not_true, if_false, c_twoW_t R K hz hu h2, if_true, I_le, if_pos h0, if_neg h1, c_ref6]
          · have R := rm_h R
            simp (disch := omega) only [F_M_anew, setT_d, hw_s, m_isWay_t R K hu.1 hu.2, kw_s, bd_s, zero_I, one_ne, ne, if_false, m_three_t R K hx hz hy, not_true, m_num e5 c0 c40, if_pos h0, if_neg h1, m_bit_n (show (-7:Int) < -6 by omega) (by omega), lm6, m_ref6]
      · refine q_pl (I (-4)) 4 (by omega) (fun h R => ?_) (fun h R => ?_)
        · have R := rc_h R
          simp (disch := omega) only [F_C_anew, c_lacks_t R K hx hz hy, bd_s, zero_I, not_true, if_false, c_twoW_t R K hz hu h2, if_true, I_le, if_neg h0, c_ref4]
        · have R := rm_h R
          simp (disch := omega) only [F_M_anew, setT_d, hw_s, m_isWay_t R K hu.1 hu.2, kw_s, bd_s, zero_I, one_ne, ne, if_false, m_three_t R K hx hz hy, not_true, m_num e5 c0 c40, if_neg h0, m_bit_n (show (-7:Int) < -4 by omega) (by omega), lm4, m_ref4]
    · refine q_pl (I (-1)) 1 (by omega) (fun h R => ?_) (fun h R => ?_)
      · have R := rc_h R
        have h2 : ¬ (inW (sN S) z ∧ inW (sN S) u ∧ ¬ z = u) := fun t => hn2 ⟨t.2.1, fun q => t.2.2 q.symm⟩
        simp only [F_C_anew, c_lacks_t R K hn.1 hn.2.1 hn.2.2, bd_s, zero_I, not_true, if_false, c_twoW_f R K e3 e4 h2, one_ne, c_ref1]
      · have R := rm_h R
        by_cases hu : inW (sN S) u
        · have huz : u = z := Classical.byContradiction fun q => hn2 ⟨hu, q⟩
          subst huz
          simp only [F_M_anew, setT_d, hw_s, m_isWay_t R K hu.1 hu.2, kw_s, bd_s, zero_I, one_ne, if_false, if_true, emm1, not_false_iff, m_bit_n (show (-7:Int) < -1 by omega) (by omega), lm1, m_ref1]
        · simp only [F_M_anew, setT_d, hw_s, m_isWay_f R K e4.1 e4.2 hu, kw_s, bd_s, zero_I, if_true, emm1, not_false_iff, m_bit_n (show (-7:Int) < -1 by omega) (by omega), lm1, if_false, m_ref1]
  · refine q_pl (I (-1)) 1 (by omega) (fun h R => ?_) (fun h R => ?_)
    · simp only [F_C_anew, c_lacks_f (rc_h R) K e1 e3 e2 hn, bd_s, zero_I, one_ne, not_false_iff, if_true, c_ref1]
    · have R := rm_h R
      by_cases hu : inW (sN S) u
      · by_cases huz : u = z
        · subst huz
          simp only [F_M_anew, setT_d, hw_s, m_isWay_t R K hu.1 hu.2, kw_s, bd_s, zero_I, one_ne, if_false, if_true, emm1, not_false_iff, m_bit_n (show (-7:Int) < -1 by omega) (by omega), lm1, m_ref1]
        · simp only [F_M_anew, setT_d, hw_s, m_isWay_t R K hu.1 hu.2, kw_s, bd_s, zero_I, one_ne, ne_I e4 e3 huz, m_three_f R K e1 e3 e2 hn, if_false, if_true, emm1, not_false_iff, m_bit_n (show (-7:Int) < -1 by omega) (by omega), lm1, m_ref1]
      · simp only [F_M_anew, setT_d, hw_s, m_isWay_f R K e4.1 e4.2 hu, kw_s, bd_s, zero_I, if_true, emm1, not_false_iff, m_bit_n (show (-7:Int) < -1 by omega) (by omega), lm1, if_false, m_ref1]
