-- 34 needs
theorem emm1 : (I (-1) = I 0) = False := eq_false (by decide)
theorem emm2 : (I (-2) = I 0) = False := eq_false (by decide)
theorem emm4 : (I (-4) = I 0) = False := eq_false (by decide)
theorem emm6 : (I (-6) = I 0) = False := eq_false (by decide)
theorem lm1 : (I 0 ≤ I (-1)) = False := eq_false (by decide)
theorem lm2 : (I 0 ≤ I (-2)) = False := eq_false (by decide)
theorem lm3 : (I 0 ≤ I (-3)) = False := eq_false (by decide)
theorem lm4 : (I 0 ≤ I (-4)) = False := eq_false (by decide)
theorem lm6 : (I 0 ≤ I (-6)) = False := eq_false (by decide)
/-- the first index i, i+1, .. (d of them) whose number is at most t -/
def fLe (g : Nat → Int) (t : Int) : Nat → Nat → Option Nat
  | 0, _ => none
  | d + 1, i => if t < g i then fLe g t d (i + 1) else some i
def resI (h : MH) (o : Option Nat) : Option ((Int32 × MH) ⊕ MH) := match o with
  | some i => some (.inl (I i, h))
  | none => some (.inr h)
section NEED
variable {a : HS} {h : MH}
theorem l_skillFor (R : RepH 8 a h.1) (J : InvH a) {b w p : Nat} {t : Int} (hb : b < nB a) (hw : w < nW a) (hp : p < nP a) (h0 : 0 ≤ t) (h1 : t ≤ 999) : ∀ d i n : Nat, i + d = 10 → d < n →
    L_C_skillFor_3 (I b) (I w) (I p) (I t) n (I i) h = resI h (fLe (fun s => sT a b (hK a w) (hF a w) (hA a p) s) t d i) := by
  obtain ⟨j1, j2, j3, j4, j5, j6⟩ := id J
  have hw6 := j6 w
  have hp5 := j5 p
  intro d
  induction d with
  | zero =>
    intro i n e hn
    obtain ⟨m, rfl⟩ := sfuel hn
    obtain rfl : i = 10 := by omega
    simp (disch := omega) only [L_C_skillFor_3, I_lt]
    rw [if_pos (by omega)]
    rfl
  | succ d ih =>
    intro i n e hn
    obtain ⟨m, rfl⟩ := sfuel hn
    have g := ih (i + 1) m (by omega) (by omega)
    have q := sT_b J b (k := hK a w) hw6.2.2.1 hw6.2.2.2 (show 0 ≤ (i : Int) by omega) hp5.1 hp5.2.1
    have tw := c_timeWith R J hb hw hp5.1 hp5.2.1 (show 0 ≤ (i : Int) by omega) (show (i : Int) ≤ 9 by omega)
    simp (disch := omega) only [L_C_skillFor_3, I_lt, if_neg (show ¬ (9 : Int) < (i : Int) by omega), ck_in, I_nat, Int.toNat_natCast, rn_a R hp, tw, bd_s, I_succ]
    show _ = resI h (if t < sT a b (hK a w) (hF a w) (hA a p) i then _ else _)
    by_cases c : t < sT a b (hK a w) (hF a w) (hA a p) i
    · rw [if_pos c, if_pos c]
      exact g
    · rw [if_neg c, if_neg c]
      rfl
theorem l_armsFor (R : RepH 8 a h.1) (J : InvH a) {b w p : Nat} {t : Int} (hb : b < nB a) (hw : w < nW a) (hp : p < nP a) (h0 : 0 ≤ t) (h1 : t ≤ 999) : ∀ d i n : Nat, i + d = 13 → 1 ≤ i → d < n →
    L_C_armsFor_3 (I b) (I w) (I p) (I t) n (I i) h = resI h (fLe (fun r => sT a b (hK a w) (hF a w) r (hS a p)) t d i) := by
  obtain ⟨j1, j2, j3, j4, j5, j6⟩ := id J
  have hw6 := j6 w
  have hp5 := j5 p
  intro d
  induction d with
  | zero =>
    intro i n e hi hn
    obtain ⟨m, rfl⟩ := sfuel hn
    obtain rfl : i = 13 := by omega
    simp (disch := omega) only [L_C_armsFor_3, I_lt]
    rw [if_pos (by omega)]
    rfl
  | succ d ih =>
    intro i n e hi hn
    obtain ⟨m, rfl⟩ := sfuel hn
    have g := ih (i + 1) m (by omega) (by omega) (by omega)
    have q := sT_b J b (k := hK a w) hw6.2.2.1 hw6.2.2.2 hp5.2.2.1 (show 1 ≤ (i : Int) by omega) (show (i : Int) ≤ 12 by omega)
    have tw := c_timeWith R J hb hw (show 1 ≤ (i : Int) by omega) (show (i : Int) ≤ 12 by omega) hp5.2.2.1 hp5.2.2.2
    simp (disch := omega) only [L_C_armsFor_3, I_lt, if_neg (show ¬ (12 : Int) < (i : Int) by omega), ck_in, I_nat, Int.toNat_natCast, rn_s R hp, tw, bd_s, I_succ]
    show _ = resI h (if t < sT a b (hK a w) (hF a w) i (hS a p) then _ else _)
    by_cases c : t < sT a b (hK a w) (hF a w) i (hS a p)
    · rw [if_pos c, if_pos c]
      exact g
    · rw [if_neg c, if_neg c]
      rfl
theorem l_needsS (R : RepM a h.1) (J : InvH a) {b w p : Nat} {t : Int} (hb : b < nB a) (hw : w < nW a) (hp : p < nP a) (h0 : 0 ≤ t) (h1 : t ≤ 999) : ∀ d i n : Nat, i + d = 10 → d < n →
    L_M_needs_60 (I b) (I w) (I p) (I t) (I 1) n (I i) h = resI h (fLe (fun s => sT a b (hK a w) (hF a w) (hA a p) s) t d i) := by
  obtain ⟨j1, j2, j3, j4, j5, j6⟩ := id J
  have hw6 := j6 w
  have hp5 := j5 p
  intro d
  induction d with
  | zero =>
    intro i n e hn
    obtain ⟨m, rfl⟩ := sfuel hn
    obtain rfl : i = 10 := by omega
    simp (disch := omega) only [L_M_needs_60, zero_I, one_ne, not_false_iff, if_true, iw_s, I_lt]
    rw [if_pos (by omega)]
    rfl
  | succ d ih =>
    intro i n e hn
    obtain ⟨m, rfl⟩ := sfuel hn
    have g := ih (i + 1) m (by omega) (by omega)
    have q := sT_b J b (k := hK a w) hw6.2.2.1 hw6.2.2.2 (show 0 ≤ (i : Int) by omega) hp5.1 hp5.2.1
    have tw := m_timeBy R J hb hw6.1 hw6.2.1 hw6.2.2.1 hw6.2.2.2 hp5.1 hp5.2.1 (show 0 ≤ (i : Int) by omega) (show (i : Int) ≤ 9 by omega)
    simp (disch := omega) only [L_M_needs_60, zero_I, one_ne, not_false_iff, not_true, if_true, if_false, iw_s, kw_s, I_lt, if_neg (show ¬ (9 : Int) < (i : Int) by omega), ck_in, I_nat, Int.toNat_natCast, rm_a R hp, rm_k R hw, rm_f R hw, tw, bd_s, I_succ]
    show _ = resI h (if t < sT a b (hK a w) (hF a w) (hA a p) i then _ else _)
    by_cases c : t < sT a b (hK a w) (hF a w) (hA a p) i
    · rw [if_pos c, if_pos c]
      exact g
    · rw [if_neg c, if_neg c]
      rfl
theorem zero_ne_one : (I 0 = I 1) = False := eq_false (by decide)
theorem l_needsA (R : RepM a h.1) (J : InvH a) {b w p : Nat} {t : Int} (hb : b < nB a) (hw : w < nW a) (hp : p < nP a) (h0 : 0 ≤ t) (h1 : t ≤ 999) : ∀ d i n : Nat, i + d = 13 → 1 ≤ i → d < n →
    L_M_needs_60 (I b) (I w) (I p) (I t) (I 0) n (I i) h = resI h (fLe (fun r => sT a b (hK a w) (hF a w) r (hS a p)) t d i) := by
  obtain ⟨j1, j2, j3, j4, j5, j6⟩ := id J
  have hw6 := j6 w
  have hp5 := j5 p
  intro d
  induction d with
  | zero =>
    intro i n e hi hn
    obtain ⟨m, rfl⟩ := sfuel hn
    obtain rfl : i = 13 := by omega
    simp (disch := omega) only [L_M_needs_60, zero_I, not_true, if_false, iw_s, I_lt]
    rw [if_pos (by omega)]
    rfl
  | succ d ih =>
    intro i n e hi hn
    obtain ⟨m, rfl⟩ := sfuel hn
    have g := ih (i + 1) m (by omega) (by omega) (by omega)
    have q := sT_b J b (k := hK a w) hw6.2.2.1 hw6.2.2.2 hp5.2.2.1 (show 1 ≤ (i : Int) by omega) (show (i : Int) ≤ 12 by omega)
    have tw := m_timeBy R J hb hw6.1 hw6.2.1 hw6.2.2.1 hw6.2.2.2 (show 1 ≤ (i : Int) by omega) (show (i : Int) ≤ 12 by omega) hp5.2.2.1 hp5.2.2.2
    simp (disch := omega) only [L_M_needs_60, zero_I, zero_ne_one, not_false_iff, not_true, if_true, if_false, iw_s, kw_s, I_lt, if_neg (show ¬ (12 : Int) < (i : Int) by omega), ck_in, I_nat, Int.toNat_natCast, rm_s R hp, rm_k R hw, rm_f R hw, tw, bd_s, I_succ]
    show _ = resI h (if t < sT a b (hK a w) (hF a w) i (hS a p) then _ else _)
    by_cases c : t < sT a b (hK a w) (hF a w) i (hS a p)
    · rw [if_pos c, if_pos c]
      exact g
    · rw [if_neg c, if_neg c]
      rfl
theorem be_res {α : Type} (o : Option Nat) (g : Int32 × MH → Option α) (f : MH → Option α) : be (resI h o) g f = (match o with | some i => g (I i, h) | none => f h) := by
  cases o <;> rfl
end NEED
def o9 (o : Option Nat) : Int := match o with | some i => (i : Int) | none => -9
theorem q_needs {S : SS} (J : InvS S) {x y z u v : Int} (e1 : i32 x) (e2 : i32 y) (e3 : i32 z) (e4 : i32 u) (e5 : i32 v) : Q2 S (F_C_needs (I x) (I y) (I z) (I u) (I v)) (F_M_needs (I x) (I y) (I z) (I u) (I v)) := by
  have K := is_h J
  have c0 : i32 0 := ⟨by omega, by omega⟩
  have c40 : i32 999 := ⟨by omega, by omega⟩
  obtain ⟨l4, g4⟩ := id e4
  by_cases hn : inB (sN S) x ∧ inW (sN S) y ∧ inP (sN S) z
  · obtain ⟨hx, hy, hz⟩ := id hn
    obtain ⟨b, hb, rfl⟩ := nn hx
    obtain ⟨w, hw, rfl⟩ := nn hy
    obtain ⟨p, hp, rfl⟩ := nn hz
    by_cases h0 : 0 ≤ u
    · by_cases h1 : u ≤ 999
      · by_cases hv : 0 ≤ v ∧ v ≤ 1
        · rcases (show v = 0 ∨ v = 1 by omega) with rfl | rfl
          · refine q_pl (I (o9 (fLe (fun r => sT (sN S) b (hK (sN S) w) (hF (sN S) w) r (hS (sN S) p)) u 12 1))) 0 (by omega) (fun h R => ?_) (fun h R => ?_)
            · have R := rc_h R
              have g : L_C_armsFor_3 (I b) (I w) (I p) (I u) 5000 (I 1) h = _ := l_armsFor R K hb hw hp h0 h1 12 1 5000 (by omega) (by omega) (by omega)
              simp (disch := omega) only [F_C_needs, c_lacks_t R K hx hy hz, bd_s, zero_I, if_true, I_le, if_pos h0, if_pos h1, c_other_t hv.1 hv.2 (by omega), not_true, if_false, F_C_armsFor, g, be_res]
              cases fLe (fun r => sT (sN S) b (hK (sN S) w) (hF (sN S) w) r (hS (sN S) p)) u 12 1 <;> rfl
            · have R := rm_h R
              have g : L_M_needs_60 (I b) (I w) (I p) (I u) (I 0) 5000 (I 1) (setT h) = _ := l_needsA R K hb hw hp h0 h1 12 1 5000 (by omega) (by omega) (by omega)
              simp (disch := omega) only [F_M_needs, setT_d, hw_s, m_three_t R K hx hy hz, bd_s, zero_I, not_true, if_false, m_num e4 c0 c40, if_pos h0, if_pos h1, kw_s, m_bit_t hv.1 hv.2 (by omega), le00, if_true, iw_s, g, be_res]
              cases fLe (fun r => sT (sN S) b (hK (sN S) w) (hF (sN S) w) r (hS (sN S) p)) u 12 1 <;> rfl
          · refine q_pl (I (o9 (fLe (fun s => sT (sN S) b (hK (sN S) w) (hF (sN S) w) (hA (sN S) p) s) u 10 0))) 0 (by omega) (fun h R => ?_) (fun h R => ?_)
            · have R := rc_h R
              have g : L_C_skillFor_3 (I b) (I w) (I p) (I u) 5000 (I 0) h = _ := l_skillFor R K hb hw hp h0 h1 10 0 5000 (by omega) (by omega)
              simp (disch := omega) only [F_C_needs, c_lacks_t R K hx hy hz, bd_s, zero_I, if_true, I_le, if_pos h0, if_pos h1, c_other_t hv.1 hv.2 (by omega), one_ne, not_false_iff, F_C_skillFor, g, be_res]
              cases fLe (fun s => sT (sN S) b (hK (sN S) w) (hF (sN S) w) (hA (sN S) p) s) u 10 0 <;> rfl
            · have R := rm_h R
              have g : L_M_needs_60 (I b) (I w) (I p) (I u) (I 1) 5000 (I 0) (setT h) = _ := l_needsS R K hb hw hp h0 h1 10 0 5000 (by omega) (by omega)
              simp (disch := omega) only [F_M_needs, setT_d, hw_s, m_three_t R K hx hy hz, bd_s, zero_I, not_true, not_false_iff, one_ne, if_false, m_num e4 c0 c40, if_pos h0, if_pos h1, kw_s, m_bit_t hv.1 hv.2 (by omega), le00, if_true, iw_s, g, be_res]
              cases fLe (fun s => sT (sN S) b (hK (sN S) w) (hF (sN S) w) (hA (sN S) p) s) u 10 0 <;> rfl
        · refine q_pl (I (-2)) 2 (by omega) (fun h R => ?_) (fun h R => ?_)
          · have R := rc_h R
            simp (disch := omega) only [F_C_needs, c_lacks_t R K hx hy hz, bd_s, zero_I, if_true, I_le, if_pos h0, if_pos h1, c_other_f e5.1 e5.2 (show (0:Int) ≤ 1 by omega) (by omega) hv, one_ne, if_false, c_ref2]
          · have R := rm_h R
            simp (disch := omega) only [F_M_needs, setT_d, hw_s, m_three_t R K hx hy hz, bd_s, zero_I, not_true, if_false, m_num e4 c0 c40, if_pos h0, if_pos h1, kw_s, m_bit_f e5 (show (0:Int) ≤ 1 by omega) (by omega) hv, lm2, m_ref2]
      · refine q_pl (I (-6)) 6 (by omega) (fun h R => ?_) (fun h R => ?_)
        · have R := rc_h R
          simp (disch := omega) only [F_C_needs, c_lacks_t R K hx hy hz, bd_s, zero_I, if_true, I_le, if_pos h0, if_neg h1, c_ref6]
        · have R := rm_h R
          simp (disch := omega) only [F_M_needs, setT_d, hw_s, m_three_t R K hx hy hz, bd_s, zero_I, not_true, if_false, m_num e4 c0 c40, if_pos h0, if_neg h1, kw_s, m_bit_n (show (-7:Int) < -6 by omega) (by omega), lm6, m_ref6]
    · refine q_pl (I (-4)) 4 (by omega) (fun h R => ?_) (fun h R => ?_)
      · have R := rc_h R
        simp (disch := omega) only [F_C_needs, c_lacks_t R K hx hy hz, bd_s, zero_I, if_true, I_le, if_neg h0, c_ref4]
      · have R := rm_h R
        simp (disch := omega) only [F_M_needs, setT_d, hw_s, m_three_t R K hx hy hz, bd_s, zero_I, not_true, if_false, m_num e4 c0 c40, if_neg h0, kw_s, m_bit_n (show (-7:Int) < -4 by omega) (by omega), lm4, m_ref4]
  · refine q_pl (I (-1)) 1 (by omega) (fun h R => ?_) (fun h R => ?_)
    · simp only [F_C_needs, c_lacks_f (rc_h R) K e1 e2 e3 hn, bd_s, zero_I, one_ne, if_false, c_ref1]
    · simp only [F_M_needs, setT_d, hw_s, m_three_f (rm_h R) K e1 e2 e3 hn, bd_s, zero_I, emm1, not_false_iff, if_true, kw_s, m_bit_n (show (-7:Int) < -1 by omega) (by omega), lm1, if_false, m_ref1]
