-- 45 reach
def bitF (v : Nat) : Int32 := if v < 4 then I 1 <<< (I (v : Int) &&& 31) else I 0
def orF (a b c d : Nat) : Int32 := (((I 0 ||| bitF a) ||| bitF b) ||| bitF c) ||| bitF d
theorem orF_dec : ∀ a b c d : Fin 5, orF a b c d = I 15 → (a : Nat) < 4 ∧ (b : Nat) < 4 ∧ (c : Nat) < 4 ∧ (d : Nat) < 4 := by decide +kernel
theorem lo_dec : ∀ a b c d : Fin 4, ((((I 0 ||| ((I ((a : Nat) : Int) &&& I 3) <<< ((I 2 * I 0) &&& 31))) ||| ((I ((b : Nat) : Int) &&& I 3) <<< ((I 2 * I 1) &&& 31))) ||| ((I ((c : Nat) : Int) &&& I 3) <<< ((I 2 * I 2) &&& 31))) ||| ((I ((d : Nat) : Int) &&& I 3) <<< ((I 2 * I 3) &&& 31))) = I (((a : Nat) + 4 * (b : Nat) + 16 * (c : Nat) + 64 * (d : Nat) : Nat) : Int) := by decide +kernel
theorem cg_dec : ∀ a b c d : Fin 4, cod ((a : Nat) + 4 * (b : Nat) + 16 * (c : Nat) + 64 * (d : Nat)) = 64 * (a : Nat) + 16 * (b : Nat) + 4 * (c : Nat) + (d : Nat) := by decide +kernel
theorem bitF_ge {v : Nat} (h : 4 ≤ v) : bitF v = bitF 4 := by
  unfold bitF
  rw [if_neg (by omega), if_neg (by omega)]
def mn4 (v : Nat) : Nat := if v < 4 then v else 4
theorem bitF_mn (v : Nat) : bitF v = bitF (mn4 v) := by
  unfold mn4
  by_cases c : v < 4
  · rw [if_pos c]
  · rw [if_neg c]
    exact bitF_ge (by omega)
theorem orF_lt {a b c d : Nat} (h : orF a b c d = I 15) : a < 4 ∧ b < 4 ∧ c < 4 ∧ d < 4 := by
  have m : ∀ v, mn4 v < 5 := fun v => by unfold mn4; split <;> omega
  have g : ∀ v, mn4 v < 4 → v < 4 := fun v => by unfold mn4; split <;> omega
  have e : orF (mn4 a) (mn4 b) (mn4 c) (mn4 d) = I 15 := by
    unfold orF at h ⊢
    rw [bitF_mn a, bitF_mn b, bitF_mn c, bitF_mn d] at h
    exact h
  obtain ⟨a1, a2, a3, a4⟩ := orF_dec ⟨mn4 a, m a⟩ ⟨mn4 b, m b⟩ ⟨mn4 c, m c⟩ ⟨mn4 d, m d⟩ e
  exact ⟨g a a1, g b a2, g c a3, g d a4⟩
section RCH
variable {S : SS} {h : MH}
def rv (S : SS) (i : Nat) : Nat := ((sRw S).getD i 0).toNat
theorem rv_e (J : InvS S) {i : Nat} (hi : i < (sRw S).length) : (sRw S).getD i 0 = ((rv S i : Nat) : Int) ∧ rv S i ≤ 99 := by
  have v := row_v J hi
  unfold rv
  omega
theorem l_rc1 (J : InvS S) (R : RC S h) (h4 : (sRw S).length = 4) {i n : Nat} {x : Int32} (hi : i < 4) : L_C_rowIsCorners_14 (n + 1) x (I i) h = if rv S i < 4 then L_C_rowIsCorners_14 n (x ||| bitF (rv S i)) (I ((i + 1 : Nat) : Int)) h else some (.inl (I 0, h)) := by
  obtain ⟨r0, r1⟩ := R.2.2.2.1
  have v := rv_e J (i := i) (by omega)
  have ri := r1 i (by omega)
  rw [v.1] at ri
  by_cases c : rv S i < 4
  · have nc : F_C_noCorner (I ((rv S i : Nat) : Int)) h = some (I 0, h) := c_noTurn_t (by omega) (by omega)
    have eb : bitF (rv S i) = I 1 <<< (I ((rv S i : Nat) : Int) &&& 31) := by unfold bitF; rw [if_pos c]
    rw [if_pos c, eb]
    simp (disch := omega) only [L_C_rowIsCorners_14, I_le, if_neg (show ¬ (4 : Int) ≤ (i : Int) by omega), ck_in, I_nat, Int.toNat_natCast, ri, nc, bd_s, zero_I, if_true, iw_s, I_succ]
  · have nc : F_C_noCorner (I ((rv S i : Nat) : Int)) h = some (I 1, h) := c_noTurn_f ⟨by omega, by omega⟩ (by omega)
    rw [if_neg c]
    simp (disch := omega) only [L_C_rowIsCorners_14, I_le, if_neg (show ¬ (4 : Int) ≤ (i : Int) by omega), ck_in, I_nat, Int.toNat_natCast, ri, nc, bd_s, zero_I, one_ne, if_false]
theorem l_rcE {n : Nat} {x : Int32} : L_C_rowIsCorners_14 (n + 1) x (I ((4 : Nat) : Int)) h = some (.inr (x, h)) := by
  simp (disch := omega) only [L_C_rowIsCorners_14, I_le]
  rw [if_pos (by omega)]
theorem l_mr1 (J : InvS S) (R : RM S h) {i n : Nat} {x : Int32} (hi : i < (sRw S).length) : L_M_reach_9 (n + 1) x (I i) h = L_M_reach_9 n (x ||| bitF (rv S i)) (I ((i + 1 : Nat) : Int)) h := by
  have len := J.2.2.2.2.1
  obtain ⟨r0, r1⟩ := R.2.2.2.1
  have v := rv_e J hi
  have ri := r1 i (by omega)
  rw [v.1] at ri
  by_cases c : rv S i < 4
  · have eb : bitF (rv S i) = I 1 <<< (I ((rv S i : Nat) : Int) &&& 31) := by unfold bitF; rw [if_pos c]
    rw [eb]
    simp (disch := omega) only [L_M_reach_9, r0, I_le, if_neg (show ¬ ((sRw S).length : Int) ≤ (i : Int) by omega), ck_in, I_nat, Int.toNat_natCast, ri, if_neg (show ¬ (4 : Int) ≤ ((rv S i : Nat) : Int) by omega), iw_s, I_succ]
  · have eb : bitF (rv S i) = I 0 := by unfold bitF; rw [if_neg c]
    rw [eb]
    simp (disch := omega) only [L_M_reach_9, r0, I_le, if_neg (show ¬ ((sRw S).length : Int) ≤ (i : Int) by omega), ck_in, I_nat, Int.toNat_natCast, ri, if_pos (show (4 : Int) ≤ ((rv S i : Nat) : Int) by omega), I_succ]
theorem l_mrE (J : InvS S) (R : RM S h) {n : Nat} {x : Int32} : L_M_reach_9 (n + 1) x (I ((sRw S).length : Int)) h = some (x, h) := by
  have len := J.2.2.2.2.1
  simp (disch := omega) only [L_M_reach_9, R.2.2.2.1.1, I_le, if_pos (Int.le_refl _)]
theorem l_mrX (J : InvS S) (R : RM S h) : ∀ (d i n : Nat) (x : Int32), i + d = (sRw S).length → d < n → ∃ y, L_M_reach_9 n x (I i) h = some (y, h) := by
  intro d
  induction d with
  | zero =>
    intro i n x e hn
    obtain ⟨n, rfl⟩ := sfuel hn
    obtain rfl : i = (sRw S).length := by omega
    exact ⟨x, l_mrE J R⟩
  | succ d ih =>
    intro i n x e hn
    obtain ⟨n, rfl⟩ := sfuel hn
    obtain ⟨y, hy⟩ := ih (i + 1) n (x ||| bitF (rv S i)) (by omega) (by omega)
    exact ⟨y, (l_mr1 J R (by omega)).trans hy⟩
theorem m_or (J : InvS S) (R : RM S h) (h4 : (sRw S).length = 4) : L_M_reach_9 5000 (I 0) (I 0) h = some (orF (rv S 0) (rv S 1) (rv S 2) (rv S 3), h) := by
  have e : L_M_reach_9 (4995 + 1 + 1 + 1 + 1 + 1) (I 0) (I ((0 : Nat) : Int)) h = some (orF (rv S 0) (rv S 1) (rv S 2) (rv S 3), h) := by
    rw [l_mr1 J R (by omega), l_mr1 J R (by omega), l_mr1 J R (by omega), l_mr1 J R (by omega)]
    have g := l_mrE J R (n := 4995) (x := orF (rv S 0) (rv S 1) (rv S 2) (rv S 3))
    rw [h4] at g
    exact g
  exact e
theorem c_cor (J : InvS S) (R : RC S h) : F_C_rowIsCorners h = some (I (if (sRw S).length = 4 ∧ orF (rv S 0) (rv S 1) (rv S 2) (rv S 3) = I 15 then 1 else 0), h) := by
  have len := J.2.2.2.2.1
  by_cases h4 : (sRw S).length = 4
  · have e : L_C_rowIsCorners_14 (4995 + 1 + 1 + 1 + 1 + 1) (I 0) (I ((0 : Nat) : Int)) h = if rv S 0 < 4 then if rv S 1 < 4 then if rv S 2 < 4 then if rv S 3 < 4 then some (.inr (orF (rv S 0) (rv S 1) (rv S 2) (rv S 3), h)) else some (.inl (I 0, h)) else some (.inl (I 0, h)) else some (.inl (I 0, h)) else some (.inl (I 0, h)) := by
      rw [l_rc1 J R h4 (by omega), l_rc1 J R h4 (by omega), l_rc1 J R h4 (by omega), l_rc1 J R h4 (by omega)]
      have g : L_C_rowIsCorners_14 (4995 + 1) (orF (rv S 0) (rv S 1) (rv S 2) (rv S 3)) (I ((4 : Nat) : Int)) h = _ := l_rcE
      show (if _ then if _ then if _ then if _ then L_C_rowIsCorners_14 (4995 + 1) (orF (rv S 0) (rv S 1) (rv S 2) (rv S 3)) (I ((4 : Nat) : Int)) h else _ else _ else _ else _) = _
      rw [g]
    have e' : L_C_rowIsCorners_14 5000 (I 0) (I 0) h = _ := e
    simp (disch := omega) only [F_C_rowIsCorners, R.2.2.2.1.1, I_eq, if_pos (show ((sRw S).length : Int) = 4 by omega), e']
    by_cases a : rv S 0 < 4 ∧ rv S 1 < 4 ∧ rv S 2 < 4 ∧ rv S 3 < 4
    · rw [if_pos a.1, if_pos a.2.1, if_pos a.2.2.1, if_pos a.2.2.2]
      by_cases o : orF (rv S 0) (rv S 1) (rv S 2) (rv S 3) = I 15
      · rw [if_pos ⟨h4, o⟩, o]
        rw [be_inr]
        dsimp only
        rw [if_neg (show ¬ ¬ (I 15 = I 15) from fun z => z rfl), iw_s]
        exact cd_t (by decide)
      · rw [if_neg (fun z => o z.2)]
        rw [be_inr]
        dsimp only
        rw [if_pos o, iw_s]
        exact cd_t (by decide)
    · have o : ¬ ((sRw S).length = 4 ∧ orF (rv S 0) (rv S 1) (rv S 2) (rv S 3) = I 15) := fun z => a (orF_lt z.2)
      rw [if_neg o]
      by_cases a0 : rv S 0 < 4
      · rw [if_pos a0]
        by_cases a1 : rv S 1 < 4
        · rw [if_pos a1]
          by_cases a2 : rv S 2 < 4
          · rw [if_pos a2, if_neg (fun z => a ⟨a0, a1, a2, z⟩)]
            rfl
          · rw [if_neg a2]
            rfl
        · rw [if_neg a1]
          rfl
      · rw [if_neg a0]
        rfl
  · rw [if_neg (fun z => h4 z.1)]
    simp (disch := omega) only [F_C_rowIsCorners, R.2.2.2.1.1, I_eq, if_neg (show ¬ ((sRw S).length : Int) = 4 by omega)]
theorem l_lo {n : Nat} {x : Int32} {i : Nat} (hi : i < 4) {v : Int} (e : h.1 53 i = I v) : L_L_lieOf_4 (n + 1) x (I i) h = L_L_lieOf_4 n (x ||| ((I v &&& I 3) <<< ((I 2 * I i) &&& 31))) (I ((i + 1 : Nat) : Int)) h := by
  have o12 : Int32.ofNat 12 = I 12 := by decide
  simp (disch := omega) only [L_L_lieOf_4, o12, I_le, if_neg (show ¬ (4 : Int) ≤ (i : Int) by omega), if_neg (show ¬ (12 : Int) ≤ (i : Int) by omega), ck_in, I_nat, Int.toNat_natCast, e, iw_s, I_succ]
theorem l_loE {n : Nat} {x : Int32} : L_L_lieOf_4 (n + 1) x (I ((0 + 1 + 1 + 1 + 1 : Nat) : Int)) h = some (x, h) := by
  simp (disch := omega) only [L_L_lieOf_4, I_le]
  rw [if_pos (by omega)]
theorem c_lieOf {a b c d : Nat} (ha : a < 4) (hb : b < 4) (hc : c < 4) (hd : d < 4) (e0 : h.1 53 0 = I a) (e1 : h.1 53 1 = I b) (e2 : h.1 53 2 = I c) (e3 : h.1 53 3 = I d) : F_L_lieOf h = some (I ((a + 4 * b + 16 * c + 64 * d : Nat) : Int), h) := by
  have tb := lo_dec ⟨a, ha⟩ ⟨b, hb⟩ ⟨c, hc⟩ ⟨d, hd⟩
  have e : L_L_lieOf_4 (4995 + 1 + 1 + 1 + 1 + 1) (I 0) (I ((0 : Nat) : Int)) h = some (I ((a + 4 * b + 16 * c + 64 * d : Nat) : Int), h) := by
    rw [l_lo (by omega) e0, l_lo (by omega) e1, l_lo (by omega) e2, l_lo (by omega) e3, l_loE]
    exact congrArg (fun v => some (v, h)) tb
  have e' : L_L_lieOf_4 5000 (I 0) (I 0) h = _ := e
  simp only [F_L_lieOf, e', bd_s]
theorem q_reach (J : InvS S) : Q2 S F_C_reach F_M_reach := by
  have ok := J.2.2.2.2.2.2.2.2
  have hl := ok_lt ok
  have len := J.2.2.2.2.1
  by_cases c : (sRw S).length = 4 ∧ orF (rv S 0) (rv S 1) (rv S 2) (rv S 3) = I 15
  · obtain ⟨c4, co⟩ := id c
    obtain ⟨a0, a1, a2, a3⟩ := orF_lt co
    have v0 := rv_e J (i := 0) (by omega)
    have v1 := rv_e J (i := 1) (by omega)
    have v2 := rv_e J (i := 2) (by omega)
    have v3 := rv_e J (i := 3) (by omega)
    obtain ⟨g, hg⟩ : ∃ g, g = rv S 0 + 4 * rv S 1 + 16 * rv S 2 + 64 * rv S 3 := ⟨_, rfl⟩
    have gl : g < 512 := by omega
    have cg : cod g = 64 * rv S 0 + 16 * rv S 1 + 4 * rv S 2 + rv S 3 := by
      rw [hg]
      exact cg_dec ⟨_, a0⟩ ⟨_, a1⟩ ⟨_, a2⟩ ⟨_, a3⟩
    have dq : dQ (hLie (sN S)) (cod g) = match ixl (sprd (hLie (sN S))) g 0 with
        | some j => turQ (sprd (hLie (sN S))) j
        | none => 99 := by
      unfold dQ
      rw [tcl_cod gl]
      rcases ixl (sprd (hLie (sN S))) g 0 <;> rfl
    have dle := dQ_le ok (cod g)
    refine ⟨(I (if dQ (hLie (sN S)) (cod g) ≤ 8 then ((dQ (hLie (sN S)) (cod g) : Nat) : Int) else -9), 0), by show 0 < 7; omega, fun h R => ?_, fun h R => ?_⟩
    · obtain ⟨h', p1, p2, p3, p4⟩ := c_spread hl h
      obtain ⟨r0, r1⟩ := R.2.2.2.1
      have e53 : ∀ i, i < 4 → h'.1 53 i = I ((rv S i : Nat) : Int) := fun i hi => by
        rw [p3.2 53 (by omega), r1 i (by omega), (rv_e J (i := i) (by omega)).1]
      have lo := c_lieOf (h := h') a0 a1 a2 a3 (e53 0 (by omega)) (e53 1 (by omega)) (e53 2 (by omega)) (e53 3 (by omega))
      rw [← hg] at lo
      have tt := c_turnsTo p4 p2 gl
      refine ⟨h', ?_, p3.1, fun k i s => ?_⟩
      · have cc := c_cor J R
        rw [if_pos c] at cc
        simp only [F_C_reach, cc, bd_s, zero_I, one_ne, not_false_iff, if_true, rn_l (rc_h R), p1, lo, tt, iw_s]
        unfold tuT
        rcases hx : ixl (sprd (hLie (sN S))) g 0 with _ | j
        · rw [hx] at dq
          have d99 : dQ (hLie (sN S)) (cod g) = 99 := dq
          rw [if_neg (show ¬ dQ (hLie (sN S)) (cod g) ≤ 8 by omega)]
          simp only
          rw [if_pos (by decide)]
        · rw [hx] at dq
          have dj : dQ (hLie (sN S)) (cod g) = turQ (sprd (hLie (sN S))) j := dq
          have t8 := ((chk_p (sprd_p ok)).2.2.2 j (ixl_0 hx).1).1
          rw [if_pos (show dQ (hLie (sN S)) (cod g) ≤ 8 by omega), dj]
          simp (disch := omega) only [I_le]
          rw [if_pos (by omega)]
      · rw [p3.2 k (by
          unfold scC at s
          simp at s
          omega)]
        rfl
    · have R0 := RM_Sc R (ScM_setT h)
      obtain ⟨h1', p1, t1, s1⟩ := m_think (rm_h R0) hl
      obtain ⟨h2, q1, q2, q3⟩ := m_spread ok h1'
      have R1 := RM_Sc R0 s1
      have R2 := RM_Sc R1 (ScM_P q3)
      have mo := m_or J R0 c4
      rw [co] at mo
      have e74 : ∀ i, i < 4 → h2.1 74 i = I ((rv S i : Nat) : Int) := fun i hi => by
        rw [R2.2.2.2.1.2 i (by omega), (rv_e J (i := i) (by omega)).1]
      have z1 : (1 : Int).toNat = 1 := rfl
      have z2 : (2 : Int).toNat = 2 := rfl
      have z3 : (3 : Int).toNat = 3 := rfl
      have z0 : (0 : Int).toNat = 0 := rfl
      have ei : ((64 : Int) * ((rv S 0 : Nat) : Int) + 16 * ((rv S 1 : Nat) : Int) + 4 * ((rv S 2 : Nat) : Int) + ((rv S 3 : Nat) : Int)) = ((cod g : Nat) : Int) := by omega
      have cgl := cod_lt gl
      refine ⟨h2, ?_, ScM_tr s1 (ScM_P q3)⟩
      simp (disch := omega) only [F_M_reach, setT_d, hw_s, mo, bd_s, R0.2.2.2.1.1, I_eq, if_neg (show ¬ ¬ ((sRw S).length : Int) = 4 by omega), if_true, p1, m_code hl t1, q1, ck_in, I_nat, z0, z1, z2, z3, e74 0, e74 1, e74 2, e74 3, I_mul, I_add, ei, Int.toNat_natCast, q2 (cod g) cgl, iw_s, I_le]
      by_cases d8 : dQ (hLie (sN S)) (cod g) ≤ 8
      · rw [if_pos d8, if_pos (by omega)]
      · rw [if_neg d8, if_neg (by omega)]
  · refine q_pl (I (-3)) 3 (by omega) (fun h R => ?_) (fun h R => ?_)
    · have cc := c_cor J R
      rw [if_neg c] at cc
      simp only [F_C_reach, cc, bd_s, zero_I, not_true, if_false, c_ref3]
    · by_cases h4 : (sRw S).length = 4
      · have co : ¬ orF (rv S 0) (rv S 1) (rv S 2) (rv S 3) = I 15 := fun z => c ⟨h4, z⟩
        simp (disch := omega) only [F_M_reach, setT_d, hw_s, m_or J R h4, bd_s, R.2.2.2.1.1, I_eq, if_neg (show ¬ ¬ ((sRw S).length : Int) = 4 by omega), if_neg co, m_ref3]
      · obtain ⟨y, hy⟩ := l_mrX J R (sRw S).length 0 5000 (I 0) (by omega) (by omega)
        have hy' : L_M_reach_9 5000 (I 0) (I 0) (setT h) = some (y, setT h) := hy
        simp (disch := omega) only [F_M_reach, setT_d, hw_s, hy', bd_s, R.2.2.2.1.1, I_eq, if_pos (show ¬ ((sRw S).length : Int) = 4 by omega), m_ref3]
end RCH
