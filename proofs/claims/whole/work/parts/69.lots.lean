-- 56 lots
theorem and_pos (s : Int32) : ∃ z : Int, 0 ≤ z ∧ z < 2147483648 ∧ (s &&& I 2147483647) = I z := by
  have hm : (s &&& I 2147483647).toBitVec.msb = false := by
    rw [Int32.toBitVec_and, BitVec.msb_and]
    have : (I 2147483647).toBitVec.msb = false := by decide
    rw [this, Bool.and_false]
  have h0 : (s &&& I 2147483647).toInt = ((s &&& I 2147483647).toBitVec.toNat : Int) := BitVec.toInt_eq_toNat_of_msb hm
  exact ⟨(s &&& I 2147483647).toInt, by omega, Int32.toInt_lt _, (I_toInt _).symm⟩
def dw (s : Int32) (n : Nat) : Nat := (((s &&& I 2147483647) / I 65536).toInt).toNat % n
theorem dw_lt (s : Int32) {n : Nat} (h : 0 < n) : dw s n < n := Nat.mod_lt _ h
theorem dwI (s : Int32) {n : Nat} (h0 : 0 < n) (h1 : n ≤ 6) : irem ((s &&& I 2147483647) / I 65536) (I n) = I ((dw s n : Nat) : Int) := by
  obtain ⟨z, z0, z1, ez⟩ := and_pos s
  unfold dw
  have hb : 0 ≤ z / 65536 ∧ z / 65536 < 2147483648 := by omega
  rw [ez, I_div z0 z1 (by omega) (by omega), toInt_I (by omega) hb.2, I_rem hb.1 hb.2 (by omega) (by omega)]
  obtain ⟨k, hk⟩ : ∃ k : Nat, z / 65536 = k := ⟨(z / 65536).toNat, by omega⟩
  rw [hk, Int.toNat_natCast]
  rfl
def nxs (s : Int32) : Int32 := s * I 1103515245 + I 12345
/-- a morning's draws: the seed and the time -/
def loI (a : HS) : Nat → Nat → Int32 → Int32 → Int32 × Int32
  | 0, _, s, t => (s, t)
  | d + 1, i, s, t => loI a d (i + 1) (nxs (nxs s)) (t + I (sTw a i (dw (nxs s) (nW a)) (dw (nxs (nxs s)) (nP a))))
def loO (a : HS) : Nat → Int32 → Int32 → Int32 → Int32 × Int32
  | 0, u, g, _ => (u, g)
  | d + 1, u, g, s => loO a d (u + (loI a (nB a) 0 s (I 0)).2) (if g < (loI a (nB a) 0 s (I 0)).2 then (loI a (nB a) 0 s (I 0)).2 else g) (loI a (nB a) 0 s (I 0)).1
section LOT
variable {a : HS} {h : MH}
theorem c_draw {s : Int32} {n : Nat} (h0 : 0 < n) (h1 : n ≤ 6) : F_C_drawBelow s (I n) h = some (I ((dw s n : Nat) : Int), h) := by
  have nz : ¬ I (n : Int) = I 0 := by rw [I_eq (by omega) (by omega) (by omega) (by omega)]; omega
  simp (disch := omega) only [F_C_drawBelow, I_le, if_pos (show (1 : Int) ≤ (n : Int) by omega), zero_I, cd_t nz, dwI s h0 h1]
theorem l_loC (R : RepH 8 a h.1) (J : InvH a) (hw : 0 < nW a) (hp : 0 < nP a) {x1 x3 x4 x5 x7 : Int32} : ∀ (d i n : Nat) (s t : Int32), i + d = nB a → d < n →
    L_C_lots_86 x1 x3 x4 x5 x7 n s t (I i) h = some ((loI a d i s t).1, (loI a d i s t).2, h) := by
  obtain ⟨j1, j2, j3, -⟩ := id J
  intro d
  induction d with
  | zero =>
    intro i n s t e hn
    obtain ⟨m, rfl⟩ := sfuel hn
    obtain rfl : i = nB a := by omega
    simp (disch := omega) only [L_C_lots_86, rn_b R, I_le, if_pos (Int.le_refl _)]
    rfl
  | succ d ih =>
    intro i n s t e hn
    obtain ⟨m, rfl⟩ := sfuel hn
    have hi : i < nB a := by omega
    have g := ih (i + 1) m (nxs (nxs s)) (t + I (sTw a i (dw (nxs s) (nW a)) (dw (nxs (nxs s)) (nP a)))) (by omega) (by omega)
    have e1 : s * I 1103515245 + I 12345 = nxs s := rfl
    have e2 : nxs s * I 1103515245 + I 12345 = nxs (nxs s) := rfl
    have tb := c_timeBy R J hi (dw_lt (nxs s) hw) (dw_lt (nxs (nxs s)) hp)
    have d1 := c_draw (h := h) (s := nxs s) hw j3
    have d2 := c_draw (h := h) (s := nxs (nxs s)) hp (by omega)
    simp (disch := omega) only [L_C_lots_86, rn_b R, I_le, if_neg (show ¬ ((nB a : Int) ≤ (i : Int)) by omega), F_C_nextSeed, bd_s, e1, e2, rn_w R, rn_p R, d1, d2, tb, I_succ]
    exact g
theorem l_loC2 (R : RepH 8 a h.1) (J : InvH a) (hw : 0 < nW a) (hp : 0 < nP a) {x3 : Int32} {N : Nat} (hN : N ≤ 20) : ∀ (d k n : Nat) (u g s : Int32), k + d = N → d < n →
    L_C_lots_74 (I N) x3 n u g s (I k) h = some ((loO a d u g s).1, (loO a d u g s).2, h) := by
  obtain ⟨j1, j2, j3, -⟩ := id J
  intro d
  induction d with
  | zero =>
    intro k n u g s e hn
    obtain ⟨m, rfl⟩ := sfuel hn
    simp (disch := omega) only [L_C_lots_74, I_le]
    rw [if_pos (by omega)]
    rfl
  | succ d ih =>
    intro k n u g s e hn
    obtain ⟨m, rfl⟩ := sfuel hn
    have q := ih (k + 1) m (u + (loI a (nB a) 0 s (I 0)).2) (if g < (loI a (nB a) 0 s (I 0)).2 then (loI a (nB a) 0 s (I 0)).2 else g) (loI a (nB a) 0 s (I 0)).1 (by omega) (by omega)
    have lo : L_C_lots_86 (I N) x3 u g (I k) 5000 s (I 0) (I 0) h = _ := l_loC R J hw hp (x1 := I N) (x3 := x3) (x4 := u) (x5 := g) (x7 := I k) (nB a) 0 5000 s (I 0) (by omega) (by omega)
    simp (disch := omega) only [L_C_lots_74, I_le, if_neg (show ¬ ((N : Int) ≤ (k : Int)) by omega), lo, bd_s, iw_s, I_succ]
    exact q
/-- all but the seed's cell is as before -/
def FrZ (h h' : MH) : Prop := h'.2 = h.2 ∧ ∀ k i, ¬ (k = 55 ∧ i = 37) → h'.1 k i = h.1 k i
theorem FrZ_rfl (h : MH) : FrZ h h := ⟨rfl, fun _ _ _ => rfl⟩
theorem FrZ_tr {a b c : MH} (p : FrZ a b) (q : FrZ b c) : FrZ a c := ⟨q.1.trans p.1, fun k i e => (q.2 k i e).trans (p.2 k i e)⟩
theorem RepM_Z {a : HS} {h h' : MH} (R : RepM a h.1) (q : FrZ h h') : RepM a h'.1 :=
  RepM_cg (q.2 55 0 (by omega)) (q.2 55 2 (by omega)) (q.2 55 5 (by omega)) (q.2 55 9 (by omega)) (fun k a b => funext fun i => q.2 k i (by omega)) R
theorem ScM_Z {h h' : MH} (q : FrZ h h') : ScM h h' := fun k i e => q.2 k i (fun z => by rw [z.1, z.2] at e; exact absurd e (by decide))
theorem m_draw {s : Int32} {n : Nat} (h0 : 0 < n) (h1 : n ≤ 6) (e : h.1 55 37 = s) : ∃ h', F_M_drawBelow (I n) h = some (I ((dw (nxs s) n : Nat) : Int), h') ∧ FrZ h h' ∧ h'.1 55 37 = nxs s := by
  have nz : ¬ I (n : Int) = I 0 := by rw [I_eq (by omega) (by omega) (by omega) (by omega)]; omega
  refine ⟨(mm_hset h.1 55 37 (nxs s), h.2), ?_, ⟨rfl, fun k i z => hs_ne z⟩, by simp only [hs_eq]⟩
  have e1 : s * I 1103515245 + I 12345 = nxs s := rfl
  simp only [F_M_drawBelow, e, e1, hw_s, zero_I, cd_t nz, hs_eq, dwI (nxs s) h0 h1]
theorem l_loM (J : InvH a) (hw : 0 < nW a) (hp : 0 < nP a) {x1 x3 x5 x6 x7 : Int32} : ∀ (d i n : Nat) (s t : Int32) (h : MH), i + d = nB a → d < n → RepM a h.1 → h.1 55 37 = s →
    ∃ h', L_M_lots_71 x1 x3 x5 x6 x7 n t (I i) h = some ((loI a d i s t).2, h') ∧ FrZ h h' ∧ h'.1 55 37 = (loI a d i s t).1 := by
  obtain ⟨j1, j2, j3, -⟩ := id J
  intro d
  induction d with
  | zero =>
    intro i n s t h e hn R es
    obtain ⟨m, rfl⟩ := sfuel hn
    refine ⟨h, ?_, FrZ_rfl h, es⟩
    simp (disch := omega) only [L_M_lots_71, rm_b R, I_le]
    rw [if_pos (by omega)]
    rfl
  | succ d ih =>
    intro i n s t h e hn R es
    obtain ⟨m, rfl⟩ := sfuel hn
    have hi : i < nB a := by omega
    obtain ⟨h1, p1, p2, p3⟩ := m_draw (h := h) hw j3 es
    have R1 := RepM_Z R p2
    obtain ⟨h2, q1, q2, q3⟩ := m_draw (h := h1) hp (show nP a ≤ 6 by omega) p3
    have R2 := RepM_Z R1 q2
    have tb := m_timeOf R2 J hi (dw_lt (nxs s) hw) (dw_lt (nxs (nxs s)) hp)
    obtain ⟨h', r1, r2, r3⟩ := ih (i + 1) m (nxs (nxs s)) (t + I (sTw a i (dw (nxs s) (nW a)) (dw (nxs (nxs s)) (nP a)))) h2 (by omega) (by omega) R2 q3
    refine ⟨h', ?_, FrZ_tr (FrZ_tr p2 q2) r2, r3⟩
    simp (disch := omega) only [L_M_lots_71, rm_b R, I_le, if_neg (show ¬ ((nB a : Int) ≤ (i : Int)) by omega), rm_w R, p1, bd_s, rm_p R1, q1, tb, I_succ]
    exact r1
theorem l_loM2 (J : InvH a) (hw : 0 < nW a) (hp : 0 < nP a) {x3 : Int32} {N : Nat} (hN : N ≤ 20) : ∀ (d k n : Nat) (u g s : Int32) (h : MH), k + d = N → d < n → RepM a h.1 → h.1 55 37 = s →
    ∃ h', L_M_lots_45 (I N) x3 n u g (I k) h = some ((loO a d u g s).1, (loO a d u g s).2, h') ∧ FrZ h h' := by
  obtain ⟨j1, j2, j3, -⟩ := id J
  intro d
  induction d with
  | zero =>
    intro k n u g s h e hn R es
    obtain ⟨m, rfl⟩ := sfuel hn
    refine ⟨h, ?_, FrZ_rfl h⟩
    simp (disch := omega) only [L_M_lots_45, I_le]
    rw [if_pos (by omega)]
    rfl
  | succ d ih =>
    intro k n u g s h e hn R es
    obtain ⟨m, rfl⟩ := sfuel hn
    obtain ⟨h1, p1, p2, p3⟩ := l_loM J hw hp (x1 := I N) (x3 := x3) (x5 := u) (x6 := g) (x7 := I k) (nB a) 0 5000 s (I 0) h (by omega) (by omega) R es
    have p1' : L_M_lots_71 (I N) x3 u g (I k) 5000 (I 0) (I 0) h = some ((loI a (nB a) 0 s (I 0)).2, h1) := p1
    obtain ⟨h', q1, q2⟩ := ih (k + 1) m (u + (loI a (nB a) 0 s (I 0)).2) (if g < (loI a (nB a) 0 s (I 0)).2 then (loI a (nB a) 0 s (I 0)).2 else g) (loI a (nB a) 0 s (I 0)).1 h1 (by omega) (by omega) (RepM_Z R p2) p3
    refine ⟨h', ?_, FrZ_tr p2 q2⟩
    have em : (if (loI a (nB a) 0 s (I 0)).2 ≤ g then g else (loI a (nB a) 0 s (I 0)).2) = (if g < (loI a (nB a) 0 s (I 0)).2 then (loI a (nB a) 0 s (I 0)).2 else g) := by
      by_cases c : g < (loI a (nB a) 0 s (I 0)).2
      · rw [if_pos c, if_neg (fun z => absurd c (Int32.not_lt.mpr z))]
      · rw [if_neg c, if_pos (Int32.not_lt.mp c)]
    simp (disch := omega) only [L_M_lots_45, zero_I, I_le, if_neg (show ¬ ((N : Int) ≤ (k : Int)) by omega), rm_w R, rm_p R, if_neg (show ¬ ((nW a : Int) ≤ 0) by omega), if_neg (show ¬ ((nP a : Int) ≤ 0) by omega), p1', bd_s, em, iw_s, I_succ]
    exact q1
theorem l_lo0 {n : Nat} {N : Nat} {x3 : Int32} (hN : N ≤ 20) (R : RepM a h.1) (J : InvH a) (hz : nW a = 0 ∨ nP a = 0) : L_M_lots_45 (I N) x3 (n + 1) (I 0) (I 0) (I 0) h = some (I 0, I 0, h) := by
  obtain ⟨j1, j2, j3, -⟩ := id J
  simp (disch := omega) only [L_M_lots_45, zero_I, I_le, rm_w R, rm_p R]
  by_cases c : (nW a : Int) ≤ 0
  · simp only [c, if_true, ite_self]
  · simp only [c, if_false, show ((nP a : Int) ≤ 0) = True from eq_true (by omega), if_true, ite_self]
theorem q_lots {S : SS} (J : InvS S) {x : Int} {z : Int32} {y : Int} (e1 : i32 x) (e2 : i32 y) : Q2 S (F_C_lots (I x) z (I y)) (F_M_lots (I x) z (I y)) := by
  have K := is_h J
  obtain ⟨j1, j2, j3, -⟩ := id K
  have c1 : i32 1 := ⟨by omega, by omega⟩
  have c20 : i32 20 := ⟨by omega, by omega⟩
  obtain ⟨l1, g1⟩ := id e1
  obtain ⟨l2, g2⟩ := id e2
  by_cases h0 : 1 ≤ x
  · by_cases h1 : x ≤ 20
    · by_cases hu : 0 ≤ y ∧ y ≤ 1
      · obtain ⟨N, rfl⟩ : ∃ N : Nat, x = N := ⟨x.toNat, by omega⟩
        have y01 : (I y = I 0) = (y = 0) := I_eq (by omega) (by omega) (by omega) (by omega)
        by_cases hz : nW (sN S) = 0 ∨ nP (sN S) = 0
        · refine ⟨(I 0, 0), by show 0 < 7; omega, fun h R => ?_, fun h R => ?_⟩
          · have R := rc_h R
            refine ⟨h, ?_, ScC_rfl h⟩
            simp (disch := omega) only [F_C_lots, I_le, if_pos h0, if_pos h1, c_other_t hu.1 hu.2 (show (1 : Int) < 2147483648 by omega), bd_s, zero_I, if_true, rn_w R, rn_p R, I_eq]
            by_cases c : (nW (sN S) : Int) = 0
            · rw [if_pos c]
            · rw [if_neg c, if_neg (show ¬ ¬ (nP (sN S) : Int) = 0 by omega)]
          · have R := rm_h (RM_Sc R (ScM_setT h))
            have fr : FrZ (setT h) (mm_hset (setT h).1 55 37 z, (setT h).2) := ⟨rfl, fun k i z => hs_ne z⟩
            have g := l_lo0 (n := 4999) (N := N) (x3 := I y) (by omega) (RepM_Z R fr) K hz
            have g' : L_M_lots_45 (I N) (I y) 5000 (I 0) (I 0) (I 0) (mm_hset (setT h).1 55 37 z, (setT h).2) = _ := g
            refine ⟨(mm_hset (setT h).1 55 37 z, (setT h).2), ?_, ScM_Z fr⟩
            simp only [F_M_lots, setT_d, hw_s, m_num e1 c1 c20, if_pos h0, if_pos h1, bd_s, m_bit_t hu.1 hu.2 (show (1 : Int) < 2147483648 by omega), zero_I, le00, if_true, g', y01, iw_s, ite_self]
        · have hw : 0 < nW (sN S) := by omega
          have hp : 0 < nP (sN S) := by omega
          refine ⟨(if ¬ y = 0 then (loO (sN S) N (I 0) (I 0) z).2 else (loO (sN S) N (I 0) (I 0) z).1, 0), by show 0 < 7; omega, fun h R => ?_, fun h R => ?_⟩
          · have R := rc_h R
            have g : L_C_lots_74 (I N) (I y) 5000 (I 0) (I 0) z (I 0) h = _ := l_loC2 R K hw hp (x3 := I y) (N := N) (by omega) N 0 5000 (I 0) (I 0) z (by omega) (by omega)
            refine ⟨h, ?_, ScC_rfl h⟩
            simp (disch := omega) only [F_C_lots, I_le, if_pos h0, if_pos h1, c_other_t hu.1 hu.2 (show (1 : Int) < 2147483648 by omega), bd_s, zero_I, if_true, rn_w R, rn_p R, I_eq, if_neg (show ¬ (nW (sN S) : Int) = 0 by omega), if_pos (show ¬ (nP (sN S) : Int) = 0 by omega), g, iw_s]
          · have R := rm_h (RM_Sc R (ScM_setT h))
            have fr : FrZ (setT h) (mm_hset (setT h).1 55 37 z, (setT h).2) := ⟨rfl, fun k i z => hs_ne z⟩
            obtain ⟨h', q1, q2⟩ := l_loM2 K hw hp (x3 := I y) (N := N) (by omega) N 0 5000 (I 0) (I 0) z (mm_hset (setT h).1 55 37 z, (setT h).2) (by omega) (by omega) (RepM_Z R fr) (by simp only [hs_eq])
            have q1' : L_M_lots_45 (I N) (I y) 5000 (I 0) (I 0) (I 0) (mm_hset (setT h).1 55 37 z, (setT h).2) = _ := q1
            refine ⟨h', ?_, ScM_Z (FrZ_tr fr q2)⟩
            simp only [F_M_lots, setT_d, hw_s, m_num e1 c1 c20, if_pos h0, if_pos h1, bd_s, m_bit_t hu.1 hu.2 (show (1 : Int) < 2147483648 by omega), zero_I, le00, if_true, q1', y01, iw_s]
      · refine q_pl (I (-2)) 2 (by omega) (fun h R => ?_) (fun h R => ?_)
        · simp (disch := omega) only [F_C_lots, I_le, if_pos h0, if_pos h1, c_other_f l2 g2 (show (0:Int) ≤ 1 by omega) (by omega) hu, bd_s, zero_I, one_ne, if_false, c_ref2]
        · simp only [F_M_lots, setT_d, hw_s, m_num e1 c1 c20, if_pos h0, if_pos h1, bd_s, m_bit_f e2 (show (0:Int) ≤ 1 by omega) (by omega) hu, zero_I, lm2, if_false, m_ref2]
    · refine q_pl (I (-6)) 6 (by omega) (fun h R => ?_) (fun h R => ?_)
      · simp (disch := omega) only [F_C_lots, I_le, if_pos h0, if_neg h1, c_ref6, bd_s]
      · simp only [F_M_lots, setT_d, hw_s, m_num e1 c1 c20, if_pos h0, if_neg h1, bd_s, m_bit_n (show (-7:Int) < -6 by omega) (show (-6:Int) < 0 by omega), zero_I, lm6, if_false, m_ref6]
  · refine q_pl (I (-4)) 4 (by omega) (fun h R => ?_) (fun h R => ?_)
    · simp (disch := omega) only [F_C_lots, I_le, if_neg h0, c_ref4, bd_s]
    · simp only [F_M_lots, setT_d, hw_s, m_num e1 c1 c20, if_neg h0, bd_s, m_bit_n (show (-7:Int) < -4 by omega) (show (-4:Int) < 0 by omega), zero_I, lm4, if_false, m_ref4]
end LOT
-- 34 cat
theorem Lg_mul (a b : Int) : Lg a * Lg b = Lg (a * b) := (Int64.ofInt_mul a b).symm
theorem Lg_sub (a b : Int) : Lg a - Lg b = Lg (a - b) := (Int64.ofInt_sub a b).symm
theorem Lg_eq {a b : Int} (h1 : 0 ≤ a) (h2 : a < 2147483648) (h3 : 0 ≤ b) (h4 : b < 2147483648) : (Lg a = Lg b) = (a = b) := by
  refine propext ⟨fun h => ?_, fun h => by rw [h]⟩
  have := congrArg Int64.toInt h
  rwa [toInt_Lg (by omega) (by omega), toInt_Lg (by omega) (by omega)] at this
theorem Lg_div {a b : Int} (h1 : 0 ≤ a) (h2 : a < 2147483648) (h3 : 0 < b) (h4 : b < 2147483648) : Lg a / Lg b = Lg (a / b) := by
  apply Int64.toInt_inj.mp
  have hq : a / b ≤ a := Int.ediv_le_self b h1
  have hq0 : 0 ≤ a / b := Int.ediv_nonneg h1 (by omega)
  have h0 : a.tdiv b = a / b := Int.tdiv_eq_ediv_of_nonneg h1
  rw [Int64.toInt_div, toInt_Lg (by omega) (by omega), toInt_Lg (by omega) (by omega), toInt_Lg (by omega) (by omega), h0]
  exact Int.bmod_eq_of_le (by omega) (by omega)
theorem Lg_rem {a b : Int} (h1 : 0 ≤ a) (h2 : a < 2147483648) (h3 : 0 < b) (h4 : b < 2147483648) : lrem (Lg a) (Lg b) = Lg (a % b) := by
  unfold lrem
  rw [Lg_div h1 h2 h3 h4, Lg_mul, Lg_sub]
  congr 1
  rw [Int.emod_def, Int.mul_comm]
theorem lz : (0 : Int64) = Lg 0 := rfl
theorem lcz (x : Int64) : (lg_cmp x (Lg 0) = I 0) = (x = Lg 0) := propext (lg_cmp_eq x (Lg 0))
def cdv (A t : Nat) : Nat → Nat
  | 0 => 1
  | d + 1 => if d = 0 then 1 else if A % (d + 1) = 0 then (if t % (d + 1) = 0 then d + 1 else cdv A t d) else cdv A t d
theorem cdv_p (A t : Nat) : ∀ d, (1 ≤ cdv A t d) ∧ (cdv A t d ∣ A ∧ cdv A t d ∣ t) ∧ (∀ e, e ≤ d → e ∣ A → e ∣ t → e ≤ cdv A t d) := by
  intro d
  induction d with
  | zero => exact ⟨Nat.le_refl 1, ⟨Nat.one_dvd _, Nat.one_dvd _⟩, fun e h _ _ => by show e ≤ 1; omega⟩
  | succ d ih =>
    unfold cdv
    obtain ⟨i1, i2, i3⟩ := ih
    by_cases d0 : d = 0
    · rw [if_pos d0]
      exact ⟨Nat.le_refl 1, ⟨Nat.one_dvd _, Nat.one_dvd _⟩, fun e h _ _ => by omega⟩
    · rw [if_neg d0]
      by_cases c1 : A % (d + 1) = 0
      · rw [if_pos c1]
        by_cases c2 : t % (d + 1) = 0
        · rw [if_pos c2]
          exact ⟨by omega, ⟨Nat.dvd_of_mod_eq_zero c1, Nat.dvd_of_mod_eq_zero c2⟩, fun e h _ _ => h⟩
        · rw [if_neg c2]
          refine ⟨i1, i2, fun e h h1 h2 => ?_⟩
          by_cases q : e = d + 1
          · subst q
            exact absurd (Nat.mod_eq_zero_of_dvd h2) c2
          · exact i3 e (by omega) h1 h2
      · rw [if_neg c1]
        refine ⟨i1, i2, fun e h h1 h2 => ?_⟩
        by_cases q : e = d + 1
        · subst q
          exact absurd (Nat.mod_eq_zero_of_dvd h1) c1
        · exact i3 e (by omega) h1 h2
theorem cdv_gcd {A t : Nat} (ht : 0 < t) : cdv A t t = Nat.gcd A t := by
  obtain ⟨i1, i2, i3⟩ := cdv_p A t t
  have g1 : Nat.gcd A t ≤ t := Nat.le_of_dvd ht (Nat.gcd_dvd_right A t)
  have g2 := i3 _ g1 (Nat.gcd_dvd_left A t) (Nat.gcd_dvd_right A t)
  have g3 : cdv A t t ≤ Nat.gcd A t := Nat.le_of_dvd (Nat.gcd_pos_of_pos_right A ht) (Nat.dvd_gcd i2.1 i2.2)
  omega
section CAT
variable {a : HS} {h : MH}
theorem l_cdv {A t : Nat} (hA : A ≤ 100000) (ht : t ≤ 20) : ∀ d n : Nat, d ≤ 20 → d < n → be (L_C_commonDivisor_2 (Lg (A : Int)) (I t) n (I d) h) (fun u5 => some u5) (fun h4 => some (I 1, h4)) = some (I ((cdv A t d : Nat) : Int), h) := by
  intro d
  induction d with
  | zero =>
    intro n hd hn
    obtain ⟨m, rfl⟩ := sfuel hn
    simp (disch := omega) only [L_C_commonDivisor_2, I_le]
    rw [if_pos (by omega)]
    rfl
  | succ d ih =>
    intro n hd hn
    obtain ⟨m, rfl⟩ := sfuel hn
    have e0 : cdv A t (d + 1) = if d = 0 then 1 else if A % (d + 1) = 0 then (if t % (d + 1) = 0 then d + 1 else cdv A t d) else cdv A t d := rfl
    rw [e0]
    by_cases d0 : d = 0
    · rw [if_pos d0]
      simp (disch := omega) only [L_C_commonDivisor_2, I_le]
      rw [if_pos (by omega)]
      rfl
    · have g := ih m (by omega) (by omega)
      have ep : I ((d + 1 : Nat) : Int) + I (-1) = I (d : Int) := by
        rw [I_add]
        congr 1
        omega
      have nz : ¬ Lg ((d + 1 : Nat) : Int) = Lg 0 := by rw [Lg_eq (by omega) (by omega) (by omega) (by omega)]; omega
      have nz2 : ¬ I ((d + 1 : Nat) : Int) = I 0 := by rw [I_eq (by omega) (by omega) (by omega) (by omega)]; omega
      have mA : ((A : Int) % ((d + 1 : Nat) : Int) = 0) = (A % (d + 1) = 0) := propext ⟨fun q => by omega, fun q => by omega⟩
      have mt : ((t : Int) % ((d + 1 : Nat) : Int) = 0) = (t % (d + 1) = 0) := propext ⟨fun q => by omega, fun q => by omega⟩
      have rA : (Lg ((A : Int) % ((d + 1 : Nat) : Int)) = Lg 0) = (A % (d + 1) = 0) := by
        have h1 : 0 ≤ (A : Int) % ((d + 1 : Nat) : Int) := Int.emod_nonneg _ (by omega)
        have h2 : (A : Int) % ((d + 1 : Nat) : Int) < ((d + 1 : Nat) : Int) := Int.emod_lt_of_pos _ (by omega)
        rw [Lg_eq h1 (by omega) (by omega) (by omega), mA]
      have rt : (I ((t : Int) % ((d + 1 : Nat) : Int)) = I 0) = (t % (d + 1) = 0) := by
        have h1 : 0 ≤ (t : Int) % ((d + 1 : Nat) : Int) := Int.emod_nonneg _ (by omega)
        have h2 : (t : Int) % ((d + 1 : Nat) : Int) < ((d + 1 : Nat) : Int) := Int.emod_lt_of_pos _ (by omega)
        rw [I_eq (by omega) (by omega) (by omega) (by omega), mt]
      rw [if_neg d0]
      simp (disch := omega) only [L_C_commonDivisor_2, I_le, if_neg (show ¬ ((d + 1 : Nat) : Int) ≤ 1 by omega), toI64, lz, cd_t nz, Lg_rem, lcz, rA, zero_I, cd_t nz2, I_rem, rt, ep]
      by_cases c1 : A % (d + 1) = 0
      · rw [if_pos c1, if_neg (show ¬ ¬ _ from fun z => z c1)]
        by_cases c2 : t % (d + 1) = 0
        · rw [if_pos c2, if_neg (show ¬ ¬ _ from fun z => z c2)]
          rfl
        · rw [if_neg c2, if_pos c2]
          exact g
      · rw [if_neg c1, if_pos c1]
        exact g
theorem c_cdv {A t : Nat} (hA : A ≤ 100000) (h0 : 0 < t) (ht : t ≤ 20) : F_C_commonDivisor (Lg (A : Int)) (I t) h = some (I ((Nat.gcd A t : Nat) : Int), h) := by
  have g := l_cdv (h := h) hA ht t 5000 ht (by omega)
  rw [cdv_gcd h0] at g
  exact g
theorem l_gcd : ∀ n y x : Nat, x ≤ 100000 → y ≤ 100000 → y < n → L_M_divisor_6 n (Lg (x : Int)) (Lg (y : Int)) h = some (Lg ((Nat.gcd x y : Nat) : Int), h) := by
  intro n
  induction n with
  | zero => intro y x h1 h2 h3; omega
  | succ n ih =>
    intro y x h1 h2 h3
    have ey : (Lg (y : Int) = Lg 0) = (y = 0) := by
      rw [Lg_eq (by omega) (by omega) (by omega) (by omega)]
      exact propext ⟨fun q => by omega, fun q => by omega⟩
    by_cases c : y = 0
    · subst c
      have e0 : (Lg ((0 : Nat) : Int) = Lg 0) = True := eq_true rfl
      simp only [L_M_divisor_6, zero_I, lcz, e0, if_true, Nat.gcd_zero_right]
    · have nz : ¬ Lg (y : Int) = Lg 0 := by rw [ey]; exact c
      have ml : x % y < y := Nat.mod_lt _ (by omega)
      have g := ih (x % y) y h2 (by omega) (by omega)
      have eg : Nat.gcd y (x % y) = Nat.gcd x y := by rw [Nat.gcd_comm y (x % y), ← Nat.gcd_rec, Nat.gcd_comm]
      rw [eg] at g
      have er : lrem (Lg (x : Int)) (Lg (y : Int)) = Lg ((x % y : Nat) : Int) := by
        rw [Lg_rem (by omega) (by omega) (by omega) (by omega)]
        rfl
      simp only [L_M_divisor_6, zero_I, lcz, ey, if_neg c, lz, cd_t c, er]
      exact g
theorem m_gcd {A t : Nat} (hA : A ≤ 100000) (ht : t ≤ 20) : F_M_divisor (Lg (A : Int)) (Lg (t : Int)) h = some (Lg ((Nat.gcd A t : Nat) : Int), h) := by
  have g := l_gcd (h := h) 5000 t A hA (by omega) (by omega)
  simp only [F_M_divisor, g, bd_s]
theorem q_cat {S : SS} (J : InvS S) {y z u v : Int} (e2 : i32 y) (e3 : i32 z) (e4 : i32 u) (e5 : i32 v) : Q2 S (F_C_cat (I y) (I z) (I u) (I v)) (F_M_cat (I y) (I z) (I u) (I v)) := by
  have K := is_h J
  have c0 : i32 2 := ⟨by omega, by omega⟩
  have c20 : i32 20 := ⟨by omega, by omega⟩
  obtain ⟨l4, g4⟩ := id e4
  obtain ⟨l5, g5⟩ := id e5
  by_cases hn : inW (sN S) y ∧ inP (sN S) z
  · obtain ⟨hy, hz⟩ := id hn
    obtain ⟨w, hw, rfl⟩ := nn hy
    obtain ⟨p, hp, rfl⟩ := nn hz
    obtain ⟨j1, j2, j3, j4, j5, j6⟩ := id K
    have q1 := sumT_b K w p (nB (sN S))
    by_cases h0 : 2 ≤ u
    · by_cases h1 : u ≤ 20
      · by_cases hu : 0 ≤ v ∧ v ≤ 1
        · obtain ⟨t, rfl⟩ : ∃ t : Nat, u = t := ⟨u.toNat, by omega⟩
          have q2 := mul20 q1.1 (show _ ≤ (3000 : Int) by omega) (show 0 ≤ (t : Int) + 1 by omega) (by omega)
          obtain ⟨A, hA⟩ : ∃ A : Nat, sumT (sN S) w p (nB (sN S)) * ((t : Int) + 1) = A := ⟨(sumT (sN S) w p (nB (sN S)) * ((t : Int) + 1)).toNat, by omega⟩
          rw [hA] at q2
          have gt0 : 0 < Nat.gcd A t := Nat.gcd_pos_of_pos_right A (by omega)
          have gt1 : Nat.gcd A t ≤ t := Nat.le_of_dvd (by omega) (Nat.gcd_dvd_right A t)
          obtain ⟨G, hG⟩ : ∃ G, G = Nat.gcd A t := ⟨_, rfl⟩
          rw [← hG] at gt0 gt1
          have gz : ¬ I (G : Int) = I 0 := by rw [I_eq (by omega) (by omega) (by omega) (by omega)]; omega
          have gzL : ¬ Lg (G : Int) = Lg 0 := by rw [Lg_eq (by omega) (by omega) (by omega) (by omega)]; omega
          have tG : (t : Int) / (G : Int) ≤ (t : Int) := Int.ediv_le_self _ (by omega)
          have tG0 : 0 ≤ (t : Int) / (G : Int) := Int.ediv_nonneg (by omega) (by omega)
          have cg := fun h : MH => c_cdv (h := h) (A := A) (t := t) (by omega) (by omega) (by omega)
          have mg := fun h : MH => m_gcd (h := h) (A := A) (t := t) (by omega) (by omega)
          rw [← hG] at cg mg
          refine q_pl (if ¬ v = 0 then Lg ((t : Int) / (G : Int)) else Lg ((A : Int) / (G : Int))) 0 (by omega) (fun h R => ?_) (fun h R => ?_)
          · have R := rc_h R
            simp (disch := omega) only [F_C_cat, c_cat_t R K e4 hy hz, if_pos h0, if_pos h1, bd_s, kw_s, zero_I, not_true, if_false, c_other_t hu.1 hu.2 (show (1 : Int) < 2147483648 by omega), if_true, c_all R K hw hp, I_add, toI64, Lg_mul, hA, cg, I_eq]
            by_cases c : v = 0
            · rw [if_neg (show ¬ ¬ _ from fun z => z c), if_neg (show ¬ ¬ _ from fun z => z c), lz, cd_t gzL, Lg_div (by omega) (by omega) (by omega) (by omega)]
              rfl
            · rw [if_pos c, if_pos c, cd_t (by omega), I_div (by omega) (by omega) (by omega) (by omega), toI64 (by omega) (by omega)]
              rfl
          · have R := rm_h R
            have eA : (Lg (A : Int) = Lg 0) = (A = 0) := by
              rw [Lg_eq (by omega) (by omega) (by omega) (by omega)]
              exact propext ⟨fun q => by omega, fun q => by omega⟩
            simp (disch := omega) only [F_M_cat, setT_d, hw_s, m_isWay_t R K hy.1 hy.2, m_isOne_t R K hz.1 hz.2, kw_s, bd_s, zero_I, one_ne, oz, if_false, m_num e4 c0 c20, if_pos h0, if_pos h1, m_bit_t hu.1 hu.2 (show (1 : Int) < 2147483648 by omega), le00, if_true, m_all R K hw hp, I_add, toI64, Lg_mul, hA, lcz, eA, mg, lz, cd_t gzL, Lg_div, I_eq]
            by_cases c : A = 0
            · rw [if_neg (show ¬ ¬ _ from fun z => z c)]
              have e1 : G = t := by rw [hG, c, Nat.gcd_zero_left]
              rw [e1, c]
              by_cases c2 : v = 0
              · rw [if_neg (show ¬ ¬ _ from fun z => z c2), c2]
                show some (Lg 0, setT h) = some (Lg (((0 : Nat) : Int) / (t : Int)), refM 0 (setT h))
                rw [show (((0 : Nat) : Int) / (t : Int)) = 0 from Int.zero_ediv _]
                rfl
              · rw [if_pos c2, Int.ediv_self (by omega), show v = 1 by omega]
                rfl
            · rw [if_pos c]
              by_cases c2 : v = 0
              · rw [if_neg (show ¬ ¬ _ from fun z => z c2), if_neg (show ¬ ¬ _ from fun z => z c2)]
                rfl
              · rw [if_pos c2, if_pos c2]
                rfl
        · refine q_pl (Lg 4000000000000000000 - Int32.toInt64 (I (-2))) 2 (by omega) (fun h R => ?_) (fun h R => ?_)
          · have R := rc_h R
            simp only [F_C_cat, c_cat_t R K e4 hy hz, if_pos h0, if_pos h1, bd_s, kw_s, zero_I, not_true, if_false, c_other_f l5 g5 (show (0:Int) ≤ 1 by omega) (by omega) hu, one_ne, emm2, c_ref2]
          · have R := rm_h R
            simp only [F_M_cat, setT_d, hw_s, m_isWay_t R K hy.1 hy.2, m_isOne_t R K hz.1 hz.2, kw_s, bd_s, zero_I, one_ne, if_false, m_num e4 c0 c20, if_pos h0, if_pos h1, m_bit_f e5 (show (0:Int) ≤ 1 by omega) (by omega) hu, lm2, m_ref2]
      · refine q_pl (Lg 4000000000000000000 - Int32.toInt64 (I (-6))) 6 (by omega) (fun h R => ?_) (fun h R => ?_)
        · have R := rc_h R
          simp only [F_C_cat, c_cat_t R K e4 hy hz, if_pos h0, if_neg h1, bd_s, kw_s, zero_I, emm6, not_false_iff, if_true, if_false, c_ref6]
        · have R := rm_h R
          simp only [F_M_cat, setT_d, hw_s, m_isWay_t R K hy.1 hy.2, m_isOne_t R K hz.1 hz.2, kw_s, bd_s, zero_I, one_ne, if_false, m_num e4 c0 c20, if_pos h0, if_neg h1, m_bit_n (show (-7:Int) < -6 by omega) (show (-6:Int) < 0 by omega), lm6, m_ref6]
    · refine q_pl (Lg 4000000000000000000 - Int32.toInt64 (I (-4))) 4 (by omega) (fun h R => ?_) (fun h R => ?_)
      · have R := rc_h R
        simp only [F_C_cat, c_cat_t R K e4 hy hz, if_neg h0, bd_s, kw_s, zero_I, emm4, not_false_iff, if_true, if_false, c_ref4]
      · have R := rm_h R
        simp only [F_M_cat, setT_d, hw_s, m_isWay_t R K hy.1 hy.2, m_isOne_t R K hz.1 hz.2, kw_s, bd_s, zero_I, one_ne, if_false, m_num e4 c0 c20, if_neg h0, m_bit_n (show (-7:Int) < -4 by omega) (show (-4:Int) < 0 by omega), lm4, m_ref4]
  · refine q_pl (Lg 4000000000000000000 - Int32.toInt64 (I (-1))) 1 (by omega) (fun h R => ?_) (fun h R => ?_)
    · simp only [F_C_cat, c_cat_n (rc_h R) K e2 e3 hn, bd_s, kw_s, zero_I, emm1, not_false_iff, if_true, if_false, c_ref1]
    · have R := rm_h R
      by_cases hy : inW (sN S) y
      · have hz : ¬ inP (sN S) z := fun q => hn ⟨hy, q⟩
        simp only [F_M_cat, setT_d, hw_s, m_isWay_t R K hy.1 hy.2, m_isOne_f R K e3.1 e3.2 hz, kw_s, bd_s, zero_I, one_ne, if_false, if_true, m_bit_n (show (-7:Int) < -1 by omega) (show (-1:Int) < 0 by omega), lm1, m_ref1]
      · simp only [F_M_cat, setT_d, hw_s, m_isWay_f R K e2.1 e2.2 hy, kw_s, bd_s, zero_I, if_true, m_bit_n (show (-7:Int) < -1 by omega) (show (-1:Int) < 0 by omega), lm1, if_false, m_ref1]
end CAT
