-- 21 covers, 24 order, 23 learned: both sides
theorem Fil8 {n : Nat} {C : Nat → Nat → Int} {h h' : MH} (F : Fil n 0 C h h') (i : Nat) : h'.1 8 i = h.1 8 i := by rw [F.2.2 8 (by omega)]
theorem q_covers {S : SS} (J : InvS S) {y x : Int} (e2 : i32 y) (e1 : i32 x) : Q2 S (F_C_covers (I y) (I x)) (F_M_covers (I y) (I x)) := by
  have K := is_h J
  have j1 := K.1
  obtain ⟨l1, g1⟩ := id e1
  have fb := fc_b ⟨nB (sN S), by omega⟩
  simp only at fb
  by_cases hy : inW (sN S) y
  · by_cases h0 : -1 ≤ x
    · obtain ⟨w, hw, rfl⟩ := nn hy
      obtain ⟨b, v, hb, v0, v1, fm, fo⟩ := ord_fin (n := nB (sN S)) j1 (coC_b K w)
      refine ⟨(I (ansO (nB (sN S)) (lyL (nB (sN S)) b) v x), 0), by show 0 < 7; omega, fun h R => ?_, fun h R => ?_⟩
      · have R := rc_h R
        obtain ⟨h1, p1, F⟩ := l_cvC2 K hw (x2 := I x) (nB (sN S)) 0 5000 h (by omega) (by omega) R
        have p1' : L_C_covers_28 (I w) (I x) 5000 (I 0) h = some h1 := p1
        obtain ⟨h', q1, q2⟩ := c_fin j1 (coC_b K w) v1 fo F e1 h0
        refine ⟨h', ?_, q2⟩
        simp (disch := omega) only [F_C_covers, c_noWay_t R K hy.1 hy.2, bd_s, zero_I, if_true, I_le, if_pos h0, p1', Fil8 F, rn_b R]
        exact q1
      · have R := rm_h (RM_Sc R (ScM_setT h))
        obtain ⟨h1, p1, F⟩ := l_cvM K hw (x2 := I x) (fc (nB (sN S))) 0 5000 (0, -1) (setT h) (by omega) (by omega) (by unfold sml; simp only; omega) R
        rw [fm] at p1
        have p1' : L_M_covers_57 (I w) (I x) (I ((fc (nB (sN S)) : Nat) : Int)) 5000 (I 0) (I (-1)) (I 0) (setT h) = some (I b, I v, h1) := p1
        obtain ⟨h', q1, q2⟩ := m_fin K (RepM_72 R F) hb (v := v) e1 h0
        refine ⟨h', ?_, ScM_72 (Fr72_tr F q2)⟩
        simp (disch := omega) only [F_M_covers, setT_d, hw_s, m_isWay_t R K hy.1 hy.2, bd_s, zero_I, one_ne, not_false_iff, if_true, I_le, if_pos h0, iw_s, le00, rm_b R, m_fc j1, p1']
        simp (disch := omega) only [zero_I, I_le] at q1
        exact q1
    · refine q_pl (I (-4)) 4 (by omega) (fun h R => ?_) (fun h R => ?_)
      · simp (disch := omega) only [F_C_covers, c_noWay_t (rc_h R) K hy.1 hy.2, bd_s, zero_I, if_true, I_le, if_neg h0, c_ref4]
      · simp (disch := omega) only [F_M_covers, setT_d, hw_s, m_isWay_t (rm_h R) K hy.1 hy.2, bd_s, zero_I, one_ne, not_false_iff, if_true, I_le, if_neg h0, iw_s, lm4, if_false, m_ref4]
        rw [if_neg (by omega)]
  · refine q_pl (I (-1)) 1 (by omega) (fun h R => ?_) (fun h R => ?_)
    · simp only [F_C_covers, c_noWay_f (rc_h R) K e2.1 e2.2 hy, bd_s, zero_I, one_ne, if_false, c_ref1]
    · simp only [F_M_covers, setT_d, hw_s, m_isWay_f (rm_h R) K e2.1 e2.2 hy, bd_s, zero_I, not_true, if_false, iw_s, lm1, m_ref1]
theorem q_order {S : SS} (J : InvS S) {y z x : Int} (e2 : i32 y) (e3 : i32 z) (e1 : i32 x) : Q2 S (F_C_order (I y) (I z) (I x)) (F_M_order (I y) (I z) (I x)) := by
  have K := is_h J
  have j1 := K.1
  obtain ⟨l1, g1⟩ := id e1
  have fb := fc_b ⟨nB (sN S), by omega⟩
  simp only at fb
  by_cases hy : inW (sN S) y
  · by_cases hz : inP (sN S) z
    · by_cases h0 : -1 ≤ x
      · obtain ⟨w, hw, rfl⟩ := nn hy
        obtain ⟨p, hp, rfl⟩ := nn hz
        obtain ⟨b, v, hb, v0, v1, fm, fo⟩ := ord_fin (n := nB (sN S)) j1 (lnC_b K w p)
        refine ⟨(I (ansO (nB (sN S)) (lyL (nB (sN S)) b) v x), 0), by show 0 < 7; omega, fun h R => ?_, fun h R => ?_⟩
        · have R := rc_h R
          obtain ⟨h1, p1, F⟩ := l_orC2 K hw hp (x3 := I x) (nB (sN S)) 0 5000 h (by omega) (by omega) R
          have p1' : L_C_order_37 (I w) (I p) (I x) 5000 (I 0) h = some h1 := p1
          obtain ⟨h', q1, q2⟩ := c_fin j1 (lnC_b K w p) v1 fo F e1 h0
          refine ⟨h', ?_, q2⟩
          simp (disch := omega) only [F_C_order, c_noWay_t R K hy.1 hy.2, c_noOne_t R K hz.1 hz.2, bd_s, zero_I, not_true, if_false, if_true, I_le, if_pos h0, p1', Fil8 F, rn_b R]
          exact q1
        · have R := rm_h (RM_Sc R (ScM_setT h))
          obtain ⟨h1, p1, F⟩ := l_orM K hw hp (x3 := I x) (fc (nB (sN S))) 0 5000 (0, -1) (setT h) (by omega) (by omega) (by unfold sml; simp only; omega) R
          rw [fm] at p1
          have p1' : L_M_order_68 (I w) (I p) (I x) (I ((fc (nB (sN S)) : Nat) : Int)) 5000 (I 0) (I (-1)) (I 0) (setT h) = some (I b, I v, h1) := p1
          obtain ⟨h', q1, q2⟩ := m_fin K (RepM_72 R F) hb (v := v) e1 h0
          refine ⟨h', ?_, ScM_72 (Fr72_tr F q2)⟩
          simp (disch := omega) only [F_M_order, setT_d, hw_s, m_isWay_t R K hy.1 hy.2, m_isOne_t R K hz.1 hz.2, bd_s, kw_s, zero_I, one_ne, not_false_iff, if_true, if_false, I_le, if_pos h0, le00, rm_b R, m_fc j1, p1']
          simp (disch := omega) only [zero_I, I_le] at q1
          exact q1
      · refine q_pl (I (-4)) 4 (by omega) (fun h R => ?_) (fun h R => ?_)
        · simp (disch := omega) only [F_C_order, c_noWay_t (rc_h R) K hy.1 hy.2, c_noOne_t (rc_h R) K hz.1 hz.2, bd_s, zero_I, not_true, if_false, if_true, I_le, if_neg h0, c_ref4]
        · simp (disch := omega) only [F_M_order, setT_d, hw_s, m_isWay_t (rm_h R) K hy.1 hy.2, m_isOne_t (rm_h R) K hz.1 hz.2, bd_s, kw_s, zero_I, one_ne, not_false_iff, if_true, if_false, I_le, if_neg h0, lm4, m_ref4]
          rw [if_neg (by omega)]
    · refine q_pl (I (-1)) 1 (by omega) (fun h R => ?_) (fun h R => ?_)
      · simp only [F_C_order, c_noWay_t (rc_h R) K hy.1 hy.2, c_noOne_f (rc_h R) K e3.1 e3.2 hz, bd_s, zero_I, not_true, one_ne, if_false, c_ref1]
      · simp only [F_M_order, setT_d, hw_s, m_isWay_t (rm_h R) K hy.1 hy.2, m_isOne_f (rm_h R) K e3.1 e3.2 hz, bd_s, kw_s, zero_I, not_true, one_ne, if_false, lm1, m_ref1]
  · refine q_pl (I (-1)) 1 (by omega) (fun h R => ?_) (fun h R => ?_)
    · simp only [F_C_order, c_noWay_f (rc_h R) K e2.1 e2.2 hy, bd_s, zero_I, one_ne, not_false_iff, if_true, c_ref1]
    · simp only [F_M_order, setT_d, hw_s, m_isWay_f (rm_h R) K e2.1 e2.2 hy, bd_s, kw_s, zero_I, if_true, if_false, lm1, m_ref1]
theorem ly0_dec : ∀ n : Fin 7, lyL n 0 = List.range n := by decide +kernel
theorem ly0_get {n j : Nat} (hn : n ≤ 6) (hj : j < n) : (lyL n 0).getD j 0 = j := by
  have e : lyL n 0 = List.range n := ly0_dec ⟨n, by omega⟩
  rw [e, List.getD_eq_getElem?_getD, List.getElem?_range hj]
  rfl
theorem sF_cg {C : Nat → Nat → Int} {o o' : Nat → Nat} {n : Nat} (e : ∀ j, j < n → o j = o' j) : ∀ (d k : Nat) (s : Int), k + d = n → sF C o d k s = sF C o' d k s := by
  intro d
  induction d with
  | zero => intro k s h; rfl
  | succ d ih =>
    intro k s h
    show sF C o d (k + 1) (s + C k (o k)) = sF C o' d (k + 1) (s + C k (o' k))
    rw [e k (by omega)]
    exact ih (k + 1) _ (by omega)
section LRN
variable {a : HS} {h : MH}
theorem l_lrC (R : RepH 8 a h.1) (J : InvH a) {w p : Nat} (hw : w < nW a) (hp : p < nP a) : ∀ (d k n : Nat) (s : Int), k + d = nB a → d < n → L_C_learned_27 (I w) (I p) n (I s) (I k) h = some (I (sF (lnC a w p) (fun j => j) d k s), h) := by
  obtain ⟨j1, j2, j3, j4, j5, j6⟩ := id J
  intro d
  induction d with
  | zero =>
    intro k n s e hn
    obtain ⟨m, rfl⟩ := sfuel hn
    obtain rfl : k = nB a := by omega
    simp (disch := omega) only [L_C_learned_27, rn_b R, I_le, if_pos (Int.le_refl _)]
    rfl
  | succ d ih =>
    intro k n s e hn
    obtain ⟨m, rfl⟩ := sfuel hn
    have g := ih (k + 1) m (s + lnC a w p k k) (by omega) (by omega)
    have f := c_learn R J (b := k) (k := k) (by omega) hw hp (by omega)
    simp (disch := omega) only [L_C_learned_27, rn_b R, I_le, if_neg (show ¬ ((nB a : Int) ≤ (k : Int)) by omega), f, bd_s, I_add]
    exact g
theorem q_learned {S : SS} (J : InvS S) {y z : Int} (e2 : i32 y) (e3 : i32 z) : Q2 S (F_C_learned (I y) (I z)) (F_M_learned (I y) (I z)) := by
  have K := is_h J
  have j1 := K.1
  have fb := fc_b ⟨nB (sN S), by omega⟩
  simp only at fb
  by_cases hy : inW (sN S) y
  · by_cases hz : inP (sN S) z
    · obtain ⟨w, hw, rfl⟩ := nn hy
      obtain ⟨p, hp, rfl⟩ := nn hz
      refine ⟨(I (sF (lnC (sN S) w p) (fun j => j) (nB (sN S)) 0 0), 0), by show 0 < 7; omega, fun h R => ?_, fun h R => ?_⟩
      · have R := rc_h R
        have g : L_C_learned_27 (I w) (I p) 5000 (I 0) (I 0) h = _ := l_lrC R K hw hp (nB (sN S)) 0 5000 0 (by omega) (by omega)
        refine ⟨h, ?_, ScC_rfl h⟩
        simp only [F_C_learned, c_noWay_t R K hy.1 hy.2, c_noOne_t R K hz.1 hz.2, bd_s, zero_I, not_true, if_false, if_true, g]
      · have R := rm_h (RM_Sc R (ScM_setT h))
        obtain ⟨h1, p1, p2, p3, p4⟩ := m_lay (k := 0) j1 (by omega) (setT h)
        have p1' : F_M_layOrder (I 0) (I (nB (sN S))) (setT h) = some h1 := p1
        have R1 := RepM_72 R (⟨p2, p4⟩ : Fr72 (setT h) h1)
        have f := m_lnb R1 K (o := fun j => (lyL (nB (sN S)) 0).getD j 0) (fun j hj => ly_get j1 (by omega) hj) p3 hw hp
        rw [sF_cg (o' := fun j => j) (n := nB (sN S)) (fun j hj => ly0_get j1 hj) (nB (sN S)) 0 0 (by omega)] at f
        refine ⟨h1, ?_, ScM_72 ⟨p2, p4⟩⟩
        simp only [F_M_learned, setT_d, hw_s, m_isWay_t R K hy.1 hy.2, m_isOne_t R K hz.1 hz.2, bd_s, zero_I, one_ne, not_false_iff, if_true, if_false, rm_b R, p1', f]
    · refine q_pl (I (-1)) 1 (by omega) (fun h R => ?_) (fun h R => ?_)
      · simp only [F_C_learned, c_noWay_t (rc_h R) K hy.1 hy.2, c_noOne_f (rc_h R) K e3.1 e3.2 hz, bd_s, zero_I, not_true, one_ne, if_false, c_ref1]
      · simp only [F_M_learned, setT_d, hw_s, m_isWay_t (rm_h R) K hy.1 hy.2, m_isOne_f (rm_h R) K e3.1 e3.2 hz, bd_s, zero_I, not_true, one_ne, if_false, m_ref1]
  · refine q_pl (I (-1)) 1 (by omega) (fun h R => ?_) (fun h R => ?_)
    · simp only [F_C_learned, c_noWay_f (rc_h R) K e2.1 e2.2 hy, bd_s, zero_I, one_ne, not_false_iff, if_true, c_ref1]
    · simp only [F_M_learned, setT_d, hw_s, m_isWay_f (rm_h R) K e2.1 e2.2 hy, bd_s, zero_I, if_true, m_ref1]
end LRN
