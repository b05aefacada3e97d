-- 47 teach
def skP (a : HS) (p : Nat) : Int := if hS a p + 1 ≤ 9 then hS a p + 1 else 9
def tcV (a : HS) (p : Nat) : Int := shV (setS a p (skP a p))
def tc (V : Nat → Int) : Nat → Nat → Int × Int → Int × Int
  | 0, _, t => t
  | d + 1, i, t => tc V d (i + 1) (if t.2 ≤ V i then t else (((i : Nat) : Int), V i))
theorem skP_b {a : HS} (J : InvH a) (p : Nat) : 0 ≤ skP a p ∧ skP a p ≤ 9 := by
  have := J.2.2.2.2.1 p
  unfold skP
  split <;> omega
theorem tcV_b {a : HS} (J : InvH a) (hw : 0 < nW a) (hp : 0 < nP a) (p : Nat) : 0 ≤ tcV a p ∧ tcV a p < 1000000000 := by
  have q := skP_b J p
  obtain ⟨b, b1, b2, b3, -⟩ := shr_fin (invS J (p := p) q.1 q.2) hw hp
  exact ⟨b2, b3⟩
section TCH
variable {a : HS} {h : MH}
theorem RepH_S (R : RepH 8 a h.1) {p : Nat} {v : Int} : RepH 8 (setS a p v) (mm_hset h.1 12 p (I v)) := by
  obtain ⟨t1, t2, t3, t4, t5, t6, t7, t8, t9, t10⟩ := R
  refine ⟨by simp (disch := omega) only [hs_ne]; exact t1, by simp (disch := omega) only [hs_ne]; exact t2, by simp (disch := omega) only [hs_ne]; exact t3, by simp (disch := omega) only [hs_ne]; exact t4, fun b hb => by simp (disch := omega) only [hs_ne]; exact t5 b hb, fun b hb => by simp (disch := omega) only [hs_ne]; exact t6 b hb, fun i hi => by simp (disch := omega) only [hs_ne]; exact t7 i hi, fun i hi => ?_, fun i hi => by simp (disch := omega) only [hs_ne]; exact t9 i hi, fun i hi => by simp (disch := omega) only [hs_ne]; exact t10 i hi⟩
  show _ = I (hS (setS a p v) i)
  rw [setS_S]
  by_cases c : i = p
  · rw [if_pos c, c]
    exact hs_eq
  · rw [if_neg c]
    exact (hs_ne (by omega)).trans (t8 i hi)
theorem RepM_S (R : RepM a h.1) {p : Nat} {v : Int} : RepM (setS a p v) (mm_hset h.1 58 p (I v)) := by
  obtain ⟨t1, t2, t3, t4, t5, t6, t7, t8, t9, t10⟩ := R
  refine ⟨by simp (disch := omega) only [hs_ne]; exact t1, by simp (disch := omega) only [hs_ne]; exact t2, by simp (disch := omega) only [hs_ne]; exact t3, by simp (disch := omega) only [hs_ne]; exact t4, fun b hb => by simp (disch := omega) only [hs_ne]; exact t5 b hb, fun i hi => by simp (disch := omega) only [hs_ne]; exact t6 i hi, fun i hi => ?_, fun i hi => by simp (disch := omega) only [hs_ne]; exact t8 i hi, fun i hi => by simp (disch := omega) only [hs_ne]; exact t9 i hi, fun i hi => by simp (disch := omega) only [hs_ne]; exact t10 i hi⟩
  show _ = I (hS (setS a p v) i)
  rw [setS_S]
  by_cases c : i = p
  · rw [if_pos c, c]
    exact hs_eq
  · rw [if_neg c]
    exact (hs_ne (by omega)).trans (t7 i hi)
theorem l_tcC (J : InvH a) (hw : 0 < nW a) (hp : 0 < nP a) : ∀ (d i m : Nat) (t : Int × Int) (h : MH), i + d = nP a → d < m → 0 ≤ t.2 → t.2 ≤ 1000000000 → RepH 8 a h.1 →
    ∃ h', L_C_teach_37 m (I t.1) (I t.2) (I i) h = some (I (tc (tcV a) d i t).1, h') ∧ ScC h h' := by
  obtain ⟨j1, j2, j3, j4, j5, j6⟩ := id J
  intro d
  induction d with
  | zero =>
    intro i m t h e hm b1 b2 R
    obtain ⟨m, rfl⟩ := sfuel hm
    refine ⟨h, ?_, ScC_rfl h⟩
    simp (disch := omega) only [L_C_teach_37, rn_p R, I_le]
    rw [if_pos (by omega)]
    rfl
  | succ d ih =>
    intro i m t h e hm b1 b2 R
    obtain ⟨m, rfl⟩ := sfuel hm
    have hi : i < nP a := by omega
    have si := j5 i
    have sb := skP_b J i
    have tb := tcV_b J hw hp i
    obtain ⟨h1, b, -, -, p1, p2, -, -⟩ := c_share (h := (mm_hset h.1 12 i (I (skP a i)), h.2)) (invS J (p := i) sb.1 sb.2) hw hp (RepH_S R)
    have p1' : F_C_shareBeds (mm_hset h.1 12 i (I (skP a i)), h.2) = some (I (tcV a i), h1) := p1
    have fr : ScC h (mm_hset h1.1 12 i (I (hS a i)), h1.2) := by
      refine ⟨p2.1, fun k j s => ?_⟩
      show mm_hset h1.1 12 i (I (hS a i)) k j = h.1 k j
      by_cases c : k = 12 ∧ j = i
      · rw [c.1, c.2, hs_eq]
        exact (rn_s R hi).symm
      · rw [hs_ne c, p2.2 k j s]
        exact hs_ne c
    obtain ⟨h', q1, q2⟩ := ih (i + 1) m (if t.2 ≤ tcV a i then t else (((i : Nat) : Int), tcV a i)) _ (by omega) (by omega) (by split <;> (try simp only) <;> omega) (by split <;> (try simp only) <;> omega) (RepH_Sc R fr)
    refine ⟨h', ?_, ScC_tr fr q2⟩
    have es : (if I (hS a i) + I 1 < I 9 then I (hS a i) + I 1 else I 9) = I (skP a i) := by
      simp (disch := omega) only [I_add, I_lt, I_ite]
      congr 1
      unfold skP
      split <;> split <;> omega
    simp (disch := omega) only [L_C_teach_37, rn_p R, I_le, if_neg (show ¬ ((nP a : Int) ≤ (i : Int)) by omega), ck_in, I_nat, Int.toNat_natCast, rn_s R hi, es, iw_s, hw_s, p1', bd_s, I_ite, I_succ]
    show _ = some (I (tc (tcV a) d (i + 1) (if t.2 ≤ tcV a i then t else (((i : Nat) : Int), tcV a i))).1, h')
    rw [← q1]
    by_cases c : t.2 ≤ tcV a i
    · simp only [c, if_true]
    · simp only [c, if_false]
theorem l_tcM (J : InvH a) (hw : 0 < nW a) (hp : 0 < nP a) : ∀ (d i m : Nat) (t : Int × Int) (h : MH), i + d = nP a → d < m → 0 ≤ t.2 → t.2 ≤ 1000000000 → RepM a h.1 →
    ∃ h', L_M_teach_36 m (I t.2) (I t.1) (I i) h = some (I (tc (tcV a) d i t).1, h') ∧ Fr73 h h' := by
  obtain ⟨j1, j2, j3, j4, j5, j6⟩ := id J
  intro d
  induction d with
  | zero =>
    intro i m t h e hm b1 b2 R
    obtain ⟨m, rfl⟩ := sfuel hm
    refine ⟨h, ?_, Fr73_rfl h⟩
    simp (disch := omega) only [L_M_teach_36, rm_p R, I_le]
    rw [if_pos (by omega)]
    rfl
  | succ d ih =>
    intro i m t h e hm b1 b2 R
    obtain ⟨m, rfl⟩ := sfuel hm
    have hi : i < nP a := by omega
    have si := j5 i
    have sb := skP_b J i
    have tb := tcV_b J hw hp i
    obtain ⟨h1, p1, p2⟩ := m_share (h := (mm_hset h.1 58 i (I (skP a i)), h.2)) (invS J (p := i) sb.1 sb.2) hw hp (RepM_S R)
    have p1' : F_M_leastShared (mm_hset h.1 58 i (I (skP a i)), h.2) = some (I (tcV a i), h1) := p1
    have fr : Fr73 h (mm_hset h1.1 58 i (I (hS a i)), h1.2) := by
      refine ⟨p2.1, fun k s => ?_⟩
      funext j
      show mm_hset h1.1 58 i (I (hS a i)) k j = h.1 k j
      by_cases c : k = 58 ∧ j = i
      · rw [c.1, c.2, hs_eq]
        exact (rm_s R hi).symm
      · rw [hs_ne c, p2.2 k s]
        exact hs_ne c
    obtain ⟨h', q1, q2⟩ := ih (i + 1) m (if t.2 ≤ tcV a i then t else (((i : Nat) : Int), tcV a i)) _ (by omega) (by omega) (by split <;> (try simp only) <;> omega) (by split <;> (try simp only) <;> omega) (RepM_73 R fr)
    refine ⟨h', ?_, Fr73_tr fr q2⟩
    have es : F_M_atMost (I (hS a i) + I 1) (I 9) h = some (I (skP a i), h) := by
      rw [I_add]
      exact m_most (by omega) (by omega) (by omega) (by omega)
    simp (disch := omega) only [L_M_teach_36, rm_p R, I_le, if_neg (show ¬ ((nP a : Int) ≤ (i : Int)) by omega), ck_in, I_nat, Int.toNat_natCast, rm_s R hi, es, iw_s, hw_s, p1', bd_s, I_ite, I_succ]
    show _ = some (I (tc (tcV a) d (i + 1) (if t.2 ≤ tcV a i then t else (((i : Nat) : Int), tcV a i))).1, h')
    rw [← q1]
    by_cases c : t.2 ≤ tcV a i
    · simp only [c, if_true]
    · simp only [c, if_false]
end TCH
theorem q_teach {S : SS} (J : InvS S) : Q2 S F_C_teach F_M_teach := by
  have K := is_h J
  obtain ⟨j1, j2, j3, -⟩ := id K
  by_cases hp : nP (sN S) = 0
  · refine q_pl (I (-3)) 3 (by omega) (fun h R => ?_) (fun h R => ?_)
    · simp (disch := omega) only [F_C_teach, rn_p (rc_h R), zero_I, I_eq, if_pos (show (nP (sN S) : Int) = 0 by omega), c_ref3, bd_s]
    · simp (disch := omega) only [F_M_teach, setT_d, hw_s, rm_p (rm_h R), zero_I, I_eq, if_pos (show (nP (sN S) : Int) = 0 by omega), m_ref3, bd_s]
  · by_cases hw : nW (sN S) = 0
    · refine q_pl (I (-3)) 3 (by omega) (fun h R => ?_) (fun h R => ?_)
      · simp (disch := omega) only [F_C_teach, rn_p (rc_h R), rn_w (rc_h R), zero_I, I_eq, if_neg (show ¬ (nP (sN S) : Int) = 0 by omega), if_neg (show ¬ ¬ (nW (sN S) : Int) = 0 by omega), c_ref3, bd_s]
      · simp (disch := omega) only [F_M_teach, setT_d, hw_s, rm_p (rm_h R), rm_w (rm_h R), zero_I, I_eq, if_neg (show ¬ (nP (sN S) : Int) = 0 by omega), if_neg (show ¬ ¬ (nW (sN S) : Int) = 0 by omega), m_ref3, bd_s]
    · have hp' : 0 < nP (sN S) := by omega
      have hw' : 0 < nW (sN S) := by omega
      obtain ⟨b, b1, b2, b3, -, -⟩ := shr_fin K hw' hp'
      refine ⟨(I (tc (tcV (sN S)) (nP (sN S)) 0 (-9, shV (sN S))).1, 0), by show 0 < 7; omega, fun h R => ?_, fun h R => ?_⟩
      · have R := rc_h R
        obtain ⟨h1, b', -, -, p1, p2, -, -⟩ := c_share K hw' hp' R
        obtain ⟨h', q1, q2⟩ := l_tcC K hw' hp' (nP (sN S)) 0 5000 (-9, shV (sN S)) h1 (by omega) (by omega) b2 (by simp only; omega) (RepH_Sc R p2)
        have q1' : L_C_teach_37 5000 (I (-9)) (I (shV (sN S))) (I 0) h1 = _ := q1
        refine ⟨h', ?_, ScC_tr p2 q2⟩
        simp (disch := omega) only [F_C_teach, rn_p R, rn_w R, zero_I, I_eq, if_neg (show ¬ (nP (sN S) : Int) = 0 by omega), if_pos (show ¬ (nW (sN S) : Int) = 0 by omega), p1, bd_s, q1']
      · have R := rm_h (RM_Sc R (ScM_setT h))
        obtain ⟨h1, p1, p2⟩ := m_share K hw' hp' R
        obtain ⟨h', q1, q2⟩ := l_tcM K hw' hp' (nP (sN S)) 0 5000 (-9, shV (sN S)) h1 (by omega) (by omega) b2 (by simp only; omega) (RepM_73 R p2)
        have q1' : L_M_teach_36 5000 (I (shV (sN S))) (I (-9)) (I 0) h1 = _ := q1
        refine ⟨h', ?_, ScM_73 (Fr73_tr p2 q2)⟩
        simp (disch := omega) only [F_M_teach, setT_d, hw_s, rm_p R, rm_w R, zero_I, I_eq, if_neg (show ¬ (nP (sN S) : Int) = 0 by omega), if_pos (show ¬ (nW (sN S) : Int) = 0 by omega), p1, bd_s, q1']
