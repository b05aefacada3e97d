-- 38 swap, 41 line
def sO (C : Nat → Nat → Int) (o : Nat → Nat) : Nat → Int
  | 0 => 0
  | n + 1 => sO C o n + C n (o n)
theorem sF_sO {C : Nat → Nat → Int} {o : Nat → Nat} : ∀ (d k : Nat), sF C o d k (sO C o k) = sO C o (k + d) := by
  intro d
  induction d with
  | zero => intro k; rfl
  | succ d ih =>
    intro k
    have q := ih (k + 1)
    rw [show k + 1 + d = k + (d + 1) by omega] at q
    exact q
theorem sO_upd {C : Nat → Nat → Int} {o o' : Nat → Nat} {p : Nat} (e : ∀ j, ¬ j = p → o' j = o j) : ∀ n, (n ≤ p → sO C o' n = sO C o n) ∧ (p < n → sO C o' n = sO C o n - C p (o p) + C p (o' p)) := by
  intro n
  induction n with
  | zero => exact ⟨fun _ => rfl, fun h => by omega⟩
  | succ n ih =>
    have e1 : sO C o' (n + 1) = sO C o' n + C n (o' n) := rfl
    have e2 : sO C o (n + 1) = sO C o n + C n (o n) := rfl
    rw [e1, e2]
    refine ⟨fun h => ?_, fun h => ?_⟩
    · rw [ih.1 (by omega), e n (by omega)]
    · by_cases c : n = p
      · subst c
        rw [ih.1 (by omega)]
        omega
      · rw [ih.2 (by omega), e n c]
        omega
def swM (C : Nat → Nat → Int) (a b : Nat) : Int := C a b + C b a - C a a - C b b
def swO (a b j : Nat) : Nat := if j = b then a else if j = a then b else j
theorem sw_sum {C : Nat → Nat → Int} {a b n : Nat} (h1 : a < b) (h2 : b < n) : sF C (swO a b) n 0 0 = sF C (fun j => j) n 0 0 + swM C a b := by
  have e1 : sF C (swO a b) n 0 0 = sO C (swO a b) n := by
    have q := sF_sO (C := C) (o := swO a b) n 0
    rwa [show 0 + n = n by omega] at q
  have e2 : sF C (fun j => j) n 0 0 = sO C (fun j => j) n := by
    have q := sF_sO (C := C) (o := fun j => j) n 0
    rwa [show 0 + n = n by omega] at q
  have u1 := (sO_upd (C := C) (o := fun j => j) (o' := fun j => if j = a then b else j) (p := a) (fun j hj => if_neg hj) n).2 (by omega)
  have u2 := (sO_upd (C := C) (o := fun j => if j = a then b else j) (o' := swO a b) (p := b) (fun j hj => by unfold swO; rw [if_neg hj]) n).2 h2
  simp only at u1 u2
  simp only [if_true] at u1
  rw [if_neg (show ¬ b = a by omega)] at u2
  have u3 : swO a b b = a := by unfold swO; rw [if_pos rfl]
  rw [u3] at u2
  rw [e1, e2, u2, u1]
  unfold swM
  omega
def sw1 (M : Nat → Nat → Int) (a : Nat) : Nat → Nat → Int × Int → Int × Int
  | 0, _, t => t
  | d + 1, i, t => sw1 M a d (i + 1) (if t.2 ≤ M a i then t else (10 * (a : Int) + (i : Int), M a i))
def sw2 (M : Nat → Nat → Int) (n : Nat) : Nat → Nat → Int × Int → Int × Int
  | 0, _, t => t
  | d + 1, a, t => sw2 M n d (a + 1) (sw1 M a (n - (a + 1)) (a + 1) t)
def swb (t : Int × Int) : Prop := -9 ≤ t.1 ∧ t.1 ≤ 100 ∧ -2000 ≤ t.2 ∧ t.2 ≤ 2000
theorem sw1_b {M : Nat → Nat → Int} (hM : ∀ a b, -2000 ≤ M a b ∧ M a b ≤ 2000) {a : Nat} (ha : a < 6) : ∀ (d i : Nat) (t : Int × Int), i + d ≤ 6 → swb t → swb (sw1 M a d i t) := by
  intro d
  induction d with
  | zero => intro i t h s; exact s
  | succ d ih =>
    intro i t h s
    refine ih (i + 1) _ (by omega) ?_
    have q := hM a i
    unfold swb
    split
    · exact s
    · simp only; omega
section SWP
variable {a : HS} {h : MH}
theorem swM_b (J : InvH a) (w b c : Nat) : -2000 ≤ swM (coC a w) b c ∧ swM (coC a w) b c ≤ 2000 := by
  have q1 := coC_b J w b c
  have q2 := coC_b J w c b
  have q3 := coC_b J w b b
  have q4 := coC_b J w c c
  unfold swM
  omega
theorem l_swC (R : RepH 8 a h.1) (J : InvH a) {w b : Nat} (hw : w < nW a) (hb : b < nB a) : ∀ (d i n : Nat) (t : Int × Int), i + d = nB a → d < n → swb t → L_C_swap_40 (I w) (I b) n (I t.1) (I t.2) (I i) h = some (I (sw1 (swM (coC a w)) b d i t).1, I (sw1 (swM (coC a w)) b d i t).2, h) := by
  obtain ⟨j1, j2, j3, j4, j5, j6⟩ := id J
  intro d
  induction d with
  | zero =>
    intro i n t e hn s
    obtain ⟨m, rfl⟩ := sfuel hn
    obtain rfl : i = nB a := by omega
    simp (disch := omega) only [L_C_swap_40, rn_b R, I_le, if_pos (Int.le_refl _)]
    rfl
  | succ d ih =>
    intro i n t e hn s
    obtain ⟨m, rfl⟩ := sfuel hn
    have hi : i < nB a := by omega
    obtain ⟨s1, s2, s3, s4⟩ := id s
    have qm := swM_b J w b i
    have g := ih (i + 1) m (if t.2 ≤ swM (coC a w) b i then t else (10 * (b : Int) + (i : Int), swM (coC a w) b i)) (by omega) (by omega) (by
      unfold swb
      split
      · exact s
      · simp only; omega)
    have f1 : F_H_foldsInto (I b) (I i) (I w) h = some (I (coC a w b i), h) := c_into R J hb hi hw
    have f2 : F_H_foldsInto (I i) (I b) (I w) h = some (I (coC a w i b), h) := c_into R J hi hb hw
    have f3 : F_H_foldsBy (I b) (I w) h = some (I (coC a w b b), h) := c_foldsBy R J hb hw
    have f4 : F_H_foldsBy (I i) (I w) h = some (I (coC a w i i), h) := c_foldsBy R J hi hw
    have em : I (coC a w b i + coC a w i b) - I (coC a w b b) - I (coC a w i i) = I (swM (coC a w) b i) := by
      rw [I_sub, I_sub]
      rfl
    simp (disch := omega) only [L_C_swap_40, rn_b R, I_le, if_neg (show ¬ ((nB a : Int) ≤ (i : Int)) by omega), f1, f2, f3, f4, bd_s, em, I_mul, I_add, iw_s]
    show _ = some (I (sw1 (swM (coC a w)) b d (i + 1) _).1, I (sw1 (swM (coC a w)) b d (i + 1) _).2, h)
    rw [← g]
    by_cases c : t.2 ≤ swM (coC a w) b i
    · simp only [if_pos c]
      rfl
    · simp only [if_neg c]
      rfl
theorem l_swC2 (R : RepH 8 a h.1) (J : InvH a) {w : Nat} (hw : w < nW a) : ∀ (d i n : Nat) (t : Int × Int), i + d = nB a → d < n → swb t → L_C_swap_22 (I w) n (I t.1) (I t.2) (I i) h = some (I (sw2 (swM (coC a w)) (nB a) d i t).1, h) := by
  obtain ⟨j1, j2, j3, j4, j5, j6⟩ := id J
  intro d
  induction d with
  | zero =>
    intro i n t e hn s
    obtain ⟨m, rfl⟩ := sfuel hn
    obtain rfl : i = nB a := by omega
    simp (disch := omega) only [L_C_swap_22, rn_b R, I_le, if_pos (Int.le_refl _)]
    rfl
  | succ d ih =>
    intro i n t e hn s
    obtain ⟨m, rfl⟩ := sfuel hn
    have hi : i < nB a := by omega
    have q := l_swC R J hw hi (nB a - (i + 1)) (i + 1) 5000 t (by omega) (by omega) s
    have g := ih (i + 1) m _ (by omega) (by omega) (sw1_b (swM_b J w) (a := i) (by omega) (nB a - (i + 1)) (i + 1) t (by omega) s)
    simp (disch := omega) only [L_C_swap_22, rn_b R, I_le, if_neg (show ¬ ((nB a : Int) ≤ (i : Int)) by omega), I_succ, q, bd_s]
    exact g
theorem l_swM (J : InvH a) {w b : Nat} (hw : w < nW a) (hb : b < nB a) : ∀ (d i n : Nat) (t : Int × Int) (h : MH), i + d = nB a → b < i → d < n → swb t → RepM a h.1 →
    ∃ h', L_M_swap_55 (I w) (I b) n (I (sF (coC a w) (fun j => j) (nB a) 0 0 + t.2)) (I t.1) (I i) h = some (I (sF (coC a w) (fun j => j) (nB a) 0 0 + (sw1 (swM (coC a w)) b d i t).2), I (sw1 (swM (coC a w)) b d i t).1, h') ∧ Fr72 h h' := by
  obtain ⟨j1, j2, j3, j4, j5, j6⟩ := id J
  have fb := fc_b ⟨nB a, by omega⟩
  simp only at fb
  have tb := sF_b (coC_b J w) (o := fun j => j) (nB a) 0 0 (by omega)
  intro d
  induction d with
  | zero =>
    intro i n t h e hbi hn s R
    obtain ⟨m, rfl⟩ := sfuel hn
    refine ⟨h, ?_, Fr72_rfl h⟩
    simp (disch := omega) only [L_M_swap_55, rm_b R, I_le]
    rw [if_pos (by omega)]
    rfl
  | succ d ih =>
    intro i n t h e hbi hn s R
    obtain ⟨m, rfl⟩ := sfuel hn
    have hi : i < nB a := by omega
    obtain ⟨s1, s2, s3, s4⟩ := id s
    have qm := swM_b J w b i
    obtain ⟨h1, p1, p2, p3, p4⟩ := m_lay (k := 0) j1 (by omega) h
    have p1' : F_M_layOrder (I 0) (I (nB a)) h = some h1 := p1
    have fr : Fr72 h (mm_hset (mm_hset h1.1 72 b (I i)) 72 i (I b), h1.2) := ⟨p2, fun k hk => (hrow hk).trans ((hrow hk).trans (p4 k hk))⟩
    have R1 := RepM_72 R fr
    have f := m_fbo R1 J (o := swO b i) (fun j hj => by unfold swO; split <;> (try split) <;> omega) (fun j hj => by
      show mm_hset (mm_hset h1.1 72 b (I i)) 72 i (I b) 72 j = I ((swO b i j : Nat) : Int)
      unfold swO
      by_cases c1 : j = i
      · rw [if_pos c1, c1, hs_eq]
      · rw [if_neg c1, hs_ne (by omega)]
        by_cases c2 : j = b
        · rw [if_pos c2, c2, hs_eq]
        · rw [if_neg c2, hs_ne (by omega), p3 j hj, ly0_get j1 hj]) hw
    rw [sw_sum hbi hi] at f
    obtain ⟨T, hT⟩ : ∃ T, T = sF (coC a w) (fun j => j) (nB a) 0 0 := ⟨_, rfl⟩
    rw [← hT] at f tb ih ⊢
    obtain ⟨h', q1, q2⟩ := ih (i + 1) m (if t.2 ≤ swM (coC a w) b i then t else (10 * (b : Int) + (i : Int), swM (coC a w) b i)) _ (by omega) (by omega) (by omega) (by
      unfold swb
      split
      · exact s
      · simp only; omega) R1
    refine ⟨h', ?_, Fr72_tr fr q2⟩
    simp (disch := omega) only [L_M_swap_55, rm_b R, I_le, if_neg (show ¬ ((nB a : Int) ≤ (i : Int)) by omega), p1', bd_s, ck_in, I_nat, Int.toNat_natCast, hw_s, f, I_mul, I_add, iw_s]
    show _ = some (I (T + (sw1 (swM (coC a w)) b d (i + 1) _).2), I (sw1 (swM (coC a w)) b d (i + 1) _).1, h')
    rw [← q1]
    by_cases c : t.2 ≤ swM (coC a w) b i
    · simp only [if_pos c, if_pos (show T + t.2 ≤ T + swM (coC a w) b i by omega)]
      rfl
    · simp only [if_neg c, if_neg (show ¬ T + t.2 ≤ T + swM (coC a w) b i by omega)]
      rfl
theorem l_swM2 (J : InvH a) {w : Nat} (hw : w < nW a) : ∀ (d i n : Nat) (t : Int × Int) (h : MH), i + d = nB a → d < n → swb t → RepM a h.1 →
    ∃ h', L_M_swap_40 (I w) n (I (sF (coC a w) (fun j => j) (nB a) 0 0 + t.2)) (I t.1) (I i) h = some (I (sw2 (swM (coC a w)) (nB a) d i t).1, h') ∧ Fr72 h h' := by
  obtain ⟨j1, j2, j3, j4, j5, j6⟩ := id J
  intro d
  induction d with
  | zero =>
    intro i n t h e hn s R
    obtain ⟨m, rfl⟩ := sfuel hn
    refine ⟨h, ?_, Fr72_rfl h⟩
    simp (disch := omega) only [L_M_swap_40, rm_b R, I_le]
    rw [if_pos (by omega)]
    rfl
  | succ d ih =>
    intro i n t h e hn s R
    obtain ⟨m, rfl⟩ := sfuel hn
    have hi : i < nB a := by omega
    obtain ⟨h1, p1, p2⟩ := l_swM J hw hi (nB a - (i + 1)) (i + 1) 5000 t h (by omega) (by omega) (by omega) s R
    obtain ⟨h', q1, q2⟩ := ih (i + 1) m _ h1 (by omega) (by omega) (sw1_b (swM_b J w) (a := i) (by omega) (nB a - (i + 1)) (i + 1) t (by omega) s) (RepM_72 R p2)
    refine ⟨h', ?_, Fr72_tr p2 q2⟩
    simp (disch := omega) only [L_M_swap_40, rm_b R, I_le, if_neg (show ¬ ((nB a : Int) ≤ (i : Int)) by omega), I_succ, p1, bd_s]
    exact q1
theorem q_swap {S : SS} (J : InvS S) {y : Int} (e2 : i32 y) : Q2 S (F_C_swap (I y)) (F_M_swap (I y)) := by
  have K := is_h J
  have j1 := K.1
  have fb := fc_b ⟨nB (sN S), by omega⟩
  simp only at fb
  have s0 : swb (-9, 0) := by unfold swb; simp only; omega
  by_cases hy : inW (sN S) y
  · obtain ⟨w, hw, rfl⟩ := nn hy
    refine ⟨(I (sw2 (swM (coC (sN S) w)) (nB (sN S)) (nB (sN S)) 0 (-9, 0)).1, 0), by show 0 < 7; omega, fun h R => ?_, fun h R => ?_⟩
    · have R := rc_h R
      have g : L_C_swap_22 (I w) 5000 (I (-9)) (I 0) (I 0) h = _ := l_swC2 R K hw (nB (sN S)) 0 5000 (-9, 0) (by omega) (by omega) s0
      refine ⟨h, ?_, ScC_rfl h⟩
      simp only [F_C_swap, c_noWay_t R K hy.1 hy.2, bd_s, zero_I, if_true, g]
    · have R := rm_h (RM_Sc R (ScM_setT h))
      obtain ⟨h1, p1, p2, p3, p4⟩ := m_lay (k := 0) j1 (by omega) (setT h)
      have p1' : F_M_layOrder (I 0) (I (nB (sN S))) (setT h) = some h1 := p1
      have fr : Fr72 (setT h) h1 := ⟨p2, p4⟩
      have R1 := RepM_72 R fr
      have f := m_fbo R1 K (o := fun j => (lyL (nB (sN S)) 0).getD j 0) (fun j hj => ly_get j1 (by omega) hj) p3 hw
      rw [sF_cg (o' := fun j => j) (n := nB (sN S)) (fun j hj => ly0_get j1 hj) (nB (sN S)) 0 0 (by omega)] at f
      obtain ⟨h', q1, q2⟩ := l_swM2 K hw (nB (sN S)) 0 5000 (-9, 0) h1 (by omega) (by omega) s0 R1
      have q1' : L_M_swap_40 (I w) 5000 (I (sF (coC (sN S) w) (fun j => j) (nB (sN S)) 0 0 + 0)) (I (-9)) (I 0) h1 = _ := q1
      rw [Int.add_zero] at q1'
      refine ⟨h', ?_, ScM_72 (Fr72_tr fr q2)⟩
      simp only [F_M_swap, setT_d, hw_s, m_isWay_t R K hy.1 hy.2, bd_s, zero_I, one_ne, not_false_iff, if_true, rm_b R, p1', f, q1']
  · refine q_pl (I (-1)) 1 (by omega) (fun h R => ?_) (fun h R => ?_)
    · simp only [F_C_swap, c_noWay_f (rc_h R) K e2.1 e2.2 hy, bd_s, zero_I, one_ne, if_false, c_ref1]
    · simp only [F_M_swap, setT_d, hw_s, m_isWay_f (rm_h R) K e2.1 e2.2 hy, bd_s, zero_I, not_true, if_false, m_ref1]
end SWP
-- 41 line
def setF (a : HS) (w : Nat) (v : Int) : HS := (fun q i => if q = 7 ∧ i = w then v else a.1 q i, a.2)
theorem setF_F {a : HS} {w : Nat} {v : Int} (i : Nat) : hF (setF a w v) i = if i = w then v else hF a i := by
  show (if (7 : Nat) = 7 ∧ i = w then v else hF a i) = _
  by_cases c : i = w <;> simp [c]
theorem invF {a : HS} (J : InvH a) {w : Nat} {v : Int} (h1 : 0 ≤ v) (h2 : v ≤ 9) : InvH (setF a w v) := by
  obtain ⟨j1, j2, j3, j4, j5, j6⟩ := J
  refine ⟨j1, j2, j3, j4, j5, fun i => ?_⟩
  have q := j6 i
  rw [setF_F]
  show 0 ≤ hK a i ∧ hK a i ≤ 5 ∧ _
  split <;> omega
theorem hs_hs {f : Nat → Nat → Int32} {k i : Nat} {x y : Int32} : mm_hset (mm_hset f k i x) k i y = mm_hset f k i y := by
  funext a b
  by_cases c : a = k ∧ b = i
  · obtain ⟨rfl, rfl⟩ := c
    rw [hs_eq, hs_eq]
  · rw [hs_ne c, hs_ne c, hs_ne c]
section LIN
variable {a : HS} {h : MH}
theorem RepH_F (R : RepH 8 a h.1) {w : Nat} {v : Int} : RepH 8 (setF a w v) (mm_hset h.1 14 w (I v)) := by
  obtain ⟨t1, t2, t3, t4, t5, t6, t7, t8, t9, t10⟩ := R
  refine ⟨by simp (disch := omega) only [hs_ne]; exact t1, by simp (disch := omega) only [hs_ne]; exact t2, by simp (disch := omega) only [hs_ne]; exact t3, by simp (disch := omega) only [hs_ne]; exact t4, fun b hb => by simp (disch := omega) only [hs_ne]; exact t5 b hb, fun b hb => by simp (disch := omega) only [hs_ne]; exact t6 b hb, fun i hi => by simp (disch := omega) only [hs_ne]; exact t7 i hi, fun i hi => by simp (disch := omega) only [hs_ne]; exact t8 i hi, fun i hi => by simp (disch := omega) only [hs_ne]; exact t9 i hi, fun i hi => ?_⟩
  show _ = I (hF (setF a w v) i)
  rw [setF_F]
  by_cases c : i = w
  · rw [if_pos c, c]
    exact hs_eq
  · rw [if_neg c]
    exact (hs_ne (by omega)).trans (t10 i hi)
theorem RepM_F (R : RepM a h.1) {w : Nat} {v : Int} : RepM (setF a w v) (mm_hset h.1 60 w (I v)) := by
  obtain ⟨t1, t2, t3, t4, t5, t6, t7, t8, t9, t10⟩ := R
  refine ⟨by simp (disch := omega) only [hs_ne]; exact t1, by simp (disch := omega) only [hs_ne]; exact t2, by simp (disch := omega) only [hs_ne]; exact t3, by simp (disch := omega) only [hs_ne]; exact t4, fun b hb => by simp (disch := omega) only [hs_ne]; exact t5 b hb, fun i hi => by simp (disch := omega) only [hs_ne]; exact t6 i hi, fun i hi => by simp (disch := omega) only [hs_ne]; exact t7 i hi, fun i hi => by simp (disch := omega) only [hs_ne]; exact t8 i hi, fun i hi => ?_, fun i hi => by simp (disch := omega) only [hs_ne]; exact t10 i hi⟩
  show _ = I (hF (setF a w v) i)
  rw [setF_F]
  by_cases c : i = w
  · rw [if_pos c, c]
    exact hs_eq
  · rw [if_neg c]
    exact (hs_ne (by omega)).trans (t9 i hi)
def liP (a : HS) (b w p v : Nat) : Bool := decide (¬ bestW (setF a w v) b p (nW a) = w)
theorem l_liC (R : RepH 8 a h.1) (J : InvH a) {b w p : Nat} (hb : b < nB a) (hw : w < nW a) (hp : p < nP a) {x4 : Int32} : ∀ (d i n : Nat) (u : Int32), i + d = 10 → d + 1 < n →
    ∃ u', L_C_line_34 (I b) (I w) (I p) x4 n (I (-9)) (I i) (mm_hset h.1 14 w u, h.2) = some (I (o9 (fFi (liP a b w p) d i)), (mm_hset h.1 14 w u', h.2)) := by
  have j3 := J.2.2.1
  intro d
  induction d with
  | zero =>
    intro i n u e hn
    obtain ⟨m, rfl⟩ := sfuel hn
    refine ⟨u, ?_⟩
    simp (disch := omega) only [L_C_line_34, I_lt]
    rw [if_pos (by omega)]
    rfl
  | succ d ih =>
    intro i n u e hn
    obtain ⟨m, rfl⟩ := sfuel hn
    have b9 : (I (-9) = I (-9)) = True := eq_self _
    have K := invF J (w := w) (v := (i : Int)) (by omega) (by omega)
    have bf : F_H_bestFor (I b) (I p) (mm_hset h.1 14 w (I i), h.2) = some (I (bestW (setF a w i) b p (nW a)), (mm_hset h.1 14 w (I i), h.2)) := c_bestFor (h := (mm_hset h.1 14 w (I i), h.2)) (RepH_F R) K hb hp
    have q := bestW_b K b p (nW a) j3
    show ∃ u', _ = some (I (o9 (if liP a b w p i = true then some i else fFi (liP a b w p) d (i + 1))), (mm_hset h.1 14 w u', h.2))
    by_cases c : bestW (setF a w i) b p (nW a) = w
    · have t : ¬ liP a b w p i = true := by unfold liP; rw [decide_eq_false (fun z => z c)]; decide
      obtain ⟨u', g⟩ := ih (i + 1) m (I i) (by omega) (by omega)
      refine ⟨u', ?_⟩
      rw [if_neg t]
      simp (disch := omega) only [L_C_line_34, I_lt, if_neg (show ¬ (9 : Int) < (i : Int) by omega), b9, not_true, if_false, ck_in, I_nat, Int.toNat_natCast, hs_hs, hw_s, bf, bd_s, c, if_true, iw_s, I_succ]
      exact g
    · have t : liP a b w p i = true := by unfold liP; rw [decide_eq_true c]
      refine ⟨I i, ?_⟩
      rw [if_pos t]
      have stop : L_C_line_34 (I b) (I w) (I p) x4 m (I i) (I ((i + 1 : Nat) : Int)) (mm_hset h.1 14 w (I i), h.2) = some (I i, (mm_hset h.1 14 w (I i), h.2)) := by
        obtain ⟨m', rfl⟩ : ∃ m', m = m' + 1 := sfuel (d := d) (by omega)
        have ne : (I (i : Int) = I (-9)) = False := by rw [I_eq (by omega) (by omega) (by omega) (by omega)]; exact eq_false (by omega)
        simp only [L_C_line_34, ne, not_false_iff, if_true, ite_self]
      have cn : (I (bestW (setF a w i) b p (nW a)) = I (w : Int)) = False := by rw [I_eq (by omega) (by omega) (by omega) (by omega)]; exact eq_false c
      simp (disch := omega) only [L_C_line_34, I_lt, if_neg (show ¬ (9 : Int) < (i : Int) by omega), b9, not_true, if_false, ck_in, I_nat, Int.toNat_natCast, hs_hs, hw_s, bf, bd_s, cn, iw_s, I_succ]
      exact stop
theorem l_liM (R : RepM a h.1) (J : InvH a) {b w p : Nat} (hb : b < nB a) (hw : w < nW a) (hp : p < nP a) {x4 : Int32} : ∀ (d i n : Nat) (u : Int32), i + d = 10 → d + 1 < n →
    ∃ u', L_M_line_36 (I b) (I w) (I p) x4 n (I (-9)) (I i) (mm_hset h.1 60 w u, h.2) = some (I (o9 (fFi (liP a b w p) d i)), (mm_hset h.1 60 w u', h.2)) := by
  have j3 := J.2.2.1
  intro d
  induction d with
  | zero =>
    intro i n u e hn
    obtain ⟨m, rfl⟩ := sfuel hn
    refine ⟨u, ?_⟩
    simp (disch := omega) only [L_M_line_36, I_lt]
    rw [if_pos (by omega)]
    rfl
  | succ d ih =>
    intro i n u e hn
    obtain ⟨m, rfl⟩ := sfuel hn
    have l9 : (0 ≤ I (-9)) = False := eq_false (by decide)
    have K := invF J (w := w) (v := (i : Int)) (by omega) (by omega)
    have bf : F_M_bestWayOf (I b) (I p) (mm_hset h.1 60 w (I i), h.2) = some (I (bestW (setF a w i) b p (nW a)), (mm_hset h.1 60 w (I i), h.2)) := m_best (h := (mm_hset h.1 60 w (I i), h.2)) (RepM_F R) K hb hp
    have q := bestW_b K b p (nW a) j3
    show ∃ u', _ = some (I (o9 (if liP a b w p i = true then some i else fFi (liP a b w p) d (i + 1))), (mm_hset h.1 60 w u', h.2))
    by_cases c : bestW (setF a w i) b p (nW a) = w
    · have t : ¬ liP a b w p i = true := by unfold liP; rw [decide_eq_false (fun z => z c)]; decide
      obtain ⟨u', g⟩ := ih (i + 1) m (I i) (by omega) (by omega)
      refine ⟨u', ?_⟩
      rw [if_neg t]
      simp (disch := omega) only [L_M_line_36, I_lt, if_neg (show ¬ (9 : Int) < (i : Int) by omega), l9, not_true, if_false, ck_in, I_nat, Int.toNat_natCast, hs_hs, hw_s, bf, bd_s, c, iw_s, I_succ]
      exact g
    · have t : liP a b w p i = true := by unfold liP; rw [decide_eq_true c]
      refine ⟨I i, ?_⟩
      rw [if_pos t]
      have stop : L_M_line_36 (I b) (I w) (I p) x4 m (I i) (I ((i + 1 : Nat) : Int)) (mm_hset h.1 60 w (I i), h.2) = some (I i, (mm_hset h.1 60 w (I i), h.2)) := by
        obtain ⟨m', rfl⟩ : ∃ m', m = m' + 1 := sfuel (d := d) (by omega)
        have ne : (I 0 ≤ I (i : Int)) = True := by rw [I_le (by omega) (by omega) (by omega) (by omega)]; exact eq_true (by omega)
        simp only [L_M_line_36, zero_I, ne, if_true, ite_self]
      have cn : (I (bestW (setF a w i) b p (nW a)) = I (w : Int)) = False := by rw [I_eq (by omega) (by omega) (by omega) (by omega)]; exact eq_false c
      simp (disch := omega) only [L_M_line_36, I_lt, if_neg (show ¬ (9 : Int) < (i : Int) by omega), l9, not_false_iff, if_true, if_false, ck_in, I_nat, Int.toNat_natCast, hs_hs, hw_s, bf, bd_s, cn, iw_s, I_succ]
      exact stop
theorem q_line {S : SS} (J : InvS S) {x y z : Int} (e1 : i32 x) (e2 : i32 y) (e3 : i32 z) : Q2 S (F_C_line (I x) (I y) (I z)) (F_M_line (I x) (I y) (I z)) := by
  have K := is_h J
  obtain ⟨j1, j2, j3, -⟩ := id K
  by_cases hn : inB (sN S) x ∧ inW (sN S) y ∧ inP (sN S) z
  · obtain ⟨hx, hy, hz⟩ := id hn
    obtain ⟨b, hb, rfl⟩ := nn hx
    obtain ⟨w, hw, rfl⟩ := nn hy
    obtain ⟨p, hp, rfl⟩ := nn hz
    refine q_pl (I (o9 (fFi (liP (sN S) b w p) 10 0))) 0 (by omega) (fun h R => ?_) (fun h R => ?_)
    · have R := rc_h R
      obtain ⟨u', g⟩ := l_liC R K hb hw hp (x4 := h.1 14 w) 10 0 5000 (h.1 14 w) (by omega) (by omega)
      have s0 : mm_hset h.1 14 w (h.1 14 w) = h.1 := hs_self rfl
      rw [s0] at g
      have g' : L_C_line_34 (I b) (I w) (I p) (h.1 14 w) 5000 (I (-9)) (I 0) h = _ := g
      simp (disch := omega) only [F_C_line, c_lacks_t R K hx hy hz, bd_s, zero_I, if_true, ck_in, I_nat, Int.toNat_natCast, g', hw_s, hs_hs, s0]
      rfl
    · have R := rm_h R
      obtain ⟨u', g⟩ := l_liM R K hb hw hp (x4 := (setT h).1 60 w) 10 0 5000 ((setT h).1 60 w) (by omega) (by omega)
      have s0 : mm_hset (setT h).1 60 w ((setT h).1 60 w) = (setT h).1 := hs_self rfl
      rw [s0] at g
      have g' : L_M_line_36 (I b) (I w) (I p) ((setT h).1 60 w) 5000 (I (-9)) (I 0) (setT h) = _ := g
      simp (disch := omega) only [F_M_line, setT_d, hw_s, m_three_t R K hx hy hz, bd_s, zero_I, le00, if_true, ck_in, I_nat, Int.toNat_natCast, g', hs_hs, s0]
      rfl
  · refine q_pl (I (-1)) 1 (by omega) (fun h R => ?_) (fun h R => ?_)
    · simp only [F_C_line, c_lacks_f (rc_h R) K e1 e2 e3 hn, bd_s, zero_I, one_ne, if_false, c_ref1]
    · simp only [F_M_line, setT_d, hw_s, m_three_f (rm_h R) K e1 e2 e3 hn, bd_s, zero_I, lm1, if_false, m_ref1]
end LIN
