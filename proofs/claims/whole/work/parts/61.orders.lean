-- 21 covers, 23 learned, 24 order
def Fr72 (h h' : MH) : Prop := h'.2 = h.2 ∧ ∀ k, ¬ k = 72 → h'.1 k = h.1 k
theorem Fr72_rfl (h : MH) : Fr72 h h := ⟨rfl, fun _ _ => rfl⟩
theorem Fr72_tr {a b c : MH} (p : Fr72 a b) (q : Fr72 b c) : Fr72 a c := ⟨q.1.trans p.1, fun k e => (q.2 k e).trans (p.2 k e)⟩
theorem RepM_72 {a : HS} {h h' : MH} (R : RepM a h.1) (q : Fr72 h h') : RepM a h'.1 :=
  RepM_cg (by rw [q.2 55 (by omega)]) (by rw [q.2 55 (by omega)]) (by rw [q.2 55 (by omega)]) (by rw [q.2 55 (by omega)]) (fun k a b => q.2 k (by omega)) R
theorem scM_72 {k i : Nat} (e : scM k i = false) : ¬ k = 72 := by
  rintro rfl
  exact absurd e (by unfold scM; simp)
theorem ScM_72 {h h' : MH} (q : Fr72 h h') : ScM h h' := fun k i e => by rw [q.2 k (scM_72 e)]
theorem ly_get {n k j : Nat} (hn : n ≤ 6) (hk : k < fc n) (hj : j < n) : (lyL n k).getD j 0 < n := by
  obtain ⟨l1, l2⟩ := ly_len hn hk
  have hj' : j < (lyL n k).length := by omega
  rw [List.getD_eq_getElem?_getD, List.getElem?_eq_getElem hj']
  exact l2 _ (List.getElem_mem hj')
theorem cs_ly {C : Nat → Nat → Int} {n k : Nat} (hn : n ≤ 6) (hk : k < fc n) : cs C 0 (lyL n k) 0 = sF C (fun j => (lyL n k).getD j 0) n 0 0 := by
  have q := cs_sF (C := C) (lyL n k) [] 0
  rw [(ly_len hn hk).1] at q
  exact q
theorem cs_lb {C : Nat → Nat → Int} (hC : ∀ a i, 0 ≤ C a i ∧ C a i ≤ 432) {n k : Nat} (hn : n ≤ 6) (hk : k < fc n) : 0 ≤ cs C 0 (lyL n k) 0 ∧ cs C 0 (lyL n k) 0 ≤ 2592 := by
  rw [cs_ly hn hk]
  have q := sF_b hC (o := fun j => (lyL n k).getD j 0) n 0 0 (by omega)
  omega
def coC (a : HS) (w b c : Nat) : Int := sFo a b c (hK a w) (hF a w)
theorem coC_b {a : HS} (J : InvH a) (w b c : Nat) : 0 ≤ coC a w b c ∧ coC a w b c ≤ 432 := by
  have h2 := J.2.2.2.2.2 w
  have q := sFo_b J b c (k := hK a w) h2.2.2.1 h2.2.2.2
  unfold coC
  omega
def lnC (a : HS) (w p k b : Nat) : Int := sT a b (hK a w) (hF a w) (hA a p) (if hS a p + k ≤ 9 then hS a p + k else 9)
theorem lnC_b {a : HS} (J : InvH a) (w p k b : Nat) : 0 ≤ lnC a w p k b ∧ lnC a w p k b ≤ 432 := by
  have h1 := J.2.2.2.2.1 p
  have h2 := J.2.2.2.2.2 w
  unfold lnC
  split
  · exact sT_b J b h2.2.2.1 h2.2.2.2 (by omega) h1.1 h1.2.1
  · exact sT_b J b h2.2.2.1 h2.2.2.2 (by omega) h1.1 h1.2.1
section BYO
variable {a : HS} {h : MH}
theorem l_fbo (R : RepM a h.1) (J : InvH a) {o : Nat → Nat} (ho : ∀ j, j < nB a → o j < nB a) (hr : ∀ j, j < nB a → h.1 72 j = I ((o j : Nat) : Int)) {w : Nat} (hw : w < nW a) : ∀ (d k n : Nat) (s : Int), k + d = nB a → d < n →
    L_M_foldsByOrder_4 (I w) n (I s) (I k) h = some (I (sF (coC a w) o d k s), h) := by
  obtain ⟨j1, j2, j3, j4, j5, j6⟩ := id J
  have hw6 := j6 w
  intro d
  induction d with
  | zero =>
    intro k n s e hn
    obtain ⟨m, rfl⟩ := sfuel hn
    obtain rfl : k = nB a := by omega
    simp (disch := omega) only [L_M_foldsByOrder_4, rm_b R, I_le, if_pos (Int.le_refl _)]
    rfl
  | succ d ih =>
    intro k n s e hn
    obtain ⟨m, rfl⟩ := sfuel hn
    have hk : k < nB a := by omega
    have g := ih (k + 1) m (s + coC a w k (o k)) (by omega) (by omega)
    have f : F_M_foldsIn (I k) (I ((o k : Nat) : Int)) (I (hK a w)) (I (hF a w)) h = some (I (coC a w k (o k)), h) := m_foldsIn R J hk (ho k hk) hw6.1 hw6.2.1 hw6.2.2.1 hw6.2.2.2
    simp (disch := omega) only [L_M_foldsByOrder_4, rm_b R, I_le, if_neg (show ¬ ((nB a : Int) ≤ (k : Int)) by omega), ck_in, I_nat, Int.toNat_natCast, hr k hk, rm_k R hw, rm_f R hw, f, bd_s, I_add]
    exact g
theorem m_fbo (R : RepM a h.1) (J : InvH a) {o : Nat → Nat} (ho : ∀ j, j < nB a → o j < nB a) (hr : ∀ j, j < nB a → h.1 72 j = I ((o j : Nat) : Int)) {w : Nat} (hw : w < nW a) : F_M_foldsByOrder (I w) h = some (I (sF (coC a w) o (nB a) 0 0), h) := by
  have g := l_fbo R J ho hr hw (nB a) 0 5000 0 (by omega) (by have := J.1; omega)
  have g' : L_M_foldsByOrder_4 (I w) 5000 (I 0) (I 0) h = _ := g
  simp only [F_M_foldsByOrder, g', bd_s]
theorem l_lnb (R : RepM a h.1) (J : InvH a) {o : Nat → Nat} (ho : ∀ j, j < nB a → o j < nB a) (hr : ∀ j, j < nB a → h.1 72 j = I ((o j : Nat) : Int)) {w p : Nat} (hw : w < nW a) (hp : p < nP a) : ∀ (d k n : Nat) (s : Int), k + d = nB a → d < n →
    L_M_learnedBy_5 (I w) (I p) n (I s) (I k) h = some (I (sF (lnC a w p) o d k s), h) := by
  obtain ⟨j1, j2, j3, j4, j5, j6⟩ := id J
  have hw6 := j6 w
  have hp5 := j5 p
  intro d
  induction d with
  | zero =>
    intro k n s e hn
    obtain ⟨m, rfl⟩ := sfuel hn
    obtain rfl : k = nB a := by omega
    simp (disch := omega) only [L_M_learnedBy_5, rm_b R, I_le, if_pos (Int.le_refl _)]
    rfl
  | succ d ih =>
    intro k n s e hn
    obtain ⟨m, rfl⟩ := sfuel hn
    have hk : k < nB a := by omega
    have g := ih (k + 1) m (s + lnC a w p k (o k)) (by omega) (by omega)
    have q : 0 ≤ (if hS a p + (k : Int) ≤ 9 then hS a p + (k : Int) else 9) ∧ (if hS a p + (k : Int) ≤ 9 then hS a p + (k : Int) else 9) ≤ 9 := by split <;> omega
    have f : F_M_timeBy (I ((o k : Nat) : Int)) (I (hK a w)) (I (hF a w)) (I (hA a p)) (I (if hS a p + (k : Int) ≤ 9 then hS a p + (k : Int) else 9)) h = some (I (lnC a w p k (o k)), h) := m_timeBy R J (ho k hk) hw6.1 hw6.2.1 hw6.2.2.1 hw6.2.2.2 hp5.1 hp5.2.1 q.1 q.2
    simp (disch := omega) only [L_M_learnedBy_5, rm_b R, I_le, if_neg (show ¬ ((nB a : Int) ≤ (k : Int)) by omega), ck_in, I_nat, Int.toNat_natCast, hr k hk, rm_k R hw, rm_f R hw, rm_a R hp, rm_s R hp, I_add, m_most, f, bd_s]
    exact g
theorem m_lnb (R : RepM a h.1) (J : InvH a) {o : Nat → Nat} (ho : ∀ j, j < nB a → o j < nB a) (hr : ∀ j, j < nB a → h.1 72 j = I ((o j : Nat) : Int)) {w p : Nat} (hw : w < nW a) (hp : p < nP a) : F_M_learnedBy (I w) (I p) h = some (I (sF (lnC a w p) o (nB a) 0 0), h) := by
  have g := l_lnb R J ho hr hw hp (nB a) 0 5000 0 (by omega) (by have := J.1; omega)
  have g' : L_M_learnedBy_5 (I w) (I p) 5000 (I 0) (I 0) h = _ := g
  simp only [F_M_learnedBy, g', bd_s]
theorem c_learn (R : RepH 8 a h.1) (J : InvH a) {b w p k : Nat} (hb : b < nB a) (hw : w < nW a) (hp : p < nP a) (hk : k ≤ 100) : F_H_timeLearned (I b) (I w) (I p) (I k) h = some (I (lnC a w p k b), h) := by
  obtain ⟨j1, j2, j3, j4, j5, j6⟩ := id J
  have hp5 := j5 p
  have q : 0 ≤ (if hS a p + (k : Int) ≤ 9 then hS a p + (k : Int) else 9) ∧ (if hS a p + (k : Int) ≤ 9 then hS a p + (k : Int) else 9) ≤ 9 := by split <;> omega
  have e : (if hS a p + (k : Int) < 9 then hS a p + (k : Int) else 9) = (if hS a p + (k : Int) ≤ 9 then hS a p + (k : Int) else 9) := by split <;> split <;> omega
  have f : F_H_timeWith (I b) (I w) (I (hA a p)) (I (if hS a p + (k : Int) ≤ 9 then hS a p + (k : Int) else 9)) h = some (I (lnC a w p k b), h) := c_timeWith R J hb hw hp5.1 hp5.2.1 q.1 q.2
  simp (disch := omega) only [F_H_timeLearned, ck_in, I_nat, Int.toNat_natCast, rn_a R hp, rn_s R hp, I_add, I_lt, I_ite, e, iw_s, f, bd_s]
/-- the search's rows of costs are filled: those from q on -/
def Fil (n q : Nat) (C : Nat → Nat → Int) (h h' : MH) : Prop := h'.2 = h.2 ∧ (∀ a i, q ≤ a → a < n → i < n → h'.1 (42 + a) i = I (C a i)) ∧ ∀ k, ¬ (42 + q ≤ k ∧ k ≤ 47) → h'.1 k = h.1 k
def Fil1 (n q j : Nat) (C : Nat → Nat → Int) (h h' : MH) : Prop := h'.2 = h.2 ∧ (∀ i, j ≤ i → i < n → h'.1 (42 + q) i = I (C q i)) ∧ (∀ i, i < j → h'.1 (42 + q) i = h.1 (42 + q) i) ∧ ∀ k, ¬ k = 42 + q → h'.1 k = h.1 k
theorem RepH_42 {a : HS} {h h' : MH} (R : RepH 8 a h.1) (e : ∀ k, k < 42 → h'.1 k = h.1 k) : RepH 8 a h'.1 := RepH_cg (fun k _ b => e k (by omega)) R
theorem Fil1_st {n q j : Nat} {C : Nat → Nat → Int} {h h' : MH} (p : Fil1 n q (j + 1) C (mm_hset h.1 (42 + q) j (I (C q j)), h.2) h') : Fil1 n q j C h h' := by
  obtain ⟨p1, p2, p3, p4⟩ := p
  refine ⟨p1, fun i a b => ?_, fun i a => ?_, fun k a => (p4 k a).trans (hrow a)⟩
  · by_cases c : i = j
    · subst c
      exact (p3 i (by omega)).trans hs_eq
    · exact p2 i (by omega) b
  · exact (p3 i (by omega)).trans (hs_ne (by omega))
theorem Fil_st {n q : Nat} (hq : q < 6) {C : Nat → Nat → Int} {h h1 h' : MH} (p : Fil1 n q 0 C h h1) (r : Fil n (q + 1) C h1 h') : Fil n q C h h' := by
  obtain ⟨p1, p2, p3, p4⟩ := p
  obtain ⟨r1, r2, r3⟩ := r
  refine ⟨r1.trans p1, fun b i x y z => ?_, fun k e => (r3 k (by omega)).trans (p4 k (by omega))⟩
  by_cases c : b = q
  · subst c
    rw [r3 (42 + b) (by omega)]
    exact p2 i (by omega) z
  · exact r2 b i (by omega) y z
theorem l_cvC (J : InvH a) {w q : Nat} (hw : w < nW a) (hq : q < nB a) {x2 : Int32} : ∀ (d j m : Nat) (h : MH), j + d = nB a → d < m → RepH 8 a h.1 → ∃ h', L_C_covers_42 (I w) x2 (I q) m (I j) h = some h' ∧ Fil1 (nB a) q j (coC a w) h h' := by
  obtain ⟨j1, j2, j3, j4, j5, j6⟩ := id J
  intro d
  induction d with
  | zero =>
    intro j m h e hm R
    obtain ⟨m, rfl⟩ := sfuel hm
    refine ⟨h, ?_, rfl, fun i a b => by omega, fun i a => rfl, fun k a => rfl⟩
    simp (disch := omega) only [L_C_covers_42, rn_b R, I_le]
    rw [if_pos (by omega)]
  | succ d ih =>
    intro j m h e hm R
    obtain ⟨m, rfl⟩ := sfuel hm
    have hj : j < nB a := by omega
    obtain ⟨h', p1, p2⟩ := ih (j + 1) m (mm_hset h.1 (42 + q) j (I (coC a w q j)), h.2) (by omega) (by omega) (RepH_42 R (fun k e => hrow (by omega)))
    refine ⟨h', ?_, Fil1_st p2⟩
    have f : F_H_foldsInto (I q) (I j) (I w) h = some (I (coC a w q j), h) := c_into R J hq hj hw
    simp (disch := omega) only [L_C_covers_42, rn_b R, I_le, if_neg (show ¬ ((nB a : Int) ≤ (j : Int)) by omega), ck_in, f, bd_s, I_nat, Int.toNat_natCast, hw_s, I_succ]
    exact p1
theorem l_cvC2 (J : InvH a) {w : Nat} (hw : w < nW a) {x2 : Int32} : ∀ (d q m : Nat) (h : MH), q + d = nB a → d < m → RepH 8 a h.1 → ∃ h', L_C_covers_28 (I w) x2 m (I q) h = some h' ∧ Fil (nB a) q (coC a w) h h' := by
  obtain ⟨j1, j2, j3, j4, j5, j6⟩ := id J
  intro d
  induction d with
  | zero =>
    intro q m h e hm R
    obtain ⟨m, rfl⟩ := sfuel hm
    refine ⟨h, ?_, rfl, fun b i x y z => by omega, fun k x => rfl⟩
    simp (disch := omega) only [L_C_covers_28, rn_b R, I_le]
    rw [if_pos (by omega)]
  | succ d ih =>
    intro q m h e hm R
    obtain ⟨m, rfl⟩ := sfuel hm
    obtain ⟨h1, p1, p2⟩ := l_cvC J hw (q := q) (by omega) (x2 := x2) (nB a) 0 5000 h (by omega) (by omega) R
    have p1' : L_C_covers_42 (I w) x2 (I q) 5000 (I 0) h = some h1 := p1
    obtain ⟨h', q1, q2⟩ := ih (q + 1) m h1 (by omega) (by omega) (RepH_42 R (fun k e => p2.2.2.2 k (by omega)))
    refine ⟨h', ?_, Fil_st (by omega) p2 q2⟩
    simp (disch := omega) only [L_C_covers_28, rn_b R, I_le, if_neg (show ¬ ((nB a : Int) ≤ (q : Int)) by omega), p1', bd_s, I_succ]
    exact q1
theorem l_orC (J : InvH a) {w p q : Nat} (hw : w < nW a) (hp : p < nP a) (hq : q < nB a) {x3 : Int32} : ∀ (d j m : Nat) (h : MH), j + d = nB a → d < m → RepH 8 a h.1 → ∃ h', L_C_order_52 (I w) (I p) x3 (I q) m (I j) h = some h' ∧ Fil1 (nB a) q j (lnC a w p) h h' := by
  obtain ⟨j1, j2, j3, j4, j5, j6⟩ := id J
  intro d
  induction d with
  | zero =>
    intro j m h e hm R
    obtain ⟨m, rfl⟩ := sfuel hm
    refine ⟨h, ?_, rfl, fun i a b => by omega, fun i a => rfl, fun k a => rfl⟩
    simp (disch := omega) only [L_C_order_52, rn_b R, I_le]
    rw [if_pos (by omega)]
  | succ d ih =>
    intro j m h e hm R
    obtain ⟨m, rfl⟩ := sfuel hm
    have hj : j < nB a := by omega
    obtain ⟨h', p1, p2⟩ := ih (j + 1) m (mm_hset h.1 (42 + q) j (I (lnC a w p q j)), h.2) (by omega) (by omega) (RepH_42 R (fun k e => hrow (by omega)))
    refine ⟨h', ?_, Fil1_st p2⟩
    have f := c_learn R J hj hw hp (k := q) (by omega)
    simp (disch := omega) only [L_C_order_52, rn_b R, I_le, if_neg (show ¬ ((nB a : Int) ≤ (j : Int)) by omega), ck_in, f, bd_s, I_nat, Int.toNat_natCast, hw_s, I_succ]
    exact p1
theorem l_orC2 (J : InvH a) {w p : Nat} (hw : w < nW a) (hp : p < nP a) {x3 : Int32} : ∀ (d q m : Nat) (h : MH), q + d = nB a → d < m → RepH 8 a h.1 → ∃ h', L_C_order_37 (I w) (I p) x3 m (I q) h = some h' ∧ Fil (nB a) q (lnC a w p) h h' := by
  obtain ⟨j1, j2, j3, j4, j5, j6⟩ := id J
  intro d
  induction d with
  | zero =>
    intro q m h e hm R
    obtain ⟨m, rfl⟩ := sfuel hm
    refine ⟨h, ?_, rfl, fun b i x y z => by omega, fun k x => rfl⟩
    simp (disch := omega) only [L_C_order_37, rn_b R, I_le]
    rw [if_pos (by omega)]
  | succ d ih =>
    intro q m h e hm R
    obtain ⟨m, rfl⟩ := sfuel hm
    obtain ⟨h1, p1, p2⟩ := l_orC J hw hp (q := q) (by omega) (x3 := x3) (nB a) 0 5000 h (by omega) (by omega) R
    have p1' : L_C_order_52 (I w) (I p) x3 (I q) 5000 (I 0) h = some h1 := p1
    obtain ⟨h', q1, q2⟩ := ih (q + 1) m h1 (by omega) (by omega) (RepH_42 R (fun k e => p2.2.2.2 k (by omega)))
    refine ⟨h', ?_, Fil_st (by omega) p2 q2⟩
    simp (disch := omega) only [L_C_order_37, rn_b R, I_le, if_neg (show ¬ ((nB a : Int) ≤ (q : Int)) by omega), p1', bd_s, I_succ]
    exact q1
/-- the model's numbers stay small -/
def sml (t : Int × Int) : Prop := 0 ≤ t.1 ∧ t.1 ≤ 5000 ∧ -1 ≤ t.2 ∧ t.2 ≤ 5000
theorem l_cvM (J : InvH a) {w : Nat} (hw : w < nW a) {x2 : Int32} : ∀ (d k m : Nat) (t : Int × Int) (h : MH), k + d = fc (nB a) → d < m → sml t → RepM a h.1 →
    ∃ h', L_M_covers_57 (I w) x2 (I ((fc (nB a) : Nat) : Int)) m (I t.1) (I t.2) (I k) h = some (I (fM (fun k => cs (coC a w) 0 (lyL (nB a) k) 0) d k t).1, I (fM (fun k => cs (coC a w) 0 (lyL (nB a) k) 0) d k t).2, h') ∧ Fr72 h h' := by
  obtain ⟨j1, j2, j3, j4, j5, j6⟩ := id J
  have fb := fc_b ⟨nB a, by omega⟩
  simp only at fb
  intro d
  induction d with
  | zero =>
    intro k m t h e hm st R
    obtain ⟨m, rfl⟩ := sfuel hm
    refine ⟨h, ?_, Fr72_rfl h⟩
    simp (disch := omega) only [L_M_covers_57, I_le]
    rw [if_pos (by omega)]
    rfl
  | succ d ih =>
    intro k m t h e hm st R
    obtain ⟨m, rfl⟩ := sfuel hm
    obtain ⟨s1, s2, s3, s4⟩ := id st
    have hk : k < fc (nB a) := by omega
    obtain ⟨h1, p1, p2, p3, p4⟩ := m_lay j1 hk h
    have R1 := RepM_72 R (⟨p2, p4⟩ : Fr72 h h1)
    have b := cs_lb (coC_b J w) j1 hk
    have f := m_fbo R1 J (o := fun j => (lyL (nB a) k).getD j 0) (fun j hj => ly_get j1 hk hj) p3 hw
    rw [← cs_ly j1 hk] at f
    have sm : sml (if t.2 < 0 then (((k : Nat) : Int), cs (coC a w) 0 (lyL (nB a) k) 0) else if t.2 ≤ cs (coC a w) 0 (lyL (nB a) k) 0 then t else (((k : Nat) : Int), cs (coC a w) 0 (lyL (nB a) k) 0)) := by
      unfold sml
      split
      · simp only; omega
      · split
        · exact st
        · simp only; omega
    obtain ⟨h', q1, q2⟩ := ih (k + 1) m _ h1 (by omega) (by omega) sm R1
    refine ⟨h', ?_, Fr72_tr ⟨p2, p4⟩ q2⟩
    simp (disch := omega) only [L_M_covers_57, rm_b R, I_le, I_lt, zero_I, if_neg (show ¬ (((fc (nB a) : Nat) : Int) ≤ (k : Int)) by omega), p1, bd_s, f, I_ite, iw_s, I_succ]
    show _ = some (I (fM _ d (k + 1) _).1, I (fM _ d (k + 1) _).2, h')
    rw [← q1]
    by_cases c1 : t.2 < 0
    · simp only [c1, if_true]
    · by_cases c2 : t.2 ≤ cs (coC a w) 0 (lyL (nB a) k) 0
      · simp only [c1, c2, if_true, if_false]
      · simp only [c1, c2, if_false]
theorem l_orM (J : InvH a) {w p : Nat} (hw : w < nW a) (hp : p < nP a) {x3 : Int32} : ∀ (d k m : Nat) (t : Int × Int) (h : MH), k + d = fc (nB a) → d < m → sml t → RepM a h.1 →
    ∃ h', L_M_order_68 (I w) (I p) x3 (I ((fc (nB a) : Nat) : Int)) m (I t.1) (I t.2) (I k) h = some (I (fM (fun k => cs (lnC a w p) 0 (lyL (nB a) k) 0) d k t).1, I (fM (fun k => cs (lnC a w p) 0 (lyL (nB a) k) 0) d k t).2, h') ∧ Fr72 h h' := by
  obtain ⟨j1, j2, j3, j4, j5, j6⟩ := id J
  have fb := fc_b ⟨nB a, by omega⟩
  simp only at fb
  intro d
  induction d with
  | zero =>
    intro k m t h e hm st R
    obtain ⟨m, rfl⟩ := sfuel hm
    refine ⟨h, ?_, Fr72_rfl h⟩
    simp (disch := omega) only [L_M_order_68, I_le]
    rw [if_pos (by omega)]
    rfl
  | succ d ih =>
    intro k m t h e hm st R
    obtain ⟨m, rfl⟩ := sfuel hm
    obtain ⟨s1, s2, s3, s4⟩ := id st
    have hk : k < fc (nB a) := by omega
    obtain ⟨h1, p1, p2, p3, p4⟩ := m_lay j1 hk h
    have R1 := RepM_72 R (⟨p2, p4⟩ : Fr72 h h1)
    have b := cs_lb (lnC_b J w p) j1 hk
    have f := m_lnb R1 J (o := fun j => (lyL (nB a) k).getD j 0) (fun j hj => ly_get j1 hk hj) p3 hw hp
    rw [← cs_ly j1 hk] at f
    have sm : sml (if t.2 < 0 then (((k : Nat) : Int), cs (lnC a w p) 0 (lyL (nB a) k) 0) else if t.2 ≤ cs (lnC a w p) 0 (lyL (nB a) k) 0 then t else (((k : Nat) : Int), cs (lnC a w p) 0 (lyL (nB a) k) 0)) := by
      unfold sml
      split
      · simp only; omega
      · split
        · exact st
        · simp only; omega
    obtain ⟨h', q1, q2⟩ := ih (k + 1) m _ h1 (by omega) (by omega) sm R1
    refine ⟨h', ?_, Fr72_tr ⟨p2, p4⟩ q2⟩
    simp (disch := omega) only [L_M_order_68, rm_b R, I_le, I_lt, zero_I, if_neg (show ¬ (((fc (nB a) : Nat) : Int) ≤ (k : Int)) by omega), p1, bd_s, f, I_ite, iw_s, I_succ]
    show _ = some (I (fM _ d (k + 1) _).1, I (fM _ d (k + 1) _).2, h')
    rw [← q1]
    by_cases c1 : t.2 < 0
    · simp only [c1, if_true]
    · by_cases c2 : t.2 ≤ cs (lnC a w p) 0 (lyL (nB a) k) 0
      · simp only [c1, c2, if_true, if_false]
      · simp only [c1, c2, if_false]
end BYO
/-- both sides' answer -/
def ansO (n : Nat) (l : List Nat) (v x : Int) : Int := if x < 0 then v else if x < n then ((l.getD x.toNat 0 : Nat) : Int) else -9
theorem scC_40 {k : Nat} (h : scC k = false) : ¬ k = 40 ∧ ¬ k = 51 ∧ ¬ k = 52 ∧ ¬ (42 ≤ k ∧ k ≤ 50) := by
  unfold scC at h
  simp at h
  omega
theorem ord_fin {n : Nat} (hn : n ≤ 6) {C : Nat → Nat → Int} (hC : ∀ a i, 0 ≤ C a i ∧ C a i ≤ 432) : ∃ (b : Nat) (v : Int), b < fc n ∧ 0 ≤ v ∧ v < 1000000000 ∧ fM (fun k => cs C 0 (lyL n k) 0) (fc n) 0 (0, -1) = ((b : Int), v) ∧ fO (fun l => cs C 0 l 0) [] (1000000000, []) (pm n n 0) = (v, lyL n b) := by
  have fb := fc_b ⟨n, by omega⟩
  simp only at fb
  have q := fM_fO (g := fun l => cs C 0 l 0) (L := lyL n) (N := fc n) fb.1 (fun k hk => by have := cs_lb hC hn hk; show 0 ≤ cs C 0 (lyL n k) 0 ∧ cs C 0 (lyL n k) 0 < 1000000000; omega) []
  rw [ly_map hn] at q
  exact q
theorem c_fin {n : Nat} (hn : n ≤ 6) {C : Nat → Nat → Int} (hC : ∀ a i, 0 ≤ C a i ∧ C a i ≤ 432) {b : Nat} {v : Int} (hv : v < 1000000000) (hf : fO (fun l => cs C 0 l 0) [] (1000000000, []) (pm n n 0) = (v, lyL n b)) {h0 h : MH} (F : Fil n 0 C h0 h) {x : Int} (e : i32 x) (hx : -1 ≤ x) :
    ∃ h', bd (F_S_cheapestOrder (I n) h) (fun h11 => bd (F_S_answer (I x) h11) (fun (r13, h12) => some (r13, h12))) = some (I (ansO n (lyL n b) v x), h') ∧ ScC h0 h' := by
  obtain ⟨f1, f2, f3⟩ := F
  obtain ⟨h', p1, p2, p3, p4, p5⟩ := c_cheap hn hC (h := h) (fun a i ha hi => f2 a i (by omega) ha hi)
  rw [hf] at p3
  have an := c_answer hn p2 p3 hv e hx
  refine ⟨h', ?_, p4.trans f1, fun k i s => ?_⟩
  · simp only [p1, bd_s, an]
    rfl
  · have q := scC_40 s
    rw [p5 k i (by omega) (by omega) (by omega), f3 k (by omega)]
theorem m_fin {a : HS} (J : InvH a) {h : MH} (R : RepM a h.1) {b : Nat} (hb : b < fc (nB a)) {v x : Int} (e : i32 x) (hx : -1 ≤ x) :
    ∃ h', (if 0 ≤ I x then bd (F_M_layOrder (I b) (h.1 55 0) h) (fun h23 => if (h23.1 55 0) ≤ I x then some (I (-9), h23) else ck (mm_in (I x) 6) (some (h23.1 72 (Int32.toNatClampNeg (I x)), h23))) else some (I v, h)) = some (I (ansO (nB a) (lyL (nB a) b) v x), h') ∧ Fr72 h h' := by
  obtain ⟨l, g⟩ := e
  obtain ⟨h1, p1, p2, p3, p4⟩ := m_lay J.1 hb h
  have j1 := J.1
  have e55 : h1.1 55 0 = I (nB a) := by rw [p4 55 (by omega)]; exact rm_b R
  unfold ansO
  by_cases c : x < 0
  · refine ⟨h, ?_, Fr72_rfl h⟩
    simp (disch := omega) only [zero_I, I_le, if_neg (show ¬ 0 ≤ x by omega), if_pos c]
  · refine ⟨h1, ?_, p2, p4⟩
    by_cases d : x < nB a
    · simp (disch := omega) only [zero_I, I_le, if_pos (show 0 ≤ x by omega), rm_b R, p1, bd_s, e55, if_neg (show ¬ (nB a : Int) ≤ x by omega), ck_in, I_nat, p3 x.toNat (by omega), if_neg c, if_pos d]
    · simp (disch := omega) only [zero_I, I_le, if_pos (show 0 ≤ x by omega), rm_b R, p1, bd_s, e55, if_pos (show (nB a : Int) ≤ x by omega), if_neg c, if_neg d]
