-- 49 enough
def nx (r : Nat) : Nat := r &&& (r - 1)
theorem nx_dec : ∀ r : Fin 64, ¬ (r : Nat) = 0 → (I ((r : Nat) : Int) &&& (I ((r : Nat) : Int) - I 1)) = I ((nx r : Nat) : Int) ∧ nx r < (r : Nat) ∧ pc (nx r) 6 + 1 = pc r 6 := by decide +kernel
theorem pcF_dec : ∀ n : Fin 7, ∀ m : Fin 64, (m : Nat) < 2 ^ (n : Nat) - 1 → pc m 6 < pc (2 ^ (n : Nat) - 1) 6 := by decide +kernel
section ENO
variable {a : HS} {h : MH}
theorem l_ones : ∀ (n r c : Nat), r < 64 → r < n → L_M_onesOf_4 n (I c) (I r) h = some (I ((c + pc r 6 : Nat) : Int), h) := by
  intro n
  induction n with
  | zero => intro r c h1 h2; omega
  | succ n ih =>
    intro r c h1 h2
    by_cases z : r = 0
    · subst z
      simp (disch := omega) only [L_M_onesOf_4, zero_I, I_eq]
      rw [if_pos (by omega)]
      rfl
    · obtain ⟨d1, d2, d3⟩ := nx_dec ⟨r, h1⟩ z
      simp only at d1 d2 d3
      have g := ih (nx r) (c + 1) (by omega) (by omega)
      rw [show c + 1 + pc (nx r) 6 = c + pc r 6 by omega] at g
      simp (disch := omega) only [L_M_onesOf_4, zero_I, I_eq, if_neg (show ¬ (r : Int) = 0 by omega), d1, I_succ]
      exact g
theorem m_ones {r : Nat} (hr : r < 64) : F_M_onesOf (I r) h = some (I ((pc r 6 : Nat) : Int), h) := by
  have g := l_ones (h := h) 5000 r 0 hr (by omega)
  rw [Nat.zero_add] at g
  have g' : L_M_onesOf_4 5000 (I 0) (I r) h = _ := g
  simp only [F_M_onesOf, g', bd_s]
def enA (a : HS) (p m b : Nat) : Nat → Int
  | 0 => 0
  | n + 1 => if enA a p m b n = 0 then (if bt m n = 1 then (if sTw a b n p = BT a b p then 1 else 0) else 0) else 1
theorem enA_b (a : HS) (p m b n : Nat) : 0 ≤ enA a p m b n ∧ enA a p m b n ≤ 1 := by
  cases n with
  | zero => exact ⟨Int.le_refl 0, by show (0 : Int) ≤ 1; omega⟩
  | succ n => unfold enA; repeat' split
              all_goals omega
def enO (a : HS) (p m : Nat) : Nat → Int
  | 0 => 1
  | n + 1 => if enO a p m n = 0 then 0 else if enA a p m n (nW a) = 0 then 0 else 1
theorem enO_b (a : HS) (p m n : Nat) : 0 ≤ enO a p m n ∧ enO a p m n ≤ 1 := by
  cases n with
  | zero => exact ⟨by show (0 : Int) ≤ 1; omega, Int.le_refl 1⟩
  | succ n => unfold enO; repeat' split
              all_goals omega
theorem enO_0 {a : HS} {p m : Nat} : ∀ d i, enO a p m i = 0 → enO a p m (i + d) = 0 := by
  intro d
  induction d with
  | zero => intro i h; exact h
  | succ d ih =>
    intro i h
    show (if enO a p m (i + d) = 0 then 0 else _) = _
    rw [if_pos (ih i h)]
theorem l_enC (R : RepH 8 a h.1) (J : InvH a) (hw : 0 < nW a) {b p m : Nat} (hb : b < nB a) (hp : p < nP a) (hm : m < 64) : ∀ d i n : Nat, i + d = nW a → d < n →
    L_C_suffice_30 (I m) (I p) (I b) (I (BT a b p)) n (I (enA a p m b i)) (I i) h = some (I (enA a p m b (nW a)), h) := by
  obtain ⟨j1, j2, j3, -⟩ := id J
  have tb := BT_b J hw b p
  intro d
  induction d with
  | zero =>
    intro i n e hn
    obtain ⟨k, rfl⟩ := sfuel hn
    obtain rfl : i = nW a := by omega
    simp (disch := omega) only [L_C_suffice_30, rn_w R, I_le, if_pos (Int.le_refl _)]
  | succ d ih =>
    intro i n e hn
    obtain ⟨k, rfl⟩ := sfuel hn
    have hi : i < nW a := by omega
    have g := ih (i + 1) k (by omega) (by omega)
    have z := enA_b a p m b i
    have bi := bitI (m := m) (i := i) hm (by omega)
    have bl := bt_le m i
    have q := sTw_b J b i p
    by_cases c : enA a p m b i = 0
    · by_cases c1 : bt m i = 1
      · have e1 : enA a p m b (i + 1) = if sTw a b i p = BT a b p then 1 else 0 := by
          show (if enA a p m b i = 0 then _ else 1) = _
          rw [if_pos c, if_pos c1]
        rw [e1] at g
        simp (disch := omega) only [L_C_suffice_30, rn_w R, I_le, if_neg (show ¬ ((nW a : Int) ≤ (i : Int)) by omega), c, zero_I, not_true, if_false, bi, I_eq, if_neg (show ¬ ¬ ((bt m i : Nat) : Int) = 1 by omega), c_timeBy R J hb hi hp, bd_s, iw_s, I_succ]
        by_cases c2 : sTw a b i p = BT a b p
        · rw [if_pos c2] at g
          rw [if_neg (show ¬ ¬ _ from fun z => z c2)]
          exact g
        · rw [if_neg c2] at g
          rw [if_pos c2]
          exact g
      · have e1 : enA a p m b (i + 1) = 0 := by
          show (if enA a p m b i = 0 then _ else 1) = _
          rw [if_pos c, if_neg c1]
        rw [e1] at g
        simp (disch := omega) only [L_C_suffice_30, rn_w R, I_le, if_neg (show ¬ ((nW a : Int) ≤ (i : Int)) by omega), c, zero_I, not_true, if_false, bi, I_eq, if_pos (show ¬ ((bt m i : Nat) : Int) = 1 by omega), I_succ]
        exact g
    · have e1 : enA a p m b (i + 1) = 1 := by
        show (if enA a p m b i = 0 then _ else 1) = _
        rw [if_neg c]
      have c1 : enA a p m b i = 1 := by omega
      rw [e1] at g
      simp (disch := omega) only [L_C_suffice_30, rn_w R, I_le, if_neg (show ¬ ((nW a : Int) ≤ (i : Int)) by omega), c1, zero_I, one_ne, not_false_iff, if_true, I_succ]
      exact g
theorem l_enM (R : RepM a h.1) (J : InvH a) (hw : 0 < nW a) {b p m : Nat} {x3 : Int32} (hb : b < nB a) (hp : p < nP a) (hm : m < 64) : ∀ d i n : Nat, i + d = nW a → d < n →
    L_M_isEnough_20 (I m) (I p) x3 (I b) n (I (enA a p m b i)) (I i) h = some (I (enA a p m b (nW a)), h) := by
  obtain ⟨j1, j2, j3, -⟩ := id J
  have tb := BT_b J hw b p
  have tb' : 0 ≤ bestT a b p (nW a) ∧ bestT a b p (nW a) ≤ 432 := tb
  intro d
  induction d with
  | zero =>
    intro i n e hn
    obtain ⟨k, rfl⟩ := sfuel hn
    obtain rfl : i = nW a := by omega
    simp (disch := omega) only [L_M_isEnough_20, rm_w R, I_le, if_pos (Int.le_refl _)]
  | succ d ih =>
    intro i n e hn
    obtain ⟨k, rfl⟩ := sfuel hn
    have hi : i < nW a := by omega
    have g := ih (i + 1) k (by omega) (by omega)
    have z := enA_b a p m b i
    have bl := bt_le m i
    have q := sTw_b J b i p
    by_cases c : enA a p m b i = 0
    · by_cases c1 : bt m i = 1
      · have e1 : enA a p m b (i + 1) = if sTw a b i p = bestT a b p (nW a) then 1 else 0 := by
          show (if enA a p m b i = 0 then _ else 1) = _
          rw [if_pos c, if_pos c1]
        rw [e1] at g
        simp (disch := omega) only [L_M_isEnough_20, rm_w R, I_le, if_neg (show ¬ ((nW a : Int) ≤ (i : Int)) by omega), c, zero_I, not_true, if_false, m_hasBit hm (show i < 6 by omega), if_pos c1, one_ne, oz, m_timeOf R J hb hi hp, m_bestT R J hb hp hw, bd_s, I_eq, iw_s, I_succ]
        by_cases c2 : sTw a b i p = bestT a b p (nW a)
        · rw [if_pos c2] at g
          rw [if_neg (show ¬ ¬ _ from fun z => z c2)]
          exact g
        · rw [if_neg c2] at g
          rw [if_pos c2]
          exact g
      · have e1 : enA a p m b (i + 1) = 0 := by
          show (if enA a p m b i = 0 then _ else 1) = _
          rw [if_pos c, if_neg c1]
        rw [e1] at g
        simp (disch := omega) only [L_M_isEnough_20, rm_w R, I_le, if_neg (show ¬ ((nW a : Int) ≤ (i : Int)) by omega), c, zero_I, not_true, if_false, m_hasBit hm (show i < 6 by omega), if_neg c1, bd_s, if_true, I_succ]
        exact g
    · have e1 : enA a p m b (i + 1) = 1 := by
        show (if enA a p m b i = 0 then _ else 1) = _
        rw [if_neg c]
      have c1 : enA a p m b i = 1 := by omega
      rw [e1] at g
      simp (disch := omega) only [L_M_isEnough_20, rm_w R, I_le, if_neg (show ¬ ((nW a : Int) ≤ (i : Int)) by omega), c1, zero_I, one_ne, not_false_iff, if_true, I_succ]
      exact g
theorem l_enC2 (R : RepH 8 a h.1) (J : InvH a) (hw : 0 < nW a) {p m : Nat} (hp : p < nP a) (hm : m < 64) : ∀ d i n : Nat, i + d = nB a → d < n → enO a p m i = 1 →
    L_C_suffice_2 (I m) (I p) n (I i) h = some (if enO a p m (nB a) = 0 then .inl (I 0, h) else .inr h) := by
  obtain ⟨j1, j2, j3, -⟩ := id J
  intro d
  induction d with
  | zero =>
    intro i n e hn c
    obtain ⟨k, rfl⟩ := sfuel hn
    obtain rfl : i = nB a := by omega
    simp (disch := omega) only [L_C_suffice_2, rn_b R, I_le, if_pos (Int.le_refl _), if_neg (show ¬ enO a p m (nB a) = 0 by omega)]
  | succ d ih =>
    intro i n e hn c
    obtain ⟨k, rfl⟩ := sfuel hn
    have hi : i < nB a := by omega
    have q := l_enC R J hw (b := i) (m := m) hi hp hm (nW a) 0 5000 (by omega) (by omega)
    have q' : L_C_suffice_30 (I m) (I p) (I i) (I (BT a i p)) 5000 (I 0) (I 0) h = _ := q
    have z := enA_b a p m i (nW a)
    have e1 : enO a p m (i + 1) = if enA a p m i (nW a) = 0 then 0 else 1 := by
      show (if enO a p m i = 0 then 0 else _) = _
      rw [if_neg (by omega)]
    simp (disch := omega) only [L_C_suffice_2, rn_b R, I_le, if_neg (show ¬ ((nB a : Int) ≤ (i : Int)) by omega), c_bestTime R J hi hp, bd_s, q', zero_I, I_eq, I_succ]
    by_cases c1 : enA a p m i (nW a) = 0
    · rw [if_pos c1] at e1
      have e2 := enO_0 d (i + 1) e1
      rw [show i + 1 + d = nB a by omega] at e2
      rw [if_neg (show ¬ ¬ _ from fun z => z c1), if_pos e2]
    · rw [if_neg c1] at e1
      rw [if_pos c1]
      exact ih (i + 1) k (by omega) (by omega) e1
theorem c_suff (R : RepH 8 a h.1) (J : InvH a) (hw : 0 < nW a) {p m : Nat} (hp : p < nP a) (hm : m < 64) : F_C_suffice (I m) (I p) h = some (I (enO a p m (nB a)), h) := by
  have g := l_enC2 R J hw hp hm (nB a) 0 5000 (by omega) (by have := J.1; omega) rfl
  have g' : L_C_suffice_2 (I m) (I p) 5000 (I 0) h = _ := g
  have z := enO_b a p m (nB a)
  simp only [F_C_suffice, g']
  by_cases c : enO a p m (nB a) = 0
  · rw [if_pos c, c]
    rfl
  · rw [if_neg c, show enO a p m (nB a) = 1 by omega]
    rfl
theorem l_enM2 (R : RepM a h.1) (J : InvH a) (hw : 0 < nW a) {p m : Nat} (hp : p < nP a) (hm : m < 64) : ∀ d i n : Nat, i + d = nB a → d < n →
    L_M_isEnough_5 (I m) (I p) n (I (enO a p m i)) (I i) h = some (I (enO a p m (nB a)), h) := by
  obtain ⟨j1, j2, j3, -⟩ := id J
  intro d
  induction d with
  | zero =>
    intro i n e hn
    obtain ⟨k, rfl⟩ := sfuel hn
    obtain rfl : i = nB a := by omega
    simp (disch := omega) only [L_M_isEnough_5, rm_b R, I_le, if_pos (Int.le_refl _)]
  | succ d ih =>
    intro i n e hn
    obtain ⟨k, rfl⟩ := sfuel hn
    have hi : i < nB a := by omega
    have g := ih (i + 1) k (by omega) (by omega)
    have q := l_enM R J hw (b := i) (m := m) (x3 := I (enO a p m i)) hi hp hm (nW a) 0 5000 (by omega) (by omega)
    have q' : L_M_isEnough_20 (I m) (I p) (I (enO a p m i)) (I i) 5000 (I 0) (I 0) h = _ := q
    have z := enA_b a p m i (nW a)
    have z2 := enO_b a p m i
    have e1 : enO a p m (i + 1) = if enO a p m i = 0 then 0 else if enA a p m i (nW a) = 0 then 0 else 1 := rfl
    simp (disch := omega) only [L_M_isEnough_5, rm_b R, I_le, if_neg (show ¬ ((nB a : Int) ≤ (i : Int)) by omega), q', bd_s, zero_I, I_eq, I_ite, iw_s, I_succ]
    rw [← e1]
    exact g
theorem m_suff (R : RepM a h.1) (J : InvH a) (hw : 0 < nW a) {p m : Nat} (hp : p < nP a) (hm : m < 64) : F_M_isEnough (I m) (I p) h = some (I (enO a p m (nB a)), h) := by
  have g := l_enM2 R J hw hp hm (nB a) 0 5000 (by omega) (by have := J.1; omega)
  have g' : L_M_isEnough_5 (I m) (I p) 5000 (I 1) (I 0) h = _ := g
  have z := enO_b a p m (nB a)
  simp only [F_M_isEnough, g', bd_s]
  rcases (show enO a p m (nB a) = 0 ∨ enO a p m (nB a) = 1 by omega) with q | q <;> rw [q] <;> exact cd_t (by decide)
def enC (s : Nat → Int) : Nat → Nat → Nat → Nat
  | 0, _, b => b
  | d + 1, i, b => enC s d (i + 1) (if pc b 6 ≤ pc i 6 then b else if s i = 0 then b else i)
def enM (s : Nat → Int) : Nat → Nat → Nat
  | 0, b => b
  | k + 1, b => enM s k (if pc b 6 < pc k 6 then b else if s k = 0 then b else k)
def lexL (x y : Nat) : Prop := pc x 6 < pc y 6 ∨ (pc x 6 = pc y 6 ∧ x ≤ y)
theorem enC_p {s : Nat → Int} {F : Nat} (hF : ∀ i, i < F → pc i 6 < pc F 6) : ∀ d i b : Nat, i + d = F → ((b = F ∨ (b < i ∧ ¬ s b = 0)) ∧ lexL b F ∧ ∀ m, m < i → ¬ s m = 0 → lexL b m) →
    ((enC s d i b = F ∨ (enC s d i b < F ∧ ¬ s (enC s d i b) = 0)) ∧ lexL (enC s d i b) F ∧ ∀ m, m < F → ¬ s m = 0 → lexL (enC s d i b) m) := by
  intro d
  induction d with
  | zero =>
    intro i b e h
    obtain rfl : i = F := by omega
    exact h
  | succ d ih =>
    intro i b e h
    obtain ⟨h1, h2, h3⟩ := h
    refine ih (i + 1) _ (by omega) ?_
    have hi := hF i (by omega)
    unfold lexL at h2 h3 ⊢
    by_cases c : pc b 6 ≤ pc i 6
    · rw [if_pos c]
      refine ⟨by rcases h1 with q | q; exact Or.inl q; exact Or.inr ⟨by omega, q.2⟩, h2, fun m hm sm => ?_⟩
      by_cases mi : m = i
      · subst mi
        rcases h1 with q | q
        · subst q
          omega
        · omega
      · exact h3 m (by omega) sm
    · rw [if_neg c]
      by_cases c2 : s i = 0
      · rw [if_pos c2]
        refine ⟨by rcases h1 with q | q; exact Or.inl q; exact Or.inr ⟨by omega, q.2⟩, h2, fun m hm sm => ?_⟩
        by_cases mi : m = i
        · subst mi
          exact absurd c2 sm
        · exact h3 m (by omega) sm
      · rw [if_neg c2]
        refine ⟨Or.inr ⟨by omega, c2⟩, by omega, fun m hm sm => ?_⟩
        by_cases mi : m = i
        · subst mi
          exact Or.inr ⟨rfl, Nat.le_refl _⟩
        · have := h3 m (by omega) sm
          omega
theorem enM_p {s : Nat → Int} {F : Nat} : ∀ k b : Nat, k ≤ F + 1 → ((b = F ∨ (k ≤ b ∧ b ≤ F ∧ ¬ s b = 0)) ∧ lexL b F ∧ ∀ m, k ≤ m → m ≤ F → ¬ s m = 0 → lexL b m) →
    ((enM s k b = F ∨ (enM s k b ≤ F ∧ ¬ s (enM s k b) = 0)) ∧ lexL (enM s k b) F ∧ ∀ m, m ≤ F → ¬ s m = 0 → lexL (enM s k b) m) := by
  intro k
  induction k with
  | zero =>
    intro b e h
    obtain ⟨h1, h2, h3⟩ := h
    exact ⟨by rcases h1 with q | q; exact Or.inl q; exact Or.inr q.2, h2, fun m hm sm => h3 m (by omega) hm sm⟩
  | succ k ih =>
    intro b e h
    obtain ⟨h1, h2, h3⟩ := h
    refine ih _ (by omega) ?_
    unfold lexL at h2 h3 ⊢
    by_cases c : pc b 6 < pc k 6
    · rw [if_pos c]
      refine ⟨by rcases h1 with q | q; exact Or.inl q; exact Or.inr ⟨by omega, q.2⟩, h2, fun m hm mF sm => ?_⟩
      by_cases mi : m = k
      · subst mi
        omega
      · exact h3 m (by omega) mF sm
    · rw [if_neg c]
      by_cases c2 : s k = 0
      · rw [if_pos c2]
        refine ⟨by rcases h1 with q | q; exact Or.inl q; exact Or.inr ⟨by omega, q.2⟩, h2, fun m hm mF sm => ?_⟩
        by_cases mi : m = k
        · subst mi
          exact absurd c2 sm
        · exact h3 m (by omega) mF sm
      · rw [if_neg c2]
        refine ⟨Or.inr ⟨by omega, by omega, c2⟩, by omega, fun m hm mF sm => ?_⟩
        by_cases mi : m = k
        · subst mi
          exact Or.inr ⟨rfl, Nat.le_refl _⟩
        · have := h3 m (by omega) mF sm
          omega
theorem en_eq {s : Nat → Int} {F : Nat} (hF : ∀ i, i < F → pc i 6 < pc F 6) : enC s F 0 F = enM s (F + 1) F := by
  have a := enC_p (s := s) hF F 0 F (by omega) ⟨Or.inl rfl, Or.inr ⟨rfl, Nat.le_refl _⟩, fun m hm => by omega⟩
  have b := enM_p (s := s) (F := F) (F + 1) F (by omega) ⟨Or.inl rfl, Or.inr ⟨rfl, Nat.le_refl _⟩, fun m hm => by omega⟩
  obtain ⟨x, hx⟩ : ∃ x, x = enC s F 0 F := ⟨_, rfl⟩
  obtain ⟨y, hy⟩ : ∃ y, y = enM s (F + 1) F := ⟨_, rfl⟩
  rw [← hx] at a ⊢
  rw [← hy] at b ⊢
  obtain ⟨a1, a2, a3⟩ := a
  obtain ⟨b1, b2, b3⟩ := b
  have le1 : lexL x y := by
    rcases b1 with q | q
    · rw [q]; exact a2
    · by_cases c : y = F
      · rw [c]; exact a2
      · exact a3 y (by omega) q.2
  have le2 : lexL y x := by
    rcases a1 with q | q
    · rw [q]; exact b2
    · exact b3 x (by omega) q.2
  unfold lexL at le1 le2
  omega
def enS (a : HS) (p m : Nat) : Int := enO a p m (nB a)
theorem l_egC (R : RepH 8 a h.1) (J : InvH a) (hw : 0 < nW a) {p : Nat} (hp : p < nP a) : ∀ d i n b : Nat, i + d = 2 ^ nW a - 1 → d < n → b < 64 →
    L_C_enough_31 (I p) (I ((2 ^ nW a - 1 : Nat) : Int)) n (I b) (I i) h = some (I ((enC (enS a p) d i b : Nat) : Int), h) := by
  obtain ⟨j1, j2, j3, -⟩ := id J
  have F64 := pow_dec ⟨nW a, by omega⟩
  simp only at F64
  intro d
  induction d with
  | zero =>
    intro i n b e hn hb
    obtain ⟨k, rfl⟩ := sfuel hn
    simp (disch := omega) only [L_C_enough_31, I_le]
    rw [if_pos (by omega)]
    rfl
  | succ d ih =>
    intro i n b e hn hb
    obtain ⟨k, rfl⟩ := sfuel hn
    have g := ih (i + 1) k (if pc b 6 ≤ pc i 6 then b else if enS a p i = 0 then b else i) (by omega) (by omega) (by split <;> (try split) <;> omega)
    have z := enO_b a p i (nB a)
    have p1 := pc_le b 6
    have p2 := pc_le i 6
    have sf : F_C_suffice (I i) (I p) h = some (I (enS a p i), h) := c_suff R J hw hp (by omega)
    have zs : 0 ≤ enS a p i ∧ enS a p i ≤ 1 := z
    show _ = some (I ((enC (enS a p) d (i + 1) (if pc b 6 ≤ pc i 6 then b else if enS a p i = 0 then b else i) : Nat) : Int), h)
    simp (disch := omega) only [L_C_enough_31, I_le, if_neg (show ¬ (((2 ^ nW a - 1 : Nat) : Int) ≤ (i : Int)) by omega), j_bits hb, j_bits (show i < 64 by omega), bd_s, sf, zero_I, I_eq, iw_s, I_succ]
    by_cases c : pc b 6 ≤ pc i 6
    · rw [if_pos c] at g ⊢
      rw [if_pos (by omega)]
      exact g
    · rw [if_neg c] at g ⊢
      rw [if_neg (by omega)]
      by_cases c2 : enS a p i = 0
      · rw [if_pos c2] at g ⊢
        rw [if_pos c2]
        exact g
      · rw [if_neg c2] at g ⊢
        rw [if_neg c2]
        exact g
theorem l_egM (R : RepM a h.1) (J : InvH a) (hw : 0 < nW a) {p : Nat} (hp : p < nP a) : ∀ k n b : Nat, k ≤ 64 → k < n → b < 64 →
    L_M_enough_30 (I p) n (I b) (I ((k : Int) - 1)) h = some (I ((enM (enS a p) k b : Nat) : Int), h) := by
  obtain ⟨j1, j2, j3, -⟩ := id J
  intro k
  induction k with
  | zero =>
    intro n b hk hn hb
    obtain ⟨n, rfl⟩ := sfuel hn
    simp (disch := omega) only [L_M_enough_30, zero_I, I_lt]
    rw [if_pos (by omega)]
    rfl
  | succ k ih =>
    intro n b hk hn hb
    obtain ⟨n, rfl⟩ := sfuel hn
    have g := ih n (if pc b 6 < pc k 6 then b else if enS a p k = 0 then b else k) (by omega) (by omega) (by split <;> (try split) <;> omega)
    have z : 0 ≤ enS a p k ∧ enS a p k ≤ 1 := enO_b a p k (nB a)
    have p1 := pc_le b 6
    have p2 := pc_le k 6
    have sf : F_M_isEnough (I k) (I p) h = some (I (enS a p k), h) := m_suff R J hw hp (by omega)
    have eb : (((k + 1 : Nat) : Int) - 1) = (k : Int) := by omega
    have eb2 : I (k : Int) + I (-1) = I ((k : Int) - 1) := by
      rw [I_add]
      congr 1
    show _ = some (I ((enM (enS a p) k (if pc b 6 < pc k 6 then b else if enS a p k = 0 then b else k) : Nat) : Int), h)
    rw [eb]
    simp (disch := omega) only [L_M_enough_30, zero_I, I_lt, I_le, if_neg (show ¬ (k : Int) < 0 by omega), rm_w R, if_neg (show ¬ (nW a : Int) ≤ 0 by omega), m_ones hb, m_ones (show k < 64 by omega), bd_s, sf, I_eq, iw_s, eb2]
    by_cases c : pc b 6 < pc k 6
    · rw [if_pos c] at g ⊢
      rw [if_pos (by omega)]
      exact g
    · rw [if_neg c] at g ⊢
      rw [if_neg (by omega)]
      by_cases c2 : enS a p k = 0
      · rw [if_pos c2] at g ⊢
        rw [if_pos c2]
        exact g
      · rw [if_neg c2] at g ⊢
        rw [if_neg c2]
        exact g
theorem l_eg0 {n : Nat} {x y : Int32} (R : RepM a h.1) (hw : nW a = 0) : L_M_enough_30 x (n + 1) y (I 0) h = some (y, h) := by
  simp (disch := omega) only [L_M_enough_30, zero_I, I_lt, I_le, rm_w R]
  rw [if_neg (by omega), if_pos (by omega)]
theorem q_enough {S : SS} (J : InvS S) {z : Int} (e3 : i32 z) : Q2 S (F_C_enough (I z)) (F_M_enough (I z)) := by
  have K := is_h J
  obtain ⟨j1, j2, j3, -⟩ := id K
  by_cases hz : inP (sN S) z
  · obtain ⟨p, hp, rfl⟩ := nn hz
    have ad : (I 1 <<< (I (nW (sN S) : Int) &&& 31)) - I 1 = I ((2 ^ nW (sN S) - 1 : Nat) : Int) := all_dec ⟨nW (sN S), by omega⟩
    have F64 := pow_dec ⟨nW (sN S), by omega⟩
    simp only at F64
    by_cases hw : nW (sN S) = 0
    · refine q_pl (I 0) 0 (by omega) (fun h R => ?_) (fun h R => ?_)
      · have R := rc_h R
        have e0 : (2 ^ nW (sN S) - 1 : Nat) = 0 := by rw [hw]
        have st : ∀ n, L_C_enough_31 (I p) (I ((0 : Nat) : Int)) (n + 1) (I ((0 : Nat) : Int)) (I 0) h = some (I ((0 : Nat) : Int), h) := by
          intro n
          simp (disch := omega) only [L_C_enough_31, I_le]
          rw [if_pos (by omega)]
        have st' : L_C_enough_31 (I p) (I ((0 : Nat) : Int)) 5000 (I ((0 : Nat) : Int)) (I 0) h = _ := st 4999
        simp only [F_C_enough, c_noOne_t R K hz.1 hz.2, bd_s, zero_I, if_true, rn_w R, ad, e0, st']
        rfl
      · have R := rm_h R
        have e0 : (2 ^ nW (sN S) - 1 : Nat) = 0 := by rw [hw]
        have st := l_eg0 (n := 4999) (x := I p) (y := I 0) R hw
        have st' : L_M_enough_30 (I p) 5000 (I ((0 : Nat) : Int)) (I ((0 : Nat) : Int)) (setT h) = some (I 0, setT h) := st
        simp only [F_M_enough, setT_d, hw_s, m_isOne_t R K hz.1 hz.2, bd_s, zero_I, one_ne, not_false_iff, if_true, rm_w R, ad, e0, st']
        rfl
    · have hw' : 0 < nW (sN S) := by omega
      have pf : ∀ i, i < 2 ^ nW (sN S) - 1 → pc i 6 < pc (2 ^ nW (sN S) - 1) 6 := fun i hi => pcF_dec ⟨nW (sN S), by omega⟩ ⟨i, by omega⟩ hi
      refine q_pl (I ((enC (enS (sN S) p) (2 ^ nW (sN S) - 1) 0 (2 ^ nW (sN S) - 1) : Nat) : Int)) 0 (by omega) (fun h R => ?_) (fun h R => ?_)
      · have R := rc_h R
        have g : L_C_enough_31 (I p) (I ((2 ^ nW (sN S) - 1 : Nat) : Int)) 5000 (I ((2 ^ nW (sN S) - 1 : Nat) : Int)) (I 0) h = _ := l_egC R K hw' hp (2 ^ nW (sN S) - 1) 0 5000 (2 ^ nW (sN S) - 1) (by omega) (by omega) (by omega)
        simp only [F_C_enough, c_noOne_t R K hz.1 hz.2, bd_s, zero_I, if_true, rn_w R, ad, g]
        rfl
      · have R := rm_h R
        have g := l_egM R K hw' hp (2 ^ nW (sN S) - 1 + 1) 5000 (2 ^ nW (sN S) - 1) (by omega) (by omega) (by omega)
        rw [← en_eq pf, show (((2 ^ nW (sN S) - 1 + 1 : Nat) : Int) - 1) = ((2 ^ nW (sN S) - 1 : Nat) : Int) by omega] at g
        simp only [F_M_enough, setT_d, hw_s, m_isOne_t R K hz.1 hz.2, bd_s, zero_I, one_ne, not_false_iff, if_true, rm_w R, ad, g]
        rfl
  · refine q_pl (I (-1)) 1 (by omega) (fun h R => ?_) (fun h R => ?_)
    · simp only [F_C_enough, c_noOne_f (rc_h R) K e3.1 e3.2 hz, bd_s, zero_I, one_ne, if_false, c_ref1]
    · simp only [F_M_enough, setT_d, hw_s, m_isOne_f (rm_h R) K e3.1 e3.2 hz, bd_s, zero_I, not_true, if_false, m_ref1]
end ENO
