-- 3 house: the model reads the letters
def LM (l : List Int) (h : MH) : Prop := h.1 55 15 = I l.length ∧ ∀ i, i < l.length → h.1 64 i = I (l.getD i 0)
def GS (p b : Nat) (h : MH) : Prop := h.1 55 16 = I (p : Int) ∧ h.1 55 17 = I (b : Int)
def FrR (h h' : MH) : Prop := h'.2 = h.2 ∧ ∀ k i, ¬ (k = 55 ∧ (i = 16 ∨ i = 17)) → h'.1 k i = h.1 k i
theorem FrR_rfl (h : MH) : FrR h h := ⟨rfl, fun _ _ _ => rfl⟩
theorem FrR_tr {a b c : MH} (p : FrR a b) (q : FrR b c) : FrR a c := ⟨q.1.trans p.1, fun k i e => (q.2 k i e).trans (p.2 k i e)⟩
theorem LM_R {l : List Int} {h h' : MH} (T : LM l h) (q : FrR h h') : LM l h' := ⟨(q.2 55 15 (by omega)).trans T.1, fun i hi => (q.2 64 i (by omega)).trans (T.2 i hi)⟩
theorem LM_at {l pre r : List Int} {x : Int} {h : MH} (T : LM l h) (e : l = pre ++ x :: r) : h.1 64 pre.length = I x := by
  have hl : pre.length < l.length := by rw [e]; simp
  rw [T.2 _ hl, e, getL_mid]
/-- the value of digits, behind v -/
def vd : Int → List Int → Int
  | v, [] => v
  | v, d :: r => vd (10 * v + d) r
section RDG
variable {l : List Int}
theorem m_here_x {h : MH} {pre r : List Int} {x : Int} {b : Nat} (K : Lok l) (T : LM l h) (G : GS pre.length b h) (e : l = pre ++ x :: r) : F_M_here h = some (I x, h) := by
  obtain ⟨x0, x1, pl, ll⟩ := Lok_at K e
  have k96 := K.1
  have hx := LM_at T e
  simp (disch := omega) only [F_M_here, T.1, G.1, I_le, if_neg (show ¬ (l.length : Int) ≤ (pre.length : Int) by omega), ck_in, I_nat, Int.toNat_natCast, hx]
theorem m_here_n {h : MH} {b : Nat} (K : Lok l) (T : LM l h) (G : GS l.length b h) : F_M_here h = some (I (-1), h) := by
  have k96 := K.1
  simp (disch := omega) only [F_M_here, T.1, G.1, I_le, if_pos (Int.le_refl _)]
theorem bt0 : (I ((0 : Nat) : Int) &&& 1) = I ((0 : Nat) : Int) := by decide
theorem bt1 : (I ((1 : Nat) : Int) &&& 1) = I ((1 : Nat) : Int) := by decide
theorem z0n : (I ((0 : Nat) : Int) = I 0) = True := eq_true rfl
theorem z1n : (I ((1 : Nat) : Int) = I 0) = False := eq_false (by decide)
theorem rd_g {h : MH} (K : Lok l) (T : LM l h) {pre r : List Int} {x v : Int} {N k n : Nat} (e : l = pre ++ x :: r) (dx : isD x = true) (G : GS pre.length 0 h) (hk : k < N) (hN : N ≤ 9) :
    ∃ h', L_M_readDigits_4 (I N) (n + 1) (I v) (I k) h = L_M_readDigits_4 (I N) n (I (10 * v + (x - 48))) (I ((k + 1 : Nat) : Int)) h' ∧ GS (pre.length + 1) 0 h' ∧ FrR h h' := by
  obtain ⟨x0, x1, pl, ll⟩ := Lok_at K e
  have k96 := K.1
  have hx := LM_at T e
  have dxb := isD_t.mp dx
  have he := m_here_x K T G e
  have ev : I (10 * v + x) - I 48 = I (10 * v + (x - 48)) := by
    rw [I_sub]
    congr 1
    omega
  refine ⟨(mm_hset (mm_hset h.1 55 17 (I 0)) 55 16 (I ((pre.length + 1 : Nat) : Int)), h.2), ?_, ⟨by simp only [hs_eq], by simp (disch := omega) only [hs_ne, hs_eq]; rfl⟩, ⟨rfl, fun a i q => by simp (disch := omega) only [hs_ne]⟩⟩
  have z17 : h.1 55 17 = I 0 := G.2
  have b00 : (I 0 &&& 1 = I 0) := by decide
  simp (disch := omega) only [L_M_readDigits_4, I_le, if_neg (show ¬ (N : Int) ≤ (k : Int) by omega), kw_s, z17, zero_I, not_true, if_false, he, bd_s, toI64, m_in, if_pos dxb, one_ne, not_false_iff, if_true, cd_t b00, hw_s, hs_eq, hs_ne, G.1, ck_in, I_nat, Int.toNat_natCast, hx, iw_s, I_mul, I_add, ev, I_succ]
  rfl
theorem rd_b {h : MH} (K : Lok l) (T : LM l h) {pre r : List Int} {v : Int} {N k n : Nat} (e : l = pre ++ r) (nx : ∀ x r', r = x :: r' → ¬ isD x = true) (G : GS pre.length 0 h) (hk : k < N) (hN : N ≤ 9) :
    ∃ h', L_M_readDigits_4 (I N) (n + 1) (I v) (I k) h = L_M_readDigits_4 (I N) n (I 0) (I ((k + 1 : Nat) : Int)) h' ∧ GS pre.length 1 h' ∧ FrR h h' := by
  have k96 := K.1
  have ll : l.length = pre.length + r.length := by rw [e]; simp
  have z17 : h.1 55 17 = I 0 := G.2
  have b11 : (I 1 &&& 1 = I 1) := by decide
  have a0 : I (pre.length : Int) + I 0 = I (pre.length : Int) := by rw [I_add, Int.add_zero]
  refine ⟨(mm_hset (mm_hset h.1 55 17 (I 1)) 55 16 (I (pre.length : Int)), h.2), ?_, ⟨by simp only [hs_eq], by simp (disch := omega) only [hs_ne, hs_eq]; rfl⟩, ⟨rfl, fun a i q => by simp (disch := omega) only [hs_ne]⟩⟩
  cases r with
  | nil =>
    have G' : GS l.length 0 h := by rw [ll]; exact G
    have he := m_here_n K T G'
    simp (disch := omega) only [L_M_readDigits_4, I_le, if_neg (show ¬ (N : Int) ≤ (k : Int) by omega), kw_s, z17, zero_I, not_true, if_false, he, bd_s, toI64, m_in, if_neg (show ¬ ((48 : Int) ≤ -1 ∧ (-1 : Int) ≤ 57) by omega), cd_t b11, hw_s, hs_eq, hs_ne, one_ne, iw_s, G.1, a0, I_succ]
  | cons x r' =>
    obtain ⟨x0, x1, pl, -⟩ := Lok_at K e
    have he := m_here_x K T G e
    have nd : ¬ ((48 : Int) ≤ x ∧ x ≤ 57) := fun q => nx x r' rfl (isD_t.mpr q)
    simp (disch := omega) only [L_M_readDigits_4, I_le, if_neg (show ¬ (N : Int) ≤ (k : Int) by omega), kw_s, z17, zero_I, not_true, if_false, he, bd_s, toI64, m_in, if_neg nd, cd_t b11, hw_s, hs_eq, hs_ne, one_ne, iw_s, G.1, a0, I_succ]
theorem rd_x {h : MH} {p : Nat} {v : Int32} {N k n : Nat} (G : GS p 1 h) (hk : k < N) (hN : N ≤ 9) :
    ∃ h', L_M_readDigits_4 (I N) (n + 1) v (I k) h = L_M_readDigits_4 (I N) n (I 0) (I ((k + 1 : Nat) : Int)) h' ∧ GS p 1 h' ∧ FrR h h' := by
  have z17 : h.1 55 17 = I 1 := G.2
  have b11 : (I 1 &&& 1 = I 1) := by decide
  have a0 : I (p : Int) + I 0 = I (p : Int) := by rw [I_add, Int.add_zero]
  refine ⟨(mm_hset (mm_hset h.1 55 17 (I 1)) 55 16 (I (p : Int)), h.2), ?_, ⟨by simp only [hs_eq], by simp (disch := omega) only [hs_ne, hs_eq]; rfl⟩, ⟨rfl, fun a i q => by simp (disch := omega) only [hs_ne]⟩⟩
  simp (disch := omega) only [L_M_readDigits_4, I_le, if_neg (show ¬ (N : Int) ≤ (k : Int) by omega), kw_s, z17, zero_I, one_ne, not_false_iff, if_true, if_false, cd_t b11, hw_s, hs_eq, hs_ne, iw_s, G.1, a0, I_succ]
theorem l_rdx {p N : Nat} (hN : N ≤ 9) : ∀ (d k n : Nat) (v : Int32) (h : MH), k + d = N → d < n → GS p 1 h → ∃ h' w, L_M_readDigits_4 (I N) n v (I k) h = some (w, h') ∧ GS p 1 h' ∧ FrR h h' := by
  intro d
  induction d with
  | zero =>
    intro k n v h e hn G
    obtain ⟨n, rfl⟩ := sfuel hn
    refine ⟨h, v, ?_, G, FrR_rfl h⟩
    simp (disch := omega) only [L_M_readDigits_4, I_le]
    rw [if_pos (by omega)]
  | succ d ih =>
    intro k n v h e hn G
    obtain ⟨n, rfl⟩ := sfuel hn
    obtain ⟨h1, p1, p2, p3⟩ := rd_x (n := n) (v := v) (N := N) (k := k) G (by omega) hN
    obtain ⟨h', w, q1, q2, q3⟩ := ih (k + 1) n (I 0) h1 (by omega) (by omega) p2
    exact ⟨h', w, p1.trans q1, q2, FrR_tr p3 q3⟩
theorem tkD_s (m : Nat) (x : Int) (r : List Int) : tkD (m + 1) (x :: r) = if isD x = true then ((x - 48) :: (tkD m r).1, (tkD m r).2) else ([], x :: r) := rfl
theorem l_rd (K : Lok l) {N : Nat} (hN : N ≤ 9) : ∀ (d k n : Nat) (v : Int) (r pre : List Int) (h : MH), k + d = N → d < n → l = pre ++ r → LM l h → GS pre.length 0 h →
    ∃ h' w, L_M_readDigits_4 (I N) n (I v) (I k) h = some (w, h') ∧ FrR h h' ∧ ((tkD d r).1.length = d → GS (pre.length + d) 0 h' ∧ w = I (vd v (tkD d r).1)) ∧ ((tkD d r).1.length < d → GS (pre.length + (tkD d r).1.length) 1 h') := by
  intro d
  induction d with
  | zero =>
    intro k n v r pre h e hn el T G
    obtain ⟨n, rfl⟩ := sfuel hn
    refine ⟨h, I v, ?_, FrR_rfl h, fun _ => ⟨G, rfl⟩, fun q => absurd q (Nat.not_lt_zero _)⟩
    simp (disch := omega) only [L_M_readDigits_4, I_le]
    rw [if_pos (by omega)]
  | succ d ih =>
    intro k n v r pre h e hn el T G
    obtain ⟨n, rfl⟩ := sfuel hn
    by_cases c : ∃ x r', r = x :: r' ∧ isD x = true
    · obtain ⟨x, r', er, dx⟩ := c
      subst er
      obtain ⟨h1, p1, p2, p3⟩ := rd_g (n := n) (v := v) (N := N) (k := k) K T el dx G (by omega) hN
      have et : tkD (d + 1) (x :: r') = ((x - 48) :: (tkD d r').1, (tkD d r').2) := by rw [tkD_s, if_pos dx]
      have pe : (pre ++ [x]).length = pre.length + 1 := by simp
      obtain ⟨h', w, q1, q2, q3, q4⟩ := ih (k + 1) n (10 * v + (x - 48)) r' (pre ++ [x]) h1 (by omega) (by omega) (by rw [el]; simp) (LM_R T p3) (by rw [pe]; exact p2)
      rw [pe] at q3 q4
      rw [et]
      refine ⟨h', w, p1.trans q1, FrR_tr p3 q2, fun q => ?_, fun q => ?_⟩
      · have g := q3 (by simp only [List.length_cons] at q; omega)
        rw [show pre.length + (d + 1) = pre.length + 1 + d by omega]
        exact g
      · have g := q4 (by simp only [List.length_cons] at q; omega)
        show GS (pre.length + ((tkD d r').1.length + 1)) 1 h'
        rw [show pre.length + ((tkD d r').1.length + 1) = pre.length + 1 + (tkD d r').1.length by omega]
        exact g
    · have nx : ∀ x r', r = x :: r' → ¬ isD x = true := fun x r' er dx => c ⟨x, r', er, dx⟩
      obtain ⟨h1, p1, p2, p3⟩ := rd_b (n := n) (v := v) (N := N) (k := k) K T el nx G (by omega) hN
      obtain ⟨h', w, q1, q2, q3⟩ := l_rdx hN d (k + 1) n (I 0) h1 (by omega) (by omega) p2
      have et : (tkD (d + 1) r).1 = [] := by
        cases r with
        | nil => rfl
        | cons x r' => rw [tkD_s, if_neg (nx x r' rfl)]
      rw [et]
      exact ⟨h', w, p1.trans q1, FrR_tr p3 q3, fun q => absurd q (by simp), fun _ => q2⟩
theorem m_rd (K : Lok l) {N : Nat} (hN : N ≤ 9) {r pre : List Int} {h : MH} (el : l = pre ++ r) (T : LM l h) (G : GS pre.length 0 h) :
    ∃ h' w, F_M_readDigits (I N) h = some (w, h') ∧ FrR h h' ∧ ((tkD N r).1.length = N → GS (pre.length + N) 0 h' ∧ w = I (vd 0 (tkD N r).1)) ∧ ((tkD N r).1.length < N → GS (pre.length + (tkD N r).1.length) 1 h') := by
  obtain ⟨h', w, p1, p2⟩ := l_rd K hN N 0 5000 0 r pre h (by omega) (by omega) el T G
  have p1' : L_M_readDigits_4 (I N) 5000 (I 0) (I 0) h = _ := p1
  exact ⟨h', w, by simp only [F_M_readDigits, p1', bd_s], p2⟩
theorem m_rdx {N : Nat} (hN : N ≤ 9) {p : Nat} {h : MH} (G : GS p 1 h) : ∃ h' w, F_M_readDigits (I N) h = some (w, h') ∧ GS p 1 h' ∧ FrR h h' := by
  obtain ⟨h', w, p1, p2⟩ := l_rdx hN N 0 5000 (I 0) h (by omega) (by omega) G
  have p1' : L_M_readDigits_4 (I N) 5000 (I 0) (I 0) h = _ := p1
  exact ⟨h', w, by simp only [F_M_readDigits, p1', bd_s], p2⟩
theorem tkD_add : ∀ (x y : Nat) (r : List Int), ((tkD x r).1.length = x → (tkD (x + y) r).1 = (tkD x r).1 ++ (tkD y (tkD x r).2).1 ∧ (tkD (x + y) r).2 = (tkD y (tkD x r).2).2) ∧ ((tkD x r).1.length < x → tkD (x + y) r = tkD x r) := by
  intro x
  induction x with
  | zero =>
    intro y r
    rw [Nat.zero_add]
    exact ⟨fun _ => ⟨rfl, rfl⟩, fun q => absurd q (Nat.not_lt_zero _)⟩
  | succ x ih =>
    intro y r
    cases r with
    | nil =>
      rw [show x + 1 + y = (x + y) + 1 by omega]
      exact ⟨fun q => absurd q (by simp [tkD]), fun _ => rfl⟩
    | cons c r =>
      obtain ⟨i1, i2⟩ := ih y r
      rw [show x + 1 + y = (x + y) + 1 by omega, tkD_s, tkD_s]
      by_cases d : isD c = true
      · rw [if_pos d, if_pos d]
        refine ⟨fun q => ?_, fun q => ?_⟩
        · obtain ⟨g1, g2⟩ := i1 (by simp only [List.length_cons] at q; omega)
          refine ⟨?_, g2⟩
          show (c - 48) :: (tkD (x + y) r).1 = (c - 48) :: (tkD x r).1 ++ (tkD y (tkD x r).2).1
          rw [g1]
          rfl
        · have g := i2 (by simp only [List.length_cons] at q; omega)
          rw [g]
      · rw [if_neg d, if_neg d]
        exact ⟨fun q => absurd q (by simp), fun _ => rfl⟩
end RDG
