-- 3 house: the model reads a statement, all statements
def FrN (k : Nat) (h h' : MH) : Prop := h'.2 = h.2 ∧ ∀ a i, ¬ (a = 55 ∧ (i = 16 ∨ i = 17)) → ¬ (a = 67 ∧ 10 * k ≤ i) → h'.1 a i = h.1 a i
theorem FrN_rfl (k : Nat) (h : MH) : FrN k h h := ⟨rfl, fun _ _ _ _ => rfl⟩
theorem FrN_tr {k : Nat} {a b c : MH} (p : FrN k a b) (q : FrN k b c) : FrN k a c := ⟨q.1.trans p.1, fun k i x y => (q.2 k i x y).trans (p.2 k i x y)⟩
theorem FrN_R {k : Nat} {a b : MH} (p : FrR a b) : FrN k a b := ⟨p.1, fun k i x _ => p.2 k i x⟩
theorem FrN_set {k i : Nat} {x : Int32} {h : MH} (hi : 10 * k ≤ i) : FrN k h (mm_hset h.1 67 i x, h.2) := ⟨rfl, fun a j _ y => hs_ne (fun q => y ⟨q.1, by omega⟩)⟩
theorem LM_N {l : List Int} {k : Nat} {h h' : MH} (T : LM l h) (q : FrN k h h') : LM l h' := ⟨(q.2 55 15 (by omega) (by omega)).trans T.1, fun i hi => (q.2 64 i (by omega) (by omega)).trans (T.2 i hi)⟩
theorem GS_67 {p b i : Nat} {x : Int32} {h : MH} (G : GS p b h) : GS p b (mm_hset h.1 67 i x, h.2) := ⟨by simp (disch := omega) only [hs_ne]; exact G.1, by simp (disch := omega) only [hs_ne]; exact G.2⟩
theorem vd1 {ds : List Int} (h : ds.length = 1) : vd 0 ds = ds.getD 0 0 := by
  cases ds with
  | nil => exact absurd h (by simp)
  | cons x r =>
    cases r with
    | nil => show 10 * 0 + x = x; omega
    | cons y r => exact absurd h (by simp)
theorem vd2 {ds : List Int} (h : ds.length = 2) : vd 0 ds = 10 * ds.getD 0 0 + ds.getD 1 0 := by
  cases ds with
  | nil => exact absurd h (by simp)
  | cons x r =>
    cases r with
    | nil => exact absurd h (by simp)
    | cons y r =>
      cases r with
      | nil => show 10 * (10 * 0 + x) + y = 10 * x + y; omega
      | cons z r => exact absurd h (by simp)
theorem tk_split {l pre r : List Int} (e : l = pre ++ r) (m : Nat) : l = (pre ++ (tkD m r).1.map (fun d => d + 48)) ++ (tkD m r).2 ∧ (pre ++ (tkD m r).1.map (fun d => d + 48)).length = pre.length + (tkD m r).1.length := by
  refine ⟨?_, by simp⟩
  rw [List.append_assoc, ← (tkD_p m r).1]
  exact e
theorem getD_l {x y : List Int} {i : Nat} (h : i < x.length) : (x ++ y).getD i 0 = x.getD i 0 := by
  rw [List.getD_eq_getElem?_getD, List.getD_eq_getElem?_getD, List.getElem?_append_left h]
theorem getD_r {x y : List Int} {i : Nat} (h : x.length ≤ i) : (x ++ y).getD i 0 = y.getD (i - x.length) 0 := by
  rw [List.getD_eq_getElem?_getD, List.getD_eq_getElem?_getD, List.getElem?_append_right h]
def tdN (c : Int) (ds : List Int) (k : Nat) (f : Nat → Nat → Int32) : Prop :=
  (c = 98 → ∀ i, i < 4 → f 67 (10 * k + i) = I (10 * ds.getD (2 * i) 0 + ds.getD (2 * i + 1) 0)) ∧
  (c = 112 → f 67 (10 * k) = I (10 * ds.getD 0 0 + ds.getD 1 0) ∧ f 67 (10 * k + 1) = I (ds.getD 2 0)) ∧
  (c = 119 → f 67 (10 * k) = I (ds.getD 0 0) ∧ f 67 (10 * k + 1) = I (ds.getD 1 0)) ∧
  (c = 116 → f 67 (10 * k) = I ds.length ∧ ∀ j, j < ds.length → f 67 (10 * k + 1 + j) = I (ds.getD j 0))
section RNU
variable {l : List Int} {k : Nat}
theorem l_rnx (hk : k ≤ 48) {p : Nat} : ∀ (d j n : Nat) (h : MH), j + d = 4 → d < n → GS p 1 h → ∃ h', L_M_readNumbers_38 (I ((10 * k : Nat) : Int)) n (I j) h = some h' ∧ GS p 1 h' ∧ FrN k h h' := by
  intro d
  induction d with
  | zero =>
    intro j n h e hn G
    obtain ⟨n, rfl⟩ := sfuel hn
    refine ⟨h, ?_, G, FrN_rfl k h⟩
    simp (disch := omega) only [L_M_readNumbers_38, I_le]
    rw [if_pos (by omega)]
  | succ d ih =>
    intro j n h e hn G
    obtain ⟨n, rfl⟩ := sfuel hn
    obtain ⟨h1, w, p1, p2, p3⟩ := m_rdx (N := 2) (by omega) G
    have p1' : F_M_readDigits (I 2) h = some (w, h1) := p1
    obtain ⟨h', q1, q2, q3⟩ := ih (j + 1) n (mm_hset h1.1 67 (10 * k + j) w, h1.2) (by omega) (by omega) (GS_67 p2)
    refine ⟨h', ?_, q2, FrN_tr (FrN_tr (FrN_R p3) (FrN_set (by omega))) q3⟩
    have ei : (((10 * k : Nat) : Int) + (j : Int)).toNat = 10 * k + j := by omega
    simp (disch := omega) only [L_M_readNumbers_38, I_le, if_neg (show ¬ (4 : Int) ≤ (j : Int) by omega), p1', bd_s, I_add, ck_in, I_nat, ei, hw_s]
    exact q1
theorem l_rn (K : Lok l) (hk : k ≤ 48) : ∀ (d j n : Nat) (r pre : List Int) (h : MH), j + d = 4 → d < n → l = pre ++ r → LM l h → GS pre.length 0 h →
    ∃ h', L_M_readNumbers_38 (I ((10 * k : Nat) : Int)) n (I j) h = some h' ∧ FrN k h h' ∧
      ((tkD (2 * d) r).1.length = 2 * d → GS (pre.length + 2 * d) 0 h' ∧ (∀ i, i < j → h'.1 67 (10 * k + i) = h.1 67 (10 * k + i)) ∧ ∀ i, i < d → h'.1 67 (10 * k + (j + i)) = I (10 * (tkD (2 * d) r).1.getD (2 * i) 0 + (tkD (2 * d) r).1.getD (2 * i + 1) 0)) ∧
      ((tkD (2 * d) r).1.length < 2 * d → GS (pre.length + (tkD (2 * d) r).1.length) 1 h') := by
  intro d
  induction d with
  | zero =>
    intro j n r pre h e hn el T G
    obtain ⟨n, rfl⟩ := sfuel hn
    refine ⟨h, ?_, FrN_rfl k h, fun _ => ⟨G, fun i hi => rfl, fun i hi => absurd hi (Nat.not_lt_zero i)⟩, fun q => absurd q (by simp)⟩
    simp (disch := omega) only [L_M_readNumbers_38, I_le]
    rw [if_pos (by omega)]
  | succ d ih =>
    intro j n r pre h e hn el T G
    obtain ⟨n, rfl⟩ := sfuel hn
    obtain ⟨h1, w, p1, p2, p3, p4⟩ := m_rd K (N := 2) (by omega) el T G
    have p1' : F_M_readDigits (I 2) h = some (w, h1) := p1
    have ei : (((10 * k : Nat) : Int) + (j : Int)).toNat = 10 * k + j := by omega
    have ta := tkD_add 2 (2 * d) r
    rw [show 2 + 2 * d = 2 * (d + 1) by omega] at ta
    have len2 := (tkD_p 2 r).2.1
    have step : ∀ g : Option MH, L_M_readNumbers_38 (I ((10 * k : Nat) : Int)) n (I ((j + 1 : Nat) : Int)) (mm_hset h1.1 67 (10 * k + j) w, h1.2) = g → L_M_readNumbers_38 (I ((10 * k : Nat) : Int)) (n + 1) (I j) h = g := by
      intro g hg
      simp (disch := omega) only [L_M_readNumbers_38, I_le, if_neg (show ¬ (4 : Int) ≤ (j : Int) by omega), p1', bd_s, I_add, ck_in, I_nat, ei, hw_s]
      exact hg
    by_cases c : (tkD 2 r).1.length = 2
    · obtain ⟨g0, gw⟩ := p3 c
      obtain ⟨a1, a2⟩ := ta.1 c
      obtain ⟨s1, s2⟩ := tk_split el 2
      obtain ⟨h', q1, q2, q4, q5⟩ := ih (j + 1) n (tkD 2 r).2 (pre ++ (tkD 2 r).1.map (fun d => d + 48)) (mm_hset h1.1 67 (10 * k + j) w, h1.2) (by omega) (by omega) s1 (LM_N (LM_R T p2) (FrN_set (k := k) (by omega))) (by rw [s2, c]; exact GS_67 g0)
      rw [s2, c] at q4 q5
      refine ⟨h', step _ q1, FrN_tr (FrN_tr (FrN_R p2) (FrN_set (by omega))) q2, fun q => ?_, fun q => ?_⟩
      · rw [a1, List.length_append, c] at q
        obtain ⟨b1, q3, b2⟩ := q4 (by omega)
        refine ⟨by rw [show pre.length + 2 * (d + 1) = pre.length + 2 + 2 * d by omega]; exact b1, fun i hi => ?_, fun i hi => ?_⟩
        · rw [q3 i (by omega)]
          show mm_hset h1.1 67 (10 * k + j) w 67 (10 * k + i) = _
          rw [hs_ne (by omega), p2.2 67 _ (by omega)]
        · rw [a1]
          by_cases i0 : i = 0
          · subst i0
            rw [Nat.add_zero, q3 j (by omega), getD_l (by omega), getD_l (by omega)]
            show mm_hset h1.1 67 (10 * k + j) w 67 (10 * k + j) = _
            rw [hs_eq, gw, vd2 c]
          · have b := b2 (i - 1) (by omega)
            rw [show j + 1 + (i - 1) = j + i by omega] at b
            rw [b, getD_r (by omega), getD_r (by omega), c, show 2 * i - 2 = 2 * (i - 1) by omega, show 2 * i + 1 - 2 = 2 * (i - 1) + 1 by omega]
      · rw [a1, List.length_append, c] at q ⊢
        have g := q5 (by omega)
        rw [show pre.length + (2 + (tkD (2 * d) (tkD 2 r).2).1.length) = pre.length + 2 + (tkD (2 * d) (tkD 2 r).2).1.length by omega]
        exact g
    · have g1 := p4 (by omega)
      have a1 := ta.2 (by omega)
      obtain ⟨h', q1, q2, q3⟩ := l_rnx hk d (j + 1) n (mm_hset h1.1 67 (10 * k + j) w, h1.2) (by omega) (by omega) (GS_67 g1)
      have fr := FrN_tr (FrN_R (k := k) p2) (FrN_set (k := k) (i := 10 * k + j) (x := w) (by omega))
      refine ⟨h', step _ q1, FrN_tr fr q3, fun q => ?_, fun q => ?_⟩
      · rw [a1] at q
        omega
      · rw [a1]
        exact q2
end RNU
