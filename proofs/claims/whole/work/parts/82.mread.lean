-- 3 house: turns, a statement, all statements
section RST
variable {l : List Int} {k : Nat}
theorem z0n' : (I ((0 : Nat) : Int) = I 0) = True := eq_true rfl
theorem l_rt (K : Lok l) (hk : k ≤ 48) : ∀ (d m n : Nat) (r pre : List Int) (h : MH), m + d = 9 → 0 < d → d ≤ n → l = pre ++ r → LM l h → GS pre.length 0 h →
    ∃ (h' : MH) (cnt : Nat), L_M_readTurns_2 (I ((10 * k : Nat) : Int)) n (I m) h = some (I (cnt : Int), h') ∧ FrN k h h' ∧ cnt ≤ 9 ∧
      (0 < (tkD d r).1.length → cnt = m + (tkD d r).1.length ∧ GS (pre.length + (tkD d r).1.length) 0 h' ∧ (∀ j, j < m → h'.1 67 (10 * k + 1 + j) = h.1 67 (10 * k + 1 + j)) ∧ ∀ j, j < (tkD d r).1.length → h'.1 67 (10 * k + 1 + (m + j)) = I ((tkD d r).1.getD j 0)) ∧
      ((tkD d r).1.length = 0 → GS pre.length 1 h') := by
  intro d
  induction d with
  | zero => intro m n r pre h e h0; omega
  | succ d ih =>
    intro m n r pre h e h0 hn el T G
    obtain ⟨n, rfl⟩ := sfuel (show d < n by omega)
    obtain ⟨h1, w, p1, p2, p3, p4⟩ := m_rd K (N := 1) (by omega) el T G
    have p1' : F_M_readDigits (I 1) h = some (w, h1) := p1
    have ei : (((10 * k : Nat) : Int) + (m : Int) + 1).toNat = 10 * k + 1 + m := by omega
    have ta := tkD_add 1 d r
    rw [show 1 + d = d + 1 by omega] at ta
    have len1 := (tkD_p 1 r).2.1
    have fr := FrN_tr (FrN_R (k := k) p2) (FrN_set (k := k) (i := 10 * k + 1 + m) (x := w) (by omega))
    have T1 : LM l (mm_hset h1.1 67 (10 * k + 1 + m) w, h1.2) := LM_N T fr
    have i1 : I (m : Int) + I 1 = I ((m + 1 : Nat) : Int) := I_succ m
    by_cases c : (tkD 1 r).1.length = 1
    · obtain ⟨g0, gw⟩ := p3 c
      obtain ⟨a1, a2⟩ := ta.1 c
      obtain ⟨s1, s2⟩ := tk_split el 1
      have lenT : (tkD (d + 1) r).1.length = 1 + (tkD d (tkD 1 r).2).1.length := by rw [a1, List.length_append, c]
      have g0' : GS (pre.length + 1) 0 (mm_hset h1.1 67 (10 * k + 1 + m) w, h1.2) := GS_67 g0
      have z17 : mm_hset h1.1 67 (10 * k + 1 + m) w 55 17 = I ((0 : Nat) : Int) := g0'.2
      have stopC : (tkD d (tkD 1 r).2).1.length = 0 → L_M_readTurns_2 (I ((10 * k : Nat) : Int)) (n + 1) (I m) h = some (I ((m + 1 : Nat) : Int), (mm_hset h1.1 67 (10 * k + 1 + m) w, h1.2)) → ∃ (h' : MH) (cnt : Nat), L_M_readTurns_2 (I ((10 * k : Nat) : Int)) (n + 1) (I m) h = some (I (cnt : Int), h') ∧ FrN k h h' ∧ cnt ≤ 9 ∧
          (0 < (tkD (d + 1) r).1.length → cnt = m + (tkD (d + 1) r).1.length ∧ GS (pre.length + (tkD (d + 1) r).1.length) 0 h' ∧ (∀ j, j < m → h'.1 67 (10 * k + 1 + j) = h.1 67 (10 * k + 1 + j)) ∧ ∀ j, j < (tkD (d + 1) r).1.length → h'.1 67 (10 * k + 1 + (m + j)) = I ((tkD (d + 1) r).1.getD j 0)) ∧
          ((tkD (d + 1) r).1.length = 0 → GS pre.length 1 h') := by
        intro z hL
        refine ⟨(mm_hset h1.1 67 (10 * k + 1 + m) w, h1.2), m + 1, hL, fr, by omega, fun _ => ⟨by omega, by rw [lenT, z]; exact g0', fun j hj => ?_, fun j hj => ?_⟩, fun q => by omega⟩
        · show mm_hset h1.1 67 (10 * k + 1 + m) w 67 (10 * k + 1 + j) = _
          rw [hs_ne (by omega), p2.2 67 _ (by omega)]
        · have j0 : j = 0 := by omega
          subst j0
          rw [Nat.add_zero, a1, getD_l (by omega)]
          show mm_hset h1.1 67 (10 * k + 1 + m) w 67 (10 * k + 1 + m) = _
          rw [hs_eq, gw, vd1 c]
      by_cases m9 : 9 ≤ m + 1
      · have d0 : d = 0 := by omega
        subst d0
        refine stopC rfl ?_
        simp (disch := omega) only [L_M_readTurns_2, p1', bd_s, I_add, ck_in, I_nat, ei, hw_s, z17, zero_I, z0n', not_true, if_false, I_le]
        rw [if_pos (by omega)]
        rfl
      · have stepL : ∀ g : Option (Int32 × MH), (bd (F_M_here (mm_hset h1.1 67 (10 * k + 1 + m) w, h1.2)) (fun (r5, h4) => bd (F_M_in (Int32.toInt64 r5) (Lg 48) (Lg 57) h4) (fun (r7, h6) => if ¬ r7 = I 0 then L_M_readTurns_2 (I ((10 * k : Nat) : Int)) n (I ((m + 1 : Nat) : Int)) h6 else some (I ((m + 1 : Nat) : Int), h6)))) = g → L_M_readTurns_2 (I ((10 * k : Nat) : Int)) (n + 1) (I m) h = g := by
          intro g hg
          simp (disch := omega) only [L_M_readTurns_2, p1', bd_s, I_add, ck_in, I_nat, ei, hw_s, z17, zero_I, z0n', not_true, if_false, I_le, if_neg (show ¬ (9 : Int) ≤ (m : Int) + 1 by omega)]
          exact hg
        rcases hr2 : (tkD 1 r).2 with _ | ⟨x, r'⟩
        · rw [hr2] at s1 stopC
          have ll : l.length = pre.length + 1 := by rw [s1, List.append_nil, s2, c]
          have he := m_here_n K T1 (by rw [ll]; exact g0')
          have z : (tkD d ([] : List Int)).1.length = 0 := by cases d <;> rfl
          refine stopC z (stepL _ ?_)
          simp (disch := omega) only [he, bd_s, toI64, m_in, if_neg (show ¬ ((48 : Int) ≤ -1 ∧ (-1 : Int) ≤ 57) by omega), not_true, if_false]
        · rw [hr2] at s1 stopC lenT a1
          have g0s : GS (pre ++ (tkD 1 r).1.map (fun d => d + 48)).length 0 (mm_hset h1.1 67 (10 * k + 1 + m) w, h1.2) := by rw [s2, c]; exact g0'
          obtain ⟨x0, x1, -, -⟩ := Lok_at K s1
          have he := m_here_x K T1 g0s s1
          by_cases dx : isD x = true
          · have dxb := isD_t.mp dx
            obtain ⟨h', cnt, q1, q2, q3, q4, q5⟩ := ih (m + 1) n (x :: r') _ _ (by omega) (by omega) (by omega) s1 T1 g0s
            rw [s2, c] at q4 q5
            have dp : 0 < (tkD d (x :: r')).1.length := by
              obtain ⟨d', rfl⟩ : ∃ d', d = d' + 1 := ⟨d - 1, by omega⟩
              rw [tkD_s, if_pos dx]
              exact Nat.succ_pos _
            obtain ⟨b1, b2, b3, b4⟩ := q4 dp
            refine ⟨h', cnt, stepL _ ?_, FrN_tr fr q2, q3, fun _ => ⟨by omega, ?_, fun j hj => ?_, fun j hj => ?_⟩, fun q => by omega⟩
            · simp (disch := omega) only [he, bd_s, toI64, m_in, if_pos dxb, one_ne, not_false_iff, if_true]
              exact q1
            · rw [lenT, show pre.length + (1 + (tkD d (x :: r')).1.length) = pre.length + 1 + (tkD d (x :: r')).1.length by omega]
              exact b2
            · rw [b3 j (by omega)]
              show mm_hset h1.1 67 (10 * k + 1 + m) w 67 (10 * k + 1 + j) = _
              rw [hs_ne (by omega), p2.2 67 _ (by omega)]
            · rw [a1]
              by_cases j0 : j = 0
              · subst j0
                rw [show m + 0 = m from rfl, b3 m (by omega), getD_l (by omega)]
                show mm_hset h1.1 67 (10 * k + 1 + m) w 67 (10 * k + 1 + m) = _
                rw [hs_eq, gw, vd1 c]
              · have b := b4 (j - 1) (by omega)
                rw [show m + 1 + (j - 1) = m + j by omega] at b
                rw [b, getD_r (by omega), c]
          · have nd : ¬ ((48 : Int) ≤ x ∧ x ≤ 57) := fun q => dx (isD_t.mpr q)
            have z : (tkD d (x :: r')).1.length = 0 := by
              cases d with
              | zero => rfl
              | succ d => rw [tkD_s, if_neg dx]; rfl
            refine stopC z (stepL _ ?_)
            simp (disch := omega) only [he, bd_s, toI64, m_in, if_neg nd, not_true, if_false]
    · have g1 := p4 (by omega)
      have a1 := ta.2 (by omega)
      have z : (tkD 1 r).1.length = 0 := by omega
      rw [z] at g1
      have g1' : GS pre.length 1 (mm_hset h1.1 67 (10 * k + 1 + m) w, h1.2) := GS_67 g1
      have z17 : mm_hset h1.1 67 (10 * k + 1 + m) w 55 17 = I ((1 : Nat) : Int) := g1'.2
      refine ⟨(mm_hset h1.1 67 (10 * k + 1 + m) w, h1.2), m + 1, ?_, fr, by omega, fun q => ?_, fun _ => g1'⟩
      · simp (disch := omega) only [L_M_readTurns_2, p1', bd_s, I_add, ck_in, I_nat, ei, hw_s, z17, zero_I, z1n, not_false_iff, if_true]
        rfl
      · rw [a1] at q
        omega
theorem m_rn (K : Lok l) (hk : k ≤ 48) {c : Int} (c0 : 0 ≤ c) (c1 : c ≤ 255) (mz : ¬ mostL c = 0) {r pre : List Int} {h : MH} (el : l = pre ++ r) (T : LM l h) (G : GS pre.length 0 h) :
    ∃ h', F_M_readNumbers (I c) (I ((10 * k : Nat) : Int)) h = some h' ∧ FrN k h h' ∧ (leastL c ≤ (tkD (mostL c) r).1.length → GS (pre.length + (tkD (mostL c) r).1.length) 0 h' ∧ tdN c (tkD (mostL c) r).1 k h'.1) ∧ ((tkD (mostL c) r).1.length < leastL c → GS (pre.length + (tkD (mostL c) r).1.length) 1 h') := by
  have e0 : (((10 * k : Nat) : Int)).toNat = 10 * k := by omega
  have e1 : (((10 * k : Nat) : Int) + 1).toNat = 10 * k + 1 := by omega
  by_cases c8 : c = 98
  · have m8 : mostL c = 8 := by unfold mostL; rw [if_pos c8]
    have l8 : leastL c = 8 := by unfold leastL; rw [if_neg (by omega), m8]
    have tl := (tkD_p 8 r).2.1
    obtain ⟨h', q1, q2, q3, q4⟩ := l_rn K hk 4 0 5000 r pre h (by omega) (by omega) el T G
    have q1' : L_M_readNumbers_38 (I ((10 * k : Nat) : Int)) 5000 (I 0) h = some h' := q1
    rw [m8, l8]
    refine ⟨h', ?_, q2, fun q => ?_, fun q => q4 q⟩
    · subst c8
      simp (disch := omega) only [F_M_readNumbers, if_true, q1', bd_s]
    · obtain ⟨b1, -, b3⟩ := q3 (show (tkD (2 * 4) r).1.length = 2 * 4 from (by omega : (tkD 8 r).1.length = 8))
      refine ⟨by rw [show (tkD 8 r).1.length = 8 by omega]; exact b1, ⟨fun _ i hi => ?_, fun q => by omega, fun q => by omega, fun q => by omega⟩⟩
      have b := b3 i hi
      rw [Nat.zero_add] at b
      exact b
  · have i98 : (I c = I 98) = False := by rw [I_eq (by omega) (by omega) (by omega) (by omega)]; exact eq_false c8
    by_cases c2 : c = 112
    · have m8 : mostL c = 3 := by unfold mostL; rw [if_neg c8, if_pos c2]
      have l8 : leastL c = 3 := by unfold leastL; rw [if_neg (by omega), m8]
      have tl := (tkD_p 3 r).2.1
      have tl2 := (tkD_p 2 r).2.1
      have ta := tkD_add 2 1 r
      obtain ⟨h1, w, p1, p2, p3, p4⟩ := m_rd K (N := 2) (by omega) el T G
      have p1' : F_M_readDigits (I 2) h = some (w, h1) := p1
      have fr := FrN_tr (FrN_R (k := k) p2) (FrN_set (k := k) (i := 10 * k) (x := w) (by omega))
      rw [m8, l8]
      by_cases cc : (tkD 2 r).1.length = 2
      · obtain ⟨g0, gw⟩ := p3 cc
        obtain ⟨a1, -⟩ := ta.1 cc
        have a1' : (tkD 3 r).1 = (tkD 2 r).1 ++ (tkD 1 (tkD 2 r).2).1 := a1
        obtain ⟨s1, s2⟩ := tk_split el 2
        obtain ⟨h2, w2, q1, q2, q3, q4⟩ := m_rd K (N := 1) (by omega) s1 (LM_N T fr) (by rw [s2, cc]; exact GS_67 g0)
        have q1' : F_M_readDigits (I 1) (mm_hset h1.1 67 (10 * k) w, h1.2) = some (w2, h2) := q1
        rw [s2, cc] at q3 q4
        have tlB := (tkD_p 1 (tkD 2 r).2).2.1
        refine ⟨(mm_hset h2.1 67 (10 * k + 1) w2, h2.2), ?_, FrN_tr (FrN_tr fr (FrN_R q2)) (FrN_set (by omega)), fun q => ?_, fun q => ?_⟩
        · subst c2
          simp (disch := omega) only [F_M_readNumbers, i98, if_false, if_true, p1', q1', bd_s, I_add, ck_in, I_nat, e0, e1, hw_s]
        · rw [a1', List.length_append, cc] at q ⊢
          have b1 : (tkD 1 (tkD 2 r).2).1.length = 1 := by omega
          obtain ⟨g1, gw2⟩ := q3 b1
          rw [b1, show pre.length + (2 + 1) = pre.length + 2 + 1 by omega]
          refine ⟨GS_67 g1, fun q => by omega, fun _ => ⟨?_, ?_⟩, fun q => by omega, fun q => by omega⟩
          · show mm_hset h2.1 67 (10 * k + 1) w2 67 (10 * k) = _
            rw [hs_ne (by omega), q2.2 67 _ (by omega)]
            show mm_hset h1.1 67 (10 * k) w 67 (10 * k) = _
            rw [hs_eq, gw, vd2 cc, getD_l (by omega), getD_l (by omega)]
          · show mm_hset h2.1 67 (10 * k + 1) w2 67 (10 * k + 1) = _
            rw [hs_eq, gw2, vd1 b1, getD_r (by omega), cc]
        · rw [a1', List.length_append, cc] at q ⊢
          have g := q4 (by omega)
          rw [show pre.length + (2 + (tkD 1 (tkD 2 r).2).1.length) = pre.length + 2 + (tkD 1 (tkD 2 r).2).1.length by omega]
          exact GS_67 g
      · have g1 := p4 (by omega)
        have a1 := ta.2 (by omega)
        have a1' : tkD 3 r = tkD 2 r := a1
        obtain ⟨h2, w2, q1, q2, q3⟩ := m_rdx (N := 1) (by omega) (GS_67 (i := 10 * k) (x := w) g1)
        have q1' : F_M_readDigits (I 1) (mm_hset h1.1 67 (10 * k) w, h1.2) = some (w2, h2) := q1
        refine ⟨(mm_hset h2.1 67 (10 * k + 1) w2, h2.2), ?_, FrN_tr (FrN_tr fr (FrN_R q3)) (FrN_set (by omega)), fun q => ?_, fun q => ?_⟩
        · subst c2
          simp (disch := omega) only [F_M_readNumbers, i98, if_false, if_true, p1', q1', bd_s, I_add, ck_in, I_nat, e0, e1, hw_s]
        · rw [a1'] at q
          omega
        · rw [a1']
          exact GS_67 q2
    · have i112 : (I c = I 112) = False := by rw [I_eq (by omega) (by omega) (by omega) (by omega)]; exact eq_false c2
      by_cases c3 : c = 119
      · have m8 : mostL c = 2 := by unfold mostL; rw [if_neg c8, if_neg c2, if_neg (by omega), if_pos c3]
        have l8 : leastL c = 2 := by unfold leastL; rw [if_neg (by omega), m8]
        have tl := (tkD_p 2 r).2.1
        have tl2 := (tkD_p 1 r).2.1
        have ta := tkD_add 1 1 r
        obtain ⟨h1, w, p1, p2, p3, p4⟩ := m_rd K (N := 1) (by omega) el T G
        have p1' : F_M_readDigits (I 1) h = some (w, h1) := p1
        have fr := FrN_tr (FrN_R (k := k) p2) (FrN_set (k := k) (i := 10 * k) (x := w) (by omega))
        rw [m8, l8]
        by_cases cc : (tkD 1 r).1.length = 1
        · obtain ⟨g0, gw⟩ := p3 cc
          obtain ⟨a1, -⟩ := ta.1 cc
          have a1' : (tkD 2 r).1 = (tkD 1 r).1 ++ (tkD 1 (tkD 1 r).2).1 := a1
          obtain ⟨s1, s2⟩ := tk_split el 1
          obtain ⟨h2, w2, q1, q2, q3, q4⟩ := m_rd K (N := 1) (by omega) s1 (LM_N T fr) (by rw [s2, cc]; exact GS_67 g0)
          have q1' : F_M_readDigits (I 1) (mm_hset h1.1 67 (10 * k) w, h1.2) = some (w2, h2) := q1
          rw [s2, cc] at q3 q4
          have tlB := (tkD_p 1 (tkD 1 r).2).2.1
          refine ⟨(mm_hset h2.1 67 (10 * k + 1) w2, h2.2), ?_, FrN_tr (FrN_tr fr (FrN_R q2)) (FrN_set (by omega)), fun q => ?_, fun q => ?_⟩
          · subst c3
            simp (disch := omega) only [F_M_readNumbers, i98, i112, if_false, if_true, p1', q1', bd_s, I_add, ck_in, I_nat, e0, e1, hw_s]
          · rw [a1', List.length_append, cc] at q ⊢
            have b1 : (tkD 1 (tkD 1 r).2).1.length = 1 := by omega
            obtain ⟨g1, gw2⟩ := q3 b1
            rw [b1, show pre.length + (1 + 1) = pre.length + 1 + 1 by omega]
            refine ⟨GS_67 g1, fun q => by omega, fun q => by omega, fun _ => ⟨?_, ?_⟩, fun q => by omega⟩
            · show mm_hset h2.1 67 (10 * k + 1) w2 67 (10 * k) = _
              rw [hs_ne (by omega), q2.2 67 _ (by omega)]
              show mm_hset h1.1 67 (10 * k) w 67 (10 * k) = _
              rw [hs_eq, gw, vd1 cc, getD_l (by omega)]
            · show mm_hset h2.1 67 (10 * k + 1) w2 67 (10 * k + 1) = _
              rw [hs_eq, gw2, vd1 b1, getD_r (by omega), cc]
          · rw [a1', List.length_append, cc] at q ⊢
            have g := q4 (by omega)
            rw [show pre.length + (1 + (tkD 1 (tkD 1 r).2).1.length) = pre.length + 1 + (tkD 1 (tkD 1 r).2).1.length by omega]
            exact GS_67 g
        · have g1 := p4 (by omega)
          have a1 := ta.2 (by omega)
          have a1' : tkD 2 r = tkD 1 r := a1
          obtain ⟨h2, w2, q1, q2, q3⟩ := m_rdx (N := 1) (by omega) (GS_67 (i := 10 * k) (x := w) g1)
          have q1' : F_M_readDigits (I 1) (mm_hset h1.1 67 (10 * k) w, h1.2) = some (w2, h2) := q1
          refine ⟨(mm_hset h2.1 67 (10 * k + 1) w2, h2.2), ?_, FrN_tr (FrN_tr fr (FrN_R q3)) (FrN_set (by omega)), fun q => ?_, fun q => ?_⟩
          · subst c3
            simp (disch := omega) only [F_M_readNumbers, i98, i112, if_false, if_true, p1', q1', bd_s, I_add, ck_in, I_nat, e0, e1, hw_s]
          · rw [a1'] at q
            omega
          · rw [a1']
            exact GS_67 q2
      · have i119 : (I c = I 119) = False := by rw [I_eq (by omega) (by omega) (by omega) (by omega)]; exact eq_false c3
        have c6 : c = 116 := Classical.byContradiction fun q => mz (by unfold mostL; rw [if_neg c8, if_neg c2, if_neg q, if_neg c3])
        have m8 : mostL c = 9 := by unfold mostL; rw [if_neg c8, if_neg c2, if_pos c6]
        have l8 : leastL c = 1 := by unfold leastL; rw [if_pos c6]
        obtain ⟨h1, cnt, q1, q2, q3, q4, q5⟩ := l_rt K hk 9 0 5000 r pre h (by omega) (by omega) (by omega) el T G
        have q1' : L_M_readTurns_2 (I ((10 * k : Nat) : Int)) 5000 (I 0) h = some (I (cnt : Int), h1) := q1
        rw [m8, l8]
        refine ⟨(mm_hset h1.1 67 (10 * k) (I (cnt : Int)), h1.2), ?_, FrN_tr q2 (FrN_set (by omega)), fun q => ?_, fun q => ?_⟩
        · simp (disch := omega) only [F_M_readNumbers, i98, i112, i119, if_false, F_M_readTurns, q1', bd_s, ck_in, I_nat, e0, hw_s]
        · obtain ⟨b1, b2, -, b4⟩ := q4 (by omega)
          refine ⟨GS_67 b2, fun q => by omega, fun q => by omega, fun q => by omega, fun _ => ⟨?_, fun j hj => ?_⟩⟩
          · show mm_hset h1.1 67 (10 * k) (I (cnt : Int)) 67 (10 * k) = _
            rw [hs_eq, b1, Nat.zero_add]
          · have b := b4 j hj
            rw [Nat.zero_add] at b
            show mm_hset h1.1 67 (10 * k) (I (cnt : Int)) 67 (10 * k + 1 + j) = _
            rw [hs_ne (by omega)]
            exact b
        · have z : (tkD 9 r).1.length = 0 := by omega
          rw [z]
          exact GS_67 (q5 z)
end RST
