-- 13 back
def popS (S : SS) : SS := ((sU S).getD ((sU S).length - 1) (sN S), sI S, sLt S, sRw S, (sU S).dropLast, sR S)
theorem drop_get {l : List HS} {i : Nat} {d e : HS} (h : i < l.length - 1) : l.dropLast.getD i d = l.getD i e := by
  have hi : i < l.length := by omega
  rw [List.getD_eq_getElem?_getD, List.getD_eq_getElem?_getD, List.getElem?_dropLast, if_pos h, List.getElem?_eq_getElem hi]
  rfl
theorem popS_inv {S : SS} (J : InvS S) (h0 : 0 < (sU S).length) : InvS (popS S) := by
  obtain ⟨J1, J2, J3, J4, J5, J6, J7, J8, J9⟩ := id J
  have mem : (sU S).getD ((sU S).length - 1) (sN S) ∈ sU S := by
    rw [List.getD_eq_getElem?_getD, List.getElem?_eq_getElem (show (sU S).length - 1 < (sU S).length by omega)]
    exact List.getElem_mem _
  refine ⟨(J8 _ mem).1, J2, J3, J4, J5, J6, ?_, fun a ha => J8 a (List.dropLast_subset _ ha), (J8 _ mem).2⟩
  show (sU S).dropLast.length ≤ 8
  rw [List.length_dropLast]
  omega
theorem unDo_n {a : HS} {x y : Nat} {z : Int} : nB (unDo a x y z) = nB a ∧ nP (unDo a x y z) = nP a ∧ nW (unDo a x y z) = nW a := by
  unfold unDo
  split
  · exact ⟨rfl, rfl, rfl⟩
  · split
    · exact ⟨rfl, rfl, rfl⟩
    · exact ⟨rfl, rfl, rfl⟩
theorem unDo_0 (a : HS) (y : Nat) (z : Int) : unDo a 0 y z = setS a y z := rfl
theorem unDo_1 (a : HS) (y : Nat) (z : Int) : unDo a 1 y z = setC a y z := rfl
theorem unDo_2 (a : HS) (y : Nat) (z : Int) : unDo a 2 y z = setL a z.toNat := rfl
section BCK
variable {a : HS} {h : MH}
theorem RepH_C {f : Nat → Nat → Int32} (R : RepH 8 a f) {b : Nat} {v : Int} : RepH 8 (setC a b v) (mm_hset f 10 b (I v)) := by
  obtain ⟨t1, t2, t3, t4, t5, t6, t7, t8, t9, t10⟩ := R
  refine ⟨by simp (disch := omega) only [hs_ne]; exact t1, by simp (disch := omega) only [hs_ne]; exact t2, by simp (disch := omega) only [hs_ne]; exact t3, by simp (disch := omega) only [hs_ne]; exact t4, fun i hi => by simp (disch := omega) only [hs_ne]; exact t5 i hi, fun i hi => ?_, fun i hi => by simp (disch := omega) only [hs_ne]; exact t7 i hi, fun i hi => by simp (disch := omega) only [hs_ne]; exact t8 i hi, fun i hi => by simp (disch := omega) only [hs_ne]; exact t9 i hi, fun i hi => by simp (disch := omega) only [hs_ne]; exact t10 i hi⟩
  show _ = I (100 * hC (setC a b v) i + hD (setC a b v) i)
  rw [setC_C, setC_D]
  by_cases c : i = b
  · rw [if_pos c, if_pos c, c, show 100 * (v / 100) + v % 100 = v by omega]
    exact hs_eq
  · rw [if_neg c, if_neg c]
    exact (hs_ne (by omega)).trans (t6 i hi)
theorem RepH_L {f : Nat → Nat → Int32} (R : RepH 8 a f) {l : Nat} : RepH 8 (setL a l) (mm_hset f 8 10 (I l)) := by
  obtain ⟨t1, t2, t3, t4, t5, t6, t7, t8, t9, t10⟩ := R
  exact ⟨by simp (disch := omega) only [hs_ne]; exact t1, by simp (disch := omega) only [hs_ne]; exact t2, by simp (disch := omega) only [hs_ne]; exact t3, by simp (disch := omega) only [hs_eq]; rfl, fun i hi => by simp (disch := omega) only [hs_ne]; exact t5 i hi, fun i hi => by simp (disch := omega) only [hs_ne]; exact t6 i hi, fun i hi => by simp (disch := omega) only [hs_ne]; exact t7 i hi, fun i hi => by simp (disch := omega) only [hs_ne]; exact t8 i hi, fun i hi => by simp (disch := omega) only [hs_ne]; exact t9 i hi, fun i hi => by simp (disch := omega) only [hs_ne]; exact t10 i hi⟩
theorem RUn_pop {S : SS} {h h' : MH} (R : RUn S h) (h0 : 0 < (sU S).length) {x y : Nat} {z : Int} (u : (sU S).getD ((sU S).length - 1) (sN S) = unDo (sN S) x y z) (e31 : h'.1 31 3 = I (((sU S).length - 1 : Nat) : Int)) (e : ∀ k, 32 ≤ k → k ≤ 34 → h'.1 k = h.1 k) : RUn (popS S) h' := by
  obtain ⟨r0, r1⟩ := R
  have len : (sU (popS S)).length = (sU S).length - 1 := List.length_dropLast
  have nn' := unDo_n (a := sN S) (x := x) (y := y) (z := z)
  refine ⟨by rw [len]; exact e31, fun i hi => ?_⟩
  rw [len] at hi
  obtain ⟨X, Y, Z, b1, b2, b3, b4, b5, b6, b7, b8, b9, b10⟩ := r1 i (by omega)
  refine ⟨X, Y, Z, b1, b2, by rw [e 32 (by omega) (by omega)]; exact b3, by rw [e 33 (by omega) (by omega)]; exact b4, by rw [e 34 (by omega) (by omega)]; exact b5, fun q => ?_, fun q => ?_, b8, b9, ?_⟩
  · show Y < nP ((sU S).getD ((sU S).length - 1) (sN S))
    rw [u, nn'.2.1]
    exact b6 q
  · show Y < nB ((sU S).getD ((sU S).length - 1) (sN S))
    rw [u, nn'.1]
    exact b7 q
  · show (sU S).dropLast.getD i ((sU S).getD ((sU S).length - 1) (sN S)) = unDo ((sU S).dropLast.getD (i + 1) ((sU S).getD ((sU S).length - 1) (sN S))) X Y Z
    rw [drop_get (e := sN S) hi, b10]
    by_cases c : i + 1 < (sU S).length - 1
    · rw [drop_get (e := sN S) c]
    · have ei : i + 1 = (sU S).length - 1 := by omega
      rw [getD_out (l := (sU S).dropLast) (by rw [List.length_dropLast]; omega), ei]
theorem l_bk31 {t : Nat} (ht : t < 8) : ∀ (d i n : Nat) (h : MH), i + d = 52 → d < n → h.1 55 30 = I t → ∃ h', L_M_back_31 n (I i) h = some h' ∧ h'.2 = h.2 ∧ (∀ j, i ≤ j → j < 52 → h'.1 71 j = h.1 70 (52 * t + j)) ∧ (∀ j, j < i → h'.1 71 j = h.1 71 j) ∧ ∀ k, ¬ k = 71 → h'.1 k = h.1 k := by
  intro d
  induction d with
  | zero =>
    intro i n h e hn e30
    obtain ⟨m, rfl⟩ := sfuel hn
    refine ⟨h, ?_, rfl, fun j a b => by omega, fun j a => rfl, fun k a => rfl⟩
    simp (disch := omega) only [L_M_back_31, I_le]
    rw [if_pos (by omega)]
  | succ d ih =>
    intro i n h e hn e30
    obtain ⟨m, rfl⟩ := sfuel hn
    have en : (52 * (t : Int) + (i : Int)).toNat = 52 * t + i := by omega
    obtain ⟨h', p1, p2, p3, p4, p5⟩ := ih (i + 1) m (mm_hset h.1 71 i (h.1 70 (52 * t + i)), h.2) (by omega) (by omega) (by simp (disch := omega) only [hs_ne]; exact e30)
    refine ⟨h', ?_, p2, fun j a b => ?_, fun j a => (p4 j (by omega)).trans (hs_ne (by omega)), fun k a => (p5 k a).trans (hrow a)⟩
    · simp (disch := omega) only [L_M_back_31, I_le, if_neg (show ¬ (52 : Int) ≤ (i : Int) by omega), e30, I_mul, I_add, ck_in, I_nat, Int.toNat_natCast, en, hw_s]
      exact p1
    · by_cases c : j = i
      · subst c
        exact (p4 j (by omega)).trans hs_eq
      · rw [p3 j (by omega) b]
        simp (disch := omega) only [hs_ne]
theorem s_back {S : SS} (J : InvS S) : Step S F_C_back F_M_back := by
  obtain ⟨J1, J2, J3, J4, J5, J6, J7, J8, J9⟩ := id J
  by_cases h0 : (sU S).length = 0
  · refine st_ref J (I (-3)) 3 (by omega) (fun h R => ?_) (fun h R => ?_)
    · have e := R.2.2.2.2.1.1
      rw [h0] at e
      simp only [F_C_back, e, zero_I, show (I ((0 : Nat) : Int) = I 0) = True from eq_true rfl, not_true, if_false, c_ref3, bd_s]
    · have e := R.2.2.2.2.1.1
      rw [h0] at e
      simp only [F_M_back, setT_d, hw_s, e, zero_I, show (I ((0 : Nat) : Int) = I 0) = True from eq_true rfl, not_true, if_false, m_ref3, bd_s]
  · have hp : 0 < (sU S).length := by omega
    have Jp := popS_inv J hp
    obtain ⟨t, ht⟩ : ∃ t, (sU S).length = t + 1 := sfuel hp
    refine ⟨I (t : Int), popS S, Jp, fun h R => ?_, fun h R => ?_⟩
    · obtain ⟨r1, r2, r3, r4, r5, r6⟩ := id R
      obtain ⟨u0, u1⟩ := id r5
      obtain ⟨x, y, z, b1, b2, b3, b4, b5, b6, b7, b8, b9, b10⟩ := u1 t (by omega)
      rw [getD_out (l := sU S) (i := t + 1) (by omega)] at b10
      have et : (sU S).length - 1 = t := by omega
      have u : (sU S).getD ((sU S).length - 1) (sN S) = unDo (sN S) x y z := by rw [et]; exact b10
      have e1 : I (((sU S).length : Nat) : Int) - I 1 = I (t : Int) := by
        rw [I_sub]
        congr 1
        omega
      have ne0 : (I (((sU S).length : Nat) : Int) = I 0) = False := by
        rw [I_eq (by omega) (by omega) (by omega) (by omega)]
        exact eq_false (by omega)
      have main : ∀ (K i : Nat) (v : Int32), (K = 12 ∨ K = 10 ∨ (K = 8 ∧ i = 10)) → F_G_takeBack h = some (mm_hset (mm_hset h.1 31 3 (I t)) K i v, h.2) → RepH 8 (unDo (sN S) x y z) (mm_hset (mm_hset h.1 31 3 (I t)) K i v) → ∃ h', F_C_back h = some (I (t : Int), h') ∧ RC (popS S) h' ∧ FrC h h' := by
        intro K i v hK hF hR
        refine ⟨(mm_hset (mm_hset h.1 31 3 (I t)) K i v, h.2), ?_, ⟨?_, RImg_cg (h := h) (by simp (disch := omega) only [hs_ne]) (fun k a b => by simp (disch := omega) only [hrow]) r2, ⟨by simp (disch := omega) only [hs_ne]; exact r3.1, fun i hi => by simp (disch := omega) only [hs_ne]; exact r3.2 i hi⟩, ⟨by simp (disch := omega) only [hs_ne]; exact r4.1, fun i hi => by simp (disch := omega) only [hs_ne]; exact r4.2 i hi⟩, RUn_pop r5 hp u (by simp (disch := omega) only [hs_ne, hs_eq]; rw [et]) (fun k a b => by simp (disch := omega) only [hrow]), fun i hi => by simp (disch := omega) only [hs_ne]; exact r6 i hi⟩, fun k i hk => by simp (disch := omega) only [hs_ne]⟩
        · simp (disch := omega) only [F_C_back, u0, zero_I, ne0, not_false_iff, if_true, hF, bd_s, hs_ne, hs_eq]
        · show RepH 8 ((sU S).getD ((sU S).length - 1) (sN S)) _
          rw [u]
          exact hR
      have RL : RepH 8 (sN S) (mm_hset h.1 31 3 (I t)) := RepH_cg (fun k a b => hrow (by omega)) r1
      have zt : ((z.toNat : Nat) : Int) = z := by omega
      rcases (show x = 0 ∨ x = 1 ∨ x = 2 by omega) with rfl | rfl | rfl
      · refine main 12 y (I z) (Or.inl rfl) ?_ ?_
        · have y4 := b6 rfl
          have n2 := J1.2.1
          simp (disch := omega) only [F_G_takeBack, u0, I_le, if_pos (show (1 : Int) ≤ (((sU S).length : Nat) : Int) by omega), e1, hw_s, hs_eq, hs_ne, ck_in, I_nat, Int.toNat_natCast, b3, b4, b5, iw_s, zero_I, I_eq, if_pos (show ¬ ((0 : Nat) : Int) = 2 by omega), if_neg (show ¬ ¬ ((0 : Nat) : Int) = 0 by omega)]
        · rw [unDo_0]
          exact RepH_S (h := (mm_hset h.1 31 3 (I t), h.2)) RL
      · refine main 10 y (I z) (Or.inr (Or.inl rfl)) ?_ ?_
        · have y4 := b7 rfl
          have n2 := J1.1
          simp (disch := omega) only [F_G_takeBack, u0, I_le, if_pos (show (1 : Int) ≤ (((sU S).length : Nat) : Int) by omega), e1, hw_s, hs_eq, hs_ne, ck_in, I_nat, Int.toNat_natCast, b3, b4, b5, iw_s, zero_I, I_eq, if_pos (show ¬ ((1 : Nat) : Int) = 2 by omega), if_pos (show ¬ ((1 : Nat) : Int) = 0 by omega)]
        · rw [unDo_1]
          exact RepH_C RL
      · refine main 8 10 (I z) (Or.inr (Or.inr ⟨rfl, rfl⟩)) ?_ ?_
        · simp (disch := omega) only [F_G_takeBack, u0, I_le, if_pos (show (1 : Int) ≤ (((sU S).length : Nat) : Int) by omega), e1, hw_s, hs_eq, hs_ne, ck_in, I_nat, Int.toNat_natCast, b3, b4, b5, iw_s, zero_I, I_eq, if_neg (show ¬ ¬ ((2 : Nat) : Int) = 2 by omega)]
        · rw [unDo_2]
          have g := RepH_L (l := z.toNat) RL
          rw [zt] at g
          exact g
    · have R' := RM_Sc R (ScM_setT h)
      obtain ⟨r1, r2, r3, r4, r5, r6⟩ := id R'
      obtain ⟨u0, u1⟩ := id r5
      have et : (sU S).length - 1 = t := by omega
      have e1 : I (((sU S).length : Nat) : Int) - I 1 = I (t : Int) := by
        rw [I_sub]
        congr 1
        omega
      have ne0 : (I (((sU S).length : Nat) : Int) = I 0) = False := by
        rw [I_eq (by omega) (by omega) (by omega) (by omega)]
        exact eq_false (by omega)
      obtain ⟨h1, p1, p2, p3, p4, p5⟩ := l_bk31 (t := t) (by omega) 52 0 5000 (mm_hset (setT h).1 55 30 (I t), (setT h).2) (by omega) (by omega) (by simp only [hs_eq])
      have p1' : L_M_back_31 5000 (I 0) (mm_hset (setT h).1 55 30 (I t), (setT h).2) = some h1 := p1
      have rv := u1 t (by omega)
      have N' : (popS S).1 = (sU S).getD t (sN S) := by
        show (sU S).getD ((sU S).length - 1) (sN S) = _
        rw [et]
      have rv' : RepV (sN (popS S)) (fun j => (setT h).1 70 (52 * t + j)) := by
        show RepV ((sU S).getD ((sU S).length - 1) (sN S)) _
        rw [et]
        exact rv
      have e71 : ∀ j, j < 52 → h1.1 71 j = (setT h).1 70 (52 * t + j) := fun j hj => (p3 j (by omega) hj).trans (by simp (disch := omega) only [hs_ne])
      have hlN := ok_lt Jp.2.2.2.2.2.2.2.2
      obtain ⟨h2, q1, T⟩ := gk_all (h0 := h1) (by rw [e71 3 (by omega)]; exact bit9 hlN rv'.2.2.2.1)
      obtain ⟨w1, w2, w3, w4, w5⟩ := T
      have nc : ∀ k i, ¬ (56 ≤ k ∧ k ≤ 61) → ¬ (k = 55 ∧ (i = 0 ∨ i = 2 ∨ i = 5 ∨ i = 9)) → ∀ j, j < 52 → ¬ ca j = (k, i) := by
        intro k i a b j hj e
        have q := ca_pl ⟨j, hj⟩
        simp only at q
        rw [e] at q
        simp only at q
        omega
      have v : ∀ k i, ¬ k = 71 → ¬ (56 ≤ k ∧ k ≤ 61) → ¬ (k = 55 ∧ (i = 0 ∨ i = 2 ∨ i = 5 ∨ i = 9)) → ¬ (k = 55 ∧ (i = 25 ∨ i = 26)) → ¬ (k = 55 ∧ i = 30) → h2.1 k i = (setT h).1 k i := fun k i n a b c d => by
        rw [w5 k i (nc k i a b) c, p5 k n]
        exact hs_ne d
      have vr : ∀ k, ¬ k = 71 → ¬ (56 ≤ k ∧ k ≤ 61) → ¬ k = 55 → h2.1 k = (setT h).1 k := fun k n a b => funext fun i => v k i n a (by omega) (by omega) (by omega)
      have m1 : RepM (sN (popS S)) h2.1 := RepM_sv Jp.1 rv' (fun j hj => by
        rw [w4 j hj, e71 j hj])
      have e30 : h2.1 55 30 = I (t : Int) := by
        rw [w5 55 30 (nc 55 30 (by omega) (by omega)) (by omega), p5 55 (by omega)]
        simp only [hs_eq]
      refine ⟨h2, ?_, ⟨m1, RImgM_cg (h := setT h) (v 55 24 (by omega) (by omega) (by omega) (by omega) (by omega)) (vr 69 (by omega) (by omega) (by omega)) r2, ⟨(v 55 15 (by omega) (by omega) (by omega) (by omega) (by omega)).trans r3.1, fun i hi => (v 64 i (by omega) (by omega) (by omega) (by omega) (by omega)).trans (r3.2 i hi)⟩, ⟨(v 55 34 (by omega) (by omega) (by omega) (by omega) (by omega)).trans r4.1, fun i hi => (v 74 i (by omega) (by omega) (by omega) (by omega) (by omega)).trans (r4.2 i hi)⟩, ⟨?_, fun i hi => ?_⟩, fun i hi => (v 62 i (by omega) (by omega) (by omega) (by omega) (by omega)).trans (r6 i hi)⟩, fun k i hk => (v k i (by omega) (by omega) (by omega) (by omega) (by omega)).trans (ScM_setT h k i (scM_lo hk))⟩
      · simp (disch := omega) only [F_M_back, setT_d, hw_s, u0, zero_I, ne0, not_false_iff, if_true, e1, p1', bd_s, q1, e30]
      · have len : (sU (popS S)).length = t := by
          show (sU S).dropLast.length = t
          rw [List.length_dropLast]
          omega
        rw [len]
        exact e30
      · have len : (sU (popS S)).length = t := by
          show (sU S).dropLast.length = t
          rw [List.length_dropLast]
          omega
        rw [len] at hi
        show RepV ((sU S).dropLast.getD i _) (fun j => h2.1 70 (52 * i + j))
        rw [drop_get (e := sN S) (by omega), vr 70 (by omega) (by omega) (by omega)]
        exact u1 i (by omega)
end BCK
