-- 3 house: what is told comes
def FrX (h h' : MH) : Prop := ∀ k i, ¬ (k = 55 ∧ (i = 0 ∨ i = 2 ∨ i = 5 ∨ i = 9 ∨ i = 13)) → ¬ (56 ≤ k ∧ k ≤ 61) → ¬ k = 63 → h'.1 k i = h.1 k i
theorem FrX_rfl (h : MH) : FrX h h := fun _ _ _ _ _ => rfl
theorem FrX_tr {a b c : MH} (p : FrX a b) (q : FrX b c) : FrX a c := fun k i x y z => (q k i x y z).trans (p k i x y z)
theorem FrX_W {a b : MH} (p : FrW a b) : FrX a b := fun k i x y z => p.2 k i z (by omega)
section TOL
variable {a : HS} {h : MH} {k : Nat}
theorem RepM_B {f : Nat → Nat → Int32} (R : RepM a f) (hn : nB a < 6) {x y : Int} : RepM (addB a x y) (mm_hset (mm_hset (mm_hset (mm_hset (mm_hset f 56 (4 * nB a) (I (x / 100))) 56 (4 * nB a + 1) (I (x % 100))) 56 (4 * nB a + 2) (I (y / 100))) 56 (4 * nB a + 3) (I (y % 100))) 55 0 (I ((nB a + 1 : Nat) : Int))) := by
  obtain ⟨t1, t2, t3, t4, t5, t6, t7, t8, t9, t10⟩ := id R
  refine ⟨by simp (disch := omega) only [hs_ne, hs_eq]; rfl, by simp (disch := omega) only [hs_ne]; exact t2, by simp (disch := omega) only [hs_ne]; exact t3, by simp (disch := omega) only [hs_ne]; exact t4, fun p hp => ?_, fun w hw => by simp (disch := omega) only [hs_ne]; exact t6 w hw, fun w hw => by simp (disch := omega) only [hs_ne]; exact t7 w hw, fun w hw => by simp (disch := omega) only [hs_ne]; exact t8 w hw, fun w hw => by simp (disch := omega) only [hs_ne]; exact t9 w hw, fun c hc => by simp (disch := omega) only [hs_ne]; exact t10 c hc⟩
  have hp' : p < nB a + 1 := hp
  rw [addB_0, addB_1, addB_2, addB_3]
  by_cases c : p = nB a
  · subst c
    simp (disch := omega) only [hs_ne, hs_eq, if_true, and_self]
  · simp only [if_neg c]
    simp (disch := omega) only [hs_ne]
    exact t5 p (by omega)
theorem RepM_P {f : Nat → Nat → Int32} (R : RepM a f) {x y : Int} : RepM (addP a x y) (mm_hset (mm_hset (mm_hset f 57 (nP a) (I x)) 58 (nP a) (I y)) 55 2 (I ((nP a + 1 : Nat) : Int))) := by
  obtain ⟨t1, t2, t3, t4, t5, t6, t7, t8, t9, t10⟩ := id R
  refine ⟨by simp (disch := omega) only [hs_ne]; exact t1, by simp (disch := omega) only [hs_ne, hs_eq]; rfl, by simp (disch := omega) only [hs_ne]; exact t3, by simp (disch := omega) only [hs_ne]; exact t4, fun p hp => by simp (disch := omega) only [hs_ne]; exact t5 p hp, fun p hp => ?_, fun p hp => ?_, fun w hw => by simp (disch := omega) only [hs_ne]; exact t8 w hw, fun w hw => by simp (disch := omega) only [hs_ne]; exact t9 w hw, fun c hc => by simp (disch := omega) only [hs_ne]; exact t10 c hc⟩
  · have hp' : p < nP a + 1 := hp
    rw [addP_A]
    by_cases c : p = nP a
    · rw [if_pos c, c]
      simp (disch := omega) only [hs_ne, hs_eq]
    · rw [if_neg c]
      simp (disch := omega) only [hs_ne]
      exact t6 p (by omega)
  · have hp' : p < nP a + 1 := hp
    rw [addP_S]
    by_cases c : p = nP a
    · rw [if_pos c, c]
      simp (disch := omega) only [hs_ne, hs_eq]
    · rw [if_neg c]
      simp (disch := omega) only [hs_ne]
      exact t7 p (by omega)
theorem RepM_W2 {f : Nat → Nat → Int32} (R : RepM a f) {x y : Int} : RepM (addW a x y) (mm_hset (mm_hset (mm_hset f 59 (nW a) (I x)) 60 (nW a) (I y)) 55 5 (I ((nW a + 1 : Nat) : Int))) := by
  obtain ⟨t1, t2, t3, t4, t5, t6, t7, t8, t9, t10⟩ := id R
  refine ⟨by simp (disch := omega) only [hs_ne]; exact t1, by simp (disch := omega) only [hs_ne]; exact t2, by simp (disch := omega) only [hs_ne, hs_eq]; rfl, by simp (disch := omega) only [hs_ne]; exact t4, fun p hp => by simp (disch := omega) only [hs_ne]; exact t5 p hp, fun p hp => by simp (disch := omega) only [hs_ne]; exact t6 p hp, fun p hp => by simp (disch := omega) only [hs_ne]; exact t7 p hp, fun w hw => ?_, fun w hw => ?_, fun c hc => by simp (disch := omega) only [hs_ne]; exact t10 c hc⟩
  · have hp' : w < nW a + 1 := hw
    rw [addW_K]
    by_cases c : w = nW a
    · rw [if_pos c, c]
      simp (disch := omega) only [hs_ne, hs_eq]
    · rw [if_neg c]
      simp (disch := omega) only [hs_ne]
      exact t8 w (by omega)
  · have hp' : w < nW a + 1 := hw
    rw [addW_F]
    by_cases c : w = nW a
    · rw [if_pos c, c]
      simp (disch := omega) only [hs_ne, hs_eq]
    · rw [if_neg c]
      simp (disch := omega) only [hs_ne]
      exact t9 w (by omega)
theorem tb0 : (I 0 &&& 1 = I 0) := by decide
theorem tb1 : (I 1 &&& 1 = I 1) := by decide
theorem m_isS {x : Int} (h0 : 0 ≤ x) (h1 : x ≤ 99) (g : MH) : F_M_isSize (I x) g = some (I (if 1 ≤ x ∧ x ≤ 24 then 1 else 0), g) := by
  simp (disch := omega) only [F_M_isSize, toI64, m_in, bd_s]
  by_cases c : 1 ≤ x ∧ x ≤ 24
  · rw [if_pos c]
    exact cd_t tb1
  · rw [if_neg c]
    exact cd_t tb0
/-- a told bed -/
theorem m_t98 (R : RepM a h.1) (hk : k ≤ 48) {p : Nat} {ds : List Int} (D : tdS (p, 98, ds) k h.1) (hd : dOK ds) (J : InvH a) :
    ∃ h', F_M_comesTold (I (k : Int)) h = some (I ((if (apS a 98 ds).isSome = true then 1 else 0 : Nat) : Int), h') ∧ FrX h h' ∧ ∀ a', apS a 98 ds = some a' → RepM a' h'.1 := by
  obtain ⟨j1, j2, j3, j4, j5, j6⟩ := id J
  obtain ⟨-, d66, d67, -⟩ := D
  have d66 : h.1 66 k = I 98 := d66
  have v0 := d67 rfl 0 (by omega)
  have v1 := d67 rfl 1 (by omega)
  have v2 := d67 rfl 2 (by omega)
  have v3 := d67 rfl 3 (by omega)
  have g0 := dOK_g hd 0
  have g1 := dOK_g hd 1
  have g2 := dOK_g hd 2
  have g3 := dOK_g hd 3
  have g4 := dOK_g hd 4
  have g5 := dOK_g hd 5
  have g6 := dOK_g hd 6
  have g7 := dOK_g hd 7
  have en1 : nb1 ds = 1000 * ds.getD 0 0 + 100 * ds.getD 1 0 + 10 * ds.getD 2 0 + ds.getD 3 0 := rfl
  have en2 : nb2 ds = 1000 * ds.getD 4 0 + 100 * ds.getD 5 0 + 10 * ds.getD 6 0 + ds.getD 7 0 := rfl
  have eA : apS a 98 ds = if sz (nb1 ds) = true ∧ sz (nb2 ds) = true ∧ nB a < 6 then some (addB a (nb1 ds) (nb2 ds)) else none := by unfold apS; rw [if_pos rfl]
  have z1 := sz_t (x := nb1 ds)
  have z2 := sz_t (x := nb2 ds)
  unfold small large at z1 z2
  have w0 : (2 * 0 : Nat) = 0 := rfl
  have w1 : (2 * 1 : Nat) = 2 := rfl
  have w2 : (2 * 2 : Nat) = 4 := rfl
  have w3 : (2 * 3 : Nat) = 6 := rfl
  rw [w0] at v0
  rw [w1] at v1
  rw [w2] at v2
  rw [w3] at v3
  simp only [Nat.zero_add, Nat.add_zero, Nat.reduceAdd] at v0 v1 v2 v3
  generalize q0 : ds.getD 0 0 = e0 at *
  generalize q1 : ds.getD 1 0 = e1 at *
  generalize q2 : ds.getD 2 0 = e2 at *
  generalize q3 : ds.getD 3 0 = e3 at *
  generalize q4 : ds.getD 4 0 = e4 at *
  generalize q5 : ds.getD 5 0 = e5 at *
  generalize q6 : ds.getD 6 0 = e6 at *
  generalize q7 : ds.getD 7 0 = e7 at *
  generalize nb1 ds = x at *
  generalize nb2 ds = y at *
  have x1 : x / 100 = 10 * e0 + e1 := by omega
  have x2 : x % 100 = 10 * e2 + e3 := by omega
  have y1 : y / 100 = 10 * e4 + e5 := by omega
  have y2 : y % 100 = 10 * e6 + e7 := by omega
  rw [← x1] at v0
  rw [← x2] at v1
  rw [← y1] at v2
  rw [← y2] at v3
  have i0 : (10 * (k : Int)).toNat = 10 * k := by omega
  have i1 : (10 * (k : Int) + 1).toNat = 10 * k + 1 := by omega
  have i2 : (10 * (k : Int) + 2).toNat = 10 * k + 2 := by omega
  have i3 : (10 * (k : Int) + 3).toNat = 10 * k + 3 := by omega
  have s0 := m_isS (x := x / 100) (by omega) (by omega)
  have s1 := m_isS (x := x % 100) (by omega) (by omega)
  have s2 := m_isS (x := y / 100) (by omega) (by omega)
  have s3 := m_isS (x := y % 100) (by omega) (by omega)
  clear g0 g1 g2 g3 g4 g5 g6 g7 x1 x2 y1 y2 en1 en2 j2 j3 j4 j5 j6 q0 q1 q2 q3 q4 q5 q6 q7
  have no : ¬ (sz x = true ∧ sz y = true ∧ nB a < 6) → F_M_comesTold (I (k : Int)) h = some (I 0, h) → ∃ h', F_M_comesTold (I (k : Int)) h = some (I ((if (apS a 98 ds).isSome = true then 1 else 0 : Nat) : Int), h') ∧ FrX h h' ∧ ∀ a', apS a 98 ds = some a' → RepM a' h'.1 := by
    intro n e
    rw [eA, if_neg n]
    exact ⟨h, e, FrX_rfl h, fun a' q => absurd q (by simp)⟩
  have kk : I 10 * I (k : Int) = I (10 * (k : Int)) := by rw [I_mul]
  by_cases c0 : 1 ≤ x / 100 ∧ x / 100 ≤ 24
  · by_cases c1 : 1 ≤ x % 100 ∧ x % 100 ≤ 24
    · by_cases c2 : 1 ≤ y / 100 ∧ y / 100 ≤ 24
      · by_cases c3 : 1 ≤ y % 100 ∧ y % 100 ≤ 24
        · rw [if_pos c0] at s0
          rw [if_pos c1] at s1
          rw [if_pos c2] at s2
          rw [if_pos c3] at s3
          by_cases c6 : nB a < 6
          · have bc := bedC (f := h.1) (u := x / 100) (v := x % 100) (w := y / 100) (z := y % 100) (e := h.2) c6 (rm_b R)
            have bc' : F_M_bedComes (I (x / 100)) (I (x % 100)) (I (y / 100)) (I (y % 100)) h = _ := bc
            rw [eA, if_pos (show sz x = true ∧ sz y = true ∧ nB a < 6 from ⟨z1.mpr (by omega), z2.mpr (by omega), c6⟩)]
            refine ⟨(mm_hset (mm_hset (mm_hset (mm_hset (mm_hset h.1 56 (4 * nB a) (I (x / 100))) 56 (4 * nB a + 1) (I (x % 100))) 56 (4 * nB a + 2) (I (y / 100))) 56 (4 * nB a + 3) (I (y % 100))) 55 0 (I ((nB a + 1 : Nat) : Int)), h.2), ?_, ?_, fun a' q => ?_⟩
            · show F_M_comesTold (I (k : Int)) h = some (I 1, _)
              simp (disch := omega) only [F_M_comesTold, I_mul, I_add, ck_in, I_nat, i0, i1, i2, i3, Int.toNat_natCast, d66, iw_s, kw_s, v0, v1, v2, v3, s0, s1, s2, s3, bd_s, zero_I, if_true, one_ne, if_false, rm_b R, I_le, if_neg (show ¬ (6 : Int) ≤ (nB a : Int) by omega), bc', cd_t tb1]
            · intro k i u v w
              simp (disch := omega) only [hs_ne]
            · rw [← Option.some.inj q]
              exact RepM_B R c6
          · refine no (fun q => c6 q.2.2) ?_
            simp (disch := omega) only [F_M_comesTold, I_mul, I_add, ck_in, I_nat, i0, i1, i2, i3, Int.toNat_natCast, d66, iw_s, kw_s, v0, v1, v2, v3, s0, s1, s2, s3, bd_s, zero_I, if_true, one_ne, if_false, rm_b R, I_le, if_pos (show (6 : Int) ≤ (nB a : Int) by omega), cd_t tb0]
        · rw [if_pos c0] at s0
          rw [if_pos c1] at s1
          rw [if_pos c2] at s2
          rw [if_neg c3] at s3
          refine no (fun q => by have := z2.mp q.2.1; omega) ?_
          simp (disch := omega) only [F_M_comesTold, I_mul, I_add, ck_in, I_nat, i0, i1, i2, i3, Int.toNat_natCast, d66, iw_s, kw_s, v0, v1, v2, v3, s0, s1, s2, s3, bd_s, zero_I, if_true, one_ne, if_false, cd_t tb0]
      · rw [if_pos c0] at s0
        rw [if_pos c1] at s1
        rw [if_neg c2] at s2
        refine no (fun q => by have := z2.mp q.2.1; omega) ?_
        simp (disch := omega) only [F_M_comesTold, I_mul, I_add, ck_in, I_nat, i0, i1, i2, i3, Int.toNat_natCast, d66, iw_s, kw_s, v0, v1, v2, s0, s1, s2, bd_s, zero_I, if_true, one_ne, if_false, cd_t tb0]
    · rw [if_pos c0] at s0
      rw [if_neg c1] at s1
      refine no (fun q => by have := z1.mp q.1; omega) ?_
      simp (disch := omega) only [F_M_comesTold, I_mul, I_add, ck_in, I_nat, i0, i1, i2, i3, Int.toNat_natCast, d66, iw_s, kw_s, v0, v1, s0, s1, bd_s, zero_I, if_true, one_ne, if_false, cd_t tb0]
  · rw [if_neg c0] at s0
    refine no (fun q => by have := z1.mp q.1; omega) ?_
    simp (disch := omega) only [F_M_comesTold, I_mul, I_add, ck_in, I_nat, i0, i1, i2, i3, Int.toNat_natCast, d66, iw_s, kw_s, v0, v1, s0, bd_s, zero_I, if_true, one_ne, if_false, cd_t tb0]
end TOL
