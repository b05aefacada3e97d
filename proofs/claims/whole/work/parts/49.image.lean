-- 57 image, 58 restore
theorem cpy_in {f : Nat → Nat → Int32} {ks kd n i : Nat} (h : i < n) : mm_hcpy f ks kd 0 0 n kd i = f ks i := by
  unfold mm_hcpy
  rw [if_pos rfl]
  unfold va_cpy
  rw [if_pos ⟨by omega, by omega⟩]
  congr 1
  omega
theorem cpy_row {f : Nat → Nat → Int32} {ks kd s d n k : Nat} (h : ¬ k = kd) : mm_hcpy f ks kd s d n k = f k := by
  unfold mm_hcpy
  rw [if_neg h]
theorem cpy_ne {f : Nat → Nat → Int32} {ks kd s d n k i : Nat} (h : ¬ k = kd) : mm_hcpy f ks kd s d n k i = f k i := by rw [cpy_row h]
theorem RepV_sv {a : HS} {f : Nat → Nat → Int32} {g : Nat → Int32} (J : InvH a) (R : RepM a f) (e : ∀ j, j < 52 → g j = sv f j) : RepV a g := by
  obtain ⟨j1, j2, j3, -⟩ := J
  obtain ⟨t1, t2, t3, t4, t5, t6, t7, t8, t9, t10⟩ := R
  have q56 : ∀ x, x < 24 → g (4 + x) = f 56 x := by
    intro x hx
    have a : ca (4 + x) = (56, x) := ca_56 ⟨x, hx⟩
    rw [e _ (by omega)]
    unfold sv
    rw [a]
  have q57 : ∀ x, x < 4 → g (28 + 3 * x) = f 57 x ∧ g (28 + 3 * x + 1) = f 58 x ∧ g (28 + 3 * x + 2) = f 61 x := by
    intro x hx
    obtain ⟨a1, a2, a3⟩ : ca (28 + 3 * x) = (57, x) ∧ ca (28 + 3 * x + 1) = (58, x) ∧ ca (28 + 3 * x + 2) = (61, x) := ca_57 ⟨x, hx⟩
    rw [e _ (by omega), e _ (by omega), e _ (by omega)]
    unfold sv
    rw [a1, a2, a3]
    exact ⟨rfl, rfl, rfl⟩
  have q59 : ∀ x, x < 6 → g (40 + 2 * x) = f 59 x ∧ g (40 + 2 * x + 1) = f 60 x := by
    intro x hx
    obtain ⟨a1, a2⟩ : ca (40 + 2 * x) = (59, x) ∧ ca (40 + 2 * x + 1) = (60, x) := ca_59 ⟨x, hx⟩
    rw [e _ (by omega), e _ (by omega)]
    unfold sv
    rw [a1, a2]
    exact ⟨rfl, rfl⟩
  refine ⟨(e 0 (by omega)).trans t1, (e 1 (by omega)).trans t2, (e 2 (by omega)).trans t3, (e 3 (by omega)).trans t4, fun b hb => ?_, fun p hp => (q57 p (by omega)).1.trans (t6 p hp), fun p hp => (q57 p (by omega)).2.1.trans (t7 p hp), fun c hc => (q57 c hc).2.2.trans (t10 c hc), fun w hw => (q59 w (by omega)).1.trans (t8 w hw), fun w hw => (q59 w (by omega)).2.trans (t9 w hw)⟩
  have k := t5 b hb
  exact ⟨(q56 _ (by omega)).trans k.1, (q56 _ (by omega)).trans k.2.1, (q56 _ (by omega)).trans k.2.2.1, (q56 _ (by omega)).trans k.2.2.2⟩
theorem RepM_sv {a : HS} {f : Nat → Nat → Int32} {g : Nat → Int32} (J : InvH a) (R : RepV a g) (e : ∀ j, j < 52 → sv f j = g j) : RepM a f := by
  obtain ⟨j1, j2, j3, -⟩ := J
  obtain ⟨t1, t2, t3, t4, t5, t6, t7, t10, t8, t9⟩ := R
  have q56 : ∀ x, x < 24 → f 56 x = g (4 + x) := by
    intro x hx
    have a : ca (4 + x) = (56, x) := ca_56 ⟨x, hx⟩
    rw [← e _ (by omega)]
    unfold sv
    rw [a]
  have q57 : ∀ x, x < 4 → f 57 x = g (28 + 3 * x) ∧ f 58 x = g (28 + 3 * x + 1) ∧ f 61 x = g (28 + 3 * x + 2) := by
    intro x hx
    obtain ⟨a1, a2, a3⟩ : ca (28 + 3 * x) = (57, x) ∧ ca (28 + 3 * x + 1) = (58, x) ∧ ca (28 + 3 * x + 2) = (61, x) := ca_57 ⟨x, hx⟩
    rw [← e _ (by omega), ← e _ (by omega), ← e _ (by omega)]
    unfold sv
    rw [a1, a2, a3]
    exact ⟨rfl, rfl, rfl⟩
  have q59 : ∀ x, x < 6 → f 59 x = g (40 + 2 * x) ∧ f 60 x = g (40 + 2 * x + 1) := by
    intro x hx
    obtain ⟨a1, a2⟩ : ca (40 + 2 * x) = (59, x) ∧ ca (40 + 2 * x + 1) = (60, x) := ca_59 ⟨x, hx⟩
    rw [← e _ (by omega), ← e _ (by omega)]
    unfold sv
    rw [a1, a2]
    exact ⟨rfl, rfl⟩
  refine ⟨(e 0 (by omega)).trans t1, (e 1 (by omega)).trans t2, (e 2 (by omega)).trans t3, (e 3 (by omega)).trans t4, fun b hb => ?_, fun p hp => (q57 p (by omega)).1.trans (t6 p hp), fun p hp => (q57 p (by omega)).2.1.trans (t7 p hp), fun w hw => (q59 w (by omega)).1.trans (t8 w hw), fun w hw => (q59 w (by omega)).2.trans (t9 w hw), fun c hc => (q57 c hc).2.2.trans (t10 c hc)⟩
  have k := t5 b hb
  exact ⟨(q56 _ (by omega)).trans k.1, (q56 _ (by omega)).trans k.2.1, (q56 _ (by omega)).trans k.2.2.1, (q56 _ (by omega)).trans k.2.2.2⟩
theorem bit9 {l : Nat} (hl : l < 512) {x : Int32} (h : x = I ((l / 256 : Nat) : Int)) : x = I 0 ∨ x = I 1 := by
  rcases (show l / 256 = 0 ∨ l / 256 = 1 by omega) with q | q <;> rw [q] at h
  · exact Or.inl h
  · exact Or.inr h
theorem RUnM_nil {S : SS} {h : MH} (e : h.1 55 30 = I 0) (u : sU S = []) : RUnM S h := by
  unfold RUnM
  rw [u]
  exact ⟨e, fun i hi => absurd hi (Nat.not_lt_zero i)⟩
theorem RUn_nil {S : SS} {h : MH} (e : h.1 31 3 = I 0) (u : sU S = []) : RUn S h := by
  unfold RUn
  rw [u]
  exact ⟨e, fun i hi => absurd hi (Nat.not_lt_zero i)⟩
theorem n_0 : (I 0).toNatClampNeg = 0 := rfl
theorem n_4 : (I 4).toNatClampNeg = 4 := rfl
theorem n_6 : (I 6).toNatClampNeg = 6 := rfl
def cpH (f : Nat → Nat → Int32) (q r : Nat) : Nat → Nat → Int32 := mm_hset (mm_hset (mm_hset (mm_hset (mm_hcpy (mm_hcpy (mm_hcpy (mm_hcpy (mm_hcpy (mm_hcpy f (q + 1) (r + 1) 0 0 6) (q + 2) (r + 2) 0 0 6) (q + 3) (r + 3) 0 0 4) (q + 4) (r + 4) 0 0 4) (q + 5) (r + 5) 0 0 6) (q + 6) (r + 6) 0 0 6) r 7 (f q 7)) r 8 (f q 8)) r 9 (f q 9)) r 10 (f q 10)
theorem cpH_rep {a : HS} {f : Nat → Nat → Int32} {q r : Nat} (J : InvH a) (d : q + 6 < r ∨ r + 6 < q) (R : RepH q a f) : RepH r a (cpH f q r) := by
  obtain ⟨j1, j2, j3, -⟩ := J
  obtain ⟨t1, t2, t3, t4, t5, t6, t7, t8, t9, t10⟩ := R
  unfold cpH
  refine ⟨?_, ?_, ?_, ?_, fun b hb => ?_, fun b hb => ?_, fun p hp => ?_, fun p hp => ?_, fun w hw => ?_, fun w hw => ?_⟩
  · simp (disch := omega) only [hs_ne, hs_eq]
    exact t1
  · simp (disch := omega) only [hs_ne, hs_eq]
    exact t2
  · simp (disch := omega) only [hs_ne, hs_eq]
    exact t3
  · simp (disch := omega) only [hs_eq]
    exact t4
  · simp (disch := omega) only [hs_ne, cpy_ne, cpy_in]
    exact t5 b hb
  · simp (disch := omega) only [hs_ne, cpy_ne, cpy_in]
    exact t6 b hb
  · simp (disch := omega) only [hs_ne, cpy_ne, cpy_in]
    exact t7 p hp
  · simp (disch := omega) only [hs_ne, cpy_ne, cpy_in]
    exact t8 p hp
  · simp (disch := omega) only [hs_ne, cpy_ne, cpy_in]
    exact t9 w hw
  · simp (disch := omega) only [hs_ne, cpy_ne, cpy_in]
    exact t10 w hw
theorem cpH_row {f : Nat → Nat → Int32} {q r k : Nat} (h : ¬ (r ≤ k ∧ k ≤ r + 6)) : cpH f q r k = f k := by
  unfold cpH
  rw [hrow (by omega), hrow (by omega), hrow (by omega), hrow (by omega), cpy_row (by omega), cpy_row (by omega), cpy_row (by omega), cpy_row (by omega), cpy_row (by omega), cpy_row (by omega)]
theorem cpH_ne {f : Nat → Nat → Int32} {q r k i : Nat} (h : ¬ (r ≤ k ∧ k ≤ r + 6)) : cpH f q r k i = f k i := by rw [cpH_row h]
theorem c_copy3 (h : MH) : F_H_copyFrom_3 h = some (cpH h.1 8 15, h.2) := by
  simp (disch := omega) only [F_H_copyFrom_3, hw_s, n_0, n_4, n_6, hs_ne, cpy_ne]
  rfl
theorem c_copy4 (h : MH) : F_H_copyFrom_4 h = some (cpH h.1 15 8, h.2) := by
  simp (disch := omega) only [F_H_copyFrom_4, hw_s, n_0, n_4, n_6, hs_ne, cpy_ne]
  rfl
theorem s_image {S : SS} (J : InvS S) : Step S F_C_image F_M_image := by
  obtain ⟨J1, J2, J3, J4, J5, J6, J7, J8, J9⟩ := id J
  have hl := ok_lt J9
  refine ⟨I (nB (sN S) : Int), (sN S, some (sN S), sLt S, sRw S, sU S, sR S), ⟨J1, fun a ha => ?_, J3, J4, J5, J6, J7, J8, J9⟩, fun h R => ?_, fun h R => ?_⟩
  · have : sN S = a := Option.some.inj ha
    subst this
    exact ⟨J1, J9⟩
  · obtain ⟨r1, r2, r3, r4, r5, r6⟩ := R
    refine ⟨(mm_hset (cpH h.1 8 15) 0 10 (I 1), h.2), ?_, ⟨RepH_cg (fun k a b => by simp (disch := omega) only [hrow, cpH_row]) r1, ⟨by simp only [hs_eq], RepH_cg (fun k a b => by simp (disch := omega) only [hrow]) (cpH_rep J1 (by omega) r1)⟩, ⟨by simp (disch := omega) only [hs_ne, cpH_ne]; exact r3.1, fun i hi => by simp (disch := omega) only [hs_ne, cpH_ne]; exact r3.2 i hi⟩, ⟨by simp (disch := omega) only [hs_ne, cpH_ne]; exact r4.1, fun i hi => by simp (disch := omega) only [hs_ne, cpH_ne]; exact r4.2 i hi⟩, RUn_cg (S := S) (by simp (disch := omega) only [hs_ne, cpH_ne]) (fun k a b => by simp (disch := omega) only [hrow, cpH_row]) r5, fun i hi => by simp (disch := omega) only [hs_ne, cpH_ne]; exact r6 i hi⟩, fun k i hk => by simp (disch := omega) only [hs_ne, cpH_ne]⟩
    simp (disch := omega) only [F_C_image, c_copy3, bd_s, hw_s, hs_ne, cpH_ne, rn_b r1]
  · have R' := RM_Sc R (ScM_setT h)
    obtain ⟨r1, r2, r3, r4, r5, r6⟩ := R'
    have g1 : RepM (sN S) (mm_hset (setT h).1 55 24 (I 1)) := RepM_cg (by simp (disch := omega) only [hs_ne]) (by simp (disch := omega) only [hs_ne]) (by simp (disch := omega) only [hs_ne]) (by simp (disch := omega) only [hs_ne]) (fun k a b => by simp (disch := omega) only [hrow]) r1
    obtain ⟨h1, p1, T⟩ := tj_all (h0 := (mm_hset (setT h).1 55 24 (I 1), h.2)) (bit9 hl (rm_o g1))
    obtain ⟨u1, u2, u3, u4, u5⟩ := T
    have v : ∀ k i, ¬ k = 69 → ¬ (k = 55 ∧ (i = 25 ∨ i = 26)) → ¬ (k = 55 ∧ i = 24) → h1.1 k i = (setT h).1 k i := fun k i a b c => (u5 k i a b).trans (hs_ne c)
    have vr : ∀ k, ¬ k = 69 → ¬ k = 55 → h1.1 k = (setT h).1 k := fun k a b => funext fun i => v k i a (by omega) (by omega)
    have p1' : F_M_carryAll_3 (I 1) (mm_hset (setT h).1 55 24 (I 1), (setT h).2) = some h1 := p1
    refine ⟨h1, ?_, ⟨RepM_cg (v 55 0 (by omega) (by omega) (by omega)) (v 55 2 (by omega) (by omega) (by omega)) (v 55 5 (by omega) (by omega) (by omega)) (v 55 9 (by omega) (by omega) (by omega)) (fun k a b => vr k (by omega) (by omega)) r1, ⟨(u5 55 24 (by omega) (by omega)).trans (show mm_hset (setT h).1 55 24 (I 1) 55 24 = I 1 from hs_eq), RepV_sv J1 g1 u4⟩, ⟨(v 55 15 (by omega) (by omega) (by omega)).trans r3.1, fun i hi => (v 64 i (by omega) (by omega) (by omega)).trans (r3.2 i hi)⟩, ⟨(v 55 34 (by omega) (by omega) (by omega)).trans r4.1, fun i hi => (v 74 i (by omega) (by omega) (by omega)).trans (r4.2 i hi)⟩, RUnM_cg (S := S) (v 55 30 (by omega) (by omega) (by omega)) (vr 70 (by omega) (by omega)) r5, fun i hi => (v 62 i (by omega) (by omega) (by omega)).trans (r6 i hi)⟩, fun k i hk => (v k i (by omega) (by omega) (by omega)).trans (ScM_setT h k i (scM_lo hk))⟩
    have e0 : h1.1 55 0 = I (nB (sN S)) := (v 55 0 (by omega) (by omega) (by omega)).trans (rm_b r1)
    simp only [F_M_image, setT_d, hw_s, p1', bd_s, e0]
theorem s_restore {S : SS} (J : InvS S) : Step S F_C_restore F_M_restore := by
  obtain ⟨J1, J2, J3, J4, J5, J6, J7, J8, J9⟩ := id J
  rcases hI : sI S with _ | a
  · refine st_ref J (I (-3)) 3 (by omega) (fun h R => ?_) (fun h R => ?_)
    · have r2 := R.2.1
      rw [hI] at r2
      have e : h.1 0 10 = I 0 := r2
      simp only [F_C_restore, e, zero_I, not_true, if_false, c_ref3, bd_s]
    · have r2 := R.2.1
      rw [hI] at r2
      have e : (setT h).1 55 24 = I 0 := r2
      simp only [F_M_restore, setT_d, hw_s, e, zero_I, not_true, if_false, m_ref3, bd_s]
  · obtain ⟨K1, K2⟩ := J2 a hI
    have hl := ok_lt K2
    refine ⟨I (nB a : Int), (a, sI S, sLt S, sRw S, [], sR S), ⟨K1, J2, J3, J4, J5, J6, by show 0 ≤ 8; omega, fun a ha => absurd (show a ∈ ([] : List HS) from ha) List.not_mem_nil, K2⟩, fun h R => ?_, fun h R => ?_⟩
    · obtain ⟨r1, r2, r3, r4, r5, r6⟩ := R
      have r2' := r2
      rw [hI] at r2'
      obtain ⟨e10, i15⟩ := r2'
      have n8 := cpH_rep K1 (r := 8) (by omega) i15
      refine ⟨(mm_hset (cpH h.1 15 8) 31 3 (I 0), h.2), ?_, ⟨RepH_cg (fun k a b => by simp (disch := omega) only [hrow]) n8, RImg_cg (by simp (disch := omega) only [hs_ne, cpH_ne]) (fun k a b => by simp (disch := omega) only [hrow, cpH_row]) r2, ⟨by simp (disch := omega) only [hs_ne, cpH_ne]; exact r3.1, fun i hi => by simp (disch := omega) only [hs_ne, cpH_ne]; exact r3.2 i hi⟩, ⟨by simp (disch := omega) only [hs_ne, cpH_ne]; exact r4.1, fun i hi => by simp (disch := omega) only [hs_ne, cpH_ne]; exact r4.2 i hi⟩, RUn_nil (by simp only [hs_eq]) rfl, fun i hi => by simp (disch := omega) only [hs_ne, cpH_ne]; exact r6 i hi⟩, fun k i hk => by simp (disch := omega) only [hs_ne, cpH_ne]⟩
      have e8 : cpH h.1 15 8 8 7 = I (nB a) := n8.1
      simp (disch := omega) only [F_C_restore, e10, zero_I, one_ne, not_false_iff, if_true, c_copy4, bd_s, hw_s, hs_ne, e8]
    · have R' := RM_Sc R (ScM_setT h)
      obtain ⟨r1, r2, r3, r4, r5, r6⟩ := R'
      have r2' := r2
      rw [hI] at r2'
      obtain ⟨e24, i69⟩ := r2'
      obtain ⟨h1, p1, T⟩ := gj_all (h0 := setT h) (bit9 hl i69.2.2.2.1)
      obtain ⟨u1, u2, u3, u4, u5⟩ := T
      have nc : ∀ k i, ¬ (56 ≤ k ∧ k ≤ 61) → ¬ (k = 55 ∧ (i = 0 ∨ i = 2 ∨ i = 5 ∨ i = 9)) → ∀ j, j < 52 → ¬ ca j = (k, i) := by
        intro k i a b j hj e
        have q := ca_pl ⟨j, hj⟩
        simp only at q
        rw [e] at q
        simp only at q
        omega
      have v : ∀ k i, ¬ (56 ≤ k ∧ k ≤ 61) → ¬ (k = 55 ∧ (i = 0 ∨ i = 2 ∨ i = 5 ∨ i = 9)) → ¬ (k = 55 ∧ (i = 25 ∨ i = 26)) → h1.1 k i = (setT h).1 k i := fun k i a b c => u5 k i (nc k i a b) c
      have vr : ∀ k, ¬ (56 ≤ k ∧ k ≤ 61) → ¬ k = 55 → h1.1 k = (setT h).1 k := fun k a b => funext fun i => v k i a (by omega) (by omega)
      have m1 : RepM a h1.1 := RepM_sv K1 i69 u4
      refine ⟨(mm_hset h1.1 55 30 (I 0), h1.2), ?_, ⟨RepM_cg (by simp (disch := omega) only [hs_ne]) (by simp (disch := omega) only [hs_ne]) (by simp (disch := omega) only [hs_ne]) (by simp (disch := omega) only [hs_ne]) (fun k a b => by simp (disch := omega) only [hrow]) m1, RImgM_cg (h := setT h) (by simp (disch := omega) only [hs_ne]; exact v 55 24 (by omega) (by omega) (by omega)) (by simp (disch := omega) only [hrow]; exact vr 69 (by omega) (by omega)) r2, ⟨by simp (disch := omega) only [hs_ne]; exact (v 55 15 (by omega) (by omega) (by omega)).trans r3.1, fun i hi => by simp (disch := omega) only [hs_ne]; exact (v 64 i (by omega) (by omega) (by omega)).trans (r3.2 i hi)⟩, ⟨by simp (disch := omega) only [hs_ne]; exact (v 55 34 (by omega) (by omega) (by omega)).trans r4.1, fun i hi => by simp (disch := omega) only [hs_ne]; exact (v 74 i (by omega) (by omega) (by omega)).trans (r4.2 i hi)⟩, RUnM_nil (by simp only [hs_eq]) rfl, fun i hi => by simp (disch := omega) only [hs_ne]; exact (v 62 i (by omega) (by omega) (by omega)).trans (r6 i hi)⟩, fun k i hk => by simp (disch := omega) only [hs_ne]; exact (v k i (by omega) (by omega) (by omega)).trans (ScM_setT h k i (scM_lo hk))⟩
      have e0 : h1.1 55 0 = I (nB a) := rm_b m1
      simp (disch := omega) only [F_M_restore, setT_d, hw_s, e24, zero_I, one_ne, not_false_iff, if_true, p1, bd_s, hs_ne, e0]
