-- one call: the interface that the law's loop wants
def Step {α : Type} (S : SS) (F G : MH → Option (α × MH)) : Prop := ∃ (v : α) (S' : SS), InvS S' ∧ (∀ h, RC S h → ∃ h', F h = some (v, h') ∧ RC S' h' ∧ FrC h h') ∧ ∀ h, RM S h → ∃ h', G h = some (v, h') ∧ RM S' h' ∧ FrM h h'
theorem Step_run {α : Type} {S : SS} {F G : MH → Option (α × MH)} (p : Step S F G) {h : MH} (c : RC S h) (m : RM S h) : ∃ v h1 h2 S', F h = some (v, h1) ∧ G h1 = some (v, h2) ∧ RC S' h2 ∧ RM S' h2 ∧ InvS S' := by
  obtain ⟨v, S', i, p1, p2⟩ := p
  obtain ⟨h1, a1, a2, a3⟩ := p1 h c
  obtain ⟨h2, b1, b2, b3⟩ := p2 h1 (RM_Fr m a3)
  exact ⟨v, h1, h2, S', a1, b1, RC_Fr a2 b3, b2, i⟩
-- congruences of the parts
theorem RepH_cg {q : Nat} {a : HS} {f f' : Nat → Nat → Int32} (e : ∀ k, q ≤ k → k ≤ q + 6 → f' k = f k) (R : RepH q a f) : RepH q a f' := by
  unfold RepH at R ⊢
  rw [e q (by omega) (by omega), e (q + 1) (by omega) (by omega), e (q + 2) (by omega) (by omega), e (q + 3) (by omega) (by omega), e (q + 4) (by omega) (by omega), e (q + 5) (by omega) (by omega), e (q + 6) (by omega) (by omega)]
  exact R
theorem RImg_cg {o : Option HS} {h h' : MH} (e0 : h'.1 0 10 = h.1 0 10) (e : ∀ k, 15 ≤ k → k ≤ 21 → h'.1 k = h.1 k) (R : RImg o h) : RImg o h' := by
  cases o with
  | none => exact e0.trans R
  | some a => exact ⟨e0.trans R.1, RepH_cg e R.2⟩
theorem RUn_cg {S : SS} {h h' : MH} (e0 : h'.1 31 3 = h.1 31 3) (e : ∀ k, 32 ≤ k → k ≤ 34 → h'.1 k = h.1 k) (R : RUn S h) : RUn S h' := by
  unfold RUn at R ⊢
  rw [e0, e 32 (by omega) (by omega), e 33 (by omega) (by omega), e 34 (by omega) (by omega)]
  exact R
theorem RepM_cg {a : HS} {f f' : Nat → Nat → Int32} (e0 : f' 55 0 = f 55 0) (e2 : f' 55 2 = f 55 2) (e5 : f' 55 5 = f 55 5) (e9 : f' 55 9 = f 55 9) (e : ∀ k, 56 ≤ k → k ≤ 61 → f' k = f k) (R : RepM a f) : RepM a f' := by
  unfold RepM at R ⊢
  rw [e0, e2, e5, e9, e 56 (by omega) (by omega), e 57 (by omega) (by omega), e 58 (by omega) (by omega), e 59 (by omega) (by omega), e 60 (by omega) (by omega), e 61 (by omega) (by omega)]
  exact R
theorem RImgM_cg {o : Option HS} {h h' : MH} (e0 : h'.1 55 24 = h.1 55 24) (e : h'.1 69 = h.1 69) (R : RImgM o h) : RImgM o h' := by
  cases o with
  | none => exact e0.trans R
  | some a =>
    refine ⟨e0.trans R.1, ?_⟩
    rw [e]
    exact R.2
theorem RUnM_cg {S : SS} {h h' : MH} (e0 : h'.1 55 30 = h.1 55 30) (e : h'.1 70 = h.1 70) (R : RUnM S h) : RUnM S h' := by
  unfold RUnM at R ⊢
  rw [e0, e]
  exact R
theorem hrow {f : Nat → Nat → Int32} {k i : Nat} {x : Int32} {k' : Nat} (h : ¬ k' = k) : mm_hset f k i x k' = f k' := funext fun j => hs_ne (fun q => h q.1)
theorem hs_ne2 {f : Nat → Nat → Int32} {k i k2 i2 : Nat} {x x2 : Int32} {k' i' : Nat} (h2 : ¬ (k' = k2 ∧ i' = i2)) (h : ¬ (k' = k ∧ i' = i)) : mm_hset (mm_hset f k i x) k2 i2 x2 k' i' = f k' i' := (hs_ne h2).trans (hs_ne h)
theorem hrow2 {f : Nat → Nat → Int32} {k i k2 i2 : Nat} {x x2 : Int32} {k' : Nat} (h2 : ¬ k' = k2) (h : ¬ k' = k) : mm_hset (mm_hset f k i x) k2 i2 x2 k' = f k' := (hrow h2).trans (hrow h)
-- a refusal
theorem RC_ref {S : SS} {h : MH} {r : Nat} (hr : r < 7) (R : RC S h) : RC (refS r S) (refC r h) := by
  unfold refS refC
  by_cases h0 : r = 0
  · rw [if_pos h0, if_pos h0]
    exact R
  · rw [if_neg h0, if_neg h0]
    obtain ⟨r1, r2, r3, r4, r5, r6⟩ := R
    refine ⟨RepH_cg (fun k h1 h2 => by simp (disch := omega) only [hrow]) r1, RImg_cg (by simp (disch := omega) only [hs_ne]) (fun k h1 h2 => by simp (disch := omega) only [hrow]) r2, ?_, ?_, RUn_cg (by simp (disch := omega) only [hs_ne]) (fun k h1 h2 => by simp (disch := omega) only [hrow]) r5, fun i hi => ?_⟩
    · exact ⟨by simp (disch := omega) only [hs_ne]; exact r3.1, fun i hi => by simp (disch := omega) only [hs_ne]; exact r3.2 i hi⟩
    · exact ⟨by simp (disch := omega) only [hs_ne]; exact r4.1, fun i hi => by simp (disch := omega) only [hs_ne]; exact r4.2 i hi⟩
    · show mm_hset h.1 54 r (h.1 54 r + I 1) 54 i = (if i = r then sR S r + I 1 else sR S i)
      by_cases c : i = r
      · subst c
        rw [hs_eq, if_pos rfl, r6 i hi]
      · rw [hs_ne (by omega), if_neg c, r6 i hi]
theorem RM_ref {S : SS} {h : MH} {r : Nat} (hr : r < 7) (R : RM S h) : RM (refS r S) (refM r h) := by
  unfold refS refM
  by_cases h0 : r = 0
  · rw [if_pos h0, if_pos h0]
    exact R
  · rw [if_neg h0, if_neg h0]
    obtain ⟨r1, r2, r3, r4, r5, r6⟩ := R
    refine ⟨RepM_cg (by simp (disch := omega) only [hs_ne]) (by simp (disch := omega) only [hs_ne]) (by simp (disch := omega) only [hs_ne]) (by simp (disch := omega) only [hs_ne]) (fun k h1 h2 => by simp (disch := omega) only [hrow]) r1, RImgM_cg (by simp (disch := omega) only [hs_ne]) (by simp (disch := omega) only [hrow]) r2, ?_, ?_, RUnM_cg (by simp (disch := omega) only [hs_ne]) (by simp (disch := omega) only [hrow]) r5, fun i hi => ?_⟩
    · exact ⟨by simp (disch := omega) only [hs_ne]; exact r3.1, fun i hi => by simp (disch := omega) only [hs_ne]; exact r3.2 i hi⟩
    · exact ⟨by simp (disch := omega) only [hs_ne]; exact r4.1, fun i hi => by simp (disch := omega) only [hs_ne]; exact r4.2 i hi⟩
    · show mm_hset h.1 62 r (h.1 62 r + I 1) 62 i = (if i = r then sR S r + I 1 else sR S i)
      by_cases c : i = r
      · subst c
        rw [hs_eq, if_pos rfl, r6 i hi]
      · rw [hs_ne (by omega), if_neg c, r6 i hi]
theorem InvS_ref {S : SS} (J : InvS S) (r : Nat) : InvS (refS r S) := by
  unfold refS
  by_cases h0 : r = 0
  · rw [if_pos h0]
    exact J
  · rw [if_neg h0]
    exact J
theorem FrC_ref (r : Nat) (h : MH) : FrC h (refC r h) := by
  intro k i hk
  unfold refC
  by_cases h0 : r = 0
  · rw [if_pos h0]
  · rw [if_neg h0]
    exact hs_ne (by omega)
theorem FrM_ref (r : Nat) (h : MH) : FrM h (refM r h) := by
  intro k i hk
  unfold refM
  by_cases h0 : r = 0
  · rw [if_pos h0]
  · rw [if_neg h0]
    exact hs_ne (by omega)
theorem scC_hi {k : Nat} (h : 55 ≤ k) : scC k = false := by
  unfold scC
  simp
  omega
theorem scM_lo {k i : Nat} (h : k < 55) : scM k i = false := by
  unfold scM
  simp
  omega
theorem Q2_step {α : Type} {S : SS} {F G : MH → Option (α × MH)} (J : InvS S) (q : Q2 S F G) : Step S F G := by
  obtain ⟨⟨v, r⟩, hr, c, m⟩ := q
  refine ⟨v, refS r S, InvS_ref J r, fun h R => ?_, fun h R => ?_⟩
  · obtain ⟨h', e, s⟩ := c h R
    refine ⟨h', e, RC_Sc (RC_ref hr R) s, fun k i hk => ?_⟩
    exact (s.2 k i (scC_hi hk)).trans (FrC_ref r h k i hk)
  · obtain ⟨h', e, s⟩ := m h R
    refine ⟨h', e, RM_Sc (RM_ref hr (RM_Sc R (ScM_setT h))) s, fun k i hk => ?_⟩
    exact ((s k i (scM_lo hk)).trans (FrM_ref r (setT h) k i hk)).trans (ScM_setT h k i (scM_lo hk))
/-- a refusal as a step -/
theorem st_ref {α : Type} {S : SS} {F G : MH → Option (α × MH)} (J : InvS S) (v : α) (r : Nat) (hr : r < 7) (c : ∀ h, RC S h → F h = some (v, refC r h)) (m : ∀ h, RM S (setT h) → G h = some (v, refM r (setT h))) : Step S F G := Q2_step J (q_pl v r hr c m)
-- 2 feed
theorem getD_app {l : List Int} {x : Int} {i : Nat} (h : i < l.length + 1) : (l ++ [x]).getD i 0 = if i = l.length then x else l.getD i 0 := by
  by_cases c : i = l.length
  · subst c
    simp
  · rw [if_neg c]
    have : i < l.length := by omega
    simp [List.getD_eq_getElem?_getD, List.getElem?_append_left this]
theorem s_feed {S : SS} (J : InvS S) {x : Int} (e1 : i32 x) : Step S (F_C_feed (I x)) (F_M_feed (I x)) := by
  obtain ⟨l1, g1⟩ := id e1
  obtain ⟨J1, J2, J3, J4, J5, J6, J7, J8, J9⟩ := id J
  by_cases h0 : 0 ≤ x
  · by_cases h1 : 255 < x
    · refine st_ref J (I (-6)) 6 (by omega) (fun h R => ?_) (fun h R => ?_)
      · simp (disch := omega) only [F_C_feed, zero_I, I_le, I_lt, if_pos h0, if_pos h1, c_ref6, bd_s]
      · simp (disch := omega) only [F_M_feed, setT_d, hw_s, zero_I, I_le, I_lt, if_pos h0, if_pos h1, m_ref6, bd_s]
    · by_cases h2 : (sLt S).length = 96
      · refine st_ref J (I (-6)) 6 (by omega) (fun h R => ?_) (fun h R => ?_)
        · simp (disch := omega) only [F_C_feed, zero_I, I_le, I_lt, if_pos h0, if_neg h1, R.2.2.1.1, if_neg (show ¬ ((sLt S).length : Int) < 96 by omega), c_ref6, bd_s]
        · simp (disch := omega) only [F_M_feed, setT_d, hw_s, zero_I, I_le, I_lt, if_pos h0, if_neg h1, R.2.2.1.1, I_eq, if_neg (show ¬ ¬ ((sLt S).length : Int) = 96 by omega), m_ref6, bd_s]
      · have h2' : (sLt S).length < 96 := by omega
        refine ⟨I (((sLt S).length + 1 : Nat) : Int), (sN S, sI S, sLt S ++ [x], sRw S, sU S, sR S), ⟨J1, J2, ?_, ?_, J5, J6, J7, J8, J9⟩, fun h R => ?_, fun h R => ?_⟩
        · show (sLt S ++ [x]).length ≤ 96
          rw [List.length_append]
          show (sLt S).length + 1 ≤ 96
          omega
        · intro y hy
          rcases List.mem_append.mp hy with q | q
          · exact J4 y q
          · have : y = x := by simpa using q
            omega
        · obtain ⟨r1, r2, ⟨r3, r3'⟩, r4, r5, r6⟩ := R
          refine ⟨(mm_hset (mm_hset h.1 30 (sLt S).length (I x)) 29 1 (I (((sLt S).length + 1 : Nat) : Int)), h.2), ?_, ⟨RepH_cg (fun k a b => by simp (disch := omega) only [hrow]) r1, RImg_cg (by simp (disch := omega) only [hs_ne]) (fun k a b => by simp (disch := omega) only [hrow]) r2, ?_, ?_, RUn_cg (by simp (disch := omega) only [hs_ne]) (fun k a b => by simp (disch := omega) only [hrow]) r5, fun i hi => ?_⟩, fun k i hk => by simp (disch := omega) only [hs_ne]⟩
          · simp (disch := omega) only [F_C_feed, F_T_add, zero_I, I_le, I_lt, if_pos h0, if_neg h1, r3, if_pos (show ((sLt S).length : Int) < 96 by omega), ck_in, I_nat, Int.toNat_natCast, hw_s, hs_ne, hs_eq, I_succ, bd_s]
          · refine ⟨?_, fun i hi => ?_⟩
            · simp only [hs_eq]
              rw [List.length_append]
              rfl
            · have hi2 : i < (sLt S ++ [x]).length := hi
              have hi' : i < (sLt S).length + 1 := by simpa using hi2
              have ee : (sLt S ++ [x]).getD i 0 = _ := getD_app hi'
              simp only [ee]
              rw [hs_ne (by omega)]
              by_cases c : i = (sLt S).length
              · subst c
                rw [hs_eq, if_pos rfl]
              · rw [hs_ne (by omega), if_neg c]
                exact r3' i (by omega)
          · refine ⟨(by simp (disch := omega) only [hs_ne, r4.1]), fun i hi => (by simp (disch := omega) only [hs_ne, r4.2 i hi])⟩
          · simp (disch := omega) only [hs_ne, r6 i hi]
        · have R' := RM_Sc R (ScM_setT h)
          obtain ⟨r1, r2, ⟨r3, r3'⟩, r4, r5, r6⟩ := R'
          refine ⟨(mm_hset (mm_hset (setT h).1 64 (sLt S).length (I x)) 55 15 (I (((sLt S).length + 1 : Nat) : Int)), h.2), ?_, ⟨RepM_cg (by simp (disch := omega) only [hs_ne]) (by simp (disch := omega) only [hs_ne]) (by simp (disch := omega) only [hs_ne]) (by simp (disch := omega) only [hs_ne]) (fun k a b => by simp (disch := omega) only [hrow]) r1, RImgM_cg (by simp (disch := omega) only [hs_ne]) (by simp (disch := omega) only [hrow]) r2, ?_, ?_, RUnM_cg (by simp (disch := omega) only [hs_ne]) (by simp (disch := omega) only [hrow]) r5, fun i hi => ?_⟩, fun k i hk => by simp (disch := omega) only [hs_ne, setT]⟩
          · simp (disch := omega) only [F_M_feed, setT_d, zero_I, I_le, I_lt, if_pos h0, if_neg h1, r3, I_eq, if_pos (show ¬ ((sLt S).length : Int) = 96 by omega), ck_in, I_nat, Int.toNat_natCast, hw_s, hs_ne, hs_eq, I_succ, bd_s]
            rfl
          · refine ⟨?_, fun i hi => ?_⟩
            · simp only [hs_eq]
              rw [List.length_append]
              rfl
            · have hi2 : i < (sLt S ++ [x]).length := hi
              have hi' : i < (sLt S).length + 1 := by simpa using hi2
              have ee : (sLt S ++ [x]).getD i 0 = _ := getD_app hi'
              simp only [ee]
              rw [hs_ne (by omega)]
              by_cases c : i = (sLt S).length
              · subst c
                rw [hs_eq, if_pos rfl]
              · rw [hs_ne (by omega), if_neg c]
                exact r3' i (by omega)
          · refine ⟨(by simp (disch := omega) only [hs_ne, r4.1]), fun i hi => (by simp (disch := omega) only [hs_ne, r4.2 i hi])⟩
          · simp (disch := omega) only [hs_ne, r6 i hi]
  · refine st_ref J (I (-4)) 4 (by omega) (fun h R => ?_) (fun h R => ?_)
    · simp (disch := omega) only [F_C_feed, zero_I, I_le, if_neg h0, c_ref4, bd_s]
    · simp (disch := omega) only [F_M_feed, setT_d, hw_s, zero_I, I_le, if_neg h0, m_ref4, bd_s]
