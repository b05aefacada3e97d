-- the snapshots: the model keeps one
def pushU (U : List HS) (N : HS) : List HS := (if U.length = 8 then U.tail else U) ++ [N]
theorem pushU_len {U : List HS} {N : HS} : (pushU U N).length = if U.length = 8 then 8 else U.length + 1 := by
  unfold pushU
  split
  · rename_i h
    simp [h]
  · simp
theorem pushU_get {U : List HS} {N D : HS} {i : Nat} (h : i < (pushU U N).length) : (pushU U N).getD i D = if i + 1 = (pushU U N).length then N else if U.length = 8 then U.getD (i + 1) D else U.getD i D := by
  rw [pushU_len] at h ⊢
  unfold pushU
  by_cases c : U.length = 8
  · simp only [c, if_true] at h ⊢
    by_cases d : i + 1 = 8
    · have : i = U.tail.length := by simp [c]; omega
      subst this
      rw [if_pos d]
      simp [List.getD_eq_getElem?_getD]
    · rw [if_neg d]
      have hl : i < U.tail.length := by simp [c]; omega
      rw [List.getD_eq_getElem?_getD, List.getD_eq_getElem?_getD, List.getElem?_append_left hl, List.getElem?_tail]
  · simp only [c, if_false] at h ⊢
    by_cases d : i + 1 = U.length + 1
    · have : i = U.length := by omega
      subst this
      rw [if_pos d]
      simp [List.getD_eq_getElem?_getD]
    · rw [if_neg d]
      have hl : i < U.length := by omega
      rw [List.getD_eq_getElem?_getD, List.getD_eq_getElem?_getD, List.getElem?_append_left hl]
theorem pushU_inv {S : SS} (J : InvS S) : ∀ a, a ∈ pushU (sU S) (sN S) → InvH a ∧ okLie (hLie a) = true := by
  intro a mem
  unfold pushU at mem
  rcases List.mem_append.mp mem with m | m
  · split at m
    · exact J.2.2.2.2.2.2.2.1 _ (List.mem_of_mem_tail m)
    · exact J.2.2.2.2.2.2.2.1 _ m
  · rw [List.mem_singleton] at m
    rw [m]
    exact ⟨J.1, J.2.2.2.2.2.2.2.2⟩
theorem kt_12 (h0 : MH) : ∀ (d i n : Nat) (h : MH), (h.2 = h0.2 ∧ (∀ j, h.1 70 j = if j + 52 < i then h0.1 70 (j + 52) else h0.1 70 j) ∧ ∀ k, ¬ k = 70 → h.1 k = h0.1 k) → i + d = 416 → 52 ≤ i → d < n →
    ∃ h', L_M_keepTurn_12 n (I i) h = some h' ∧ h'.2 = h0.2 ∧ (∀ j, h'.1 70 j = if j < 364 then h0.1 70 (j + 52) else h0.1 70 j) ∧ ∀ k, ¬ k = 70 → h'.1 k = h0.1 k := by
  intro d
  induction d with
  | zero =>
    intro i n h ⟨t1, t2, t3⟩ e hi hn
    obtain ⟨k, rfl⟩ := sfuel hn
    obtain rfl : i = 416 := by omega
    refine ⟨h, ?_, t1, fun j => ?_, t3⟩
    · simp (disch := omega) only [L_M_keepTurn_12, I_le]
      rw [if_pos (by omega)]
    · rw [t2 j]
      by_cases c : j < 364
      · rw [if_pos c, if_pos (by omega)]
      · rw [if_neg c, if_neg (by omega)]
  | succ d ih =>
    intro i n h ⟨t1, t2, t3⟩ e hi hn
    obtain ⟨k, rfl⟩ := sfuel hn
    have en : ((i : Int) - 52).toNat = i - 52 := by omega
    have vi : h.1 70 i = h0.1 70 i := by rw [t2 i, if_neg (by omega)]
    have key : ∀ j, mm_hset h.1 70 (i - 52) (h.1 70 i) 70 j = if j + 52 < i + 1 then h0.1 70 (j + 52) else h0.1 70 j := by
      intro j
      by_cases c : j = i - 52
      · subst c
        rw [hs_eq, if_pos (by omega), vi, show i - 52 + 52 = i by omega]
      · rw [hs_ne (by omega), t2 j]
        by_cases d : j + 52 < i
        · rw [if_pos d, if_pos (by omega)]
        · rw [if_neg d, if_neg (by omega)]
    obtain ⟨h', p, q⟩ := ih (i + 1) k (mm_hset h.1 70 (i - 52) (h.1 70 i), h.2) ⟨t1, key, fun k hk => (hrow hk).trans (t3 k hk)⟩ (by omega) (by omega) (by omega)
    refine ⟨h', ?_, q⟩
    simp (disch := omega) only [L_M_keepTurn_12, I_le, if_neg (show ¬ (416 : Int) ≤ (i : Int) by omega), I_sub, ck_in, I_nat, Int.toNat_natCast, en, hw_s, I_succ]
    exact p
theorem kt_61 (h0 : MH) {t : Nat} (ht : t < 8) (e30 : h0.1 55 30 = I t) : ∀ (d i n : Nat) (h : MH), (h.2 = h0.2 ∧ (∀ j, h.1 70 j = if 52 * t ≤ j ∧ j < 52 * t + i then h0.1 71 (j - 52 * t) else h0.1 70 j) ∧ ∀ k, ¬ k = 70 → h.1 k = h0.1 k) → i + d = 52 → d < n →
    ∃ h', L_M_keepTurn_61 n (I i) h = some h' ∧ h'.2 = h0.2 ∧ (∀ j, h'.1 70 j = if 52 * t ≤ j ∧ j < 52 * t + 52 then h0.1 71 (j - 52 * t) else h0.1 70 j) ∧ ∀ k, ¬ k = 70 → h'.1 k = h0.1 k := by
  intro d
  induction d with
  | zero =>
    intro i n h ⟨t1, t2, t3⟩ e hn
    obtain ⟨k, rfl⟩ := sfuel hn
    obtain rfl : i = 52 := by omega
    refine ⟨h, ?_, t1, t2, t3⟩
    simp (disch := omega) only [L_M_keepTurn_61, I_le]
    rw [if_pos (by omega)]
  | succ d ih =>
    intro i n h ⟨t1, t2, t3⟩ e hn
    obtain ⟨k, rfl⟩ := sfuel hn
    have en : (52 * (t : Int) + (i : Int)).toNat = 52 * t + i := by omega
    have e3 : h.1 55 30 = I t := by rw [t3 55 (by omega), e30]
    have e71 : h.1 71 i = h0.1 71 i := by rw [t3 71 (by omega)]
    have key : ∀ j, mm_hset h.1 70 (52 * t + i) (h.1 71 i) 70 j = if 52 * t ≤ j ∧ j < 52 * t + (i + 1) then h0.1 71 (j - 52 * t) else h0.1 70 j := by
      intro j
      by_cases c : j = 52 * t + i
      · subst c
        rw [hs_eq, if_pos (by omega), e71, show 52 * t + i - 52 * t = i by omega]
      · rw [hs_ne (by omega), t2 j]
        by_cases d : 52 * t ≤ j ∧ j < 52 * t + i
        · rw [if_pos d, if_pos (by omega)]
        · rw [if_neg d, if_neg (by omega)]
    obtain ⟨h', p, q⟩ := ih (i + 1) k (mm_hset h.1 70 (52 * t + i) (h.1 71 i), h.2) ⟨t1, key, fun k hk => (hrow hk).trans (t3 k hk)⟩ (by omega) (by omega)
    refine ⟨h', ?_, q⟩
    simp (disch := omega) only [L_M_keepTurn_61, I_le, if_neg (show ¬ (52 : Int) ≤ (i : Int) by omega), e3, I_mul, I_add, ck_in, I_nat, Int.toNat_natCast, en, hw_s]
    exact p
/-- after keepTurn: the snapshots are pushed, all else is as before but row 71 and the carrying's own fields -/
def KT (S : SS) (h h' : MH) : Prop :=
  h'.1 55 30 = I (pushU (sU S) (sN S)).length ∧ (∀ i, i < (pushU (sU S) (sN S)).length → RepV ((pushU (sU S) (sN S)).getD i (sN S)) (fun j => h'.1 70 (52 * i + j))) ∧
  ∀ k i, ¬ k = 70 → ¬ k = 71 → ¬ (k = 55 ∧ (i = 25 ∨ i = 26 ∨ i = 30)) → h'.1 k i = h.1 k i
theorem kt_core {S : SS} {h g : MH} (J : InvS S) (R : RM S h) {t : Nat} (ht : t < 8) (hlen : (pushU (sU S) (sN S)).length = t + 1) (g30 : g.1 55 30 = I t)
    (gs : ∀ i, i < t → RepV ((pushU (sU S) (sN S)).getD i (sN S)) (fun j => g.1 70 (52 * i + j))) (gf : ∀ k i, ¬ k = 70 → ¬ (k = 55 ∧ i = 30) → g.1 k i = h.1 k i) :
    ∃ h', bd (F_M_carryAll_2 (I 1) g) (fun h3 => bd (L_M_keepTurn_61 5000 (I 0) h3) (fun h6 => hw (mm_hset h6.1 55 30 ((h6.1 55 30) + (I 1)), h6.2) (fun h7 => some h7))) = some h' ∧ KT S h h' := by
  have hl := ok_lt J.2.2.2.2.2.2.2.2
  have Rg : RepM (sN S) g.1 := RepM_cg (gf 55 0 (by omega) (by omega)) (gf 55 2 (by omega) (by omega)) (gf 55 5 (by omega) (by omega)) (gf 55 9 (by omega) (by omega)) (fun k a b => funext fun i => gf k i (by omega) (by omega)) (rm_h R)
  obtain ⟨h1, p1, u1, u2, u3, u4, u5⟩ := tk_all (h0 := g) (bit9 hl (rm_o Rg))
  have e30 : h1.1 55 30 = I t := (u5 55 30 (by omega) (by omega)).trans g30
  obtain ⟨h2, p2, w1, w2, w3⟩ := kt_61 h1 ht e30 52 0 5000 h1 ⟨rfl, fun j => by rw [if_neg (by omega)], fun k hk => rfl⟩ (by omega) (by omega)
  have p2' : L_M_keepTurn_61 5000 (I 0) h1 = some h2 := p2
  have f30 : h2.1 55 30 = I t := by rw [w3 55 (by omega), e30]
  refine ⟨(mm_hset h2.1 55 30 (I ((t + 1 : Nat) : Int)), h2.2), ?_, ?_, ?_, ?_⟩
  · simp only [p1, bd_s, p2', hw_s, f30, I_succ]
  · simp only [hs_eq, hlen]
  · intro i hi
    have r70 : ∀ j, mm_hset h2.1 55 30 (I ((t + 1 : Nat) : Int)) 70 j = h2.1 70 j := fun j => hs_ne (by omega)
    by_cases c : i = t
    · subst c
      rw [pushU_get hi, if_pos (by omega)]
      refine RepV_sv J.1 Rg (fun j hj => ?_)
      show mm_hset h2.1 55 30 (I ((i + 1 : Nat) : Int)) 70 (52 * i + j) = _
      rw [r70, w2, if_pos (by omega), ← u4 j hj, show 52 * i + j - 52 * i = j by omega]
    · have q := gs i (by omega)
      have ef : (fun j => mm_hset h2.1 55 30 (I ((t + 1 : Nat) : Int)) 70 (52 * i + j)) = fun j => h2.1 70 (52 * i + j) := funext fun j => r70 _
      show RepV _ (fun j => mm_hset h2.1 55 30 (I ((t + 1 : Nat) : Int)) 70 (52 * i + j))
      rw [ef]
      have e2 : ∀ j, j < 52 → h2.1 70 (52 * i + j) = g.1 70 (52 * i + j) := by
        intro j hj
        rw [w2, if_neg (by omega), u5 70 _ (by omega) (by omega)]
      obtain ⟨q1, q2, q3, q4, q5, q6, q7, q8, q9, q10⟩ := q
      have jj := pushU_get (U := sU S) (N := sN S) (D := sN S) hi
      have b6 : InvH ((pushU (sU S) (sN S)).getD i (sN S)) := by
        have mem : (pushU (sU S) (sN S)).getD i (sN S) ∈ pushU (sU S) (sN S) := by
          rw [List.getD_eq_getElem?_getD, List.getElem?_eq_getElem hi]
          exact List.getElem_mem hi
        exact (pushU_inv J _ mem).1
      obtain ⟨b1, b2, b3, -⟩ := b6
      refine ⟨(e2 _ (by omega)).trans q1, (e2 _ (by omega)).trans q2, (e2 _ (by omega)).trans q3, (e2 _ (by omega)).trans q4, fun b hb => ?_, fun p hp => (e2 _ (by omega)).trans (q6 p hp), fun p hp => (e2 _ (by omega)).trans (q7 p hp), fun c hc => (e2 _ (by omega)).trans (q8 c hc), fun w hw => (e2 _ (by omega)).trans (q9 w hw), fun w hw => (e2 _ (by omega)).trans (q10 w hw)⟩
      have z := q5 b hb
      exact ⟨(e2 _ (by omega)).trans z.1, (e2 _ (by omega)).trans z.2.1, (e2 _ (by omega)).trans z.2.2.1, (e2 _ (by omega)).trans z.2.2.2⟩
  · intro k i a b c
    show mm_hset h2.1 55 30 (I ((t + 1 : Nat) : Int)) k i = _
    rw [hs_ne (by omega), w3 k a, u5 k i b (by omega)]
    exact gf k i a (by omega)
theorem m_keepTurn {S : SS} {h : MH} (J : InvS S) (R : RM S h) : ∃ h', F_M_keepTurn h = some h' ∧ KT S h h' := by
  obtain ⟨J1, J2, J3, J4, J5, J6, J7, J8, J9⟩ := id J
  obtain ⟨u0, u1⟩ := R.2.2.2.2.1
  have pl := pushU_len (U := sU S) (N := sN S)
  by_cases c : (sU S).length = 8
  · rw [if_pos c] at pl
    obtain ⟨h1, p1, w1, w2, w3⟩ := kt_12 h 364 52 5000 h ⟨rfl, fun j => by rw [if_neg (by omega)], fun k hk => rfl⟩ (by omega) (by omega) (by omega)
    have p1' : L_M_keepTurn_12 5000 (I 52) h = some h1 := p1
    have e30 : h1.1 55 30 = I 8 := by rw [w3 55 (by omega), u0, c]; rfl
    obtain ⟨h', p, q⟩ := kt_core (g := (mm_hset h1.1 55 30 (I ((7 : Nat) : Int)), h1.2)) J R (t := 7) (by omega) pl (by simp only [hs_eq]) (fun i hi => by
      have s := u1 (i + 1) (by omega)
      rw [pushU_get (by omega), if_neg (by omega), if_pos c]
      have ef : ∀ j, j < 52 → mm_hset h1.1 55 30 (I ((7 : Nat) : Int)) 70 (52 * i + j) = h.1 70 (52 * (i + 1) + j) := by
        intro j hj
        rw [hs_ne (by omega), w2, if_pos (by omega), show 52 * i + j + 52 = 52 * (i + 1) + j by omega]
      have mem : (sU S).getD (i + 1) (sN S) ∈ sU S := by
        rw [List.getD_eq_getElem?_getD, List.getElem?_eq_getElem (show i + 1 < (sU S).length by omega)]
        exact List.getElem_mem _
      obtain ⟨b1, b2, b3, -⟩ := (J8 _ mem).1
      obtain ⟨q1, q2, q3, q4, q5, q6, q7, q8, q9, q10⟩ := s
      refine ⟨(ef _ (by omega)).trans q1, (ef _ (by omega)).trans q2, (ef _ (by omega)).trans q3, (ef _ (by omega)).trans q4, fun b hb => ?_, fun p hp => (ef _ (by omega)).trans (q6 p hp), fun p hp => (ef _ (by omega)).trans (q7 p hp), fun c hc => (ef _ (by omega)).trans (q8 c hc), fun w hw => (ef _ (by omega)).trans (q9 w hw), fun w hw => (ef _ (by omega)).trans (q10 w hw)⟩
      have z := q5 b hb
      exact ⟨(ef _ (by omega)).trans z.1, (ef _ (by omega)).trans z.2.1, (ef _ (by omega)).trans z.2.2.1, (ef _ (by omega)).trans z.2.2.2⟩) (fun k i a b => by
      show mm_hset h1.1 55 30 (I ((7 : Nat) : Int)) k i = _
      rw [hs_ne (by omega), w3 k a])
    refine ⟨h', ?_, q⟩
    have e8 : ((sU S).length : Int) = 8 := by omega
    simp (disch := omega) only [F_M_keepTurn, kw_s, u0, e8, not_true, if_false, p1', bd_s, hw_s, e30, I_sub]
    exact p
  · rw [if_neg c] at pl
    obtain ⟨h', p, q⟩ := kt_core (g := h) J R (t := (sU S).length) (by omega) pl u0 (fun i hi => by
      rw [pushU_get (by omega), if_neg (by omega), if_neg c]
      exact u1 i hi) (fun k i a b => rfl)
    refine ⟨h', ?_, q⟩
    simp (disch := omega) only [F_M_keepTurn, kw_s, u0, I_eq, if_pos (show ¬ ((sU S).length : Int) = 8 by omega)]
    exact p
