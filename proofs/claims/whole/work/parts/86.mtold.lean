-- 3 house: a told person, way, turns
section TO2
variable {a : HS} {h : MH} {k : Nat}
theorem m_t112 (R : RepM a h.1) (hk : k ≤ 48) {p : Nat} {ds : List Int} (D : tdS (p, 112, ds) k h.1) (hd : dOK ds) (J : InvH a) :
    ∃ h', F_M_comesTold (I (k : Int)) h = some (I ((if (apS a 112 ds).isSome = true then 1 else 0 : Nat) : Int), h') ∧ FrX h h' ∧ ∀ a', apS a 112 ds = some a' → RepM a' h'.1 := by
  obtain ⟨-, j2, -⟩ := id J
  obtain ⟨-, d66, -, d67, -⟩ := D
  have d66 : h.1 66 k = I 112 := d66
  obtain ⟨v0, v1⟩ := d67 rfl
  have g0 := dOK_g hd 0
  have g1 := dOK_g hd 1
  have eA : apS a 112 ds = if 1 ≤ np1 ds ∧ np1 ds ≤ 12 ∧ nP a < 4 then some (addP a (np1 ds) (ds.getD 2 0)) else none := by unfold apS; rw [if_neg (by omega), if_pos rfl]
  have en : np1 ds = 10 * ds.getD 0 0 + ds.getD 1 0 := rfl
  rw [show 10 * (p, (112 : Int), ds).2.2.getD 0 0 + (p, (112 : Int), ds).2.2.getD 1 0 = np1 ds from rfl] at v0
  have v1 : h.1 67 (10 * k + 1) = I (ds.getD 2 0) := v1
  have b0 : 0 ≤ np1 ds ∧ np1 ds ≤ 99 := by omega
  clear g0 g1 en
  generalize ds.getD 2 0 = y at *
  generalize np1 ds = x at *
  have i0 : (10 * (k : Int)).toNat = 10 * k := by omega
  have i1 : (10 * (k : Int) + 1).toNat = 10 * k + 1 := by omega
  have n98 : (I 112 = I 98) = False := eq_false (by decide)
  have no : ¬ (1 ≤ x ∧ x ≤ 12 ∧ nP a < 4) → F_M_comesTold (I (k : Int)) h = some (I 0, h) → ∃ h', F_M_comesTold (I (k : Int)) h = some (I ((if (apS a 112 ds).isSome = true then 1 else 0 : Nat) : Int), h') ∧ FrX h h' ∧ ∀ a', apS a 112 ds = some a' → RepM a' h'.1 := by
    intro n e
    rw [eA, if_neg n]
    exact ⟨h, e, FrX_rfl h, fun a' q => absurd q (by simp)⟩
  by_cases c : 1 ≤ x ∧ x ≤ 12
  · by_cases c4 : nP a < 4
    · rw [eA, if_pos (show 1 ≤ x ∧ x ≤ 12 ∧ nP a < 4 from ⟨c.1, c.2, c4⟩)]
      refine ⟨(mm_hset (mm_hset (mm_hset h.1 57 (nP a) (I x)) 58 (nP a) (I y)) 55 2 (I ((nP a + 1 : Nat) : Int)), h.2), ?_, ?_, fun a' q => ?_⟩
      · show F_M_comesTold (I (k : Int)) h = some (I 1, _)
        simp (disch := omega) only [F_M_comesTold, I_mul, I_add, ck_in, I_nat, i0, i1, Int.toNat_natCast, d66, n98, iw_s, kw_s, v0, v1, toI64, m_in, if_pos c, bd_s, zero_I, if_true, one_ne, if_false, rm_p R, I_le, if_neg (show ¬ (4 : Int) ≤ (nP a : Int) by omega), hw_s, hs_ne, cd_t tb1]
        rfl
      · intro k i u v w
        simp (disch := omega) only [hs_ne]
      · rw [← Option.some.inj q]
        exact RepM_P R
    · refine no (fun q => c4 q.2.2) ?_
      simp (disch := omega) only [F_M_comesTold, I_mul, I_add, ck_in, I_nat, i0, i1, Int.toNat_natCast, d66, n98, iw_s, kw_s, v0, v1, toI64, m_in, if_pos c, bd_s, zero_I, if_true, one_ne, if_false, rm_p R, I_le, if_pos (show (4 : Int) ≤ (nP a : Int) by omega), cd_t tb0]
  · refine no (fun q => c ⟨q.1, q.2.1⟩) ?_
    simp (disch := omega) only [F_M_comesTold, I_mul, I_add, ck_in, I_nat, i0, i1, Int.toNat_natCast, d66, n98, iw_s, kw_s, v0, v1, toI64, m_in, if_neg c, bd_s, zero_I, if_true, if_false, cd_t tb0]
theorem m_t119 (R : RepM a h.1) (hk : k ≤ 48) {p : Nat} {ds : List Int} (D : tdS (p, 119, ds) k h.1) (hd : dOK ds) (J : InvH a) :
    ∃ h', F_M_comesTold (I (k : Int)) h = some (I ((if (apS a 119 ds).isSome = true then 1 else 0 : Nat) : Int), h') ∧ FrX h h' ∧ ∀ a', apS a 119 ds = some a' → RepM a' h'.1 := by
  obtain ⟨-, -, j3, -⟩ := id J
  obtain ⟨-, d66, -, -, d67, -⟩ := D
  have d66 : h.1 66 k = I 119 := d66
  obtain ⟨v0, v1⟩ := d67 rfl
  have g0 := dOK_g hd 0
  have eA : apS a 119 ds = if ds.getD 0 0 ≤ 5 ∧ nW a < 6 then some (addW a (ds.getD 0 0) (ds.getD 1 0)) else none := by unfold apS; rw [if_neg (by omega), if_neg (by omega), if_pos rfl]
  have v0 : h.1 67 (10 * k) = I (ds.getD 0 0) := v0
  have v1 : h.1 67 (10 * k + 1) = I (ds.getD 1 0) := v1
  generalize ds.getD 1 0 = y at *
  generalize ds.getD 0 0 = x at *
  have i0 : (10 * (k : Int)).toNat = 10 * k := by omega
  have i1 : (10 * (k : Int) + 1).toNat = 10 * k + 1 := by omega
  have n98 : (I 119 = I 98) = False := eq_false (by decide)
  have n112 : (I 119 = I 112) = False := eq_false (by decide)
  have no : ¬ (x ≤ 5 ∧ nW a < 6) → F_M_comesTold (I (k : Int)) h = some (I 0, h) → ∃ h', F_M_comesTold (I (k : Int)) h = some (I ((if (apS a 119 ds).isSome = true then 1 else 0 : Nat) : Int), h') ∧ FrX h h' ∧ ∀ a', apS a 119 ds = some a' → RepM a' h'.1 := by
    intro n e
    rw [eA, if_neg n]
    exact ⟨h, e, FrX_rfl h, fun a' q => absurd q (by simp)⟩
  by_cases c : x ≤ 5
  · by_cases c4 : nW a < 6
    · rw [eA, if_pos (show x ≤ 5 ∧ nW a < 6 from ⟨c, c4⟩)]
      refine ⟨(mm_hset (mm_hset (mm_hset h.1 59 (nW a) (I x)) 60 (nW a) (I y)) 55 5 (I ((nW a + 1 : Nat) : Int)), h.2), ?_, ?_, fun a' q => ?_⟩
      · show F_M_comesTold (I (k : Int)) h = some (I 1, _)
        simp (disch := omega) only [F_M_comesTold, I_mul, I_add, ck_in, I_nat, i0, i1, Int.toNat_natCast, d66, n98, n112, iw_s, kw_s, v0, v1, I_le, if_neg (show ¬ (6 : Int) ≤ x by omega), zero_I, if_true, one_ne, if_false, rm_w R, if_neg (show ¬ (6 : Int) ≤ (nW a : Int) by omega), hw_s, hs_ne, cd_t tb1]
        rfl
      · intro k i u v w
        simp (disch := omega) only [hs_ne]
      · rw [← Option.some.inj q]
        exact RepM_W2 R
    · refine no (fun q => c4 q.2) ?_
      simp (disch := omega) only [F_M_comesTold, I_mul, I_add, ck_in, I_nat, i0, i1, Int.toNat_natCast, d66, n98, n112, iw_s, kw_s, v0, v1, I_le, if_neg (show ¬ (6 : Int) ≤ x by omega), zero_I, if_true, one_ne, if_false, rm_w R, if_pos (show (6 : Int) ≤ (nW a : Int) by omega), cd_t tb0]
  · refine no (fun q => c q.1) ?_
    simp (disch := omega) only [F_M_comesTold, I_mul, I_add, ck_in, I_nat, i0, i1, Int.toNat_natCast, d66, n98, n112, iw_s, kw_s, v0, v1, I_le, if_pos (show (6 : Int) ≤ x by omega), zero_I, if_true, if_false, cd_t tb0]
/-- turns told: the digits as they lie -/
def TD (ds : List Int) (k : Nat) (g : MH) : Prop := g.1 67 (10 * k) = I (ds.length : Int) ∧ ∀ j, j < ds.length → g.1 67 (10 * k + 1 + j) = I (ds.getD j 0)
theorem getD_mid {pre r : List Int} {x : Int} : (pre ++ x :: r).getD pre.length 0 = x := getL_mid
theorem l_tc0 {ds : List Int} (T : TD ds k h) (hk : k ≤ 48) (hl : ds.length ≤ 9) : ∀ (d j n : Nat), j + d = ds.length → d < n → L_M_turnsCome_4 (I ((10 * k : Nat) : Int)) n (I 0) (I ((j + 1 : Nat) : Int)) h = some (I 0, h) := by
  intro d
  induction d with
  | zero =>
    intro j n e hn
    obtain ⟨n, rfl⟩ := sfuel hn
    simp (disch := omega) only [L_M_turnsCome_4, ck_in, I_nat, Int.toNat_natCast, T.1, I_lt]
    rw [if_pos (by omega)]
  | succ d ih =>
    intro j n e hn
    obtain ⟨n, rfl⟩ := sfuel hn
    simp (disch := omega) only [L_M_turnsCome_4, ck_in, I_nat, Int.toNat_natCast, T.1, I_lt, if_neg (show ¬ (ds.length : Int) < ((j + 1 : Nat) : Int) by omega), zero_I, if_true, I_succ]
    exact ih (j + 1) n (by omega) (by omega)
theorem l_tc4 {ds : List Int} (T : TD ds k h) (hk : k ≤ 48) (hl : ds.length ≤ 9) (hd : dOK ds) : ∀ (r pre : List Int) (n : Nat), ds = pre ++ r → r.length < n → L_M_turnsCome_4 (I ((10 * k : Nat) : Int)) n (I 1) (I ((pre.length + 1 : Nat) : Int)) h = some (I ((if all4 r = true then 1 else 0 : Nat) : Int), h) := by
  intro r
  induction r with
  | nil =>
    intro pre n e hn
    obtain ⟨n, rfl⟩ := sfuel hn
    have ll : ds.length = pre.length := by rw [e]; simp
    simp (disch := omega) only [L_M_turnsCome_4, ck_in, I_nat, Int.toNat_natCast, T.1, I_lt]
    rw [if_pos (by omega)]
    rfl
  | cons x r ih =>
    intro pre n e hn
    rw [List.length_cons] at hn
    obtain ⟨n, rfl⟩ := sfuel (show r.length < n by omega)
    have ll : ds.length = pre.length + 1 + r.length := by rw [e]; simp; omega
    have hx := T.2 pre.length (by omega)
    rw [e, getD_mid] at hx
    have xm : 0 ≤ x ∧ x ≤ 9 := hd x (by rw [e]; simp)
    have pe : (pre ++ [x]).length = pre.length + 1 := by simp
    have ei : (((10 * k : Nat) : Int) + ((pre.length + 1 : Nat) : Int)).toNat = 10 * k + 1 + pre.length := by omega
    have ea : all4 (x :: r) = (decide (x < 4) && all4 r) := rfl
    simp (disch := omega) only [L_M_turnsCome_4, ck_in, I_nat, Int.toNat_natCast, T.1, I_lt, if_neg (show ¬ (ds.length : Int) < ((pre.length + 1 : Nat) : Int) by omega), zero_I, one_ne, if_false, I_add, ei, hx, I_le, iw_s]
    by_cases c : (4 : Int) ≤ x
    · rw [if_pos c, ea, if_neg (show ¬ (decide (x < 4) && all4 r) = true by rw [decide_eq_false (by omega)]; simp)]
      exact l_tc0 T hk hl r.length (pre.length + 1) n (by omega) (by omega)
    · have g := ih (pre ++ [x]) n (by rw [e]; simp) (by omega)
      rw [pe] at g
      rw [if_neg c, ea, show (decide (x < 4) && all4 r) = all4 r by rw [decide_eq_true (show x < 4 by omega)]; simp]
      exact g
theorem l_tc52 {ds : List Int} (hk : k ≤ 48) (hl : ds.length ≤ 9) (hd : dOK ds) (h4 : all4 ds = true) (b : Int32) : ∀ (r pre : List Int) (n l : Nat) (h : MH), ds = pre ++ r → r.length < n → l < 512 → TD ds k h → RepT l h.1 → ∃ h', L_M_turnsCome_52 (I ((10 * k : Nat) : Int)) b n (I ((pre.length + 1 : Nat) : Int)) h = some h' ∧ RepT (tlF r l) h'.1 ∧ tlF r l < 512 ∧ FrW h h' := by
  intro r
  induction r with
  | nil =>
    intro pre n l h e hn hl5 T P
    obtain ⟨n, rfl⟩ := sfuel hn
    have ll : ds.length = pre.length := by rw [e]; simp
    refine ⟨h, ?_, P, hl5, FrW_rfl h⟩
    simp (disch := omega) only [L_M_turnsCome_52, ck_in, I_nat, Int.toNat_natCast, T.1, I_lt]
    rw [if_pos (by omega)]
  | cons x r ih =>
    intro pre n l h e hn hl5 T P
    rw [List.length_cons] at hn
    obtain ⟨n, rfl⟩ := sfuel (show r.length < n by omega)
    have ll : ds.length = pre.length + 1 + r.length := by rw [e]; simp; omega
    have hx := T.2 pre.length (by omega)
    rw [e, getD_mid] at hx
    have xin : x ∈ ds := by rw [e]; simp
    have xm : 0 ≤ x ∧ x ≤ 9 := hd x xin
    have x4 : x < 4 := of_decide_eq_true (List.all_eq_true.mp h4 x xin)
    obtain ⟨t, rfl⟩ : ∃ t : Nat, x = t := ⟨x.toNat, by omega⟩
    have pe : (pre ++ [(t : Int)]).length = pre.length + 1 := by simp
    have ei : (((10 * k : Nat) : Int) + ((pre.length + 1 : Nat) : Int)).toNat = 10 * k + 1 + pre.length := by omega
    obtain ⟨h1, p1, p2, p3⟩ := m_turnW hl5 (show t < 4 by omega) P
    have T1 : TD ds k h1 := ⟨(p3.2 67 _ (by omega) (by omega)).trans T.1, fun j hj => (p3.2 67 _ (by omega) (by omega)).trans (T.2 j hj)⟩
    obtain ⟨h', q1, q2, q3, q4⟩ := ih (pre ++ [(t : Int)]) n (tl l t) h1 (by rw [e]; simp) (by omega) (tl_lt ⟨l, hl5⟩ ⟨t, by omega⟩) T1 p2
    rw [pe] at q1
    refine ⟨h', ?_, q2, q3, FrW_tr p3 q4⟩
    simp (disch := omega) only [L_M_turnsCome_52, ck_in, I_nat, Int.toNat_natCast, T.1, I_lt, if_neg (show ¬ (ds.length : Int) < ((pre.length + 1 : Nat) : Int) by omega), I_add, ei, hx, p1, bd_s]
    exact q1
theorem m_t116 (R : RepM a h.1) (hk : k ≤ 48) {p : Nat} {ds : List Int} (D : tdS (p, 116, ds) k h.1) (hd : dOK ds) (hl : ds.length ≤ 9) (ok : okLie (hLie a) = true) :
    ∃ h', F_M_comesTold (I (k : Int)) h = some (I ((if (apS a 116 ds).isSome = true then 1 else 0 : Nat) : Int), h') ∧ FrX h h' ∧ ∀ a', apS a 116 ds = some a' → RepM a' h'.1 := by
  obtain ⟨-, d66, -, -, -, d67⟩ := D
  have d66 : h.1 66 k = I 116 := d66
  have T : TD ds k h := d67 rfl
  have eA : apS a 116 ds = if all4 ds = true then some (setL a (tlF ds (hLie a))) else none := by unfold apS; rw [if_neg (by omega), if_neg (by omega), if_neg (by omega)]
  have i0 : (10 * (k : Int)).toNat = 10 * k := by omega
  have n98 : (I 116 = I 98) = False := eq_false (by decide)
  have n112 : (I 116 = I 112) = False := eq_false (by decide)
  have n119 : (I 116 = I 119) = False := eq_false (by decide)
  have t4 := l_tc4 T hk hl hd ds [] 5000 rfl (by omega)
  have t4' : L_M_turnsCome_4 (I (10 * (k : Int))) 5000 (I 1) (I 1) h = _ := t4
  have go : F_M_comesTold (I (k : Int)) h = bd (F_M_turnsCome (I (10 * (k : Int))) h) (fun (r48, h47) => cd (r48 &&& 1 = r48) (some (r48, h47))) := by
    simp (disch := omega) only [F_M_comesTold, I_mul, I_add, ck_in, I_nat, i0, Int.toNat_natCast, d66, n98, n112, n119, iw_s, if_false]
  rw [eA]
  by_cases c : all4 ds = true
  · rw [if_pos c] at t4' ⊢
    have t4'' : L_M_turnsCome_4 (I (10 * (k : Int))) 5000 (I 1) (I 1) h = some (I 1, h) := t4'
    obtain ⟨h2, p2, T2, s2⟩ := m_thinkW R (ok_lt ok)
    have TD2 : TD ds k h2 := ⟨(s2.2 67 _ (by omega) (by omega)).trans T.1, fun j hj => (s2.2 67 _ (by omega) (by omega)).trans (T.2 j hj)⟩
    obtain ⟨h3, p3, T3, l3, s3⟩ := l_tc52 hk hl hd c (I 1) ds [] 5000 (hLie a) h2 rfl (by omega) (ok_lt ok) TD2 T2
    have p3' : L_M_turnsCome_52 (I (10 * (k : Int))) (I 1) 5000 (I 1) h2 = some h3 := p3
    have p4 := m_keepT l3 T3
    generalize tlF ds (hLie a) = L at *
    have s := FrX_tr (FrX_W s2) (FrX_W s3)
    have w : ∀ k i, ¬ k = 63 → ¬ (k = 55 ∧ i = 13) → h3.1 k i = h.1 k i := fun k i x y => (s3.2 k i x y).trans (s2.2 k i x y)
    refine ⟨_, ?_, FrX_tr s (b := h3) (c := (mm_hset (mm_hset (mm_hset (mm_hset (mm_hset h3.1 61 0 (I ((dig L 0 : Nat) : Int))) 61 1 (I ((dig L 1 : Nat) : Int))) 61 2 (I ((dig L 2 : Nat) : Int))) 61 3 (I ((dig L 3 : Nat) : Int))) 55 9 (I ((L / 256 : Nat) : Int)), h3.2)) (fun k i x y z => by simp (disch := omega) only [hs_ne]), fun a' q => ?_⟩
    · rw [go]
      show _ = some (I 1, _)
      simp only [F_M_turnsCome, t4'', bd_s, zero_I, one_ne, if_false, p2, p3', p4, cd_t tb1]
    · rw [← Option.some.inj q]
      obtain ⟨t1, t2, t3, t4, t5, t6, t7, t8, t9, t10⟩ := id R
      refine ⟨?_, ?_, ?_, by simp only [hs_eq]; rfl, fun b hb => ?_, fun b hb => ?_, fun b hb => ?_, fun b hb => ?_, fun b hb => ?_, fun c hc => ?_⟩
      · simp (disch := omega) only [hs_ne, w]; exact t1
      · simp (disch := omega) only [hs_ne, w]; exact t2
      · simp (disch := omega) only [hs_ne, w]; exact t3
      · simp (disch := omega) only [hs_ne, w]; exact t5 b hb
      · simp (disch := omega) only [hs_ne, w]; exact t6 b hb
      · simp (disch := omega) only [hs_ne, w]; exact t7 b hb
      · simp (disch := omega) only [hs_ne, w]; exact t8 b hb
      · simp (disch := omega) only [hs_ne, w]; exact t9 b hb
      · show _ = I ((dig L c : Nat) : Int)
        rcases (show c = 0 ∨ c = 1 ∨ c = 2 ∨ c = 3 by omega) with rfl | rfl | rfl | rfl <;> simp (disch := omega) only [hs_ne, hs_eq]
  · rw [if_neg c] at t4' ⊢
    have t4'' : L_M_turnsCome_4 (I (10 * (k : Int))) 5000 (I 1) (I 1) h = some (I 0, h) := t4'
    refine ⟨h, ?_, FrX_rfl h, fun a' q => absurd q (by simp)⟩
    rw [go]
    show _ = some (I 0, _)
    simp only [F_M_turnsCome, t4'', bd_s, zero_I, if_true, cd_t tb0]
/-- what is told comes -/
theorem m_told (R : RepM a h.1) (hk : k ≤ 48) {s : Stm} (D : tdS s k h.1) (hd : dOK s.2.2) (hl : s.2.2.length ≤ 9) (mz : ¬ mostL s.2.1 = 0) (J : InvH a) (ok : okLie (hLie a) = true) :
    ∃ h', F_M_comesTold (I (k : Int)) h = some (I ((if (apS a s.2.1 s.2.2).isSome = true then 1 else 0 : Nat) : Int), h') ∧ FrX h h' ∧ ∀ a', apS a s.2.1 s.2.2 = some a' → RepM a' h'.1 := by
  obtain ⟨p, c, ds⟩ := s
  have mz : ¬ mostL c = 0 := mz
  by_cases c1 : c = 98
  · subst c1; exact m_t98 R hk D hd J
  · by_cases c2 : c = 112
    · subst c2; exact m_t112 R hk D hd J
    · by_cases c3 : c = 119
      · subst c3; exact m_t119 R hk D hd J
      · have c4 : c = 116 := Classical.byContradiction fun q => mz (by unfold mostL; rw [if_neg c1, if_neg c2, if_neg q, if_neg c3])
        subst c4
        exact m_t116 R hk D hd hl ok
end TO2
