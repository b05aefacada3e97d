-- 52 judge
section JUD
variable {S : SS} {h : MH}
def jT (a : HS) (w p b : Nat) : Int := if sTw a b w p ≤ 99 then sTw a b w p else 99
def juP (S : SS) (w p b : Nat) : Bool := decide (nB (sN S) ≤ b) || decide (¬ jT (sN S) w p b = (sRw S).getD b 0)
theorem l_juC (J : InvS S) (R : RC S h) {w p : Nat} (hw : w < nW (sN S)) (hp : p < nP (sN S)) : ∀ d i n : Nat, i + d = (sRw S).length → d + 1 < n → L_C_judge_28 (I w) (I p) n (I (-9)) (I i) h = some (I (o9 (fFi (juP S w p) d i)), h) := by
  have K := is_h J
  have j5 := J.2.2.2.2.1
  have j1 := K.1
  have b9 : (I (-9) = I (-9)) = True := eq_self _
  intro d
  induction d with
  | zero =>
    intro i n e hn
    obtain ⟨m, rfl⟩ := sfuel hn
    obtain rfl : i = (sRw S).length := by omega
    simp (disch := omega) only [L_C_judge_28, R.2.2.2.1.1, I_le, if_pos (Int.le_refl _)]
    rfl
  | succ d ih =>
    intro i n e hn
    obtain ⟨m, rfl⟩ := sfuel hn
    have g := ih (i + 1) m (by omega) (by omega)
    have v := row_v J (show i < (sRw S).length by omega)
    have er := R.2.2.2.1.2 i (by omega)
    have stop : L_C_judge_28 (I w) (I p) m (I i) (I ((i + 1 : Nat) : Int)) h = some (I i, h) := by
      obtain ⟨m', rfl⟩ : ∃ m', m = m' + 1 := sfuel (d := d) (by omega)
      have ne : (I (i : Int) = I (-9)) = False := by rw [I_eq (by omega) (by omega) (by omega) (by omega)]; exact eq_false (by omega)
      simp only [L_C_judge_28, ne, not_false_iff, if_true, ite_self]
    show _ = some (I (o9 (if juP S w p i = true then some i else fFi (juP S w p) d (i + 1))), h)
    simp (disch := omega) only [L_C_judge_28, R.2.2.2.1.1, rn_b (rc_h R), I_le, if_neg (show ¬ (((sRw S).length : Int) ≤ (i : Int)) by omega), b9, not_true, if_false, I_succ]
    by_cases hb : nB (sN S) ≤ i
    · have t : juP S w p i = true := by unfold juP; rw [decide_eq_true hb, Bool.true_or]
      rw [if_pos (show (nB (sN S) : Int) ≤ (i : Int) by omega), if_pos t, stop]
      rfl
    · have q := sTw_b K i w p
      rw [if_neg (show ¬ (nB (sN S) : Int) ≤ (i : Int) by omega), c_timeBy (rc_h R) K (show i < nB (sN S) by omega) hw hp, bd_s]
      have e1 : (if I (sTw (sN S) i w p) < I 99 then I (sTw (sN S) i w p) else I 99) = I (jT (sN S) w p i) := by
        simp (disch := omega) only [I_lt, I_ite]
        congr 1
        unfold jT
        split <;> split <;> omega
      have jb : 0 ≤ jT (sN S) w p i ∧ jT (sN S) w p i ≤ 99 := by unfold jT; split <;> omega
      simp (disch := omega) only [e1, iw_s, ck_in, I_nat, Int.toNat_natCast, er, I_eq]
      by_cases c : jT (sN S) w p i = (sRw S).getD i 0
      · have t : ¬ juP S w p i = true := by unfold juP; rw [decide_eq_false hb, decide_eq_false (fun z => z c)]; decide
        rw [if_pos c, if_neg t]
        exact g
      · have t : juP S w p i = true := by unfold juP; rw [decide_eq_true c, Bool.or_true]
        rw [if_neg c, if_pos t, stop]
        rfl
theorem l_juM (J : InvS S) {w p : Nat} (hw : w < nW (sN S)) (hp : p < nP (sN S)) (R : RepM (sN S) h.1) (Rr : ∀ i, i < (sRw S).length → h.1 74 i = I ((sRw S).getD i 0)) : ∀ d i n : Nat, i + d = (sRw S).length → d < n → L_M_judge_40 (I w) (I p) (I ((sRw S).length : Int)) n (I i) h = resI h (fFi (juP S w p) d i) := by
  have K := is_h J
  have j5 := J.2.2.2.2.1
  have j1 := K.1
  intro d
  induction d with
  | zero =>
    intro i n e hn
    obtain ⟨m, rfl⟩ := sfuel hn
    obtain rfl : i = (sRw S).length := by omega
    simp (disch := omega) only [L_M_judge_40, I_le, if_pos (Int.le_refl _)]
    rfl
  | succ d ih =>
    intro i n e hn
    obtain ⟨m, rfl⟩ := sfuel hn
    have g := ih (i + 1) m (by omega) (by omega)
    have v := row_v J (show i < (sRw S).length by omega)
    have er := Rr i (by omega)
    show _ = resI h (if juP S w p i = true then some i else fFi (juP S w p) d (i + 1))
    simp (disch := omega) only [L_M_judge_40, rm_b R, I_le, if_neg (show ¬ (((sRw S).length : Int) ≤ (i : Int)) by omega), I_succ]
    by_cases hb : nB (sN S) ≤ i
    · have t : juP S w p i = true := by unfold juP; rw [decide_eq_true hb, Bool.true_or]
      rw [if_pos (show (nB (sN S) : Int) ≤ (i : Int) by omega), if_pos t]
      rfl
    · have q := sTw_b K i w p
      rw [if_neg (show ¬ (nB (sN S) : Int) ≤ (i : Int) by omega), m_timeOf R K (show i < nB (sN S) by omega) hw hp, bd_s]
      have jb : 0 ≤ jT (sN S) w p i ∧ jT (sN S) w p i ≤ 99 := by unfold jT; split <;> omega
      have e1 : F_M_atMost (I (sTw (sN S) i w p)) (I 99) h = some (I (jT (sN S) w p i), h) := m_most (by omega) (by omega) (by omega) (by omega)
      simp (disch := omega) only [e1, bd_s, ck_in, I_nat, Int.toNat_natCast, er, I_eq]
      by_cases c : jT (sN S) w p i = (sRw S).getD i 0
      · have t : ¬ juP S w p i = true := by unfold juP; rw [decide_eq_false hb, decide_eq_false (fun z => z c)]; decide
        rw [if_pos c, if_neg t]
        exact g
      · have t : juP S w p i = true := by unfold juP; rw [decide_eq_true c, Bool.or_true]
        rw [if_neg c, if_pos t]
        rfl
theorem s_judge (J : InvS S) {y z : Int} (e2 : i32 y) (e3 : i32 z) : Step S (F_C_judge (I y) (I z)) (F_M_judge (I y) (I z)) := by
  obtain ⟨J1, J2, J3, J4, J5, J6, J7, J8, J9⟩ := id J
  have j1 := J1.1
  by_cases hy : inW (sN S) y
  · by_cases hz : inP (sN S) z
    · obtain ⟨w, hw, rfl⟩ := nn hy
      obtain ⟨p, hp, rfl⟩ := nn hz
      refine ⟨I (o9 (fFi (juP S w p) (sRw S).length 0)), (sN S, sI S, sLt S, [], sU S, sR S), ⟨J1, J2, J3, J4, by show 0 ≤ 12; omega, fun x hx => absurd (show x ∈ ([] : List Int) from hx) List.not_mem_nil, J7, J8, J9⟩, fun h R => ?_, fun h R => ?_⟩
      · have g : L_C_judge_28 (I w) (I p) 5000 (I (-9)) (I 0) h = _ := l_juC J R hw hp (sRw S).length 0 5000 (by omega) (by omega)
        obtain ⟨r1, r2, r3, r4, r5, r6⟩ := R
        refine ⟨(mm_hset h.1 0 9 (I 0), h.2), ?_, ⟨RepH_cg (fun k a b => by simp (disch := omega) only [hrow]) r1, RImg_cg (by simp (disch := omega) only [hs_ne]) (fun k a b => by simp (disch := omega) only [hrow]) r2, ⟨by simp (disch := omega) only [hs_ne]; exact r3.1, fun i hi => by simp (disch := omega) only [hs_ne]; exact r3.2 i hi⟩, ⟨by simp only [hs_eq]; rfl, fun i hi => absurd hi (Nat.not_lt_zero i)⟩, RUn_cg (by simp (disch := omega) only [hs_ne]) (fun k a b => by simp (disch := omega) only [hrow]) r5, fun i hi => by simp (disch := omega) only [hs_ne]; exact r6 i hi⟩, fun k i hk => by simp (disch := omega) only [hs_ne]⟩
        simp only [F_C_judge, c_noWay_t r1 J1 hy.1 hy.2, c_noOne_t r1 J1 hz.1 hz.2, bd_s, zero_I, not_true, if_false, if_true, g, hw_s]
      · have R' := RM_Sc R (ScM_setT h)
        obtain ⟨r1, r2, r3, r4, r5, r6⟩ := R'
        have M2 : RepM (sN S) (mm_hset (setT h).1 55 34 (I 0)) := RepM_cg (by simp (disch := omega) only [hs_ne]) (by simp (disch := omega) only [hs_ne]) (by simp (disch := omega) only [hs_ne]) (by simp (disch := omega) only [hs_ne]) (fun k a b => by simp (disch := omega) only [hrow]) r1
        have g : L_M_judge_40 (I w) (I p) (I ((sRw S).length : Int)) 5000 (I 0) (mm_hset (setT h).1 55 34 (I 0), (setT h).2) = _ := l_juM (h := (mm_hset (setT h).1 55 34 (I 0), (setT h).2)) J hw hp M2 (fun i hi => by simp (disch := omega) only [hs_ne]; exact r4.2 i hi) (sRw S).length 0 5000 (by omega) (by omega)
        refine ⟨(mm_hset (setT h).1 55 34 (I 0), (setT h).2), ?_, ⟨M2, RImgM_cg (by simp (disch := omega) only [hs_ne]) (by simp (disch := omega) only [hrow]) r2, ⟨by simp (disch := omega) only [hs_ne]; exact r3.1, fun i hi => by simp (disch := omega) only [hs_ne]; exact r3.2 i hi⟩, ⟨by simp only [hs_eq]; rfl, fun i hi => absurd hi (Nat.not_lt_zero i)⟩, RUnM_cg (by simp (disch := omega) only [hs_ne]) (by simp (disch := omega) only [hrow]) r5, fun i hi => by simp (disch := omega) only [hs_ne]; exact r6 i hi⟩, fun k i hk => by simp (disch := omega) only [hs_ne, setT]⟩
        simp only [F_M_judge, setT_d, hw_s, m_isWay_t r1 J1 hy.1 hy.2, m_isOne_t r1 J1 hz.1 hz.2, bd_s, zero_I, one_ne, not_false_iff, if_false, if_true, r4.1, g, be_res]
        cases fFi (juP S w p) (sRw S).length 0 <;> rfl
    · refine st_ref J (I (-1)) 1 (by omega) (fun h R => ?_) (fun h R => ?_)
      · simp only [F_C_judge, c_noWay_t (rc_h R) J1 hy.1 hy.2, c_noOne_f (rc_h R) J1 e3.1 e3.2 hz, bd_s, zero_I, not_true, one_ne, if_false, c_ref1]
      · simp only [F_M_judge, setT_d, hw_s, m_isWay_t (rm_h R) J1 hy.1 hy.2, m_isOne_f (rm_h R) J1 e3.1 e3.2 hz, bd_s, zero_I, not_true, one_ne, if_false, m_ref1]
  · refine st_ref J (I (-1)) 1 (by omega) (fun h R => ?_) (fun h R => ?_)
    · simp only [F_C_judge, c_noWay_f (rc_h R) J1 e2.1 e2.2 hy, bd_s, zero_I, one_ne, not_false_iff, if_true, c_ref1]
    · simp only [F_M_judge, setT_d, hw_s, m_isWay_f (rm_h R) J1 e2.1 e2.2 hy, bd_s, zero_I, if_true, m_ref1]
end JUD
-- 51 twins
section TWI
variable {a : HS} {h : MH}
def twP (a : HS) (x : Int) (b c : Nat) : Bool := decide (hC a b = hC a c ∧ hD a b = hD a c) && (decide (x = 0) || decide (hL a b = hL a c ∧ hB a b = hB a c))
def tI (a : HS) (x : Int) (b : Nat) : Nat → Nat → Int32 → Int32
  | 0, _, s => s
  | d + 1, i, s => tI a x b d (i + 1) (if twP a x b i = true then s + I 1 else s)
def tO (a : HS) (x : Int) : Nat → Nat → Int32 → Int32
  | 0, _, s => s
  | d + 1, i, s => tO a x d (i + 1) (tI a x i (nB a - (i + 1)) (i + 1) s)
theorem two_eq {a b c d : Int} (h1 : 1 ≤ b) (h2 : b ≤ 24) (h3 : 1 ≤ d) (h4 : d ≤ 24) (h5 : 1 ≤ a) (h6 : a ≤ 24) (h7 : 1 ≤ c) (h8 : c ≤ 24) : (I (100 * a + b) = I (100 * c + d)) = (a = c ∧ b = d) := by
  rw [I_eq (by omega) (by omega) (by omega) (by omega)]
  exact propext ⟨fun h => by omega, fun h => by omega⟩
theorem l_twC (R : RepH 8 a h.1) (J : InvH a) {x : Int} (h0 : 0 ≤ x) (h1 : x ≤ 1) {b : Nat} (hb : b < nB a) : ∀ (d i n : Nat) (s : Int32), i + d = nB a → d < n → L_C_twins_35 (I x) (I b) n s (I i) h = some (tI a x b d i s, h) := by
  obtain ⟨j1, j2, j3, j4, j5, j6⟩ := id J
  intro d
  induction d with
  | zero =>
    intro i n s e hn
    obtain ⟨m, rfl⟩ := sfuel hn
    obtain rfl : i = nB a := by omega
    simp (disch := omega) only [L_C_twins_35, rn_b R, I_le, if_pos (Int.le_refl _)]
    rfl
  | succ d ih =>
    intro i n s e hn
    obtain ⟨m, rfl⟩ := sfuel hn
    have hi : i < nB a := by omega
    have g := ih (i + 1) m (if twP a x b i = true then s + I 1 else s) (by omega) (by omega)
    have b1 := j4 b
    have b2 := j4 i
    have ex : (I x = I 0) = (x = 0) := I_eq (by omega) (by omega) (by omega) (by omega)
    show _ = some (tI a x b d (i + 1) (if twP a x b i = true then s + I 1 else s), h)
    simp (disch := omega) only [L_C_twins_35, rn_b R, I_le, if_neg (show ¬ ((nB a : Int) ≤ (i : Int)) by omega), ck_in, I_nat, Int.toNat_natCast, rn_q R hb, rn_q R hi, rn_c R hb, rn_c R hi, two_eq, iw_s, zero_I, ex, I_succ]
    by_cases c : hC a b = hC a i ∧ hD a b = hD a i
    · rw [if_neg (show ¬ ¬ _ from fun z => z c), if_neg (show ¬ (I 1 = I 0) by decide)]
      by_cases x0 : x = 0
      · have t : twP a x b i = true := by unfold twP; rw [decide_eq_true c, decide_eq_true x0, Bool.true_or]; rfl
        rw [if_pos t] at g
        rw [if_pos x0, if_pos t]
        exact g
      · rw [if_neg x0]
        by_cases q : hL a b = hL a i ∧ hB a b = hB a i
        · have t : twP a x b i = true := by unfold twP; rw [decide_eq_true c, decide_eq_true q, Bool.or_true]; rfl
          rw [if_pos t] at g
          rw [if_neg (show ¬ ¬ _ from fun z => z q), if_pos t]
          exact g
        · have t : ¬ twP a x b i = true := by unfold twP; rw [decide_eq_true c, decide_eq_false q, decide_eq_false x0]; decide
          rw [if_neg t] at g
          rw [if_pos q, if_neg t]
          exact g
    · have t : ¬ twP a x b i = true := by unfold twP; rw [decide_eq_false c, Bool.false_and]; decide
      rw [if_neg t] at g
      rw [if_pos c, if_pos rfl, if_neg t]
      exact g
theorem l_twC2 (R : RepH 8 a h.1) (J : InvH a) {x : Int} (h0 : 0 ≤ x) (h1 : x ≤ 1) : ∀ (d i n : Nat) (s : Int32), i + d = nB a → d < n → L_C_twins_19 (I x) n s (I i) h = some (tO a x d i s, h) := by
  obtain ⟨j1, j2, j3, j4, j5, j6⟩ := id J
  intro d
  induction d with
  | zero =>
    intro i n s e hn
    obtain ⟨m, rfl⟩ := sfuel hn
    obtain rfl : i = nB a := by omega
    simp (disch := omega) only [L_C_twins_19, rn_b R, I_le, if_pos (Int.le_refl _)]
    rfl
  | succ d ih =>
    intro i n s e hn
    obtain ⟨m, rfl⟩ := sfuel hn
    have hi : i < nB a := by omega
    have g := ih (i + 1) m (tI a x i (nB a - (i + 1)) (i + 1) s) (by omega) (by omega)
    have q := l_twC R J h0 h1 (b := i) hi (nB a - (i + 1)) (i + 1) 5000 s (by omega) (by omega)
    simp (disch := omega) only [L_C_twins_19, rn_b R, I_le, if_neg (show ¬ ((nB a : Int) ≤ (i : Int)) by omega), I_succ, q, bd_s]
    exact g
theorem I4s (i : Nat) : I (4 * (i : Int)) + I 4 = I (4 * ((i + 1 : Nat) : Int)) := by
  rw [I_add]
  congr 1
theorem l_twM (R : RepM a h.1) (J : InvH a) {x : Int} (h0 : 0 ≤ x) (h1 : x ≤ 1) {b : Nat} (hb : b < nB a) : ∀ (d i n : Nat) (s : Int32), i + d = nB a → d < n → L_M_twins_41 (I x) (I (4 * (b : Int))) n s (I (4 * (i : Int))) h = some (tI a x b d i s, h) := by
  obtain ⟨j1, j2, j3, j4, j5, j6⟩ := id J
  intro d
  induction d with
  | zero =>
    intro i n s e hn
    obtain ⟨m, rfl⟩ := sfuel hn
    obtain rfl : i = nB a := by omega
    simp (disch := omega) only [L_M_twins_41, rm_b R, I_mul, I_le, if_pos (Int.le_refl _)]
    rfl
  | succ d ih =>
    intro i n s e hn
    obtain ⟨m, rfl⟩ := sfuel hn
    have hi : i < nB a := by omega
    have g := ih (i + 1) m (if twP a x b i = true then s + I 1 else s) (by omega) (by omega)
    have b1 := j4 b
    have b2 := j4 i
    have o0 : s + I 0 = s := Int32.add_zero s
    show _ = some (tI a x b d (i + 1) (if twP a x b i = true then s + I 1 else s), h)
    simp (disch := omega) only [L_M_twins_41, rm_b R, I_mul, I_le, if_neg (show ¬ (4 * (nB a : Int) ≤ 4 * (i : Int)) by omega), I_add, ck_in, I_nat, n40, n41, n42, n43, rm_L R hb, rm_B R hb, rm_C R hb, rm_D R hb, rm_L R hi, rm_B R hi, rm_C R hi, rm_D R hi, I_eq, kw_s, iw_s, zero_I]
    rw [← I_add, I4s]
    by_cases c1 : hC a b = hC a i
    · rw [if_neg (show ¬ ¬ _ from fun z => z c1)]
      by_cases c2 : hD a b = hD a i
      · rw [if_neg (show ¬ ¬ _ from fun z => z c2)]
        by_cases q1 : hL a b = hL a i
        · rw [if_neg (show ¬ ¬ _ from fun z => z q1)]
          by_cases q2 : hB a b = hB a i
          · have t : twP a x b i = true := by unfold twP; rw [decide_eq_true ⟨c1, c2⟩, decide_eq_true (show hL a b = hL a i ∧ hB a b = hB a i from ⟨q1, q2⟩), Bool.or_true]; rfl
            rw [if_pos t] at g
            rw [if_neg (show ¬ ¬ _ from fun z => z q2), if_pos t]
            simp only [oz, one_ne, if_false, ite_self]
            exact g
          · rw [if_pos q2]
            by_cases x0 : x = 0
            · have t : twP a x b i = true := by unfold twP; rw [decide_eq_true ⟨c1, c2⟩, decide_eq_true x0, Bool.true_or]; rfl
              rw [if_pos t] at g
              rw [if_pos t]
              simp only [oz, one_ne, if_false, x0, if_true]
              rw [x0] at g
              exact g
            · have t : ¬ twP a x b i = true := by unfold twP; rw [decide_eq_true (show hC a b = hC a i ∧ hD a b = hD a i from ⟨c1, c2⟩), decide_eq_false x0, decide_eq_false (fun z => q2 z.2)]; decide
              rw [if_neg t] at g
              rw [if_neg t]
              simp only [oz, one_ne, if_false, x0, if_true, o0]
              exact g
        · rw [if_pos q1]
          by_cases x0 : x = 0
          · have t : twP a x b i = true := by unfold twP; rw [decide_eq_true ⟨c1, c2⟩, decide_eq_true x0, Bool.true_or]; rfl
            rw [if_pos t] at g
            rw [if_pos t]
            simp only [oz, one_ne, if_false, x0, if_true]
            rw [x0] at g
            exact g
          · have t : ¬ twP a x b i = true := by unfold twP; rw [decide_eq_true (show hC a b = hC a i ∧ hD a b = hD a i from ⟨c1, c2⟩), decide_eq_false x0, decide_eq_false (fun z => q1 z.1)]; decide
            rw [if_neg t] at g
            rw [if_neg t]
            simp only [oz, one_ne, if_false, x0, if_true, o0]
            exact g
      · have t : ¬ twP a x b i = true := by unfold twP; rw [decide_eq_false (fun z => c2 z.2), Bool.false_and]; decide
        rw [if_neg t] at g
        rw [if_pos c2, if_neg t]
        simp only [oz, if_false, if_true, ite_self, o0]
        exact g
    · have t : ¬ twP a x b i = true := by unfold twP; rw [decide_eq_false (fun z => c1 z.1), Bool.false_and]; decide
      rw [if_neg t] at g
      rw [if_pos c1, if_neg t]
      simp only [oz, if_false, if_true, ite_self, o0]
      exact g
theorem l_twM2 (R : RepM a h.1) (J : InvH a) {x : Int} (h0 : 0 ≤ x) (h1 : x ≤ 1) : ∀ (d i n : Nat) (s : Int32), i + d = nB a → d < n → L_M_twins_26 (I x) n s (I (4 * (i : Int))) h = some (tO a x d i s, h) := by
  obtain ⟨j1, j2, j3, j4, j5, j6⟩ := id J
  intro d
  induction d with
  | zero =>
    intro i n s e hn
    obtain ⟨m, rfl⟩ := sfuel hn
    obtain rfl : i = nB a := by omega
    simp (disch := omega) only [L_M_twins_26, rm_b R, I_mul, I_le, if_pos (Int.le_refl _)]
    rfl
  | succ d ih =>
    intro i n s e hn
    obtain ⟨m, rfl⟩ := sfuel hn
    have hi : i < nB a := by omega
    have g := ih (i + 1) m (tI a x i (nB a - (i + 1)) (i + 1) s) (by omega) (by omega)
    have q := l_twM R J h0 h1 (b := i) hi (nB a - (i + 1)) (i + 1) 5000 s (by omega) (by omega)
    simp (disch := omega) only [L_M_twins_26, rm_b R, I_mul, I_le, if_neg (show ¬ (4 * (nB a : Int) ≤ 4 * (i : Int)) by omega), I4s, q, bd_s]
    exact g
theorem q_twins {S : SS} (J : InvS S) {y : Int} (e2 : i32 y) : Q2 S (F_C_twins (I y)) (F_M_twins (I y)) := by
  have K := is_h J
  have j1 := K.1
  obtain ⟨l2, g2⟩ := id e2
  by_cases hu : 0 ≤ y ∧ y ≤ 1
  · refine q_pl (tO (sN S) y (nB (sN S)) 0 (I 0)) 0 (by omega) (fun h R => ?_) (fun h R => ?_)
    · have g : L_C_twins_19 (I y) 5000 (I 0) (I 0) h = _ := l_twC2 (rc_h R) K hu.1 hu.2 (nB (sN S)) 0 5000 (I 0) (by omega) (by omega)
      simp only [F_C_twins, c_other_t hu.1 hu.2 (show (1 : Int) < 2147483648 by omega), bd_s, zero_I, if_true, g]
      rfl
    · have g : L_M_twins_26 (I y) 5000 (I 0) (I 0) (setT h) = _ := l_twM2 (rm_h R) K hu.1 hu.2 (nB (sN S)) 0 5000 (I 0) (by omega) (by omega)
      simp (disch := omega) only [F_M_twins, setT_d, hw_s, toI64, m_in, if_pos hu, bd_s, zero_I, one_ne, not_false_iff, if_true, g]
      rfl
  · refine q_pl (I (-2)) 2 (by omega) (fun h R => ?_) (fun h R => ?_)
    · simp only [F_C_twins, c_other_f l2 g2 (show (0:Int) ≤ 1 by omega) (by omega) hu, bd_s, zero_I, one_ne, if_false, c_ref2]
    · simp (disch := omega) only [F_M_twins, setT_d, hw_s, toI64, m_in, if_neg hu, bd_s, zero_I, not_true, if_false, m_ref2]
end TWI
