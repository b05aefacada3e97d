-- 3 house: what a statement does to a house; the class tells it to its trial
def sz (x : Int) : Bool := decide (100 ≤ x) && (decide (1 ≤ x % 100) && (decide (x / 100 ≤ 24) && decide (x % 100 ≤ 24)))
theorem sz_t {x : Int} : sz x = true ↔ (¬ small x ∧ ¬ large x) := by
  unfold sz small large
  rw [Bool.and_eq_true, Bool.and_eq_true, Bool.and_eq_true, decide_eq_true_eq, decide_eq_true_eq, decide_eq_true_eq, decide_eq_true_eq]
  omega
def nb1 (ds : List Int) : Int := 1000 * ds.getD 0 0 + 100 * ds.getD 1 0 + 10 * ds.getD 2 0 + ds.getD 3 0
def nb2 (ds : List Int) : Int := 1000 * ds.getD 4 0 + 100 * ds.getD 5 0 + 10 * ds.getD 6 0 + ds.getD 7 0
def np1 (ds : List Int) : Int := 10 * ds.getD 0 0 + ds.getD 1 0
def tlF (ds : List Int) (l : Nat) : Nat := ds.foldl (fun l d => tl l d.toNat) l
def all4 (ds : List Int) : Bool := ds.all (fun d => decide (d < 4))
def apS (a : HS) (c : Int) (ds : List Int) : Option HS :=
  if c = 98 then (if sz (nb1 ds) = true ∧ sz (nb2 ds) = true ∧ nB a < 6 then some (addB a (nb1 ds) (nb2 ds)) else none)
  else if c = 112 then (if 1 ≤ np1 ds ∧ np1 ds ≤ 12 ∧ nP a < 4 then some (addP a (np1 ds) (ds.getD 2 0)) else none)
  else if c = 119 then (if ds.getD 0 0 ≤ 5 ∧ nW a < 6 then some (addW a (ds.getD 0 0) (ds.getD 1 0)) else none)
  else (if all4 ds = true then some (setL a (tlF ds (hLie a))) else none)
def apA (a : HS) : List Stm → Nat ⊕ HS
  | [] => .inr a
  | s :: r => match apS a s.2.1 s.2.2 with
    | none => .inl s.1
    | some a' => apA a' r
/-- digits of a statement -/
def dOK (ds : List Int) : Prop := ∀ d, d ∈ ds → 0 ≤ d ∧ d ≤ 9
theorem dOK_g {ds : List Int} (h : dOK ds) (k : Nat) : 0 ≤ ds.getD k 0 ∧ ds.getD k 0 ≤ 9 := by
  by_cases c : k < ds.length
  · rw [List.getD_eq_getElem?_getD, List.getElem?_eq_getElem c]
    exact h _ (List.getElem_mem c)
  · rw [List.getD_eq_getElem?_getD, List.getElem?_eq_none (by omega)]
    exact ⟨Int.le_refl 0, by show (0 : Int) ≤ 9; omega⟩
theorem tlF_ok : ∀ (ds : List Int) (l : Nat), dOK ds → all4 ds = true → okLie l = true → okLie (tlF ds l) = true := by
  intro ds
  induction ds with
  | nil => intro l _ _ h; exact h
  | cons d r ih =>
    intro l h h4 ok
    have hd := h d (List.mem_cons_self ..)
    unfold all4 at h4
    rw [List.all_cons, Bool.and_eq_true, decide_eq_true_eq] at h4
    refine ih (tl l d.toNat) (fun x hx => h x (List.mem_cons_of_mem _ hx)) h4.2 ?_
    exact tl_ok ⟨l, ok_lt ok⟩ ⟨d.toNat, by omega⟩ ok
theorem apS_inv {a a' : HS} {c : Int} {ds : List Int} (J : InvH a) (ok : okLie (hLie a) = true) (hd : dOK ds) (h : apS a c ds = some a') : InvH a' ∧ okLie (hLie a') = true := by
  have d0 := dOK_g hd 0
  have d1 := dOK_g hd 1
  have d2 := dOK_g hd 2
  unfold apS at h
  by_cases c1 : c = 98
  · rw [if_pos c1] at h
    by_cases q : sz (nb1 ds) = true ∧ sz (nb2 ds) = true ∧ nB a < 6
    · rw [if_pos q] at h
      have e := Option.some.inj h
      rw [← e]
      have s1 := sz_t.mp q.1
      have s2 := sz_t.mp q.2.1
      exact ⟨invB J s1.1 s1.2 s2.1 s2.2 q.2.2, ok⟩
    · rw [if_neg q] at h
      exact absurd h (by simp)
  · rw [if_neg c1] at h
    by_cases c2 : c = 112
    · rw [if_pos c2] at h
      by_cases q : 1 ≤ np1 ds ∧ np1 ds ≤ 12 ∧ nP a < 4
      · rw [if_pos q] at h
        have e := Option.some.inj h
        rw [← e]
        exact ⟨invP J q.1 q.2.1 d2.1 d2.2 q.2.2, ok⟩
      · rw [if_neg q] at h
        exact absurd h (by simp)
    · rw [if_neg c2] at h
      by_cases c3 : c = 119
      · rw [if_pos c3] at h
        by_cases q : ds.getD 0 0 ≤ 5 ∧ nW a < 6
        · rw [if_pos q] at h
          have e := Option.some.inj h
          rw [← e]
          exact ⟨invW J d0.1 q.1 d1.1 d1.2 q.2, ok⟩
        · rw [if_neg q] at h
          exact absurd h (by simp)
      · rw [if_neg c3] at h
        by_cases q : all4 ds = true
        · rw [if_pos q] at h
          have e := Option.some.inj h
          rw [← e]
          exact ⟨J, tlF_ok ds _ hd q ok⟩
        · rw [if_neg q] at h
          exact absurd h (by simp)
def Fr22 (h h' : MH) : Prop := h'.2 = h.2 ∧ ∀ k, ¬ (22 ≤ k ∧ k ≤ 28) → h'.1 k = h.1 k
theorem Fr22_rfl (h : MH) : Fr22 h h := ⟨rfl, fun _ _ => rfl⟩
theorem Fr22_tr {a b c : MH} (p : Fr22 a b) (q : Fr22 b c) : Fr22 a c := ⟨q.1.trans p.1, fun k e => (q.2 k e).trans (p.2 k e)⟩
theorem LT_22 {l : List Int} {h h' : MH} (T : LT l h) (q : Fr22 h h') : LT l h' := by
  unfold LT at T ⊢
  rw [q.2 29 (by omega), q.2 30 (by omega)]
  exact T
section TEL
variable {a : HS} {h : MH} {l : List Int}
theorem c_addB (R : RepH 22 a h.1) (J : InvH a) {x y : Int} (e1 : i32 x) (e2 : i32 y) : ∃ r h', F_H_addBed (I x) (I y) h = some (I r, h') ∧ Fr22 h h' ∧
    ((sz x = true ∧ sz y = true ∧ nB a < 6 → 0 ≤ r ∧ RepH 22 (addB a x y) h'.1) ∧ (¬ (sz x = true ∧ sz y = true ∧ nB a < 6) → r < 0)) ∧ -10 ≤ r ∧ r ≤ 10 := by
  obtain ⟨j1, j2, j3, j4, j5, j6⟩ := id J
  obtain ⟨t1, t2, t3, t4, t5, t6, t7, t8, t9, t10⟩ := id R
  have sx := sz_t (x := x)
  have sy := sz_t (x := y)
  by_cases s1 : small x
  · refine ⟨-4, h, ?_, Fr22_rfl h, ⟨fun q => absurd s1 (sx.mp q.1).1, fun _ => by omega⟩, by omega, by omega⟩
    simp only [F_H_addBed, c_small_t e1 s1, bd_s, zero_I, one_ne, not_false_iff, if_true]
  · by_cases s2 : small y
    · refine ⟨-4, h, ?_, Fr22_rfl h, ⟨fun q => absurd s2 (sy.mp q.2.1).1, fun _ => by omega⟩, by omega, by omega⟩
      simp only [F_H_addBed, c_small_f e1 s1, c_small_t e2 s2, bd_s, zero_I, one_ne, not_true, if_false]
    · by_cases q1 : large x
      · refine ⟨-6, h, ?_, Fr22_rfl h, ⟨fun q => absurd q1 (sx.mp q.1).2, fun _ => by omega⟩, by omega, by omega⟩
        simp only [F_H_addBed, c_small_f e1 s1, c_small_f e2 s2, c_large_t e1 s1 q1, bd_s, zero_I, one_ne, not_true, not_false_iff, if_false, if_true]
      · by_cases q2 : large y
        · refine ⟨-6, h, ?_, Fr22_rfl h, ⟨fun q => absurd q2 (sy.mp q.2.1).2, fun _ => by omega⟩, by omega, by omega⟩
          simp only [F_H_addBed, c_small_f e1 s1, c_small_f e2 s2, c_large_f e1 s1 q1, c_large_t e2 s2 q2, bd_s, zero_I, one_ne, not_true, not_false_iff, if_false, if_true]
        · by_cases hn : nB a < 6
          · have b1 := size_b s1 q1
            have b2 := size_b s2 q2
            refine ⟨(nB a : Int), (mm_hset (mm_hset (mm_hset h.1 23 (nB a) (I x)) 24 (nB a) (I y)) 22 7 (I ((nB a + 1 : Nat) : Int)), h.2), ?_, ⟨rfl, fun k hk => by simp (disch := omega) only [hrow]⟩, ⟨fun _ => ⟨by omega, ?_⟩, fun q => absurd ⟨sx.mpr ⟨s1, q1⟩, sy.mpr ⟨s2, q2⟩, hn⟩ q⟩, by omega, by omega⟩
            · have em : I ((nB a + 1 : Nat) : Int) - I 1 = I (nB a : Int) := by
                rw [I_sub]
                congr 1
                omega
              simp (disch := omega) only [F_H_addBed, c_small_f e1 s1, c_small_f e2 s2, c_large_f e1 s1 q1, c_large_f e2 s2 q2, bd_s, zero_I, not_true, if_false, if_true, t1, I_lt, if_pos (show (nB a : Int) < 6 by omega), ck_in, I_nat, Int.toNat_natCast, hw_s, hs_ne, hs_eq, I_succ, em]
            · refine ⟨by simp only [hs_eq]; rfl, by simp (disch := omega) only [hs_ne]; exact t2, by simp (disch := omega) only [hs_ne]; exact t3, by simp (disch := omega) only [hs_ne]; exact t4, fun b hb => ?_, fun b hb => ?_, fun i hi => by simp (disch := omega) only [hs_ne]; exact t7 i hi, fun i hi => by simp (disch := omega) only [hs_ne]; exact t8 i hi, fun i hi => by simp (disch := omega) only [hs_ne]; exact t9 i hi, fun i hi => by simp (disch := omega) only [hs_ne]; exact t10 i hi⟩
              · have hb' : b < nB a + 1 := hb
                rw [addB_0, addB_1]
                by_cases c : b = nB a
                · rw [if_pos c, if_pos c, c, show 100 * (x / 100) + x % 100 = x by omega]
                  simp (disch := omega) only [hs_ne, hs_eq]
                · rw [if_neg c, if_neg c]
                  simp (disch := omega) only [hs_ne]
                  exact t5 b (by omega)
              · have hb' : b < nB a + 1 := hb
                rw [addB_2, addB_3]
                by_cases c : b = nB a
                · rw [if_pos c, if_pos c, c, show 100 * (y / 100) + y % 100 = y by omega]
                  simp (disch := omega) only [hs_ne, hs_eq]
                · rw [if_neg c, if_neg c]
                  simp (disch := omega) only [hs_ne]
                  exact t6 b (by omega)
          · refine ⟨-6, h, ?_, Fr22_rfl h, ⟨fun q => absurd q.2.2 hn, fun _ => by omega⟩, by omega, by omega⟩
            simp (disch := omega) only [F_H_addBed, c_small_f e1 s1, c_small_f e2 s2, c_large_f e1 s1 q1, c_large_f e2 s2 q2, bd_s, zero_I, not_true, if_false, if_true, t1, I_lt, if_neg (show ¬ (nB a : Int) < 6 by omega)]
theorem c_addP (R : RepH 22 a h.1) (J : InvH a) {x y : Int} (x0 : 0 ≤ x) (x9 : x ≤ 99) (y0 : 0 ≤ y) (y9 : y ≤ 9) : ∃ r h', F_H_addPerson (I x) (I y) h = some (I r, h') ∧ Fr22 h h' ∧
    ((1 ≤ x ∧ x ≤ 12 ∧ nP a < 4 → 0 ≤ r ∧ RepH 22 (addP a x y) h'.1) ∧ (¬ (1 ≤ x ∧ x ≤ 12 ∧ nP a < 4) → r < 0)) ∧ -10 ≤ r ∧ r ≤ 10 := by
  obtain ⟨j1, j2, j3, j4, j5, j6⟩ := id J
  obtain ⟨t1, t2, t3, t4, t5, t6, t7, t8, t9, t10⟩ := id R
  by_cases c1 : x < 1
  · refine ⟨-4, h, ?_, Fr22_rfl h, ⟨fun q => by omega, fun _ => by omega⟩, by omega, by omega⟩
    simp (disch := omega) only [F_H_addPerson, I_lt, if_pos c1]
  · by_cases c2 : 12 < x
    · refine ⟨-6, h, ?_, Fr22_rfl h, ⟨fun q => by omega, fun _ => by omega⟩, by omega, by omega⟩
      simp (disch := omega) only [F_H_addPerson, zero_I, I_lt, I_le, if_neg c1, if_pos y0, if_pos c2]
    · by_cases hn : nP a < 4
      · refine ⟨(nP a : Int), (mm_hset (mm_hset (mm_hset h.1 25 (nP a) (I x)) 26 (nP a) (I y)) 22 8 (I ((nP a + 1 : Nat) : Int)), h.2), ?_, ⟨rfl, fun k hk => by simp (disch := omega) only [hrow]⟩, ⟨fun _ => ⟨by omega, ?_⟩, fun q => absurd ⟨by omega, by omega, hn⟩ q⟩, by omega, by omega⟩
        · have em : I ((nP a + 1 : Nat) : Int) - I 1 = I (nP a : Int) := by
            rw [I_sub]
            congr 1
            omega
          simp (disch := omega) only [F_H_addPerson, zero_I, I_lt, I_le, if_neg c1, if_pos y0, if_neg c2, if_neg (show ¬ 9 < y by omega), t2, if_pos (show (nP a : Int) < 4 by omega), ck_in, I_nat, Int.toNat_natCast, hw_s, hs_ne, hs_eq, I_succ, em]
        · refine ⟨by simp (disch := omega) only [hs_ne]; exact t1, by simp only [hs_eq]; rfl, by simp (disch := omega) only [hs_ne]; exact t3, by simp (disch := omega) only [hs_ne]; exact t4, fun i hi => by simp (disch := omega) only [hs_ne]; exact t5 i hi, fun i hi => by simp (disch := omega) only [hs_ne]; exact t6 i hi, fun p hp => ?_, fun p hp => ?_, fun i hi => by simp (disch := omega) only [hs_ne]; exact t9 i hi, fun i hi => by simp (disch := omega) only [hs_ne]; exact t10 i hi⟩
          · have hp' : p < nP a + 1 := hp
            rw [addP_A]
            by_cases c : p = nP a
            · rw [if_pos c, c]
              simp (disch := omega) only [hs_ne, hs_eq]
            · rw [if_neg c]
              simp (disch := omega) only [hs_ne]
              exact t7 p (by omega)
          · have hp' : p < nP a + 1 := hp
            rw [addP_S]
            by_cases c : p = nP a
            · rw [if_pos c, c]
              simp (disch := omega) only [hs_ne, hs_eq]
            · rw [if_neg c]
              simp (disch := omega) only [hs_ne]
              exact t8 p (by omega)
      · refine ⟨-6, h, ?_, Fr22_rfl h, ⟨fun q => absurd q.2.2 hn, fun _ => by omega⟩, by omega, by omega⟩
        simp (disch := omega) only [F_H_addPerson, zero_I, I_lt, I_le, if_neg c1, if_pos y0, if_neg c2, if_neg (show ¬ 9 < y by omega), t2, if_neg (show ¬ (nP a : Int) < 4 by omega)]
theorem c_addW (R : RepH 22 a h.1) (J : InvH a) {x y : Int} (x0 : 0 ≤ x) (x9 : x ≤ 9) (y0 : 0 ≤ y) (y9 : y ≤ 9) : ∃ r h', F_H_addWay (I x) (I y) h = some (I r, h') ∧ Fr22 h h' ∧
    ((x ≤ 5 ∧ nW a < 6 → 0 ≤ r ∧ RepH 22 (addW a x y) h'.1) ∧ (¬ (x ≤ 5 ∧ nW a < 6) → r < 0)) ∧ -10 ≤ r ∧ r ≤ 10 := by
  obtain ⟨j1, j2, j3, j4, j5, j6⟩ := id J
  obtain ⟨t1, t2, t3, t4, t5, t6, t7, t8, t9, t10⟩ := id R
  by_cases c1 : x ≤ 5
  · have ot := c_other_t (h := h) x0 c1 (show (5 : Int) < 2147483648 by omega)
    by_cases hn : nW a < 6
    · refine ⟨(nW a : Int), (mm_hset (mm_hset (mm_hset h.1 27 (nW a) (I x)) 28 (nW a) (I y)) 22 9 (I ((nW a + 1 : Nat) : Int)), h.2), ?_, ⟨rfl, fun k hk => by simp (disch := omega) only [hrow]⟩, ⟨fun _ => ⟨by omega, ?_⟩, fun q => absurd ⟨c1, hn⟩ q⟩, by omega, by omega⟩
      · have em : I ((nW a + 1 : Nat) : Int) - I 1 = I (nW a : Int) := by
          rw [I_sub]
          congr 1
          omega
        simp (disch := omega) only [F_H_addWay, ot, bd_s, zero_I, if_true, I_lt, I_le, if_pos y0, if_neg (show ¬ 9 < y by omega), t3, if_pos (show (nW a : Int) < 6 by omega), ck_in, I_nat, Int.toNat_natCast, hw_s, hs_ne, hs_eq, I_succ, em]
      · refine ⟨by simp (disch := omega) only [hs_ne]; exact t1, by simp (disch := omega) only [hs_ne]; exact t2, by simp only [hs_eq]; rfl, by simp (disch := omega) only [hs_ne]; exact t4, fun i hi => by simp (disch := omega) only [hs_ne]; exact t5 i hi, fun i hi => by simp (disch := omega) only [hs_ne]; exact t6 i hi, fun i hi => by simp (disch := omega) only [hs_ne]; exact t7 i hi, fun i hi => by simp (disch := omega) only [hs_ne]; exact t8 i hi, fun p hp => ?_, fun p hp => ?_⟩
        · have hp' : p < nW a + 1 := hp
          rw [addW_K]
          by_cases c : p = nW a
          · rw [if_pos c, c]
            simp (disch := omega) only [hs_ne, hs_eq]
          · rw [if_neg c]
            simp (disch := omega) only [hs_ne]
            exact t9 p (by omega)
        · have hp' : p < nW a + 1 := hp
          rw [addW_F]
          by_cases c : p = nW a
          · rw [if_pos c, c]
            simp (disch := omega) only [hs_ne, hs_eq]
          · rw [if_neg c]
            simp (disch := omega) only [hs_ne]
            exact t10 p (by omega)
    · refine ⟨-6, h, ?_, Fr22_rfl h, ⟨fun q => absurd q.2 hn, fun _ => by omega⟩, by omega, by omega⟩
      simp (disch := omega) only [F_H_addWay, ot, bd_s, zero_I, if_true, I_lt, I_le, if_pos y0, if_neg (show ¬ 9 < y by omega), t3, if_neg (show ¬ (nW a : Int) < 6 by omega)]
  · have ot := c_other_f (h := h) (x := x) (u := 5) (by omega) (by omega) (by omega) (by omega) (by omega)
    refine ⟨-2, h, ?_, Fr22_rfl h, ⟨fun q => absurd q.1 c1, fun _ => by omega⟩, by omega, by omega⟩
    simp only [F_H_addWay, ot, bd_s, zero_I, one_ne, if_false]
def nmF (l : List Int) : Nat → Nat → Int → Int
  | 0, _, n => n
  | d + 1, i, n => nmF l d (i + 1) (10 * n + l.getD i 0 - 48)
theorem l_num (K : Lok l) (T : LT l h) : ∀ (d i n : Nat) (v : Int), i + d ≤ l.length → d < n → L_T_number_5 (I ((i + d : Nat) : Int)) n (I v) (I i) h = some (I (nmF l d i v), h) := by
  have k96 := K.1
  intro d
  induction d with
  | zero =>
    intro i n v e hn
    obtain ⟨n, rfl⟩ := sfuel hn
    simp (disch := omega) only [L_T_number_5, I_le]
    rw [if_pos (by omega)]
    rfl
  | succ d ih =>
    intro i n v e hn
    obtain ⟨n, rfl⟩ := sfuel hn
    have g := ih (i + 1) n (10 * v + l.getD i 0 - 48) (by omega) (by omega)
    rw [show i + 1 + d = i + (d + 1) by omega] at g
    simp (disch := omega) only [L_T_number_5, I_le, if_neg (show ¬ ((i + (d + 1) : Nat) : Int) ≤ (i : Int) by omega), T.1, if_neg (show ¬ (l.length : Int) ≤ (i : Int) by omega), ck_in, I_nat, Int.toNat_natCast, T.2 i (by omega), I_mul, I_add, I_sub, iw_s]
    exact g
theorem c_num (K : Lok l) (T : LT l h) {i d : Nat} (e : i + d ≤ l.length) (hd : d ≤ 10) : F_T_number (I i) (I ((i + d : Nat) : Int)) h = some (I (nmF l d i 0), h) := by
  have g := l_num K T d i 5000 0 e (by omega)
  have g' : L_T_number_5 (I ((i + d : Nat) : Int)) 5000 (I 0) (I i) h = _ := g
  simp only [F_T_number, g', bd_s]
theorem dig_at {pre ds r3 : List Int} {c : Int} (e : l = pre ++ c :: (ds.map (fun d => d + 48) ++ 59 :: r3)) {k : Nat} (hk : k < ds.length) : l.getD (pre.length + 1 + k) 0 = ds.getD k 0 + 48 := by
  rw [e, List.getD_eq_getElem?_getD, List.getElem?_append_right (by omega), show pre.length + 1 + k - pre.length = k + 1 by omega, List.getElem?_cons_succ, List.getElem?_append_left (by rw [List.length_map]; exact hk), List.getElem?_map, List.getD_eq_getElem?_getD, List.getElem?_eq_getElem hk]
  rfl
theorem l_tt3 (K : Lok l) {e : Nat} (he : e ≤ l.length) : ∀ (suf : List Int) (i n : Nat) (a : HS) (h : MH), i + suf.length = e → (∀ k, k < suf.length → l.getD (i + k) 0 = suf.getD k 0 + 48) → dOK suf → suf.length < n → RepH 22 a h.1 → okLie (hLie a) = true → LT l h →
    ∃ h', L_T_tellTurns_3 (I e) n (I i) h = (if all4 suf = true then some (.inr h') else some (.inl (I 0, h'))) ∧ Fr22 h h' ∧ (all4 suf = true → RepH 22 (setL a (tlF suf (hLie a))) h'.1) := by
  have k96 := K.1
  intro suf
  induction suf with
  | nil =>
    intro i n a h ei hd d9 hn R ok T
    obtain ⟨n, rfl⟩ := sfuel hn
    rw [List.length_nil] at ei
    refine ⟨h, ?_, Fr22_rfl h, fun _ => R⟩
    simp (disch := omega) only [L_T_tellTurns_3, I_le]
    rw [if_pos (by omega)]
    exact (if_pos rfl).symm
  | cons d r ih =>
    intro i n a h ei hd d9 hn R ok T
    obtain ⟨n, rfl⟩ := sfuel (show r.length < n by rw [List.length_cons] at hn; omega)
    rw [List.length_cons] at ei hn
    have dd := d9 d (List.mem_cons_self ..)
    have l0 : l.getD i 0 = d + 48 := hd 0 (by rw [List.length_cons]; omega)
    have nm := c_num K T (i := i) (d := 1) (by omega) (by omega)
    have nmv : nmF l 1 i 0 = d := by
      show 10 * 0 + l.getD i 0 - 48 = d
      rw [l0]
      omega
    rw [nmv] at nm
    have i1 : I (i : Int) + I 1 = I ((i + 1 : Nat) : Int) := I_succ i
    have t4 := R.2.2.2.1
    have ol := ok_lt ok
    have ea : all4 (d :: r) = (decide (d < 4) && all4 r) := by unfold all4; rw [List.all_cons]
    by_cases d4 : d < 4
    · obtain ⟨t, ht⟩ : ∃ t : Nat, d = t := ⟨d.toNat, by omega⟩
      subst ht
      have tu := c_turned (h := h) ol (show t < 4 by omega)
      have fr : Fr22 h (mm_hset h.1 22 10 (I ((tl (hLie a) t : Nat) : Int)), h.2) := ⟨rfl, fun k hk => hrow (by omega)⟩
      have R1 : RepH 22 (setL a (tl (hLie a) t)) (mm_hset h.1 22 10 (I ((tl (hLie a) t : Nat) : Int))) := by
        obtain ⟨q1, q2, q3, q4, q5, q6, q7, q8, q9, q10⟩ := R
        exact ⟨by simp (disch := omega) only [hs_ne]; exact q1, by simp (disch := omega) only [hs_ne]; exact q2, by simp (disch := omega) only [hs_ne]; exact q3, by simp (disch := omega) only [hs_eq]; rfl, fun i hi => by simp (disch := omega) only [hs_ne]; exact q5 i hi, fun i hi => by simp (disch := omega) only [hs_ne]; exact q6 i hi, fun i hi => by simp (disch := omega) only [hs_ne]; exact q7 i hi, fun i hi => by simp (disch := omega) only [hs_ne]; exact q8 i hi, fun i hi => by simp (disch := omega) only [hs_ne]; exact q9 i hi, fun i hi => by simp (disch := omega) only [hs_ne]; exact q10 i hi⟩
      obtain ⟨h', p1, p2, p3⟩ := ih (i + 1) n (setL a (tl (hLie a) t)) (mm_hset h.1 22 10 (I ((tl (hLie a) t : Nat) : Int)), h.2) (by omega) (fun k hk => by
        have := hd (k + 1) (by rw [List.length_cons]; omega)
        rw [show i + 1 + k = i + (k + 1) by omega, this]
        rfl) (fun x hx => d9 x (List.mem_cons_of_mem _ hx)) (by omega) R1 (tl_ok ⟨hLie a, ol⟩ ⟨t, by omega⟩ ok) (LT_22 T fr)
      have e4 : all4 ((t : Int) :: r) = all4 r := by rw [ea, decide_eq_true d4, Bool.true_and]
      rw [e4]
      refine ⟨h', ?_, Fr22_tr fr p2, fun q => ?_⟩
      · have t4' : h.1 22 10 = I ((hLie a : Nat) : Int) := t4
        simp (disch := omega) only [L_T_tellTurns_3, I_le, if_neg (show ¬ ((e : Nat) : Int) ≤ (i : Int) by omega), i1, nm, bd_s, c_noTurn_t (show (0 : Int) ≤ (t : Int) by omega) d4, zero_I, if_true, t4', tu, hw_s]
        exact p1
      · have g := p3 q
        exact g
    · have e4 : all4 (d :: r) = false := by rw [ea, decide_eq_false d4, Bool.false_and]
      rw [e4]
      refine ⟨h, ?_, Fr22_rfl h, fun q => absurd q (by decide)⟩
      simp (disch := omega) only [L_T_tellTurns_3, I_le, if_neg (show ¬ ((e : Nat) : Int) ≤ (i : Int) by omega), i1, nm, bd_s, c_noTurn_f (show i32 d from ⟨by omega, by omega⟩) (show ¬ (0 ≤ d ∧ d < 4) by omega), zero_I, one_ne, if_false]
      rw [if_neg (by decide)]
theorem c_tellS (K : Lok l) (T : LT l h) (R : RepH 22 a h.1) (J : InvH a) (ok : okLie (hLie a) = true) {pre ds r3 : List Int} {c : Int} (e : l = pre ++ c :: (ds.map (fun d => d + 48) ++ 59 :: r3)) (hd : dOK ds) (mz : ¬ mostL c = 0) (l1 : leastL c ≤ ds.length) (l2 : ds.length ≤ mostL c) :
    ∃ h', F_T_tellStatement (I pre.length) (I ((pre.length + 1 + ds.length : Nat) : Int)) h = some (I (if (apS a c ds).isSome = true then 1 else 0), h') ∧ Fr22 h h' ∧ ∀ a', apS a c ds = some a' → RepH 22 a' h'.1 := by
  have k96 := K.1
  have ll : l.length = pre.length + 1 + ds.length + 1 + r3.length := by rw [e]; simp; omega
  have hc := LT_at T e
  have D : ∀ k, k < ds.length → l.getD (pre.length + 1 + k) 0 = ds.getD k 0 + 48 := fun k hk => dig_at e hk
  have d0 := dOK_g hd 0
  have d1 := dOK_g hd 1
  have d2 := dOK_g hd 2
  have d3 := dOK_g hd 3
  have d4 := dOK_g hd 4
  have d5 := dOK_g hd 5
  have d6 := dOK_g hd 6
  have d7 := dOK_g hd 7
  have pI : ∀ (n : Nat), I (pre.length : Int) + I ((n : Nat) : Int) = I ((pre.length + n : Nat) : Int) := fun n => by rw [I_add]; rfl
  have p1' : I (pre.length : Int) + I 1 = I ((pre.length + 1 : Nat) : Int) := pI 1
  have p2' : I (pre.length : Int) + I 2 = I ((pre.length + 2 : Nat) : Int) := pI 2
  have p3' : I (pre.length : Int) + I 3 = I ((pre.length + 3 : Nat) : Int) := pI 3
  have p5' : I (pre.length : Int) + I 5 = I ((pre.length + 5 : Nat) : Int) := pI 5
  have vn : ∀ r : Int, -10 ≤ r → r ≤ 10 → (I r < 0) = (r < 0) := fun r a b => by rw [zero_I, I_lt (by omega) (by omega) (by omega) (by omega)]
  have cdv' : ∀ (b : Prop) [Decidable b] (h' : MH), cd (I (if b then 0 else 1) &&& 1 = I (if b then 0 else 1)) (some (I (if b then 0 else 1), h')) = some (I (if b then 0 else 1), h') := fun b _ h' => cd_t (by split <;> decide)
  by_cases c1 : c = 98
  · have m8 : mostL c = 8 := by unfold mostL; rw [if_pos c1]
    have le8 : leastL c = 8 := by unfold leastL; rw [if_neg (by omega), m8]
    have n8 : ds.length = 8 := by omega
    have x1 := c_num K T (i := pre.length + 1) (d := 4) (by omega) (by omega)
    have x2 := c_num K T (i := pre.length + 5) (d := 4) (by omega) (by omega)
    have v1 : nmF l 4 (pre.length + 1) 0 = nb1 ds := by
      have e0 := D 0 (by omega)
      have e1 := D 1 (by omega)
      have e2 := D 2 (by omega)
      have e3 := D 3 (by omega)
      rw [Nat.add_zero] at e0
      show 10 * (10 * (10 * (10 * 0 + l.getD (pre.length + 1) 0 - 48) + l.getD (pre.length + 1 + 1) 0 - 48) + l.getD (pre.length + 1 + 2) 0 - 48) + l.getD (pre.length + 1 + 3) 0 - 48 = nb1 ds
      rw [e0, e1, e2, e3]
      unfold nb1
      omega
    have v2 : nmF l 4 (pre.length + 5) 0 = nb2 ds := by
      have e0 := D 4 (by omega)
      have e1 := D 5 (by omega)
      have e2 := D 6 (by omega)
      have e3 := D 7 (by omega)
      show 10 * (10 * (10 * (10 * 0 + l.getD (pre.length + 1 + 4) 0 - 48) + l.getD (pre.length + 1 + 5) 0 - 48) + l.getD (pre.length + 1 + 6) 0 - 48) + l.getD (pre.length + 1 + 7) 0 - 48 = nb2 ds
      rw [e0, e1, e2, e3]
      unfold nb2
      omega
    rw [v1, show pre.length + 1 + 4 = pre.length + 5 by omega] at x1
    rw [v2, show pre.length + 5 + 4 = pre.length + 1 + ds.length by omega] at x2
    have b1 : 0 ≤ nb1 ds ∧ nb1 ds ≤ 9999 := by unfold nb1; omega
    have b2 : 0 ≤ nb2 ds ∧ nb2 ds ≤ 9999 := by unfold nb2; omega
    obtain ⟨r, h', q1, q2, ⟨q3, q4⟩, q5, q6⟩ := c_addB R J (x := nb1 ds) (y := nb2 ds) ⟨by omega, by omega⟩ ⟨by omega, by omega⟩
    have ea : apS a c ds = if sz (nb1 ds) = true ∧ sz (nb2 ds) = true ∧ nB a < 6 then some (addB a (nb1 ds) (nb2 ds)) else none := by unfold apS; rw [if_pos c1]
    refine ⟨h', ?_, q2, fun a' q => ?_⟩
    · subst c1
      simp (disch := omega) only [F_T_tellStatement, ck_in, I_nat, Int.toNat_natCast, hc, if_true, p1', p5', x1, x2, bd_s, q1, vn r q5 q6, I_ite, iw_s, cdv']
      rw [ea]
      by_cases w : sz (nb1 ds) = true ∧ sz (nb2 ds) = true ∧ nB a < 6
      · rw [if_pos w, if_neg (by have := (q3 w).1; omega)]
        rfl
      · rw [if_neg w, if_pos (q4 w)]
        rfl
    · rw [ea] at q
      by_cases w : sz (nb1 ds) = true ∧ sz (nb2 ds) = true ∧ nB a < 6
      · rw [if_pos w] at q
        rw [← Option.some.inj q]
        exact (q3 w).2
      · rw [if_neg w] at q
        exact absurd q (by simp)
  · have i98 : (I c = I 98) = False := by
      have := Lok_at K e
      rw [I_eq (by omega) (by omega) (by omega) (by omega)]
      exact eq_false c1
    by_cases c2 : c = 112
    · have m8 : mostL c = 3 := by unfold mostL; rw [if_neg c1, if_pos c2]
      have le8 : leastL c = 3 := by unfold leastL; rw [if_neg (by omega), m8]
      have n8 : ds.length = 3 := by omega
      have x1 := c_num K T (i := pre.length + 1) (d := 2) (by omega) (by omega)
      have x2 := c_num K T (i := pre.length + 3) (d := 1) (by omega) (by omega)
      have v1 : nmF l 2 (pre.length + 1) 0 = np1 ds := by
        have e0 := D 0 (by omega)
        have e1 := D 1 (by omega)
        rw [Nat.add_zero] at e0
        show 10 * (10 * 0 + l.getD (pre.length + 1) 0 - 48) + l.getD (pre.length + 1 + 1) 0 - 48 = np1 ds
        rw [e0, e1]
        unfold np1
        omega
      have v2 : nmF l 1 (pre.length + 3) 0 = ds.getD 2 0 := by
        have e0 := D 2 (by omega)
        show 10 * 0 + l.getD (pre.length + 1 + 2) 0 - 48 = ds.getD 2 0
        rw [e0]
        omega
      rw [v1, show pre.length + 1 + 2 = pre.length + 3 by omega] at x1
      rw [v2, show pre.length + 3 + 1 = pre.length + 1 + ds.length by omega] at x2
      have b1 : 0 ≤ np1 ds ∧ np1 ds ≤ 99 := by unfold np1; omega
      obtain ⟨r, h', q1, q2, ⟨q3, q4⟩, q5, q6⟩ := c_addP R J (x := np1 ds) (y := ds.getD 2 0) b1.1 b1.2 d2.1 d2.2
      have ea : apS a c ds = if 1 ≤ np1 ds ∧ np1 ds ≤ 12 ∧ nP a < 4 then some (addP a (np1 ds) (ds.getD 2 0)) else none := by unfold apS; rw [if_neg c1, if_pos c2]
      refine ⟨h', ?_, q2, fun a' q => ?_⟩
      · subst c2
        simp (disch := omega) only [F_T_tellStatement, ck_in, I_nat, Int.toNat_natCast, hc, i98, if_false, if_true, p1', p3', x1, x2, bd_s, q1, vn r q5 q6, I_ite, iw_s, cdv']
        rw [ea]
        by_cases w : 1 ≤ np1 ds ∧ np1 ds ≤ 12 ∧ nP a < 4
        · rw [if_pos w, if_neg (by have := (q3 w).1; omega)]
          rfl
        · rw [if_neg w, if_pos (q4 w)]
          rfl
      · rw [ea] at q
        by_cases w : 1 ≤ np1 ds ∧ np1 ds ≤ 12 ∧ nP a < 4
        · rw [if_pos w] at q
          rw [← Option.some.inj q]
          exact (q3 w).2
        · rw [if_neg w] at q
          exact absurd q (by simp)
    · have i112 : (I c = I 112) = False := by
        have := Lok_at K e
        rw [I_eq (by omega) (by omega) (by omega) (by omega)]
        exact eq_false c2
      by_cases c3 : c = 119
      · have m8 : mostL c = 2 := by unfold mostL; rw [if_neg c1, if_neg c2, if_neg (by omega), if_pos c3]
        have le8 : leastL c = 2 := by unfold leastL; rw [if_neg (by omega), m8]
        have n8 : ds.length = 2 := by omega
        have x1 := c_num K T (i := pre.length + 1) (d := 1) (by omega) (by omega)
        have x2 := c_num K T (i := pre.length + 2) (d := 1) (by omega) (by omega)
        have v1 : nmF l 1 (pre.length + 1) 0 = ds.getD 0 0 := by
          have e0 := D 0 (by omega)
          rw [Nat.add_zero] at e0
          show 10 * 0 + l.getD (pre.length + 1) 0 - 48 = ds.getD 0 0
          rw [e0]
          omega
        have v2 : nmF l 1 (pre.length + 2) 0 = ds.getD 1 0 := by
          have e0 := D 1 (by omega)
          show 10 * 0 + l.getD (pre.length + 1 + 1) 0 - 48 = ds.getD 1 0
          rw [e0]
          omega
        rw [v1, show pre.length + 1 + 1 = pre.length + 2 by omega] at x1
        rw [v2, show pre.length + 2 + 1 = pre.length + 1 + ds.length by omega] at x2
        obtain ⟨r, h', q1, q2, ⟨q3, q4⟩, q5, q6⟩ := c_addW R J (x := ds.getD 0 0) (y := ds.getD 1 0) d0.1 d0.2 d1.1 d1.2
        have ea : apS a c ds = if ds.getD 0 0 ≤ 5 ∧ nW a < 6 then some (addW a (ds.getD 0 0) (ds.getD 1 0)) else none := by unfold apS; rw [if_neg c1, if_neg c2, if_pos c3]
        refine ⟨h', ?_, q2, fun a' q => ?_⟩
        · subst c3
          simp (disch := omega) only [F_T_tellStatement, ck_in, I_nat, Int.toNat_natCast, hc, i98, i112, if_false, if_true, p1', p2', x1, x2, bd_s, q1, vn r q5 q6, I_ite, iw_s, cdv']
          rw [ea]
          by_cases w : ds.getD 0 0 ≤ 5 ∧ nW a < 6
          · rw [if_pos w, if_neg (by have := (q3 w).1; omega)]
            rfl
          · rw [if_neg w, if_pos (q4 w)]
            rfl
        · rw [ea] at q
          by_cases w : ds.getD 0 0 ≤ 5 ∧ nW a < 6
          · rw [if_pos w] at q
            rw [← Option.some.inj q]
            exact (q3 w).2
          · rw [if_neg w] at q
            exact absurd q (by simp)
      · have i119 : (I c = I 119) = False := by
          have := Lok_at K e
          rw [I_eq (by omega) (by omega) (by omega) (by omega)]
          exact eq_false c3
        have m9 := mostL_b c
        obtain ⟨h', q1, q2, q3⟩ := l_tt3 K (e := pre.length + 1 + ds.length) (by omega) ds (pre.length + 1) 5000 a h rfl D hd (by omega) R ok T
        have ea : apS a c ds = if all4 ds = true then some (setL a (tlF ds (hLie a))) else none := by unfold apS; rw [if_neg c1, if_neg c2, if_neg c3]
        refine ⟨h', ?_, q2, fun a' q => ?_⟩
        · simp (disch := omega) only [F_T_tellStatement, ck_in, I_nat, Int.toNat_natCast, hc, i98, i112, i119, if_false, p1', F_T_tellTurns, q1]
          rw [ea]
          by_cases w : all4 ds = true
          · rw [if_pos w, if_pos w, be_inr, bd_s]
            exact cd_t (c := (I 1 &&& 1 = I 1)) (by decide)
          · rw [if_neg w, if_neg w, be_inl, bd_s]
            exact cd_t (c := (I 0 &&& 1 = I 0)) (by decide)
        · rw [ea] at q
          by_cases w : all4 ds = true
          · rw [if_pos w] at q
            rw [← Option.some.inj q]
            exact q3 w
          · rw [if_neg w] at q
            exact absurd q (by simp)
theorem l_skip (K : Lok l) (T : LT l h) {b : Nat} : ∀ (k i n : Nat), i + k ≤ l.length → (∀ j, j < k → ¬ l.getD (i + j) 0 = 59) → (∀ j, j < k → 0 ≤ l.getD (i + j) 0 ∧ l.getD (i + j) 0 ≤ 255) → L_T_tellTo_4 (n + k) (I b) (I i) h = L_T_tellTo_4 n (I b) (I ((i + k : Nat) : Int)) h := by
  have k96 := K.1
  intro k
  induction k with
  | zero => intro i n e h1 h2; rfl
  | succ k ih =>
    intro i n e h1 h2
    have g := ih (i + 1) n (by omega) (fun j hj => by rw [show i + 1 + j = i + (j + 1) by omega]; exact h1 (j + 1) (by omega)) (fun j hj => by rw [show i + 1 + j = i + (j + 1) by omega]; exact h2 (j + 1) (by omega))
    have a1 := h1 0 (by omega)
    have a2 := h2 0 (by omega)
    rw [Nat.add_zero] at a1 a2
    rw [show n + (k + 1) = (n + k) + 1 by omega, show i + (k + 1) = i + 1 + k by omega]
    simp (disch := omega) only [L_T_tellTo_4, T.1, I_le, if_neg (show ¬ (l.length : Int) ≤ (i : Int) by omega), ck_in, I_nat, Int.toNat_natCast, T.2 i (by omega), I_eq, if_pos a1, I_succ]
    exact g
theorem l_tellTo (K : Lok l) : ∀ (f : Nat) (r pre : List Int) (ss : List Stm) (n : Nat) (a : HS) (h : MH), l = pre ++ r → r.length < n → pA f r pre.length = .inr ss → RepH 22 a h.1 → InvH a → okLie (hLie a) = true → LT l h →
    ∃ h', L_T_tellTo_4 n (I pre.length) (I pre.length) h = (match apA a ss with
      | .inl p => some (.inl (I (p : Int), h'))
      | .inr _ => some (.inr h')) ∧ (∀ a', apA a ss = .inr a' → RepH 22 a' h'.1) ∧ Fr22 h h' := by
  have k96 := K.1
  intro f
  induction f with
  | zero => intro r pre ss n a h e hn hp; exact absurd hp (by simp [pA])
  | succ f ih =>
    intro r pre ss n a h e hn hp R J ok T
    rcases hS : pS r pre.length with q | ⟨s, r3, q⟩
    · rw [pA_l hS] at hp
      exact absurd hp (by simp)
    · obtain ⟨c, ds, es, mz, l1, l2, hd, er, eq, -⟩ := pS_ok hS
      have e2 : l = pre ++ c :: (ds.map (fun d => d + 48) ++ 59 :: r3) := by rw [e, er]
      have ll : l.length = pre.length + 1 + ds.length + 1 + r3.length := by rw [e2]; simp; omega
      have rl : r.length = ds.length + 2 + r3.length := by rw [er]; simp; omega
      have D : ∀ k, k < ds.length → l.getD (pre.length + 1 + k) 0 = ds.getD k 0 + 48 := fun k hk => dig_at e2 hk
      have cb := Lok_at K e2
      have c59 : ¬ c = 59 := by
        intro q
        rw [q] at mz
        exact mz (by decide)
      have cat0 : l.getD pre.length 0 = c := by rw [e2, getL_mid]
      have sk := l_skip K T (b := pre.length) (1 + ds.length) pre.length (n - (1 + ds.length)) (by omega) (fun j hj => by
        by_cases j0 : j = 0
        · rw [j0, Nat.add_zero, cat0]
          exact c59
        · have := D (j - 1) (by omega)
          rw [show pre.length + 1 + (j - 1) = pre.length + j by omega] at this
          have dg := dOK_g hd (j - 1)
          omega) (fun j hj => by
        by_cases j0 : j = 0
        · rw [j0, Nat.add_zero, cat0]
          exact ⟨cb.1, cb.2.1⟩
        · have := D (j - 1) (by omega)
          rw [show pre.length + 1 + (j - 1) = pre.length + j by omega] at this
          have dg := dOK_g hd (j - 1)
          omega)
      rw [show n - (1 + ds.length) + (1 + ds.length) = n by omega, show pre.length + (1 + ds.length) = pre.length + 1 + ds.length by omega] at sk
      rw [sk]
      obtain ⟨n', hn'⟩ : ∃ n', n - (1 + ds.length) = n' + 1 := ⟨n - (1 + ds.length) - 1, by omega⟩
      rw [hn']
      obtain ⟨h1, p1, p2, p3⟩ := c_tellS K T R J ok e2 hd mz l1 l2
      have el : l = (pre ++ c :: ds.map (fun d => d + 48)) ++ 59 :: r3 := by rw [e2]; simp
      have pl : (pre ++ c :: ds.map (fun d => d + 48)).length = pre.length + 1 + ds.length := by simp; omega
      have h59 := LT_at T el
      rw [pl] at h59
      have i1 : I ((pre.length + 1 + ds.length : Nat) : Int) + I 1 = I ((pre.length + 1 + ds.length + 1 : Nat) : Int) := I_succ _
      have T1 := LT_22 T p2
      have es1 : s.1 = pre.length := by rw [es]
      have es2 : s.2.1 = c := by rw [es]
      have es3 : s.2.2 = ds := by rw [es]
      have stp : L_T_tellTo_4 (n' + 1) (I pre.length) (I ((pre.length + 1 + ds.length : Nat) : Int)) h = if (apS a c ds).isSome = true then L_T_tellTo_4 n' (I ((pre.length + 1 + ds.length + 1 : Nat) : Int)) (I ((pre.length + 1 + ds.length + 1 : Nat) : Int)) h1 else some (.inl (I pre.length, h1)) := by
        simp (disch := omega) only [L_T_tellTo_4, T.1, I_le, if_neg (show ¬ (l.length : Int) ≤ ((pre.length + 1 + ds.length : Nat) : Int) by omega), ck_in, I_nat, Int.toNat_natCast, h59, not_true, if_false, p1, bd_s, zero_I, i1]
        by_cases w : (apS a c ds).isSome = true
        · rw [if_pos w, if_pos (by decide), if_pos w]
        · rw [if_neg w, if_neg (by decide), if_neg w]
      rw [stp]
      have apc : ∀ ss', apA a (s :: ss') = match apS a c ds with
          | none => .inl pre.length
          | some a' => apA a' ss' := by
        intro ss'
        show (match apS a s.2.1 s.2.2 with
          | none => Sum.inl s.1
          | some a' => apA a' ss') = _
        rw [es1, es2, es3]
      rcases hA : apS a c ds with _ | a1
      · have sse : ∃ ss', ss = s :: ss' := by
          cases r3 with
          | nil =>
            rw [pA_e hS] at hp
            exact ⟨[], (Sum.inr.inj hp).symm⟩
          | cons y r4 =>
            rw [pA_c hS] at hp
            rcases hq : pA f (y :: r4) q with w | w
            · rw [hq] at hp
              exact absurd hp (by simp [pA1])
            · rw [hq] at hp
              exact ⟨w, (Sum.inr.inj hp).symm⟩
        obtain ⟨ss', rfl⟩ := sse
        have ac := apc ss'
        rw [hA] at ac
        have ac' : apA a (s :: ss') = .inl pre.length := ac
        rw [ac']
        refine ⟨h1, ?_, fun a' q => absurd q (by simp), p2⟩
        rfl
      · have R1 := p3 a1 hA
        obtain ⟨J1, ok1⟩ := apS_inv J ok hd hA
        cases r3 with
        | nil =>
          rw [pA_e hS] at hp
          have ess : ss = [s] := (Sum.inr.inj hp).symm
          subst ess
          have ac := apc []
          rw [hA] at ac
          have ac' : apA a [s] = .inr a1 := ac
          rw [ac']
          obtain ⟨n'', rfl⟩ : ∃ n'', n' = n'' + 1 := ⟨n' - 1, by rw [List.length_nil] at rl; omega⟩
          refine ⟨h1, ?_, fun a' q => by rw [← Sum.inr.inj q]; exact R1, p2⟩
          show (if (some a1).isSome = true then _ else _) = _
          rw [if_pos (show (some a1).isSome = true from rfl)]
          rw [List.length_nil] at ll
          simp (disch := omega) only [L_T_tellTo_4, T1.1, I_le]
          rw [if_pos (by omega)]
        | cons y r4 =>
          rw [pA_c hS] at hp
          rcases hq : pA f (y :: r4) q with w | w
          · rw [hq] at hp
            exact absurd hp (by simp [pA1])
          · rw [hq] at hp
            have ess : ss = s :: w := (Sum.inr.inj hp).symm
            subst ess
            have ac := apc w
            rw [hA] at ac
            have ac' : apA a (s :: w) = apA a1 w := ac
            rw [ac']
            have pl3 : (pre ++ c :: (ds.map (fun d => d + 48) ++ [59])).length = pre.length + 1 + ds.length + 1 := by simp; omega
            rw [List.length_cons] at rl
            obtain ⟨h', g1, g2, g3⟩ := ih (y :: r4) (pre ++ c :: (ds.map (fun d => d + 48) ++ [59])) w n' a1 h1 (by rw [e2]; simp) (by rw [List.length_cons]; omega) (by rw [pl3, ← eq]; exact hq) R1 J1 ok1 T1
            rw [pl3] at g1
            refine ⟨h', ?_, g2, Fr22_tr p2 g3⟩
            show (if (some a1).isSome = true then _ else _) = _
            rw [if_pos (show (some a1).isSome = true from rfl)]
            exact g1
def c59 : List Int → Nat
  | [] => 0
  | x :: r => (if x = 59 then 1 else 0) + c59 r
theorem c59_app (x y : List Int) : c59 (x ++ y) = c59 x + c59 y := by
  induction x with
  | nil => rw [List.nil_append]; exact (Nat.zero_add _).symm
  | cons z r ih =>
    show (if z = 59 then 1 else 0) + c59 (r ++ y) = (if z = 59 then 1 else 0) + c59 r + c59 y
    rw [ih]
    omega
theorem c59_d : ∀ ds : List Int, dOK ds → c59 (ds.map (fun d => d + 48)) = 0 := by
  intro ds
  induction ds with
  | nil => intro _; rfl
  | cons d r ih =>
    intro h
    have hd := h d (List.mem_cons_self ..)
    show (if d + 48 = 59 then 1 else 0) + c59 (r.map (fun d => d + 48)) = 0
    rw [if_neg (by omega), ih (fun x hx => h x (List.mem_cons_of_mem _ hx))]
theorem pA_59 : ∀ (f : Nat) (r : List Int) (p : Nat) (ss : List Stm), pA f r p = .inr ss → c59 r = ss.length := by
  intro f
  induction f with
  | zero => intro r p ss h; exact absurd h (by simp [pA])
  | succ f ih =>
    intro r p ss h
    rcases hS : pS r p with q | ⟨s, r3, q⟩
    · rw [pA_l hS] at h
      exact absurd h (by simp)
    · obtain ⟨c, ds, es, mz, l1, l2, hd, er, eq, -⟩ := pS_ok hS
      have c59' : ¬ c = 59 := by
        intro q
        rw [q] at mz
        exact mz (by decide)
      have e1 : c59 r = 1 + c59 r3 := by
        rw [er]
        show (if c = 59 then 1 else 0) + c59 (ds.map (fun d => d + 48) ++ 59 :: r3) = _
        rw [if_neg c59', c59_app, c59_d ds hd]
        show 0 + (0 + ((if (59 : Int) = 59 then 1 else 0) + c59 r3)) = _
        rw [if_pos rfl]
        omega
      cases r3 with
      | nil =>
        rw [pA_e hS] at h
        rw [← Sum.inr.inj h, e1]
        rfl
      | cons y r4 =>
        rw [pA_c hS] at h
        rcases hq : pA f (y :: r4) q with w | w
        · rw [hq] at h
          exact absurd h (by simp [pA1])
        · rw [hq] at h
          have g := ih _ _ _ hq
          rw [← Sum.inr.inj h, e1, g, List.length_cons]
          omega
theorem l_stms (K : Lok l) (T : LT l h) : ∀ (r pre : List Int) (n v : Nat), l = pre ++ r → r.length < n → L_T_statements_4 n (I v) (I pre.length) h = some (I ((v + c59 r : Nat) : Int), h) := by
  have k96 := K.1
  intro r
  induction r with
  | nil =>
    intro pre n v e hn
    obtain ⟨n, rfl⟩ := sfuel hn
    have ll : l.length = pre.length := by rw [e]; simp
    simp (disch := omega) only [L_T_statements_4, T.1, I_le]
    rw [if_pos (by omega)]
    rfl
  | cons x r ih =>
    intro pre n v e hn
    rw [List.length_cons] at hn
    obtain ⟨n, rfl⟩ := sfuel (show r.length < n by omega)
    obtain ⟨x0, x1, pl, ll⟩ := Lok_at K e
    have hx := LT_at T e
    have le2 : l = (pre ++ [x]) ++ r := by rw [e]; simp
    have pe : (pre ++ [x]).length = pre.length + 1 := by simp
    have i1 : I (v : Int) + I 1 = I ((v + 1 : Nat) : Int) := I_succ v
    show _ = some (I ((v + ((if x = 59 then 1 else 0) + c59 r) : Nat) : Int), h)
    simp (disch := omega) only [L_T_statements_4, T.1, I_le, if_neg (show ¬ (l.length : Int) ≤ (pre.length : Int) by omega), ck_in, I_nat, Int.toNat_natCast, hx, I_eq, i1, iw_s, I_succ]
    rw [← pe]
    by_cases q : x = 59
    · rw [if_neg (show ¬ ¬ _ from fun z => z q), if_pos q, ih _ n (v + 1) le2 (by omega), show v + (1 + c59 r) = v + 1 + c59 r by omega]
    · rw [if_pos q, if_neg q, ih _ n v le2 (by omega), Nat.zero_add]
end TEL
