-- the class's spreading from a lie
abbrev QL : Type := List (Nat × Nat × Nat × Nat)
def lieQ (L : QL) (i : Nat) : Nat := (L.getD i (0, 0, 0, 0)).1
def turQ (L : QL) (i : Nat) : Nat := (L.getD i (0, 0, 0, 0)).2.1
def froQ (L : QL) (i : Nat) : Nat := (L.getD i (0, 0, 0, 0)).2.2.1
def byQ (L : QL) (i : Nat) : Nat := (L.getD i (0, 0, 0, 0)).2.2.2
def ixl : QL → Nat → Nat → Option Nat
  | [], _, _ => none
  | e :: r, l, k => if e.1 = l then some k else ixl r l (k + 1)
def st (L : QL) (k t : Nat) : QL := match ixl L (tl (lieQ L k) t) 0 with
  | some _ => L
  | none => if 48 ≤ L.length then L else L ++ [(tl (lieQ L k) t, turQ L k + 1, k, t)]
def spI (k : Nat) : Nat → Nat → QL → QL
  | 0, _, L => L
  | c + 1, t, L => spI k c (t + 1) (st L k t)
def spO : Nat → Nat → QL → QL
  | 0, _, L => L
  | f + 1, k, L => if L.length ≤ k then L else spO f (k + 1) (spI k 4 0 L)
def sprd (l : Nat) : QL := spO 48 0 [(l, 0, 0, 0)]
def LR (L : QL) (h : MH) : Prop := h.1 35 4 = I L.length ∧ ∀ i, i < L.length → h.1 36 i = I ((lieQ L i : Nat) : Int) ∧ h.1 37 i = I ((turQ L i : Nat) : Int) ∧ (0 < i → h.1 38 i = I ((froQ L i : Nat) : Int) ∧ h.1 39 i = I ((byQ L i : Nat) : Int))
def QI (L : QL) : Prop := 1 ≤ L.length ∧ L.length ≤ 48 ∧ ∀ i, i < L.length → lieQ L i < 512 ∧ turQ L i ≤ i
def FrL (h h' : MH) : Prop := h'.2 = h.2 ∧ ∀ k, ¬ (35 ≤ k ∧ k ≤ 39) → h'.1 k = h.1 k
theorem FrL_rfl (h : MH) : FrL h h := ⟨rfl, fun _ _ => rfl⟩
theorem FrL_tr {a b c : MH} (p : FrL a b) (q : FrL b c) : FrL a c := ⟨q.1.trans p.1, fun k e => (q.2 k e).trans (p.2 k e)⟩
theorem getQ_app {L : QL} {x : Nat × Nat × Nat × Nat} {i : Nat} (h : i < L.length + 1) : (L ++ [x]).getD i (0, 0, 0, 0) = if i = L.length then x else L.getD i (0, 0, 0, 0) := by
  by_cases c : i = L.length
  · subst c
    simp
  · rw [if_neg c]
    have : i < L.length := by omega
    simp [List.getD_eq_getElem?_getD, List.getElem?_append_left this]
theorem getQ_mid {pre r : QL} {e : Nat × Nat × Nat × Nat} : (pre ++ e :: r).getD pre.length (0, 0, 0, 0) = e := by simp [List.getD_eq_getElem?_getD]
theorem ixl_p : ∀ (L : QL) (l k j : Nat), ixl L l k = some j → k ≤ j ∧ j < k + L.length ∧ lieQ L (j - k) = l := by
  intro L
  induction L with
  | nil => intro l k j h; exact absurd h (by simp [ixl])
  | cons e r ih =>
    intro l k j h
    unfold ixl at h
    by_cases c : e.1 = l
    · rw [if_pos c] at h
      have ej : k = j := Option.some.inj h
      subst ej
      refine ⟨Nat.le_refl _, by rw [List.length_cons]; omega, ?_⟩
      rw [Nat.sub_self]
      exact c
    · rw [if_neg c] at h
      obtain ⟨a1, a2, a3⟩ := ih l (k + 1) j h
      refine ⟨by omega, by rw [List.length_cons]; omega, ?_⟩
      rw [show j - k = (j - (k + 1)) + 1 by omega]
      exact a3
theorem ixl_0 {L : QL} {l j : Nat} (h : ixl L l 0 = some j) : j < L.length ∧ lieQ L j = l := by
  obtain ⟨a1, a2, a3⟩ := ixl_p L l 0 j h
  rw [Nat.sub_zero] at a3
  exact ⟨by omega, a3⟩
def o1 (o : Option Nat) : Int := match o with | some i => (i : Int) | none => -1
section SPR
variable {h : MH}
theorem l_ix {L : QL} (Q : QI L) (R : LR L h) {l : Nat} (hl : l < 512) : ∀ (suf pre : QL) (n : Nat), L = pre ++ suf → suf.length < n → L_L_indexOf_2 (I l) n (I pre.length) h = resI h (ixl suf l pre.length) := by
  obtain ⟨q1, q2, q3⟩ := Q
  obtain ⟨r0, r1⟩ := R
  intro suf
  induction suf with
  | nil =>
    intro pre n e hn
    obtain ⟨m, rfl⟩ := sfuel hn
    have el : L.length = pre.length := by rw [e]; simp
    simp (disch := omega) only [L_L_indexOf_2, r0, I_le]
    rw [if_pos (by omega)]
    rfl
  | cons x r ih =>
    intro pre n e hn
    obtain ⟨m, rfl⟩ := sfuel hn
    have el : L.length = pre.length + (r.length + 1) := by rw [e]; simp
    have g := ih (pre ++ [x]) m (by rw [e]; simp) (by rw [List.length_cons] at hn; omega)
    rw [show (pre ++ [x]).length = pre.length + 1 by simp] at g
    have ex : lieQ L pre.length = x.1 := by
      unfold lieQ
      rw [e, getQ_mid]
    have h36 := (r1 pre.length (by omega)).1
    have hb := (q3 pre.length (by omega)).1
    rw [ex] at h36 hb
    show _ = resI h (if x.1 = l then some pre.length else ixl r l (pre.length + 1))
    simp (disch := omega) only [L_L_indexOf_2, r0, I_le, if_neg (show ¬ (L.length : Int) ≤ (pre.length : Int) by omega), ck_in, I_nat, Int.toNat_natCast, h36, I_eq, I_succ]
    by_cases c : x.1 = l
    · rw [if_pos c, if_neg (by omega)]
      rfl
    · rw [if_neg c, if_pos (by omega)]
      exact g
theorem c_ix {L : QL} (Q : QI L) (R : LR L h) {l : Nat} (hl : l < 512) : F_L_indexOf (I l) h = some (I (o1 (ixl L l 0)), h) := by
  have g := l_ix Q R hl L [] 5000 rfl (by have := Q.2.1; omega)
  have g' : L_L_indexOf_2 (I l) 5000 (I 0) h = resI h (ixl L l 0) := g
  simp only [F_L_indexOf, g', be_res]
  cases ixl L l 0 <;> rfl
theorem QI_st {L : QL} (Q : QI L) {k t : Nat} (hk : k < L.length) (ht : t < 4) : QI (st L k t) ∧ L.length ≤ (st L k t).length := by
  obtain ⟨q1, q2, q3⟩ := id Q
  unfold st
  rcases ixl L (tl (lieQ L k) t) 0 with _ | j
  · simp only
    by_cases c : 48 ≤ L.length
    · rw [if_pos c]
      exact ⟨Q, Nat.le_refl _⟩
    · rw [if_neg c]
      have len : (L ++ [(tl (lieQ L k) t, turQ L k + 1, k, t)]).length = L.length + 1 := by simp
      refine ⟨⟨by omega, by omega, fun i hi => ?_⟩, by omega⟩
      have qk := q3 k hk
      unfold lieQ turQ
      rw [getQ_app (by omega)]
      by_cases e : i = L.length
      · rw [if_pos e]
        refine ⟨tl_lt ⟨lieQ L k, qk.1⟩ ⟨t, ht⟩, ?_⟩
        show turQ L k + 1 ≤ i
        omega
      · rw [if_neg e]
        exact q3 i (by omega)
  · exact ⟨Q, Nat.le_refl _⟩
theorem l_sp1 {L : QL} (Q : QI L) (R : LR L h) {k t n : Nat} (hk : k < L.length) (ht : t < 4) : ∃ h', L_L_spread_37 (I k) (n + 1) (I t) h = L_L_spread_37 (I k) n (I ((t + 1 : Nat) : Int)) h' ∧ LR (st L k t) h' ∧ FrL h h' := by
  obtain ⟨q1, q2, q3⟩ := id Q
  obtain ⟨r0, r1⟩ := id R
  have qk := q3 k hk
  have rk := r1 k hk
  have tb : tl (lieQ L k) t < 512 := tl_lt ⟨lieQ L k, qk.1⟩ ⟨t, ht⟩
  have tu := c_turned (h := h) qk.1 ht
  have ix := c_ix Q R tb
  unfold st
  rcases hx : ixl L (tl (lieQ L k) t) 0 with _ | j
  · rw [hx] at ix
    have ix' : F_L_indexOf (I ((tl (lieQ L k) t : Nat) : Int)) h = some (I (-1), h) := ix
    simp only
    by_cases c : 48 ≤ L.length
    · rw [if_pos c]
      refine ⟨h, ?_, R, FrL_rfl h⟩
      simp (disch := omega) only [L_L_spread_37, I_le, if_neg (show ¬ (4 : Int) ≤ (t : Int) by omega), ck_in, I_nat, Int.toNat_natCast, rk.1, tu, bd_s, ix', zero_I, if_neg (show ¬ (0 : Int) ≤ -1 by omega), r0, if_pos (show (48 : Int) ≤ (L.length : Int) by omega), I_succ]
    · rw [if_neg c]
      have len : (L ++ [(tl (lieQ L k) t, turQ L k + 1, k, t)]).length = L.length + 1 := by simp
      refine ⟨(mm_hset (mm_hset (mm_hset (mm_hset (mm_hset h.1 36 L.length (I ((tl (lieQ L k) t : Nat) : Int))) 37 L.length (I ((turQ L k + 1 : Nat) : Int))) 38 L.length (I k)) 39 L.length (I t)) 35 4 (I ((L.length + 1 : Nat) : Int)), h.2), ?_, ⟨?_, fun i hi => ?_⟩, ⟨rfl, fun a e => ?_⟩⟩
      · simp (disch := omega) only [L_L_spread_37, I_le, if_neg (show ¬ (4 : Int) ≤ (t : Int) by omega), ck_in, I_nat, Int.toNat_natCast, rk.1, rk.2.1, tu, bd_s, ix', zero_I, if_neg (show ¬ (0 : Int) ≤ -1 by omega), r0, if_neg (show ¬ (48 : Int) ≤ (L.length : Int) by omega), hw_s, hs_ne, I_succ]
      · simp only [hs_eq]
        rw [len]
      · unfold lieQ turQ froQ byQ
        rw [getQ_app (by omega)]
        by_cases e : i = L.length
        · subst e
          simp (disch := omega) only [hs_ne, hs_eq, if_true]
          exact ⟨trivial, trivial, fun _ => ⟨trivial, trivial⟩⟩
        · rw [if_neg e]
          have ri := r1 i (by omega)
          simp (disch := omega) only [hs_ne]
          exact ri
      · show _ = _
        simp (disch := omega) only [hrow]
  · rw [hx] at ix
    have jb := (ixl_0 hx).1
    have ix' : F_L_indexOf (I ((tl (lieQ L k) t : Nat) : Int)) h = some (I (j : Int), h) := ix
    refine ⟨h, ?_, R, FrL_rfl h⟩
    simp (disch := omega) only [L_L_spread_37, I_le, if_neg (show ¬ (4 : Int) ≤ (t : Int) by omega), ck_in, I_nat, Int.toNat_natCast, rk.1, tu, bd_s, ix', zero_I, if_pos (show (0 : Int) ≤ (j : Int) by omega), I_succ]
theorem l_sp37 {k : Nat} : ∀ (c t n : Nat) (L : QL) (h : MH), t + c = 4 → c < n → QI L → LR L h → k < L.length →
    ∃ h', L_L_spread_37 (I k) n (I t) h = some h' ∧ LR (spI k c t L) h' ∧ FrL h h' ∧ QI (spI k c t L) ∧ L.length ≤ (spI k c t L).length := by
  intro c
  induction c with
  | zero =>
    intro t n L h e hn Q R hk
    obtain ⟨m, rfl⟩ := sfuel hn
    refine ⟨h, ?_, R, FrL_rfl h, Q, Nat.le_refl _⟩
    simp (disch := omega) only [L_L_spread_37, I_le]
    rw [if_pos (by omega)]
  | succ c ih =>
    intro t n L h e hn Q R hk
    obtain ⟨m, rfl⟩ := sfuel hn
    obtain ⟨h1, p1, p2, p3⟩ := l_sp1 (n := m) Q R hk (show t < 4 by omega)
    obtain ⟨q1, q2⟩ := QI_st Q hk (show t < 4 by omega)
    obtain ⟨h', r1, r2, r3, r4, r5⟩ := ih (t + 1) m (st L k t) h1 (by omega) (by omega) q1 p2 (by omega)
    exact ⟨h', p1.trans r1, r2, FrL_tr p3 r3, r4, Nat.le_trans q2 r5⟩
theorem l_sp21 : ∀ (f k n : Nat) (L : QL) (h : MH), k + f = 48 → f < n → QI L → LR L h → ∃ h', L_L_spread_21 n (I k) h = some h' ∧ LR (spO f k L) h' ∧ FrL h h' ∧ QI (spO f k L) := by
  intro f
  induction f with
  | zero =>
    intro k n L h e hn Q R
    obtain ⟨m, rfl⟩ := sfuel hn
    have q2 := Q.2.1
    refine ⟨h, ?_, R, FrL_rfl h, Q⟩
    simp (disch := omega) only [L_L_spread_21, R.1, I_le]
    rw [if_pos (by omega)]
  | succ f ih =>
    intro k n L h e hn Q R
    obtain ⟨m, rfl⟩ := sfuel hn
    have q2 := Q.2.1
    have es : spO (f + 1) k L = if L.length ≤ k then L else spO f (k + 1) (spI k 4 0 L) := rfl
    by_cases c : L.length ≤ k
    · rw [es, if_pos c]
      refine ⟨h, ?_, R, FrL_rfl h, Q⟩
      simp (disch := omega) only [L_L_spread_21, R.1, I_le]
      rw [if_pos (by omega)]
    · rw [es, if_neg c]
      obtain ⟨h1, p1, p2, p3, p4, p5⟩ := l_sp37 (k := k) 4 0 5000 L h (by omega) (by omega) Q R (by omega)
      have p1' : L_L_spread_37 (I k) 5000 (I 0) h = some h1 := p1
      obtain ⟨h', r1, r2, r3, r4⟩ := ih (k + 1) m _ h1 (by omega) (by omega) p4 p2
      refine ⟨h', ?_, r2, FrL_tr p3 r3, r4⟩
      simp (disch := omega) only [L_L_spread_21, R.1, I_le, if_neg (show ¬ (L.length : Int) ≤ (k : Int) by omega), if_neg (show ¬ (48 : Int) ≤ (k : Int) by omega), p1', bd_s, I_succ]
      exact r1
theorem c_spread {l : Nat} (hl : l < 512) (h : MH) : ∃ h', F_L_spread (I l) h = some h' ∧ LR (sprd l) h' ∧ FrL h h' ∧ QI (sprd l) := by
  have Q0 : QI [(l, 0, 0, 0)] := ⟨by show 1 ≤ 1; omega, by show 1 ≤ 48; omega, fun i hi => by
    obtain rfl : i = 0 := by have : i < 1 := hi; omega
    exact ⟨hl, Nat.le_refl _⟩⟩
  have R0 : LR [(l, 0, 0, 0)] (mm_hset (mm_hset (mm_hset h.1 36 0 (I l)) 37 0 (I 0)) 35 4 (I 1), h.2) := ⟨by simp only [hs_eq]; rfl, fun i hi => by
    obtain rfl : i = 0 := by have : i < 1 := hi; omega
    simp (disch := omega) only [hs_ne, hs_eq]
    exact ⟨rfl, rfl, fun q => absurd q (Nat.lt_irrefl 0)⟩⟩
  obtain ⟨h', p1, p2, p3, p4⟩ := l_sp21 48 0 5000 _ _ (by omega) (by omega) Q0 R0
  have p1' : L_L_spread_21 5000 (I 0) (mm_hset (mm_hset (mm_hset h.1 36 0 (I l)) 37 0 (I 0)) 35 4 (I 1), h.2) = some h' := p1
  refine ⟨h', ?_, p2, FrL_tr (b := (mm_hset (mm_hset (mm_hset h.1 36 0 (I l)) 37 0 (I 0)) 35 4 (I 1), h.2)) ⟨rfl, fun a e => ?_⟩ p3, p4⟩
  · have z0 : (0 : Int).toNat = 0 := rfl
    simp (disch := omega) only [F_L_spread, ck_in, I_nat, z0, hw_s, p1', bd_s]
  · show mm_hset (mm_hset (mm_hset h.1 36 0 (I l)) 37 0 (I 0)) 35 4 (I 1) a = h.1 a
    simp (disch := omega) only [hrow]
/-- the turns to a lie -/
def tuT (L : QL) (g : Nat) : Int := match ixl L g 0 with
  | some j => ((turQ L j : Nat) : Int)
  | none => -9
theorem c_turnsTo {L : QL} (Q : QI L) (R : LR L h) {g : Nat} (hg : g < 512) : F_L_turnsTo (I g) h = some (I (tuT L g), h) := by
  have ix := c_ix Q R hg
  have q2 := Q.2.1
  unfold tuT
  rcases hx : ixl L g 0 with _ | j
  · rw [hx] at ix
    have ix' : F_L_indexOf (I g) h = some (I (-1), h) := ix
    simp (disch := omega) only [F_L_turnsTo, ix', bd_s, zero_I, I_le, if_neg (show ¬ (0 : Int) ≤ -1 by omega)]
  · rw [hx] at ix
    have jb := (ixl_0 hx).1
    have ix' : F_L_indexOf (I g) h = some (I (j : Int), h) := ix
    simp (disch := omega) only [F_L_turnsTo, ix', bd_s, zero_I, I_le, if_pos (show (0 : Int) ≤ (j : Int) by omega), ck_in, I_nat, Int.toNat_natCast, (R.2 j jb).2.1]
def wkO (L : QL) : Nat → Nat → Option Nat
  | 0, j => if j = 0 ∨ L.length ≤ j then none else some j
  | d + 1, j => if j = 0 ∨ L.length ≤ j then none else wkO L d (froQ L j)
theorem wkO_p {L : QL} : ∀ d j e, wkO L d j = some e → 0 < j ∧ j < L.length ∧ 0 < e ∧ e < L.length := by
  intro d
  induction d with
  | zero =>
    intro j e h
    unfold wkO at h
    by_cases c : j = 0 ∨ L.length ≤ j
    · rw [if_pos c] at h
      exact absurd h (by simp)
    · rw [if_neg c] at h
      have q : j = e := Option.some.inj h
      omega
  | succ d ih =>
    intro j e h
    unfold wkO at h
    by_cases c : j = 0 ∨ L.length ≤ j
    · rw [if_pos c] at h
      exact absurd h (by simp)
    · rw [if_neg c] at h
      have q := ih _ _ h
      omega
theorem l_wk {L : QL} (Q : QI L) (R : LR L h) {i : Nat} (hi : i < 48) : ∀ d j n e, wkO L d j = some e → d < n → d ≤ 48 → L_L_turnTo_35 (I i) n (I j) (I ((i + 1 + d : Nat) : Int)) h = some (I e, h) := by
  have q2 := Q.2.1
  intro d
  induction d with
  | zero =>
    intro j n e w hn hd
    obtain ⟨m, rfl⟩ := sfuel hn
    have wp := wkO_p 0 j e w
    unfold wkO at w
    rw [if_neg (by omega)] at w
    have q : j = e := Option.some.inj w
    simp (disch := omega) only [L_L_turnTo_35, I_add, I_le]
    rw [if_pos (by omega), q]
  | succ d ih =>
    intro j n e w hn hd
    obtain ⟨m, rfl⟩ := sfuel hn
    have wp := wkO_p (d + 1) j e w
    unfold wkO at w
    rw [if_neg (by omega)] at w
    have g := ih (froQ L j) m e w (by omega) (by omega)
    have ep : I ((i + 1 + (d + 1) : Nat) : Int) + I (-1) = I ((i + 1 + d : Nat) : Int) := by
      rw [I_add]
      congr 1
      omega
    have f := ((R.2 j (by omega)).2.2 (by omega)).1
    have i1 : I (i : Int) + I 1 = I ((i + 1 : Nat) : Int) := I_succ i
    simp (disch := omega) only [L_L_turnTo_35, i1, I_le, if_neg (show ¬ ((i + 1 + (d + 1) : Nat) : Int) ≤ ((i + 1 : Nat) : Int) by omega), ck_in, I_nat, Int.toNat_natCast, f, ep]
    exact g
theorem c_turnTo {L : QL} (Q : QI L) (R : LR L h) {g j e i : Nat} (hg : g < 512) (hx : ixl L g 0 = some j) (hi : i < turQ L j) (w : wkO L (turQ L j - (i + 1)) j = some e) : F_L_turnTo (I g) (I i) h = some (I ((byQ L e : Nat) : Int), h) := by
  have ix := c_ix Q R hg
  rw [hx] at ix
  have q2 := Q.2.1
  have jb := (ixl_0 hx).1
  have ix' : F_L_indexOf (I g) h = some (I (j : Int), h) := ix
  have tq := (Q.2.2 j jb).2
  have wp := wkO_p _ j e w
  have g := l_wk Q R (i := i) (by omega) _ j 5000 e w (by omega) (by omega)
  rw [show i + 1 + (turQ L j - (i + 1)) = turQ L j by omega] at g
  have rj := (R.2 j jb).2.1
  have re := ((R.2 e (by omega)).2.2 (by omega)).2
  simp (disch := omega) only [F_L_turnTo, ix', bd_s, zero_I, I_lt, if_neg (show ¬ (j : Int) < 0 by omega), if_neg (show ¬ (i : Int) < 0 by omega), ck_in, I_nat, Int.toNat_natCast, rj, if_pos (show (i : Int) < ((turQ L j : Nat) : Int) by omega), g, re]
theorem c_turnTo_n {L : QL} (Q : QI L) (R : LR L h) {g j : Nat} {x : Int} (hg : g < 512) (e : i32 x) (h0 : 0 ≤ x) (hx : ixl L g 0 = some j) (hi : (turQ L j : Int) ≤ x) : F_L_turnTo (I g) (I x) h = some (I (-9), h) := by
  obtain ⟨l1, g1⟩ := e
  have ix := c_ix Q R hg
  rw [hx] at ix
  have q2 := Q.2.1
  have jb := (ixl_0 hx).1
  have ix' : F_L_indexOf (I g) h = some (I (j : Int), h) := ix
  have tq := (Q.2.2 j jb).2
  have rj := (R.2 j jb).2.1
  simp (disch := omega) only [F_L_turnTo, ix', bd_s, zero_I, I_lt, if_neg (show ¬ (j : Int) < 0 by omega), if_neg (show ¬ x < 0 by omega), ck_in, I_nat, Int.toNat_natCast, rj, if_neg (show ¬ x < ((turQ L j : Nat) : Int) by omega)]
def ctQ (n : Nat) : QL → Nat
  | [] => 0
  | e :: r => (if n < e.2.1 then 0 else 1) + ctQ n r
theorem ctQ_le (n : Nat) : ∀ L : QL, ctQ n L ≤ L.length := by
  intro L
  induction L with
  | nil => exact Nat.le_refl 0
  | cons e r ih => unfold ctQ; rw [List.length_cons]; split <;> omega
theorem l_wi {L : QL} (Q : QI L) (R : LR L h) {x : Nat} (hx : x ≤ 8) : ∀ (suf pre : QL) (n c : Nat), L = pre ++ suf → suf.length < n → c ≤ pre.length → L_L_within_4 (I x) n (I c) (I pre.length) h = some (I ((c + ctQ x suf : Nat) : Int), h) := by
  obtain ⟨q1, q2, q3⟩ := Q
  obtain ⟨r0, r1⟩ := R
  intro suf
  induction suf with
  | nil =>
    intro pre n c e hn hc
    obtain ⟨m, rfl⟩ := sfuel hn
    have el : L.length = pre.length := by rw [e]; simp
    simp (disch := omega) only [L_L_within_4, r0, I_le]
    rw [if_pos (by omega)]
    rfl
  | cons y r ih =>
    intro pre n c e hn hc
    obtain ⟨m, rfl⟩ := sfuel hn
    have el : L.length = pre.length + (r.length + 1) := by rw [e]; simp
    have ex : turQ L pre.length = y.2.1 := by
      unfold turQ
      rw [e, getQ_mid]
    have h37 := (r1 pre.length (by omega)).2.1
    have hb := (q3 pre.length (by omega)).2
    rw [ex] at h37 hb
    have lr : r.length < m := by rw [List.length_cons] at hn; omega
    have i1 : I (c : Int) + I 1 = I ((c + 1 : Nat) : Int) := I_succ c
    simp (disch := omega) only [L_L_within_4, r0, I_le, if_neg (show ¬ (L.length : Int) ≤ (pre.length : Int) by omega), ck_in, I_nat, Int.toNat_natCast, h37, I_lt, i1, iw_s, I_succ]
    have pe : pre.length + 1 = (pre ++ [y]).length := by simp
    have le2 : L = (pre ++ [y]) ++ r := by rw [e]; simp
    show _ = some (I ((c + ((if x < y.2.1 then 0 else 1) + ctQ x r) : Nat) : Int), h)
    by_cases d : x < y.2.1
    · have g := ih (pre ++ [y]) m c le2 lr (by omega)
      rw [if_pos (by omega), if_pos d, Nat.zero_add, pe]
      exact g
    · have g := ih (pre ++ [y]) m (c + 1) le2 lr (by omega)
      rw [if_neg (by omega), if_neg d, pe, show c + (1 + ctQ x r) = c + 1 + ctQ x r by omega]
      exact g
theorem c_wi {L : QL} (Q : QI L) (R : LR L h) {x : Nat} (hx : x ≤ 8) : F_L_within (I x) h = some (I ((ctQ x L : Nat) : Int), h) := by
  have g := l_wi Q R hx L [] 5000 0 rfl (by have := Q.2.1; omega) (by omega)
  rw [Nat.zero_add] at g
  have g' : L_L_within_4 (I x) 5000 (I 0) (I 0) h = _ := g
  simp only [F_L_within, g', bd_s]
end SPR
