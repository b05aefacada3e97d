-- the model's spreading; 33 waysToLie, 45 reach
def chk (L : QL) (l : Nat) : Bool :=
  decide (0 < L.length) && (lieQ L 0 == l) && (turQ L 0 == 0) &&
  (List.range L.length).all (fun i =>
    decide (turQ L i ≤ 8) && decide (ixl L (lieQ L i) 0 = some i) &&
    (decide (i = 0) || (decide (froQ L i < i) && (turQ L i == turQ L (froQ L i) + 1) && decide (byQ L i < 4) && (tl (lieQ L (froQ L i)) (byQ L i) == lieQ L i))) &&
    (List.range 4).all (fun t => match ixl L (tl (lieQ L i) t) 0 with
      | some j => decide (turQ L j ≤ turQ L i + 1)
      | none => false))
theorem chk_dec : oks.all (fun l => chk (sprd l) l) = true := by decide +kernel
theorem chk_p {L : QL} {l : Nat} (h : chk L l = true) : 0 < L.length ∧ lieQ L 0 = l ∧ turQ L 0 = 0 ∧ ∀ i, i < L.length → turQ L i ≤ 8 ∧ ixl L (lieQ L i) 0 = some i ∧
    (i = 0 ∨ (froQ L i < i ∧ turQ L i = turQ L (froQ L i) + 1 ∧ byQ L i < 4 ∧ tl (lieQ L (froQ L i)) (byQ L i) = lieQ L i)) ∧ ∀ t, t < 4 → ∃ j, ixl L (tl (lieQ L i) t) 0 = some j ∧ turQ L j ≤ turQ L i + 1 := by
  unfold chk at h
  simp only [Bool.and_eq_true, Bool.or_eq_true, decide_eq_true_eq, beq_iff_eq, List.all_eq_true, List.mem_range] at h
  obtain ⟨⟨⟨a1, a2⟩, a3⟩, a4⟩ := h
  refine ⟨a1, a2, a3, fun i hi => ?_⟩
  obtain ⟨⟨⟨b1, b2⟩, b3⟩, b4⟩ := a4 i hi
  refine ⟨b1, b2, ?_, fun t ht => ?_⟩
  · rcases b3 with q | q
    · exact Or.inl q
    · exact Or.inr ⟨q.1.1.1, q.1.1.2, q.1.2, q.2⟩
  · have c := b4 t ht
    rcases hx : ixl L (tl (lieQ L i) t) 0 with _ | j
    · rw [hx] at c
      exact absurd c (by simp)
    · rw [hx] at c
      exact ⟨j, rfl, of_decide_eq_true c⟩
/-- how many turns lead from a lie to a code; 99 none -/
def dQ (l k : Nat) : Nat := match ixl (sprd l) (tcl k) 0 with
  | some j => turQ (sprd l) j
  | none => 99
section DQ
variable {l : Nat}
theorem sprd_p (ok : okLie l = true) : chk (sprd l) l = true := List.all_eq_true.mp chk_dec l (mem_oks ok)
theorem tcl_cod {x : Nat} (h : x < 512) : tcl (cod x) = x := (tcl_dec ⟨x, h⟩).2.2.2.2.2.2.2
theorem cod_tcl {x : Nat} (h : x < 512) : cod (tcl x) = x := (tcl_dec ⟨x, h⟩).2.2.2.2.2.2.1
theorem tcl_lt {x : Nat} (h : x < 512) : tcl x < 512 := (tcl_dec ⟨x, h⟩).1
theorem dQ_i {k : Nat} (h : dQ l k < 99) : ∃ j, ixl (sprd l) (tcl k) 0 = some j ∧ j < (sprd l).length ∧ lieQ (sprd l) j = tcl k ∧ dQ l k = turQ (sprd l) j := by
  rcases hx : ixl (sprd l) (tcl k) 0 with _ | j
  · have e : dQ l k = 99 := by unfold dQ; rw [hx]
    omega
  · have e : dQ l k = turQ (sprd l) j := by unfold dQ; rw [hx]
    have q := ixl_0 hx
    exact ⟨j, rfl, q.1, q.2, e⟩
theorem dQ_le (ok : okLie l = true) (k : Nat) : dQ l k ≤ 8 ∨ dQ l k = 99 := by
  obtain ⟨-, -, -, c⟩ := chk_p (sprd_p ok)
  rcases hx : ixl (sprd l) (tcl k) 0 with _ | j
  · exact Or.inr (by unfold dQ; rw [hx])
  · have e : dQ l k = turQ (sprd l) j := by unfold dQ; rw [hx]
    have q := (c j (ixl_0 hx).1).1
    exact Or.inl (by omega)
theorem dQ_0 (ok : okLie l = true) {k : Nat} (hk : k < 512) : dQ l k = 0 ↔ k = cod l := by
  obtain ⟨c0, c1, c2, c⟩ := chk_p (sprd_p ok)
  constructor
  · intro h
    obtain ⟨j, -, j1, j2, j3⟩ := dQ_i (l := l) (k := k) (by omega)
    rcases (c j j1).2.2.1 with q | q
    · rw [q, c1] at j2
      rw [j2, cod_tcl hk]
    · omega
  · intro h
    have e := (c 0 c0).2.1
    rw [c1] at e
    unfold dQ
    rw [h, tcl_cod (ok_lt ok), e]
    exact c2
theorem dQ_2 (ok : okLie l = true) {k t : Nat} (hk : k < 512) (ht : t < 4) (h : dQ l k < 99) : dQ l (tr k t) ≤ dQ l k + 1 := by
  obtain ⟨c0, c1, c2, c⟩ := chk_p (sprd_p ok)
  obtain ⟨j, -, j1, j2, j3⟩ := dQ_i h
  obtain ⟨j', e1, e2⟩ := (c j j1).2.2.2 t ht
  rw [j2] at e1
  have e : dQ l (tr k t) = turQ (sprd l) j' := by
    unfold dQ tr
    rw [tcl_cod (tl_lt ⟨tcl k, tcl_lt hk⟩ ⟨t, ht⟩), e1]
  omega
theorem dQ_3 (ok : okLie l = true) {k n : Nat} (hk : k < 512) (h : dQ l k = n + 1) (h9 : n + 1 < 99) : ∃ j t, j < 512 ∧ t < 4 ∧ dQ l j = n ∧ tr j t = k := by
  obtain ⟨c0, c1, c2, c⟩ := chk_p (sprd_p ok)
  obtain ⟨j, -, j1, j2, j3⟩ := dQ_i (l := l) (k := k) (by omega)
  rcases (c j j1).2.2.1 with q | q
  · rw [q] at j3
    omega
  · obtain ⟨q1, q2, q3, q4⟩ := q
    have f := (c (froQ (sprd l) j) (by omega)).2.1
    obtain ⟨h', -, -, -, Q⟩ := c_spread (ok_lt ok) (((fun _ _ => 0), none) : MH)
    have fl := (Q.2.2 (froQ (sprd l) j) (by omega)).1
    refine ⟨cod (lieQ (sprd l) (froQ (sprd l) j)), byQ (sprd l) j, cod_lt fl, q3, ?_, ?_⟩
    · unfold dQ
      rw [tcl_cod fl, f]
      show turQ (sprd l) (froQ (sprd l) j) = n
      omega
    · unfold tr
      rw [tcl_cod fl, q4, j2, cod_tcl hk]
end DQ
def Rw (r : Nat) (P : Nat → Nat) (h : MH) : Prop := ∀ j, j < 512 → h.1 r j = I ((P j : Nat) : Int)
/-- only row r and the thought change -/
def FrP (r : Nat) (h h' : MH) : Prop := h'.2 = h.2 ∧ ∀ k i, ¬ k = r → ¬ k = 63 → ¬ (k = 55 ∧ i = 13) → h'.1 k i = h.1 k i
theorem FrP_rfl (r : Nat) (h : MH) : FrP r h h := ⟨rfl, fun _ _ _ _ _ => rfl⟩
theorem FrP_tr {r : Nat} {a b c : MH} (p : FrP r a b) (q : FrP r b c) : FrP r a c := ⟨q.1.trans p.1, fun k i x y z => (q.2 k i x y z).trans (p.2 k i x y z)⟩
theorem FrP_set {r i : Nat} {x : Int32} {h : MH} : FrP r h (mm_hset h.1 r i x, h.2) := ⟨rfl, fun a b x y z => hs_ne (fun w => x w.1)⟩
theorem FrP_W {r : Nat} {a b : MH} (p : FrW a b) : FrP r a b := ⟨p.1, fun k i _ y z => p.2 k i y z⟩
theorem Rw_W {r : Nat} {P : Nat → Nat} {a b : MH} (hr : ¬ r = 63) (h5 : ¬ r = 55) (p : FrW a b) (q : Rw r P a) : Rw r P b := fun j hj => (p.2 r j hr (by omega)).trans (q j hj)
theorem ScM_P {h h' : MH} (q : FrP 75 h h') : ScM h h' := fun k i e => q.2 k i (by rintro rfl; exact absurd e (by unfold scM; simp)) (scM_k63 e) (scM_k13 e)
theorem ScM_P6 {h h' : MH} (q : FrP 76 h h') : ScM h h' := fun k i e => q.2 k i (by rintro rfl; exact absurd e (by unfold scM; simp)) (scM_k63 e) (scM_k13 e)
def SD (D P : Nat → Nat) (n m k t : Nat) : Prop :=
  (∀ j, j < 512 → (D j ≤ n → P j = D j) ∧ (D j = n + 1 → P j = n + 1 ∨ P j = 99) ∧ (n + 1 < D j → P j = 99)) ∧
  (∀ j u, j < 512 → u < 4 → (j < k ∨ (j = k ∧ u < t)) → D j = n → ¬ P (tr j u) = 99) ∧
  (m = 0 → ∀ j, j < 512 → D j = n + 1 → P j = 99) ∧ (¬ m = 0 → ∃ j, j < 512 ∧ D j = n + 1) ∧ m ≤ 1
theorem SD_b {D P : Nat → Nat} {n m k t : Nat} (hn : n ≤ 8) (s : SD D P n m k t) {j : Nat} (hj : j < 512) : P j ≤ 99 := by
  obtain ⟨a, b, c⟩ := s.1 j hj
  by_cases q : D j ≤ n
  · have := a q; omega
  · by_cases q2 : D j = n + 1
    · have := b q2; omega
    · have := c (by omega); omega
section MSP
variable {l : Nat}
theorem l_sp56 (ok : okLie l = true) {n k : Nat} (hn : n ≤ 8) (hk : k < 512) : ∀ (c t f m : Nat) (P : Nat → Nat) (h : MH), t + c = 4 → c < f → SD (dQ l) P n m k t → Rw 75 P h →
    ∃ h' P' m', L_M_spread_56 (I n) (I k) f (I m) (I t) h = some (I ((m' : Nat) : Int), h') ∧ SD (dQ l) P' n m' (k + 1) 0 ∧ Rw 75 P' h' ∧ FrP 75 h h' := by
  intro c
  induction c with
  | zero =>
    intro t f m P h e hf s R
    obtain ⟨f, rfl⟩ := sfuel hf
    refine ⟨h, P, m, ?_, ⟨s.1, fun j u hj hu hp d => s.2.1 j u hj hu (by omega) d, s.2.2⟩, R, FrP_rfl 75 h⟩
    simp (disch := omega) only [L_M_spread_56, I_le]
    rw [if_pos (by omega)]
  | succ c ih =>
    intro t f m P h e hf s R
    obtain ⟨f, rfl⟩ := sfuel hf
    have ht : t < 4 := by omega
    obtain ⟨s1, s2, s3, s4, s5⟩ := id s
    have pb := SD_b hn s hk
    by_cases d : P k = n
    · have dk : dQ l k = n := by
        obtain ⟨a, b, c⟩ := s1 k hk
        by_cases q : dQ l k ≤ n
        · have := a q; omega
        · by_cases q2 : dQ l k = n + 1
          · have := b q2; omega
          · have := c (by omega); omega
      obtain ⟨h7, h8, p1, p2, p3, p4⟩ := m_trans (h := h) hk ht
      have tb := tr_lt hk ht
      have R8 : Rw 75 P h8 := Rw_W (by omega) (by omega) p4 R
      have pn := SD_b hn s tb
      have le := dQ_2 ok hk ht (show dQ l k < 99 by omega)
      by_cases q : P (tr k t) = 99
      · have dn : dQ l (tr k t) = n + 1 := by
          by_cases q2 : dQ l (tr k t) ≤ n
          · have := (s1 (tr k t) tb).1 q2
            omega
          · omega
        have R9 : Rw 75 (fun j => if j = tr k t then n + 1 else P j) (mm_hset h8.1 75 (tr k t) (I ((n + 1 : Nat) : Int)), h8.2) := by
          intro j hj
          show mm_hset h8.1 75 (tr k t) (I ((n + 1 : Nat) : Int)) 75 j = _
          by_cases qj : j = tr k t
          · simp only [qj, hs_eq, if_true]
          · rw [hs_ne (by omega)]
            simp only [qj, if_false]
            exact R8 j hj
        have sn : SD (dQ l) (fun j => if j = tr k t then n + 1 else P j) n 1 k (t + 1) := by
          refine ⟨fun j hj => ?_, fun j u hj hu hp dj => ?_, fun x => by omega, fun _ => ⟨tr k t, tb, dn⟩, by omega⟩
          · by_cases qj : j = tr k t
            · simp only [qj, if_true]
              exact ⟨fun x => by omega, fun _ => Or.inl trivial, fun x => by omega⟩
            · simp only [qj, if_false]
              exact s1 j hj
          · by_cases qj : tr j u = tr k t
            · simp only [qj, if_true]
              omega
            · simp only [qj, if_false]
              refine s2 j u hj hu ?_ dj
              rcases hp with x | x
              · exact Or.inl x
              · by_cases ut : u = t
                · exact absurd (by rw [x.1, ut]) qj
                · exact Or.inr ⟨x.1, by omega⟩
        obtain ⟨h', P', m', r1, r2, r3, r4⟩ := ih (t + 1) f 1 _ _ (by omega) (by omega) sn R9
        refine ⟨h', P', m', ?_, r2, r3, FrP_tr (FrP_tr (FrP_W p4) FrP_set) r4⟩
        simp (disch := omega) only [L_M_spread_56, I_le, if_neg (show ¬ (4 : Int) ≤ (t : Int) by omega), ck_in, I_nat, Int.toNat_natCast, R k hk, d, not_true, if_false, p1, p2, p3, bd_s, R8 (tr k t) tb, I_eq, if_neg (show ¬ ¬ ((P (tr k t) : Nat) : Int) = 99 by omega), hw_s, I_succ]
        exact r1
      · have sn : SD (dQ l) P n m k (t + 1) := by
          refine ⟨s1, fun j u hj hu hp dj => ?_, s3, s4, s5⟩
          rcases hp with x | x
          · exact s2 j u hj hu (Or.inl x) dj
          · by_cases ut : u = t
            · rw [x.1, ut]
              exact q
            · exact s2 j u hj hu (Or.inr ⟨x.1, by omega⟩) dj
        obtain ⟨h', P', m', r1, r2, r3, r4⟩ := ih (t + 1) f m P h8 (by omega) (by omega) sn R8
        refine ⟨h', P', m', ?_, r2, r3, FrP_tr (FrP_W p4) r4⟩
        simp (disch := omega) only [L_M_spread_56, I_le, if_neg (show ¬ (4 : Int) ≤ (t : Int) by omega), ck_in, I_nat, Int.toNat_natCast, R k hk, d, not_true, if_false, p1, p2, p3, bd_s, R8 (tr k t) tb, I_eq, if_pos (show ¬ ((P (tr k t) : Nat) : Int) = 99 by omega), hw_s, I_succ]
        exact r1
    · refine ⟨h, P, m, ?_, ⟨s1, fun j u hj hu hp dj => ?_, s3, s4, s5⟩, R, FrP_rfl 75 h⟩
      · simp (disch := omega) only [L_M_spread_56, I_le, if_neg (show ¬ (4 : Int) ≤ (t : Int) by omega), ck_in, I_nat, Int.toNat_natCast, R k hk, I_eq, if_pos (show ¬ ((P k : Nat) : Int) = (n : Int) by omega)]
      · rcases (show j < k ∨ j = k by omega) with x | x
        · exact s2 j u hj hu (Or.inl x) dj
        · rw [x] at dj
          have := (s1 k hk).1 (by omega)
          omega
theorem l_sp45 (ok : okLie l = true) {n : Nat} (hn : n ≤ 8) : ∀ (d k f m : Nat) (P : Nat → Nat) (h : MH), k + d = 512 → d < f → SD (dQ l) P n m k 0 → Rw 75 P h →
    ∃ h' P' m', L_M_spread_45 (I n) f (I m) (I k) h = some (I ((m' : Nat) : Int), h') ∧ SD (dQ l) P' n m' 512 0 ∧ Rw 75 P' h' ∧ FrP 75 h h' := by
  intro d
  induction d with
  | zero =>
    intro k f m P h e hf s R
    obtain ⟨f, rfl⟩ := sfuel hf
    obtain rfl : k = 512 := by omega
    refine ⟨h, P, m, ?_, s, R, FrP_rfl 75 h⟩
    simp (disch := omega) only [L_M_spread_45, I_le]
    rw [if_pos (by omega)]
  | succ d ih =>
    intro k f m P h e hf s R
    obtain ⟨f, rfl⟩ := sfuel hf
    obtain ⟨h1, P1, m1, p1, p2, p3, p4⟩ := l_sp56 ok hn (k := k) (by omega) 4 0 5000 m P h (by omega) (by omega) s R
    have p1' : L_M_spread_56 (I n) (I k) 5000 (I m) (I 0) h = some (I ((m1 : Nat) : Int), h1) := p1
    obtain ⟨h', P', m', r1, r2, r3, r4⟩ := ih (k + 1) f m1 P1 h1 (by omega) (by omega) p2 p3
    refine ⟨h', P', m', ?_, r2, r3, FrP_tr p4 r4⟩
    simp (disch := omega) only [L_M_spread_45, I_le, if_neg (show ¬ (512 : Int) ≤ (k : Int) by omega), p1', bd_s, I_succ]
    exact r1
theorem no_d (ok : okLie l = true) {n : Nat} (hn : n ≤ 8) (no : ∀ j, j < 512 → ¬ dQ l j = n + 1) : ∀ e j, j < 512 → dQ l j = n + 1 + e → dQ l j < 99 → False := by
  intro e
  induction e with
  | zero => intro j hj h _; exact no j hj h
  | succ e ih =>
    intro j hj h h9
    obtain ⟨i, t, i1, -, i3, -⟩ := dQ_3 ok hj (n := n + 1 + e) (by omega) (by omega)
    exact ih i i1 i3 (by omega)
theorem l_sp36 (ok : okLie l = true) : ∀ (r n f : Nat) (P : Nat → Nat) (h : MH), n + r = 9 → n ≤ 8 → r < f → (∀ j, j < 512 → P j = if dQ l j ≤ n then dQ l j else 99) → Rw 75 P h →
    ∃ h', L_M_spread_36 f (I 1) (I n) h = some h' ∧ Rw 75 (dQ l) h' ∧ FrP 75 h h' := by
  intro r
  induction r with
  | zero => intro n f P h e hn; omega
  | succ r ih =>
    intro n f P h e hn hf hP R
    obtain ⟨f, rfl⟩ := sfuel hf
    have s0 : SD (dQ l) P n 0 0 0 := by
      refine ⟨fun j hj => ?_, fun j u hj hu hp => by omega, fun _ j hj q => ?_, fun q => absurd rfl q, by omega⟩
      · have p := hP j hj
        refine ⟨fun q => ?_, fun q => ?_, fun q => ?_⟩
        · rw [if_pos q] at p; exact p
        · rw [if_neg (by omega)] at p; exact Or.inr p
        · rw [if_neg (by omega)] at p; exact p
      · have p := hP j hj
        rw [if_neg (by omega)] at p
        exact p
    obtain ⟨h1, P1, m1, p1, s, R1, fr1⟩ := l_sp45 ok hn 512 0 5000 0 P h (by omega) (by omega) s0 R
    have p1' : L_M_spread_45 (I n) 5000 (I 0) (I 0) h = some (I ((m1 : Nat) : Int), h1) := p1
    obtain ⟨s1, s2, s3, s4, s5⟩ := s
    have st1 : ∀ j, j < 512 → dQ l j = n + 1 → P1 j = n + 1 := by
      intro j hj q
      obtain ⟨i, t, i1, i2, i3, i4⟩ := dQ_3 ok hj q (by omega)
      have x := s2 i t i1 i2 (Or.inl i1) i3
      rw [i4] at x
      rcases (s1 j hj).2.1 q with y | y
      · exact y
      · exact absurd y x
    rcases (show m1 = 0 ∨ m1 = 1 by omega) with q | q
    · subst q
      have no : ∀ j, j < 512 → ¬ dQ l j = n + 1 := by
        intro j hj q
        have a := st1 j hj q
        have b := s3 rfl j hj q
        omega
      refine ⟨h1, ?_, fun j hj => ?_, fr1⟩
      · simp only [L_M_spread_36, zero_I, show (I 1 = I 0) = False from one_ne, if_false, p1', bd_s]
        obtain ⟨f', rfl⟩ : ∃ f', f = f' + 1 := sfuel (d := r) (by omega)
        simp only [L_M_spread_36, zero_I]
        exact if_pos rfl
      · have e1 : P1 j = dQ l j := by
          by_cases q : dQ l j ≤ n
          · exact (s1 j hj).1 q
          · have z := (s1 j hj).2.2 (by have := no j hj; omega)
            rcases dQ_le ok j with y | y
            · exact absurd (no_d ok hn no (dQ l j - (n + 1)) j hj (by omega) (by omega)) (fun x => x)
            · omega
        rw [R1 j hj, e1]
    · subst q
      obtain ⟨j0, j1, j2⟩ := s4 (by omega)
      have n8 : n + 1 ≤ 8 := by rcases dQ_le ok j0 with y | y <;> omega
      obtain ⟨h', r1, r2, r3⟩ := ih (n + 1) f P1 h1 (by omega) n8 (by omega) (fun j hj => by
        by_cases q : dQ l j ≤ n + 1
        · rw [if_pos q]
          by_cases q2 : dQ l j ≤ n
          · exact (s1 j hj).1 q2
          · have := st1 j hj (by omega); omega
        · rw [if_neg q]
          exact (s1 j hj).2.2 (by omega)) R1
      refine ⟨h', ?_, r2, FrP_tr fr1 r3⟩
      simp only [L_M_spread_36, zero_I, show (I 1 = I 0) = False from one_ne, if_false, p1', bd_s, I_succ]
      exact r1
theorem l_sp2 {c : Nat} (hc : c < 512) : ∀ (d i f : Nat) (h : MH), i + d = 512 → d < f → ∃ h', L_M_spread_2 (I c) f (I i) h = some h' ∧ (∀ j, i ≤ j → j < 512 → h'.1 75 j = I ((if j = c then 0 else 99 : Nat) : Int)) ∧ (∀ j, j < i → h'.1 75 j = h.1 75 j) ∧ FrP 75 h h' := by
  intro d
  induction d with
  | zero =>
    intro i f h e hf
    obtain ⟨f, rfl⟩ := sfuel hf
    refine ⟨h, ?_, fun j a b => by omega, fun j a => rfl, FrP_rfl 75 h⟩
    simp (disch := omega) only [L_M_spread_2, I_le]
    rw [if_pos (by omega)]
  | succ d ih =>
    intro i f h e hf
    obtain ⟨f, rfl⟩ := sfuel hf
    have ev : (if ¬ I (i : Int) = I (c : Int) then I 99 else I 0) = I ((if i = c then 0 else 99 : Nat) : Int) := by
      have ec : (I (i : Int) = I (c : Int)) = (i = c) := by
        rw [I_eq (by omega) (by omega) (by omega) (by omega)]
        exact propext ⟨fun q => by omega, fun q => by omega⟩
      by_cases q : i = c
      · rw [if_neg (show ¬ ¬ _ from fun z => z (by rw [q])), if_pos q]
        rfl
      · rw [if_pos (by rw [ec]; exact q), if_neg q]
        rfl
    obtain ⟨h', p1, p2, p3, p4⟩ := ih (i + 1) f (mm_hset h.1 75 i (I ((if i = c then 0 else 99 : Nat) : Int)), h.2) (by omega) (by omega)
    refine ⟨h', ?_, fun j a b => ?_, fun j a => (p3 j (by omega)).trans (hs_ne (by omega)), FrP_tr FrP_set p4⟩
    · simp (disch := omega) only [L_M_spread_2, I_le, if_neg (show ¬ (512 : Int) ≤ (i : Int) by omega), ev, iw_s, ck_in, I_nat, Int.toNat_natCast, hw_s, I_succ]
      exact p1
    · by_cases q : j = i
      · subst q
        exact (p3 j (by omega)).trans hs_eq
      · exact p2 j (by omega) b
theorem m_spread (ok : okLie l = true) (h : MH) : ∃ h', F_M_spread (I ((cod l : Nat) : Int)) h = some h' ∧ Rw 75 (dQ l) h' ∧ FrP 75 h h' := by
  have cl := cod_lt (ok_lt ok)
  obtain ⟨h1, p1, p2, p3, p4⟩ := l_sp2 cl 512 0 5000 h (by omega) (by omega)
  have p1' : L_M_spread_2 (I ((cod l : Nat) : Int)) 5000 (I 0) h = some h1 := p1
  obtain ⟨h', q1, q2, q3⟩ := l_sp36 ok 9 0 5000 (fun j => if j = cod l then 0 else 99) h1 (by omega) (by omega) (by omega) (fun j hj => by
    have d := dQ_0 ok hj
    by_cases q : j = cod l
    · have d0 := d.mpr q
      simp only [q, if_true]
      rw [q] at d0
      rw [if_pos (by omega), d0]
    · simp only [q, if_false]
      rw [if_neg (fun x => q (d.mp (by omega)))]) (fun j hj => p2 j (by omega) hj)
  have q1' : L_M_spread_36 5000 (I 1) (I 0) h1 = some h' := q1
  refine ⟨h', ?_, q2, FrP_tr p4 q3⟩
  simp only [F_M_spread, p1', bd_s, q1']
end MSP
-- 33 waysToLie
def ctD (D : Nat → Nat) (x : Nat) : Nat → Nat → Nat
  | 0, _ => 0
  | d + 1, k => (if x < D k then 0 else 1) + ctD D x d (k + 1)
theorem ctD_dec : oks.all (fun l => (List.range 9).all (fun x => ctD (dQ l) x 512 0 == ctQ x (sprd l))) = true := by decide +kernel
section WTL
variable {h : MH}
theorem l_wtl {D : Nat → Nat} (hD : ∀ j, D j ≤ 99) (R : Rw 75 D h) {x : Nat} (hx : x ≤ 8) : ∀ d k f c : Nat, k + d = 512 → d < f → c ≤ k → L_M_waysToLie_43 (I x) f (I c) (I k) h = some (I ((c + ctD D x d k : Nat) : Int), h) := by
  intro d
  induction d with
  | zero =>
    intro k f c e hf hc
    obtain ⟨f, rfl⟩ := sfuel hf
    simp (disch := omega) only [L_M_waysToLie_43, I_le]
    rw [if_pos (by omega)]
    rfl
  | succ d ih =>
    intro k f c e hf hc
    obtain ⟨f, rfl⟩ := sfuel hf
    have hd := hD k
    have i0 : I (c : Int) + I 0 = I (c : Int) := by rw [I_add, Int.add_zero]
    have i1 : I (c : Int) + I 1 = I ((c + 1 : Nat) : Int) := I_succ c
    show _ = some (I ((c + ((if x < D k then 0 else 1) + ctD D x d (k + 1)) : Nat) : Int), h)
    simp (disch := omega) only [L_M_waysToLie_43, I_le, if_neg (show ¬ (512 : Int) ≤ (k : Int) by omega), ck_in, I_nat, Int.toNat_natCast, R k (by omega), I_lt, iw_s, I_succ]
    by_cases q : x < D k
    · have g := ih (k + 1) f c (by omega) (by omega) (by omega)
      rw [if_pos (by omega), if_pos q, Nat.zero_add, i0]
      exact g
    · have g := ih (k + 1) f (c + 1) (by omega) (by omega) (by omega)
      rw [if_neg (by omega), if_neg q, i1, show c + (1 + ctD D x d (k + 1)) = c + 1 + ctD D x d (k + 1) by omega]
      exact g
theorem q_waysToLie {S : SS} (J : InvS S) {x : Int} (e1 : i32 x) : Q2 S (F_C_waysToLie (I x)) (F_M_waysToLie (I x)) := by
  have ok := J.2.2.2.2.2.2.2.2
  have hl := ok_lt ok
  have c0 : i32 0 := ⟨by omega, by omega⟩
  have c8 : i32 8 := ⟨by omega, by omega⟩
  obtain ⟨l1, g1⟩ := id e1
  by_cases h0 : 0 ≤ x
  · by_cases h1 : x ≤ 8
    · obtain ⟨n, rfl⟩ : ∃ n : Nat, x = n := ⟨x.toNat, by omega⟩
      refine ⟨(I ((ctQ n (sprd (hLie (sN S))) : Nat) : Int), 0), by show 0 < 7; omega, fun h R => ?_, fun h R => ?_⟩
      · obtain ⟨h', p1, p2, p3, p4⟩ := c_spread hl h
        refine ⟨h', ?_, p3.1, fun k i s => ?_⟩
        · simp (disch := omega) only [F_C_waysToLie, zero_I, I_le, if_pos h0, if_pos h1, rn_l (rc_h R), p1, bd_s, c_wi p4 p2 (show n ≤ 8 by omega)]
        · have q := scC_40 s
          rw [p3.2 k (by
            unfold scC at s
            simp at s
            omega)]
          rfl
      · have R0 := RM_Sc R (ScM_setT h)
        obtain ⟨h1', p1, t1, s1⟩ := m_think (rm_h R0) hl
        obtain ⟨h2, q1, q2, q3⟩ := m_spread ok h1'
        have g := l_wtl (fun j => by rcases dQ_le ok j with y | y <;> omega) q2 (x := n) (by omega) 512 0 5000 0 (by omega) (by omega) (by omega)
        have cd0 : ctD (dQ (hLie (sN S))) n 512 0 = ctQ n (sprd (hLie (sN S))) := eq_of_beq (List.all_eq_true.mp (List.all_eq_true.mp ctD_dec _ (mem_oks ok)) n (List.mem_range.mpr (by omega)))
        rw [Nat.zero_add, cd0] at g
        have g' : L_M_waysToLie_43 (I n) 5000 (I 0) (I 0) h2 = _ := g
        refine ⟨h2, ?_, ScM_tr s1 (ScM_P q3)⟩
        simp only [F_M_waysToLie, setT_d, hw_s, m_num e1 c0 c8, if_pos h0, if_pos h1, bd_s, zero_I, le00, if_true, p1, m_code hl t1, q1, g']
    · refine q_pl (I (-6)) 6 (by omega) (fun h R => ?_) (fun h R => ?_)
      · simp (disch := omega) only [F_C_waysToLie, zero_I, I_le, if_pos h0, if_neg h1, c_ref6, bd_s]
      · simp only [F_M_waysToLie, setT_d, hw_s, m_num e1 c0 c8, if_pos h0, if_neg h1, bd_s, zero_I, lm6, if_false, m_ref6]
  · refine q_pl (I (-4)) 4 (by omega) (fun h R => ?_) (fun h R => ?_)
    · simp (disch := omega) only [F_C_waysToLie, zero_I, I_le, if_neg h0, c_ref4, bd_s]
    · simp only [F_M_waysToLie, setT_d, hw_s, m_num e1 c0 c8, if_neg h0, bd_s, zero_I, lm4, if_false, m_ref4]
end WTL
