-- the model's orders: the k-th of all, rising
def fc : Nat → Nat
  | 0 => 1
  | n + 1 => (n + 1) * fc n
theorem fc_b : ∀ n : Fin 7, 1 ≤ fc n ∧ fc n ≤ 720 := by decide +kernel
def lyF : Nat → Nat → Nat → Nat → Option Nat
  | 0, _, _, _ => none
  | f + 1, used, skip, one => if bt used one = 1 then lyF f used skip (one + 1) else if skip = 0 then some one else lyF f used (skip - 1) (one + 1)
def ly (n : Nat) : Nat → Nat → Nat → Nat → Option (List Nat)
  | 0, _, _, _ => some []
  | d + 1, i, rest, used => match lyF (6) used (rest / fc (n - 1 - i)) 0 with
    | none => none
    | some v => match ly n d (i + 1) (rest % fc (n - 1 - i)) (used ||| 2 ^ v) with
      | none => none
      | some l => some (v :: l)
/-- all orders of n, rising -/
def pmx (bits : Nat) (sub : Nat → List (List Nat)) : Nat → Nat → List (List Nat)
  | 0, _ => []
  | c + 1, i => (if bt bits i = 1 then [] else (sub i).map (List.cons i)) ++ pmx bits sub c (i + 1)
def pm (n : Nat) : Nat → Nat → List (List Nat)
  | 0, _ => [[]]
  | d + 1, used => pmx used (fun i => pm n d (used ||| 2 ^ i)) n 0
theorem ly_dec : ∀ n : Fin 7, (List.range (fc n)).map (fun k => ly n n 0 k 0) = (pm n n 0).map some := by decide +kernel
theorem pm_dec : ∀ n : Fin 7, (pm n n 0).all (fun l => decide (l.length = n) && l.all (fun x => decide (x < n))) = true := by decide +kernel
theorem or_dec : ∀ u : Fin 64, ∀ v : Fin 6, (I ((u : Nat) : Int) ||| (I 1 <<< (I ((v : Nat) : Int) &&& 31))) = I ((((u : Nat) ||| 2 ^ (v : Nat) : Nat)) : Int) := by decide +kernel
theorem or_lt : ∀ u : Fin 64, ∀ v : Fin 6, ((u : Nat) ||| 2 ^ (v : Nat)) < 64 := by decide +kernel
theorem orI {u v : Nat} (hu : u < 64) (hv : v < 6) : (I (u : Int) ||| (I 1 <<< (I (v : Int) &&& 31))) = I (((u ||| 2 ^ v : Nat)) : Int) := or_dec ⟨u, hu⟩ ⟨v, hv⟩
theorem or64 {u v : Nat} (hu : u < 64) (hv : v < 6) : (u ||| 2 ^ v) < 64 := or_lt ⟨u, hu⟩ ⟨v, hv⟩
/-- the k-th order as a list -/
def lyL (n k : Nat) : List Nat := match ly n n 0 k 0 with
  | none => []
  | some l => l
theorem ly_some {n k : Nat} (hn : n ≤ 6) (hk : k < fc n) : ly n n 0 k 0 = some (lyL n k) ∧ lyL n k ∈ pm n n 0 := by
  have d : (List.range (fc n)).map (fun k => ly n n 0 k 0) = (pm n n 0).map some := ly_dec ⟨n, by omega⟩
  have m : ly n n 0 k 0 ∈ (List.range (fc n)).map (fun k => ly n n 0 k 0) := List.mem_map.mpr ⟨k, List.mem_range.mpr hk, rfl⟩
  rw [d] at m
  obtain ⟨l, m1, m2⟩ := List.mem_map.mp m
  have e : lyL n k = l := by unfold lyL; rw [← m2]
  rw [e]
  exact ⟨m2.symm, m1⟩
theorem ly_len {n k : Nat} (hn : n ≤ 6) (hk : k < fc n) : (lyL n k).length = n ∧ ∀ x, x ∈ lyL n k → x < n := by
  have d : (pm n n 0).all (fun l => decide (l.length = n) && l.all (fun x => decide (x < n))) = true := pm_dec ⟨n, by omega⟩
  have q := List.all_eq_true.mp d _ (ly_some hn hk).2
  rw [Bool.and_eq_true] at q
  exact ⟨of_decide_eq_true q.1, fun x hx => of_decide_eq_true (List.all_eq_true.mp q.2 x hx)⟩
theorem ly_map {n : Nat} (hn : n ≤ 6) : (List.range (fc n)).map (lyL n) = pm n n 0 := by
  have d : (List.range (fc n)).map (fun k => ly n n 0 k 0) = (pm n n 0).map some := ly_dec ⟨n, by omega⟩
  have e : (List.range (fc n)).map (fun k => ly n n 0 k 0) = ((List.range (fc n)).map (lyL n)).map some := by
    rw [List.map_map]
    exact List.map_congr_left (fun k hk => (ly_some hn (List.mem_range.mp hk)).1)
  rw [e] at d
  exact (List.map_inj_right (fun x y h => Option.some.inj h)).mp d
section LAY
variable {h : MH}
theorem l_fc {m : Nat} (hm : m ≤ 6) : ∀ d i n : Nat, i + d + 1 = m → d < n → L_M_ordersOf_4 (I m) n (I ((fc (i + 1) : Nat) : Int)) (I ((i + 2 : Nat) : Int)) h = some (I ((fc m : Nat) : Int), h) := by
  intro d
  induction d with
  | zero =>
    intro i n e hn
    obtain ⟨k, rfl⟩ := sfuel hn
    obtain rfl : i + 1 = m := by omega
    simp (disch := omega) only [L_M_ordersOf_4, I_lt]
    rw [if_pos (by omega)]
  | succ d ih =>
    intro i n e hn
    obtain ⟨k, rfl⟩ := sfuel hn
    have g := ih (i + 1) k (by omega) (by omega)
    have e1 : ((fc (i + 1) : Nat) : Int) * ((i + 2 : Nat) : Int) = ((fc (i + 1 + 1) : Nat) : Int) := by
      rw [← Int.natCast_mul]
      congr 1
      show fc (i + 1) * (i + 2) = (i + 1 + 1) * fc (i + 1)
      rw [Nat.mul_comm]
    simp (disch := omega) only [L_M_ordersOf_4, I_lt, if_neg (show ¬ ((m : Int) < ((i + 2 : Nat) : Int)) by omega), I_mul, e1, I_succ]
    exact g
theorem l_fc0 (n : Nat) : L_M_ordersOf_4 (I (0 : Nat)) (n + 1) (I 1) (I 2) h = some (I 1, h) := by
  simp (disch := omega) only [L_M_ordersOf_4, I_lt]
  rw [if_pos (by omega)]
theorem m_fc {m : Nat} (hm : m ≤ 6) : F_M_ordersOf (I m) h = some (I ((fc m : Nat) : Int), h) := by
  rcases Nat.eq_zero_or_pos m with rfl | hp
  · have g' : L_M_ordersOf_4 (I (0 : Nat)) 5000 (I 1) (I 2) h = some (I 1, h) := l_fc0 4999
    simp only [F_M_ordersOf, g', bd_s]
    rfl
  · have g := l_fc (h := h) hm (m - 1) 0 5000 (by omega) (by omega)
    have g' : L_M_ordersOf_4 (I m) 5000 (I 1) (I 2) h = some (I ((fc m : Nat) : Int), h) := g
    simp only [F_M_ordersOf, g', bd_s]
theorem I_succ0 (i : Nat) : I (i : Int) - I 0 = I (i : Int) := by
  rw [I_sub, Int.sub_zero]
theorem l_lyF {x2 x3 x5 : Int32} {used : Nat} (hu : used < 64) : ∀ (f n one skip v : Nat), lyF f used skip one = some v → one + f ≤ 6 → skip ≤ 1000 → f ≤ n → L_M_layOrder_39 x2 x3 (I used) x5 n (I skip) (I one) h = some (I v, h) ∧ v < 6 := by
  intro f
  induction f with
  | zero => intro n one skip v e; exact absurd e (by simp [lyF])
  | succ f ih =>
    intro n one skip v e h6 hs hn
    obtain ⟨m, rfl⟩ := sfuel (show f < n by omega)
    have e' : (if bt used one = 1 then lyF f used skip (one + 1) else if skip = 0 then some one else lyF f used (skip - 1) (one + 1)) = some v := e
    by_cases c : bt used one = 1
    · rw [if_pos c] at e'
      have g := ih m (one + 1) skip v e' (by omega) hs (by omega)
      refine ⟨?_, g.2⟩
      simp (disch := omega) only [L_M_layOrder_39, m_hasBit hu (show one < 6 by omega), if_pos c, bd_s, zero_I, one_ne, not_false_iff, if_true, if_false, iw_s, I_succ0, I_succ]
      exact g.1
    · rw [if_neg c] at e'
      by_cases s0 : skip = 0
      · rw [if_pos s0] at e'
        have ev : one = v := Option.some.inj e'
        subst ev
        subst s0
        refine ⟨?_, by omega⟩
        simp (disch := omega) only [L_M_layOrder_39, m_hasBit hu (show one < 6 by omega), if_neg c, bd_s, zero_I, not_true, if_false, I_le]
        rw [if_pos (by omega)]
      · rw [if_neg s0] at e'
        have g := ih m (one + 1) (skip - 1) v e' (by omega) (by omega) (by omega)
        refine ⟨?_, g.2⟩
        have es : I (skip : Int) - I 1 = I ((skip - 1 : Nat) : Int) := by
          rw [I_sub]
          congr 1
          omega
        simp (disch := omega) only [L_M_layOrder_39, m_hasBit hu (show one < 6 by omega), if_neg c, bd_s, zero_I, not_true, if_false, I_le, if_neg (show ¬ (skip : Int) ≤ 0 by omega), if_true, iw_s, es, I_succ]
        exact g.1
theorem l_ly {n : Nat} (hn : n ≤ 6) : ∀ (d i m rest used : Nat) (l : List Nat) (h : MH), ly n d i rest used = some l → i + d = n → d < m → rest < 1000 → used < 64 →
    ∃ h', L_M_layOrder_8 (I n) m (I rest) (I used) (I i) h = some h' ∧ h'.2 = h.2 ∧ (∀ j, j < d → h'.1 72 (i + j) = I ((l.getD j 0 : Nat) : Int)) ∧ (∀ j, j < i → h'.1 72 j = h.1 72 j) ∧ ∀ k, ¬ k = 72 → h'.1 k = h.1 k := by
  intro d
  induction d with
  | zero =>
    intro i m rest used l h e hi hm hr hu
    obtain ⟨k, rfl⟩ := sfuel hm
    obtain rfl : i = n := by omega
    refine ⟨h, ?_, rfl, fun j hj => absurd hj (Nat.not_lt_zero j), fun j hj => rfl, fun k hk => rfl⟩
    simp (disch := omega) only [L_M_layOrder_8, I_le, if_pos (Int.le_refl _)]
  | succ d ih =>
    intro i m rest used l h e hi hm hr hu
    obtain ⟨k, rfl⟩ := sfuel hm
    have fb : 1 ≤ fc (n - 1 - i) ∧ fc (n - 1 - i) ≤ 720 := fc_b ⟨n - 1 - i, by omega⟩
    obtain ⟨F, hF⟩ : ∃ F, F = fc (n - 1 - i) := ⟨_, rfl⟩
    unfold ly at e
    rw [← hF] at e fb
    rcases hv : lyF 6 used (rest / F) 0 with _ | v
    · rw [hv] at e
      exact absurd e (by simp)
    · rw [hv] at e
      simp only at e
      rcases hl : ly n d (i + 1) (rest % F) (used ||| 2 ^ v) with _ | l'
      · rw [hl] at e
        exact absurd e (by simp)
      · rw [hl] at e
        simp only at e
        have el : v :: l' = l := Option.some.inj e
        have rd : rest / F ≤ rest := Nat.div_le_self _ _
        have rm : rest % F < F := Nat.mod_lt _ (by omega)
        have a := l_lyF (h := h) (x2 := I n) (x3 := I ((rest % F : Nat) : Int)) (x5 := I i) hu 6 5000 0 (rest / F) v hv (by omega) (by omega) (by omega)
        obtain ⟨a1, a2⟩ := a
        have a1' : L_M_layOrder_39 (I n) (I ((rest % F : Nat) : Int)) (I used) (I i) 5000 (I ((rest / F : Nat) : Int)) (I 0) h = some (I v, h) := a1
        obtain ⟨h', p1, p2, p3, p4, p5⟩ := ih (i + 1) k (rest % F) (used ||| 2 ^ v) l' (mm_hset h.1 72 i (I v), h.2) hl (by omega) (by omega) (by omega) (or64 hu a2)
        refine ⟨h', ?_, p2, ?_, ?_, fun k hk => (p5 k hk).trans (hrow hk)⟩
        · have ef : ((n : Int) - 1 - (i : Int)) = ((n - 1 - i : Nat) : Int) := by omega
          have nz : ¬ I ((F : Nat) : Int) = I 0 := by rw [I_eq (by omega) (by omega) (by omega) (by omega)]; omega
          have f1 := m_fc (h := h) (m := n - 1 - i) (by omega)
          rw [← hF] at f1
          have er : irem (I (rest : Int)) (I ((F : Nat) : Int)) = I ((rest % F : Nat) : Int) := by
            rw [I_rem (by omega) (by omega) (by omega) (by omega)]
            rfl
          have ed : I (rest : Int) / I ((F : Nat) : Int) = I ((rest / F : Nat) : Int) := by
            rw [I_div (by omega) (by omega) (by omega) (by omega)]
            rfl
          simp (disch := omega) only [L_M_layOrder_8, I_le, if_neg (show ¬ ((n : Int) ≤ (i : Int)) by omega), I_sub, ef, f1, bd_s, zero_I, cd_t nz, er, ed, a1', ck_in, I_nat, Int.toNat_natCast, hw_s, orI hu a2, I_succ]
          exact p1
        · intro j hj
          rcases Nat.eq_zero_or_pos j with rfl | hp
          · rw [← el]
            show h'.1 72 (i + 0) = I ((v : Nat) : Int)
            rw [show i + 0 = i from rfl, p4 i (by omega)]
            exact hs_eq
          · obtain ⟨j', rfl⟩ : ∃ j', j = j' + 1 := sfuel hp
            rw [← el]
            have q := p3 j' (by omega)
            rw [show i + 1 + j' = i + (j' + 1) by omega] at q
            exact q
        · intro j hj
          rw [p4 j (by omega)]
          exact hs_ne (by omega)
theorem m_lay {n k : Nat} (hn : n ≤ 6) (hk : k < fc n) (h : MH) : ∃ h', F_M_layOrder (I k) (I n) h = some h' ∧ h'.2 = h.2 ∧ (∀ j, j < n → h'.1 72 j = I (((lyL n k).getD j 0 : Nat) : Int)) ∧ ∀ k, ¬ k = 72 → h'.1 k = h.1 k := by
  have fb := fc_b ⟨n, by omega⟩
  simp only at fb
  obtain ⟨h', p1, p2, p3, p4, p5⟩ := l_ly hn n 0 5000 k 0 (lyL n k) h (ly_some hn hk).1 (by omega) (by omega) (by omega) (by omega)
  have p1' : L_M_layOrder_8 (I n) 5000 (I k) (I 0) (I 0) h = some h' := p1
  refine ⟨h', ?_, p2, fun j hj => ?_, p5⟩
  · simp only [F_M_layOrder, p1', bd_s]
  · have q := p3 j hj
    rwa [show 0 + j = j by omega] at q
end LAY
