-- the search for a share: who takes which
def updP (f : Nat → Int) (x : Nat) (c : Int) (p : Nat) : Int := if p = x then f p + c else f p
def mx (f : Nat → Int) : Nat → Int
  | 0 => 0
  | n + 1 => if f n ≤ mx f n then mx f n else f n
def ldS (C : Nat → Nat → Int) : Nat → List Nat → (Nat → Int) → Nat → Int
  | _, [], f => f
  | k, i :: l, f => ldS C (k + 1) l (updP f i (C k i))
def shx (L : List (List Nat)) : Nat → Nat → List (List Nat)
  | 0, _ => []
  | c + 1, i => L.map (List.cons i) ++ shx L c (i + 1)
def sh (P : Nat) : Nat → List (List Nat)
  | 0 => [[]]
  | d + 1 => shx (sh P d) P 0
theorem mx_0 (f : Nat → Int) (n : Nat) : 0 ≤ mx f n := by
  induction n with
  | zero => exact Int.le_refl 0
  | succ n ih => unfold mx; split <;> omega
theorem mx_ge {f : Nat → Int} {n p : Nat} (h : p < n) : f p ≤ mx f n := by
  induction n with
  | zero => omega
  | succ n ih =>
    unfold mx
    by_cases c : p = n
    · subst c
      split <;> omega
    · have := ih (by omega)
      split <;> omega
theorem mx_mono {f g : Nat → Int} (e : ∀ p, f p ≤ g p) (n : Nat) : mx f n ≤ mx g n := by
  induction n with
  | zero => exact Int.le_refl 0
  | succ n ih =>
    have := e n
    unfold mx
    split <;> split <;> omega
theorem mx_cg {f g : Nat → Int} {n : Nat} (e : ∀ p, p < n → f p = g p) : mx f n = mx g n := by
  induction n with
  | zero => rfl
  | succ n ih =>
    unfold mx
    rw [ih (fun p hp => e p (by omega)), e n (by omega)]
theorem mx_le {f : Nat → Int} {B : Int} (hB : 0 ≤ B) (e : ∀ p, f p ≤ B) (n : Nat) : mx f n ≤ B := by
  induction n with
  | zero => exact hB
  | succ n ih =>
    have := e n
    unfold mx
    split <;> omega
theorem mx_upd {f : Nat → Int} {i : Nat} {c : Int} (hc : 0 ≤ c) : ∀ n, (n ≤ i → mx (updP f i c) n = mx f n) ∧ (i < n → mx (updP f i c) n = if mx f n < f i + c then f i + c else mx f n) := by
  intro n
  induction n with
  | zero => exact ⟨fun _ => rfl, fun h => by omega⟩
  | succ n ih =>
    have e1 : mx (updP f i c) (n + 1) = if updP f i c n ≤ mx (updP f i c) n then mx (updP f i c) n else updP f i c n := rfl
    have e2 : mx f (n + 1) = if f n ≤ mx f n then mx f n else f n := rfl
    refine ⟨fun h => ?_, fun h => ?_⟩
    · have u : updP f i c n = f n := by unfold updP; rw [if_neg (by omega)]
      rw [e1, e2, ih.1 (by omega), u]
    · by_cases q : n = i
      · subst q
        have u : updP f n c n = f n + c := by unfold updP; rw [if_pos rfl]
        rw [e1, e2, ih.1 (by omega), u]
        split <;> split <;> split <;> omega
      · have u : updP f i c n = f n := by unfold updP; rw [if_neg (by omega)]
        have g := mx_ge (f := f) (n := n) (p := i) (by omega)
        rw [e1, e2, ih.2 (by omega), u]
        repeat' split
        all_goals omega
theorem upd_ge {f : Nat → Int} {i : Nat} {c : Int} (hc : 0 ≤ c) (p : Nat) : f p ≤ updP f i c p := by unfold updP; split <;> omega
theorem ldS_ge {C : Nat → Nat → Int} (hC : ∀ a i, 0 ≤ C a i) : ∀ (l : List Nat) (k : Nat) (f : Nat → Int) (p : Nat), f p ≤ ldS C k l f p := by
  intro l
  induction l with
  | nil => intro k f p; exact Int.le_refl _
  | cons i l ih =>
    intro k f p
    exact Int.le_trans (upd_ge (hC k i) p) (ih (k + 1) (updP f i (C k i)) p)
theorem ldS_le {C : Nat → Nat → Int} (hC : ∀ a i, 0 ≤ C a i ∧ C a i ≤ 432) : ∀ (l : List Nat) (k : Nat) (f : Nat → Int) (B : Int), (∀ p, f p ≤ B) → ∀ p, ldS C k l f p ≤ B + 432 * l.length := by
  intro l
  induction l with
  | nil => intro k f B h p; have := h p; show f p ≤ B + 432 * 0; omega
  | cons i l ih =>
    intro k f B h p
    have q := ih (k + 1) (updP f i (C k i)) (B + 432) (fun p => by
      have := h p
      have := hC k i
      unfold updP
      split <;> omega) p
    show ldS C (k + 1) l (updP f i (C k i)) p ≤ _
    rw [List.length_cons]
    omega
def FrT (h h' : MH) : Prop := h'.2 = h.2 ∧ ∀ k i, ¬ k = 50 → ¬ k = 51 → ¬ k = 52 → ¬ (k = 40 ∧ i = 8) → h'.1 k i = h.1 k i
theorem FrT_rfl (h : MH) : FrT h h := ⟨rfl, fun _ _ _ _ _ _ => rfl⟩
theorem FrT_tr {a b c : MH} (p : FrT a b) (q : FrT b c) : FrT a c := ⟨q.1.trans p.1, fun k i w x y z => (q.2 k i w x y z).trans (p.2 k i w x y z)⟩
def CS (n P : Nat) (C : Nat → Nat → Int) (h : MH) : Prop := h.1 40 6 = I n ∧ h.1 40 7 = I P ∧ ∀ a i, a < n → i < P → h.1 (42 + a) i = I (C a i)
theorem CS_Fr {n P : Nat} (hn : n ≤ 6) {C : Nat → Nat → Int} {h h' : MH} (p : CS n P C h) (q : FrT h h') : CS n P C h' :=
  ⟨(q.2 40 6 (by omega) (by omega) (by omega) (by omega)).trans p.1, (q.2 40 7 (by omega) (by omega) (by omega) (by omega)).trans p.2.1, fun a i ha hi => (q.2 (42 + a) i (by omega) (by omega) (by omega) (by omega)).trans (p.2.2 a i ha hi)⟩
theorem t_shr {n P : Nat} (hn : n ≤ 6) (hP : P ≤ 4) {C : Nat → Nat → Int} (hC : ∀ a i, 0 ≤ C a i ∧ C a i ≤ 432) : ∀ (d k fuel : Nat) (f : Nat → Int) (pre : List Nat) (s : Int × List Nat) (h : MH), k + d = n → d < fuel → pre.length = k →
    (∀ j, j < k → h.1 51 j = I ((pre.getD j 0 : Nat) : Int)) → (∀ p, p < P → h.1 50 p = I (f p)) → CS n P C h → SR n h s → (∀ p, 0 ≤ f p ∧ f p ≤ 432 * k) → 0 ≤ s.1 → s.1 ≤ 1000000000 →
    ∃ h', F_S_tryShares fuel (I k) (I (mx f P)) h = some h' ∧ SR n h' (fO (fun l => mx (ldS C k l f) P) pre s (sh P d)) ∧ FrT h h' ∧ (∀ j, j < k → h'.1 51 j = h.1 51 j) ∧ ∀ p, p < P → h'.1 50 p = h.1 50 p := by
  have hC0 : ∀ a i, 0 ≤ C a i := fun a i => (hC a i).1
  intro d
  induction d with
  | zero =>
    intro k fuel f pre s h hk hf hp hT hL hCR hS hfb h2 h3
    obtain ⟨m, rfl⟩ := sfuel hf
    have m0 := mx_0 f P
    have m1 := mx_le (f := f) (B := 432 * k) (by omega) (fun p => (hfb p).2) P
    obtain ⟨sum, hsum⟩ : ∃ sum, sum = mx f P := ⟨_, rfl⟩
    have es : ∀ l, sum ≤ mx (ldS C k l f) P := fun l => by rw [hsum]; exact mx_mono (fun p => ldS_ge hC0 l k f p) P
    have e0 : mx (ldS C k [] f) P = sum := hsum.symm
    rw [← hsum] at m0 m1 ⊢
    by_cases c : sum < s.1
    · have e : fO (fun l => mx (ldS C k l f) P) pre s (sh P 0) = (sum, pre) := by
        show (if mx (ldS C k [] f) P < s.1 then (mx (ldS C k [] f) P, pre ++ []) else s) = _
        rw [e0, if_pos c, List.append_nil]
      rw [e]
      refine ⟨(mm_hcpy (mm_hset h.1 40 8 (I sum)) 51 52 0 0 6, h.2), ?_, ⟨?_, fun _ j hj => ?_⟩, ⟨rfl, fun a i n0 n1 n2 n3 => ?_⟩, fun j hj => ?_, fun j hj => ?_⟩
      · simp (disch := omega) only [F_S_tryShares, hS.1, hCR.1, I_lt, if_pos c, F_S_keepTried, hw_s, n_0, n_6, bd_s]
        rw [if_neg (by omega)]
      · show mm_hcpy (mm_hset h.1 40 8 (I sum)) 51 52 0 0 6 40 8 = I sum
        rw [cpy_ne (by omega), hs_eq]
      · show mm_hcpy (mm_hset h.1 40 8 (I sum)) 51 52 0 0 6 52 j = _
        rw [cpy_in (by omega), hs_ne (by omega)]
        exact hT j (by omega)
      · show mm_hcpy (mm_hset h.1 40 8 (I sum)) 51 52 0 0 6 a i = _
        rw [cpy_ne n2, hs_ne n3]
      · show mm_hcpy (mm_hset h.1 40 8 (I sum)) 51 52 0 0 6 51 j = _
        rw [cpy_ne (by omega), hs_ne (by omega)]
      · show mm_hcpy (mm_hset h.1 40 8 (I sum)) 51 52 0 0 6 50 j = _
        rw [cpy_ne (by omega), hs_ne (by omega)]
    · have e : fO (fun l => mx (ldS C k l f) P) pre s (sh P 0) = s := fO_no (fun l _ => by
        have := es l
        show s.1 ≤ mx (ldS C k l f) P
        omega)
      rw [e]
      refine ⟨h, ?_, hS, FrT_rfl h, fun j hj => rfl, fun j hj => rfl⟩
      simp (disch := omega) only [F_S_tryShares, hS.1, I_lt, if_neg c]
  | succ d ih =>
    intro k fuel f pre s h hk hf hp hT hL hCR hS hfb h2 h3
    obtain ⟨fuel, rfl⟩ := sfuel hf
    have m0 := mx_0 f P
    have m1 := mx_le (f := f) (B := 432 * k) (by omega) (fun p => (hfb p).2) P
    obtain ⟨sum, hsum⟩ : ∃ sum, sum = mx f P := ⟨_, rfl⟩
    have es : ∀ l, sum ≤ mx (ldS C k l f) P := fun l => by rw [hsum]; exact mx_mono (fun p => ldS_ge hC0 l k f p) P
    rw [← hsum] at m0 m1 ⊢
    by_cases c : sum < s.1
    · have inner : ∀ (c i m : Nat) (s : Int × List Nat) (h : MH), i + c = P → c < m → (∀ j, j < k → h.1 51 j = I ((pre.getD j 0 : Nat) : Int)) → (∀ p, p < P → h.1 50 p = I (f p)) → CS n P C h → SR n h s → 0 ≤ s.1 → s.1 ≤ 1000000000 →
          ∃ h', L_S_tryShares_25 (F_S_tryShares fuel) (I k) (I sum) m (I i) h = some h' ∧ SR n h' (fO (fun l => mx (ldS C k l f) P) pre s (shx (sh P d) c i)) ∧ FrT h h' ∧ (∀ j, j < k → h'.1 51 j = h.1 51 j) ∧ ∀ p, p < P → h'.1 50 p = h.1 50 p := by
        intro c
        induction c with
        | zero =>
          intro i m s h hi hm hT hL hCR hS h2 h3
          obtain ⟨m, rfl⟩ := sfuel hm
          refine ⟨h, ?_, hS, FrT_rfl h, fun j hj => rfl, fun j hj => rfl⟩
          simp (disch := omega) only [L_S_tryShares_25, hCR.2.1, I_le]
          rw [if_pos (by omega)]
        | succ c ihc =>
          intro i m s h hi hm hT hL hCR hS h2 h3
          obtain ⟨m, rfl⟩ := sfuel hm
          have hiP : i < P := by omega
          show ∃ h', _ ∧ SR n h' (fO (fun l => mx (ldS C k l f) P) pre s ((sh P d).map (List.cons i) ++ shx (sh P d) c (i + 1))) ∧ _
          rw [fO_app, fO_map]
          have c0 := hC k i
          have fi := hfb i
          have mu := (mx_upd (f := f) (i := i) c0.1 P).2 hiP
          rw [← hsum] at mu
          have hT1 : ∀ j, j < k + 1 → mm_hset (mm_hset h.1 51 k (I i)) 50 i (I (f i + C k i)) 51 j = I (((pre ++ [i]).getD j 0 : Nat) : Int) := by
            intro j hj
            rw [getD_apN (by omega), hs_ne (by omega)]
            by_cases jk : j = k
            · rw [if_pos (by omega), jk, hs_eq]
            · rw [if_neg (by omega), hs_ne (by omega)]
              exact hT j (by omega)
          have hL1 : ∀ p, p < P → mm_hset (mm_hset h.1 51 k (I i)) 50 i (I (f i + C k i)) 50 p = I (updP f i (C k i) p) := by
            intro p hp
            unfold updP
            by_cases pi : p = i
            · rw [if_pos pi, pi, hs_eq]
            · rw [if_neg pi, hs_ne (by omega), hs_ne (by omega)]
              exact hL p hp
          have fr0 : FrT h (mm_hset (mm_hset h.1 51 k (I i)) 50 i (I (f i + C k i)), h.2) := ⟨rfl, fun a b n0 n1 n2 n3 => by simp (disch := omega) only [hs_ne]⟩
          have hS1 : SR n (mm_hset (mm_hset h.1 51 k (I i)) 50 i (I (f i + C k i)), h.2) s := ⟨by simp (disch := omega) only [hs_ne]; exact hS.1, fun q j hj => by simp (disch := omega) only [hs_ne]; exact hS.2 q j hj⟩
          obtain ⟨h1', p1, p2, p3, p4, p5⟩ := ih (k + 1) fuel (updP f i (C k i)) (pre ++ [i]) s (mm_hset (mm_hset h.1 51 k (I i)) 50 i (I (f i + C k i)), h.2) (by omega) (by omega) (by simp [hp]) hT1 hL1 (CS_Fr hn hCR fr0) hS1 (fun p => by
            have := hfb p
            unfold updP
            split <;> omega) h2 h3
          have v50 : h1'.1 50 i = I (f i + C k i) := (p5 i hiP).trans hs_eq
          have fr1 : FrT h (mm_hset h1'.1 50 i (I (f i)), h1'.2) := FrT_tr (FrT_tr fr0 p3) ⟨rfl, fun a b n0 n1 n2 n3 => by simp (disch := omega) only [hs_ne]⟩
          have t1 : ∀ j, j < k → mm_hset h1'.1 50 i (I (f i)) 51 j = h.1 51 j := fun j hj => by
            rw [hs_ne (by omega), p4 j (by omega)]
            simp (disch := omega) only [hs_ne]
          have l1 : ∀ p, p < P → mm_hset h1'.1 50 i (I (f i)) 50 p = h.1 50 p := fun p hp => by
            by_cases pi : p = i
            · rw [pi, hs_eq]
              exact (hL i hiP).symm
            · rw [hs_ne (by omega), p5 p hp]
              simp (disch := omega) only [hs_ne]
          have fb := fO_b (g := fun l => mx (ldS C (k + 1) l (updP f i (C k i))) P) (pre := pre ++ [i]) (fun l => mx_0 _ _) (ls := sh P d) (s := s) h2
          have p2' : SR n (mm_hset h1'.1 50 i (I (f i)), h1'.2) (fO (fun l => mx (ldS C (k + 1) l (updP f i (C k i))) P) (pre ++ [i]) s (sh P d)) := ⟨by simp (disch := omega) only [hs_ne]; exact p2.1, fun q j hj => by simp (disch := omega) only [hs_ne]; exact p2.2 q j hj⟩
          obtain ⟨h', q1, q2, q3, q4, q5⟩ := ihc (i + 1) m _ (mm_hset h1'.1 50 i (I (f i)), h1'.2) (by omega) (by omega) (fun j hj => (t1 j hj).trans (hT j hj)) (fun p hp => (l1 p hp).trans (hL p hp)) (CS_Fr hn hCR fr1) p2' fb.1 (by omega)
          refine ⟨h', ?_, q2, FrT_tr fr1 q3, fun j hj => (q4 j hj).trans (t1 j hj), fun p hp => (q5 p hp).trans (l1 p hp)⟩
          have ec : h.1 (42 + k) i = I (C k i) := hCR.2.2 k i (by omega) hiP
          have ec1 : h1'.1 (42 + k) i = I (C k i) := (p3.2 (42 + k) i (by omega) (by omega) (by omega) (by omega)).trans ((by simp (disch := omega) only [hs_ne] : mm_hset (mm_hset h.1 51 k (I i)) 50 i (I (f i + C k i)) (42 + k) i = h.1 (42 + k) i).trans ec)
          have e50 : h.1 50 i = I (f i) := hL i hiP
          have em : (if sum < f i + C k i then I (f i + C k i) else I sum) = I (mx (updP f i (C k i)) P) := by rw [mu, I_ite]
          have eb : f i + C k i - C k i = f i := by omega
          simp (disch := omega) only [L_S_tryShares_25, hCR.2.1, I_le, if_neg (show ¬ (P : Int) ≤ (i : Int) by omega), ck_in, I_nat, Int.toNat_natCast, hw_s, hs_ne, hs_eq, e50, ec, I_add, I_lt, em, iw_s, I_succ]
          rw [show ((k : Int) + 1) = ((k + 1 : Nat) : Int) from rfl, p1, bd_s]
          simp (disch := omega) only [v50, ec1, I_sub, eb, hw_s]
          exact q1
      obtain ⟨h', q1, q2⟩ := inner P 0 5000 s h (by omega) (by omega) hT hL hCR hS h2 h3
      have q1' : L_S_tryShares_25 (F_S_tryShares fuel) (I k) (I sum) 5000 (I 0) h = some h' := q1
      refine ⟨h', ?_, q2⟩
      simp (disch := omega) only [F_S_tryShares, hS.1, hCR.1, I_lt, if_pos c, if_pos (show (k : Int) < (n : Int) by omega), q1', bd_s]
    · have e : fO (fun l => mx (ldS C k l f) P) pre s (sh P (d + 1)) = s := fO_no (fun l _ => by
        have := es l
        show s.1 ≤ mx (ldS C k l f) P
        omega)
      rw [e]
      refine ⟨h, ?_, hS, FrT_rfl h, fun j hj => rfl, fun j hj => rfl⟩
      simp (disch := omega) only [F_S_tryShares, hS.1, I_lt, if_neg c]
-- shares as the digits of numbers
def dg (P : Nat) : Nat → Nat → List Nat
  | 0, _ => []
  | n + 1, k => dg P n (k / P) ++ [k % P]
theorem dg_len (P : Nat) : ∀ n k, (dg P n k).length = n := by
  intro n
  induction n with
  | zero => intro k; rfl
  | succ n ih => intro k; show (dg P n (k / P) ++ [k % P]).length = n + 1; rw [List.length_append, ih]; rfl
theorem dg_front {P : Nat} (hP : 0 < P) : ∀ n i r, i < P → r < P ^ n → dg P (n + 1) (i * P ^ n + r) = i :: dg P n r := by
  intro n
  induction n with
  | zero =>
    intro i r hi hr
    have r0 : r = 0 := by rw [Nat.pow_zero] at hr; omega
    subst r0
    show [] ++ [(i * P ^ 0 + 0) % P] = [i]
    rw [Nat.pow_zero, Nat.mul_one, Nat.add_zero, Nat.mod_eq_of_lt hi]
    rfl
  | succ n ih =>
    intro i r hi hr
    have e1 : i * P ^ (n + 1) + r = r + i * P ^ n * P := by rw [Nat.pow_succ, Nat.mul_assoc, Nat.add_comm]
    have e2 : (i * P ^ (n + 1) + r) / P = i * P ^ n + r / P := by rw [e1, Nat.add_mul_div_right _ _ hP, Nat.add_comm]
    have e3 : (i * P ^ (n + 1) + r) % P = r % P := by rw [e1, Nat.add_mul_mod_self_right]
    have hr' : r / P < P ^ n := by
      rw [Nat.pow_succ, Nat.mul_comm] at hr
      exact Nat.div_lt_of_lt_mul hr
    show dg P (n + 1) ((i * P ^ (n + 1) + r) / P) ++ [(i * P ^ (n + 1) + r) % P] = i :: (dg P n (r / P) ++ [r % P])
    rw [e2, e3, ih i (r / P) hi hr']
    rfl
theorem sh_dg {P : Nat} (hP : 0 < P) : ∀ n, (List.range (P ^ n)).map (dg P n) = sh P n := by
  intro n
  induction n with
  | zero => rfl
  | succ n ih =>
    have blk : ∀ c i, i + c ≤ P → shx (sh P n) c i = (List.range' (i * P ^ n) (c * P ^ n)).map (dg P (n + 1)) := by
      intro c
      induction c with
      | zero => intro i h; rw [Nat.zero_mul]; rfl
      | succ c ihc =>
        intro i h
        show (sh P n).map (List.cons i) ++ shx (sh P n) c (i + 1) = _
        rw [ihc (i + 1) (by omega), ← ih, List.map_map]
        have e1 : (c + 1) * P ^ n = P ^ n + c * P ^ n := by rw [Nat.add_mul, Nat.one_mul, Nat.add_comm]
        have e2 : (i + 1) * P ^ n = i * P ^ n + 1 * P ^ n := by rw [Nat.add_mul]
        have e3 : (List.range (P ^ n)).map ((List.cons i) ∘ dg P n) = (List.range' (i * P ^ n) (P ^ n)).map (dg P (n + 1)) := by
          rw [List.range'_eq_map_range, List.map_map]
          exact List.map_congr_left (fun r hr => (dg_front hP n i r (by omega) (List.mem_range.mp hr)).symm)
        rw [e3, e1, e2, ← List.map_append, Nat.one_mul, List.range'_append_1]
    show _ = shx (sh P n) P 0
    rw [blk P 0 (by omega), Nat.zero_mul, Nat.pow_succ, Nat.mul_comm, List.range_eq_range']
theorem dg_get {P : Nat} : ∀ n k i, i < n → (dg P n k).getD i 0 = k / P ^ (n - 1 - i) % P := by
  intro n
  induction n with
  | zero => intro k i h; omega
  | succ n ih =>
    intro k i h
    show (dg P n (k / P) ++ [k % P]).getD i 0 = _
    rw [getD_apN (by rw [dg_len]; omega), dg_len]
    by_cases c : i = n
    · rw [if_pos c, c, show n + 1 - 1 - n = 0 by omega, Nat.pow_zero, Nat.div_one]
    · rw [if_neg c, ih (k / P) i (by omega), Nat.div_div_eq_div_mul, show n + 1 - 1 - i = (n - 1 - i) + 1 by omega, Nat.pow_succ, Nat.mul_comm]
theorem ldS_app {C : Nat → Nat → Int} : ∀ (l : List Nat) (x k : Nat) (f : Nat → Int), ldS C k (l ++ [x]) f = updP (ldS C k l f) x (C (k + l.length) x) := by
  intro l
  induction l with
  | nil => intro x k f; rfl
  | cons i l ih =>
    intro x k f
    show ldS C (k + 1) (l ++ [x]) (updP f i (C k i)) = updP (ldS C (k + 1) l (updP f i (C k i))) x (C (k + (l.length + 1)) x)
    rw [ih, show k + 1 + l.length = k + (l.length + 1) by omega]
def ldM (C : Nat → Nat → Int) (P : Nat) : Nat → Nat → (Nat → Int) → Nat → Int
  | 0, _, f => f
  | b + 1, r, f => ldM C P b (r / P) (updP f (r % P) (C b (r % P)))
theorem upd_cm (f : Nat → Int) (x y : Nat) (c e : Int) : updP (updP f x c) y e = updP (updP f y e) x c := by
  funext p
  unfold updP
  split <;> split <;> omega
theorem ldM_upd {C : Nat → Nat → Int} {P : Nat} : ∀ (n r : Nat) (f : Nat → Int) (x : Nat) (c : Int), ldM C P n r (updP f x c) = updP (ldM C P n r f) x c := by
  intro n
  induction n with
  | zero => intro r f x c; rfl
  | succ n ih =>
    intro r f x c
    show ldM C P n (r / P) (updP (updP f x c) (r % P) (C n (r % P))) = updP (ldM C P n (r / P) (updP f (r % P) (C n (r % P)))) x c
    rw [upd_cm, ih]
theorem ldM_S {C : Nat → Nat → Int} {P : Nat} : ∀ (n k : Nat) (f : Nat → Int), ldM C P n k f = ldS C 0 (dg P n k) f := by
  intro n
  induction n with
  | zero => intro k f; rfl
  | succ n ih =>
    intro k f
    show ldM C P n (k / P) (updP f (k % P) (C n (k % P))) = ldS C 0 (dg P n (k / P) ++ [k % P]) f
    rw [ldM_upd, ih, ldS_app, dg_len, Nat.zero_add]
