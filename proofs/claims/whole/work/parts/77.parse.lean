-- 3 house: the letters, read
def isD (x : Int) : Bool := decide (48 ≤ x) && decide (x ≤ 57)
theorem isD_t {x : Int} : isD x = true ↔ (48 ≤ x ∧ x ≤ 57) := by
  unfold isD
  rw [Bool.and_eq_true, decide_eq_true_eq, decide_eq_true_eq]
def tkD : Nat → List Int → List Int × List Int
  | 0, r => ([], r)
  | _ + 1, [] => ([], [])
  | m + 1, x :: r => if isD x = true then ((x - 48) :: (tkD m r).1, (tkD m r).2) else ([], x :: r)
def mostL (c : Int) : Nat := if c = 98 then 8 else if c = 112 then 3 else if c = 116 then 9 else if c = 119 then 2 else 0
def leastL (c : Int) : Nat := if c = 116 then 1 else mostL c
abbrev Stm : Type := Nat × Int × List Int
def pS2 (p : Nat) (c : Int) (ds : List Int) : List Int → Nat ⊕ (Stm × List Int × Nat)
  | [] => .inl (p + 1 + ds.length)
  | x :: r3 => if x = 59 then .inr ((p, c, ds), r3, p + 1 + ds.length + 1) else .inl (p + 1 + ds.length)
def pS : List Int → Nat → Nat ⊕ (Stm × List Int × Nat)
  | [], p => .inl p
  | c :: r1, p => if mostL c = 0 then .inl p else if (tkD (mostL c) r1).1.length < leastL c then .inl (p + 1 + (tkD (mostL c) r1).1.length) else pS2 p c (tkD (mostL c) r1).1 (tkD (mostL c) r1).2
def pA1 (s : Stm) : Nat ⊕ List Stm → Nat ⊕ List Stm
  | .inl q => .inl q
  | .inr ss => .inr (s :: ss)
def pA : Nat → List Int → Nat → Nat ⊕ List Stm
  | 0, _, p => .inl p
  | f + 1, r, p => match pS r p with
    | .inl q => .inl q
    | .inr (s, [], _) => .inr [s]
    | .inr (s, y :: r4, q) => pA1 s (pA f (y :: r4) q)
theorem pS_c (c : Int) (r1 : List Int) (p : Nat) : pS (c :: r1) p = if mostL c = 0 then .inl p else if (tkD (mostL c) r1).1.length < leastL c then .inl (p + 1 + (tkD (mostL c) r1).1.length) else pS2 p c (tkD (mostL c) r1).1 (tkD (mostL c) r1).2 := rfl
theorem pS2_c (p : Nat) (c : Int) (ds : List Int) (x : Int) (r3 : List Int) : pS2 p c ds (x :: r3) = if x = 59 then .inr ((p, c, ds), r3, p + 1 + ds.length + 1) else .inl (p + 1 + ds.length) := rfl
theorem pS2_n (p : Nat) (c : Int) (ds : List Int) : pS2 p c ds [] = .inl (p + 1 + ds.length) := rfl
theorem pA_l {f p q : Nat} {r : List Int} (h : pS r p = .inl q) : pA (f + 1) r p = .inl q := by unfold pA; rw [h]
theorem pA_e {f p q : Nat} {r : List Int} {s : Stm} (h : pS r p = .inr (s, [], q)) : pA (f + 1) r p = .inr [s] := by unfold pA; rw [h]
theorem pA_c {f p q : Nat} {r r4 : List Int} {y : Int} {s : Stm} (h : pS r p = .inr (s, y :: r4, q)) : pA (f + 1) r p = pA1 s (pA f (y :: r4) q) := by
  show (match pS r p with
    | Sum.inl q => (Sum.inl q : Nat ⊕ List Stm)
    | Sum.inr (s, [], _) => Sum.inr [s]
    | Sum.inr (s, y :: r4, q) => pA1 s (pA f (y :: r4) q)) = _
  rw [h]
theorem tkD_p : ∀ (m : Nat) (r : List Int), r = (tkD m r).1.map (fun d => d + 48) ++ (tkD m r).2 ∧ (tkD m r).1.length ≤ m ∧ (∀ d, d ∈ (tkD m r).1 → 0 ≤ d ∧ d ≤ 9) ∧ ((tkD m r).1.length < m → ∀ x r3, (tkD m r).2 = x :: r3 → ¬ isD x = true) := by
  intro m
  induction m with
  | zero => intro r; exact ⟨rfl, Nat.le_refl 0, fun d h => absurd h List.not_mem_nil, fun h => absurd h (Nat.lt_irrefl 0)⟩
  | succ m ih =>
    intro r
    cases r with
    | nil => exact ⟨rfl, Nat.zero_le _, fun d h => absurd h List.not_mem_nil, fun _ x r3 e => absurd e (by simp [tkD])⟩
    | cons x r =>
      obtain ⟨a1, a2, a3, a4⟩ := ih r
      by_cases c : isD x = true
      · have e : tkD (m + 1) (x :: r) = ((x - 48) :: (tkD m r).1, (tkD m r).2) := by
          show (if isD x = true then _ else _) = _
          rw [if_pos c]
        have cb := isD_t.mp c
        rw [e]
        refine ⟨?_, ?_, fun d h => ?_, fun h x' r3 e' => a4 (by simp only [List.length_cons] at h; omega) x' r3 e'⟩
        · show x :: r = (x - 48 + 48) :: ((tkD m r).1.map (fun d => d + 48) ++ (tkD m r).2)
          rw [← a1, show x - 48 + 48 = x by omega]
        · show (tkD m r).1.length + 1 ≤ m + 1
          omega
        · rcases List.mem_cons.mp h with q | q
          · omega
          · exact a3 d q
      · have e : tkD (m + 1) (x :: r) = ([], x :: r) := by
          show (if isD x = true then _ else _) = _
          rw [if_neg c]
        rw [e]
        refine ⟨rfl, Nat.zero_le _, fun d h => absurd h List.not_mem_nil, fun _ x' r3 e' => ?_⟩
        have : x = x' := (List.cons.inj e').1
        rw [← this]
        exact c
theorem tkD_len (m : Nat) (r : List Int) : r.length = (tkD m r).1.length + (tkD m r).2.length := by
  have h := congrArg List.length (tkD_p m r).1
  rw [List.length_append, List.length_map] at h
  exact h
/-- the letters as they lie in the class's row -/
def LT (l : List Int) (h : MH) : Prop := h.1 29 1 = I l.length ∧ ∀ i, i < l.length → h.1 30 i = I (l.getD i 0)
def Lok (l : List Int) : Prop := l.length ≤ 96 ∧ ∀ x, x ∈ l → 0 ≤ x ∧ x ≤ 255
theorem getL_mid {pre r : List Int} {x : Int} : (pre ++ x :: r).getD pre.length 0 = x := by simp [List.getD_eq_getElem?_getD]
theorem LT_at {l pre r : List Int} {x : Int} {h : MH} (T : LT l h) (e : l = pre ++ x :: r) : h.1 30 pre.length = I x := by
  have hl : pre.length < l.length := by rw [e]; simp
  rw [T.2 _ hl, e, getL_mid]
theorem Lok_at {l pre r : List Int} {x : Int} (T : Lok l) (e : l = pre ++ x :: r) : 0 ≤ x ∧ x ≤ 255 ∧ pre.length < l.length ∧ l.length = pre.length + 1 + r.length := by
  have m : x ∈ l := by rw [e]; simp
  have q := T.2 x m
  have hl : l.length = pre.length + 1 + r.length := by rw [e]; simp; omega
  exact ⟨q.1, q.2, by omega, hl⟩
section FPL
variable {h : MH} {l : List Int}
theorem c_mostD {c : Int} (h0 : 0 ≤ c) (h1 : c ≤ 255) : F_T_mostDigits (I c) h = some (I ((mostL c : Nat) : Int), h) := by
  unfold mostL
  simp (disch := omega) only [F_T_mostDigits, I_eq]
  by_cases c1 : c = 98
  · rw [if_pos c1, if_pos c1]; rfl
  · rw [if_neg c1, if_neg c1]
    by_cases c2 : c = 112
    · rw [if_pos c2, if_pos c2]; rfl
    · rw [if_neg c2, if_neg c2]
      by_cases c3 : c = 116
      · rw [if_pos c3, if_pos c3]; rfl
      · rw [if_neg c3, if_neg c3]
        by_cases c4 : c = 119
        · rw [if_pos c4, if_pos c4]; rfl
        · rw [if_neg c4, if_neg c4]; rfl
theorem l_fpD (K : Lok l) (T : LT l h) : ∀ (m : Nat) (r pre : List Int) (ls : Int) (n : Nat), l = pre ++ r → m ≤ 9 →
    L_T_faultPlace_9 (n + (tkD m r).1.length) (I 1) (I ls) (I m) (I pre.length) h = L_T_faultPlace_9 n (I 1) (I (ls - ((tkD m r).1.length : Int))) (I ((m : Int) - ((tkD m r).1.length : Int))) (I ((pre.length + (tkD m r).1.length : Nat) : Int)) h := by
  have triv : ∀ (m : Nat) (pre : List Int) (ls : Int) (n : Nat), L_T_faultPlace_9 (n + 0) (I 1) (I ls) (I m) (I pre.length) h = L_T_faultPlace_9 n (I 1) (I (ls - ((0 : Nat) : Int))) (I ((m : Int) - ((0 : Nat) : Int))) (I ((pre.length + 0 : Nat) : Int)) h := by
    intro m pre ls n
    rw [show ls - ((0 : Nat) : Int) = ls by omega, show (m : Int) - ((0 : Nat) : Int) = (m : Int) by omega]
    rfl
  intro m
  induction m with
  | zero => intro r pre ls n e h3; exact triv 0 pre ls n
  | succ m ih =>
    intro r pre ls n e h3
    cases r with
    | nil => exact triv (m + 1) pre ls n
    | cons x r =>
      obtain ⟨x0, x1, pl, ll⟩ := Lok_at K e
      have hx := LT_at T e
      have k96 := K.1
      by_cases c : isD x = true
      · have cb := isD_t.mp c
        have et : tkD (m + 1) (x :: r) = ((x - 48) :: (tkD m r).1, (tkD m r).2) := by
          show (if isD x = true then _ else _) = _
          rw [if_pos c]
        have g := ih r (pre ++ [x]) (ls - 1) n (by rw [e]; simp) (by omega)
        rw [show (pre ++ [x]).length = pre.length + 1 by simp] at g
        rw [et]
        show L_T_faultPlace_9 (n + ((tkD m r).1.length + 1)) (I 1) (I ls) (I ((m + 1 : Nat) : Int)) (I pre.length) h = L_T_faultPlace_9 n (I 1) (I (ls - (((tkD m r).1.length + 1 : Nat) : Int))) (I (((m + 1 : Nat) : Int) - (((tkD m r).1.length + 1 : Nat) : Int))) (I ((pre.length + ((tkD m r).1.length + 1) : Nat) : Int)) h
        have e1 : I ls + I (-1) = I (ls - 1) := by rw [I_add]; rfl
        have e2 : I ((m + 1 : Nat) : Int) + I (-1) = I (m : Int) := by
          rw [I_add]
          congr 1
          omega
        rw [show n + ((tkD m r).1.length + 1) = (n + (tkD m r).1.length) + 1 by omega]
        simp (disch := omega) only [L_T_faultPlace_9, T.1, I_le, if_neg (show ¬ (l.length : Int) ≤ (pre.length : Int) by omega), ck_in, I_nat, Int.toNat_natCast, hx, zero_I, show (I 1 = I 0) = False from one_ne, not_false_iff, if_true, I_lt, if_neg (show ¬ x < 48 by omega), if_neg (show ¬ 57 < x by omega), if_neg (show ¬ ((m + 1 : Nat) : Int) ≤ 0 by omega), e1, e2, I_succ]
        rw [g]
        congr 2
        · omega
        · omega
        · omega
      · have et : tkD (m + 1) (x :: r) = ([], x :: r) := by
          show (if isD x = true then _ else _) = _
          rw [if_neg c]
        rw [et]
        exact triv (m + 1) pre ls n
/-- what the class's automaton comes to -/
def fpR (l : List Int) (h : MH) (o : Nat ⊕ List Stm) : Option ((Int32 × MH) ⊕ (Int32 × MH)) := match o with
  | .inl q => if q < l.length then some (.inl (I (q : Int), h)) else some (.inr (I 1, h))
  | .inr _ => some (.inr (I 0, h))
theorem mostL_b (c : Int) : mostL c ≤ 9 ∧ leastL c ≤ 9 := by
  unfold leastL mostL
  repeat' split
  all_goals omega
theorem l_fp (K : Lok l) (T : LT l h) : ∀ (f : Nat) (r pre : List Int) (n : Nat) (x2 x3 : Int32), l = pre ++ r → r.length ≤ f → ¬ r = [] → r.length < n →
    L_T_faultPlace_9 n (I 0) x2 x3 (I pre.length) h = fpR l h (pA f r pre.length) := by
  intro f
  induction f with
  | zero =>
    intro r pre n x2 x3 e hf hr
    exact absurd (List.length_eq_zero_iff.mp (by omega)) hr
  | succ f ih =>
    intro r pre n x2 x3 e hf hr hn
    cases r with
    | nil => exact absurd rfl hr
    | cons c r1 =>
      obtain ⟨c0, c1, pl, ll⟩ := Lok_at K e
      have hc := LT_at T e
      have k96 := K.1
      have mb := mostL_b c
      obtain ⟨n, rfl⟩ := sfuel (show r1.length < n by rw [List.length_cons] at hn; omega)
      have md := c_mostD (h := h) c0 c1
      have m0 : (I ((mostL c : Nat) : Int) = I 0) = (mostL c = 0) := by
        rw [I_eq (by omega) (by omega) (by omega) (by omega)]
        exact propext ⟨fun q => by omega, fun q => by omega⟩
      have lv : (if ¬ c = 116 then I ((mostL c : Nat) : Int) else I 1) = I ((leastL c : Nat) : Int) := by
        unfold leastL
        by_cases q : c = 116
        · rw [if_neg (show ¬ ¬ _ from fun z => z q), if_pos q]; rfl
        · rw [if_pos q, if_neg q]
      have c116 : (I c = I 116) = (c = 116) := I_eq (by omega) (by omega) (by omega) (by omega)
      have step : L_T_faultPlace_9 (n + 1) (I 0) x2 x3 (I pre.length) h = if ¬ mostL c = 0 then L_T_faultPlace_9 n (I 1) (I ((leastL c : Nat) : Int)) (I ((mostL c : Nat) : Int)) (I ((pre.length + 1 : Nat) : Int)) h else some (.inl (I pre.length, h)) := by
        simp (disch := omega) only [L_T_faultPlace_9, T.1, I_le, if_neg (show ¬ (l.length : Int) ≤ (pre.length : Int) by omega), ck_in, I_nat, Int.toNat_natCast, hc, zero_I, not_true, if_false, md, bd_s, c116, lv, iw_s, m0, I_succ]
      rw [step]
      by_cases mz : mostL c = 0
      · rw [if_neg (show ¬ ¬ _ from fun z => z mz)]
        have es : pS (c :: r1) pre.length = .inl pre.length := by rw [pS_c, if_pos mz]
        rw [pA_l es]
        show _ = if pre.length < l.length then some (Sum.inl (I (pre.length : Int), h)) else _
        rw [if_pos pl]
      · rw [if_pos mz]
        obtain ⟨t1, t2, t3, t4⟩ := tkD_p (mostL c) r1
        have tl := tkD_len (mostL c) r1
        obtain ⟨ds, hds⟩ : ∃ ds, ds = (tkD (mostL c) r1).1 := ⟨_, rfl⟩
        obtain ⟨r2, hr2⟩ : ∃ r2, r2 = (tkD (mostL c) r1).2 := ⟨_, rfl⟩
        have D := l_fpD K T (mostL c) r1 (pre ++ [c]) ((leastL c : Nat) : Int) (n - ds.length) (by rw [e]; simp) mb.1
        rw [show (pre ++ [c]).length = pre.length + 1 by simp] at D
        have es : pS (c :: r1) pre.length = if ds.length < leastL c then .inl (pre.length + 1 + ds.length) else pS2 pre.length c ds r2 := by rw [pS_c, if_neg mz, hds, hr2]
        rw [← hds] at D t1 t2 t3 t4 tl
        rw [← hr2] at t1 t4 tl
        rw [List.length_cons] at hn hf
        rw [show n - ds.length + ds.length = n by omega] at D
        rw [D]
        obtain ⟨n', hn'⟩ : ∃ n', n - ds.length = n' + 1 := ⟨n - ds.length - 1, by omega⟩
        rw [hn']
        have el : l = (pre ++ [c] ++ ds.map (fun d => d + 48)) ++ r2 := by rw [e, t1]; simp
        have pl2 : (pre ++ [c] ++ ds.map (fun d => d + 48)).length = pre.length + 1 + ds.length := by simp; omega
        cases r2 with
        | nil =>
          have qe : pre.length + 1 + ds.length = l.length := by rw [el]; simp; omega
          have ep : pS (c :: r1) pre.length = .inl (pre.length + 1 + ds.length) := by rw [es, pS2_n]; split <;> rfl
          rw [pA_l ep]
          show _ = if pre.length + 1 + ds.length < l.length then _ else some (Sum.inr (I 1, h))
          rw [if_neg (by omega)]
          simp (disch := omega) only [L_T_faultPlace_9, T.1, I_le]
          rw [if_pos (by omega)]
        | cons x r3 =>
          obtain ⟨x0, x1, pl3, ll3⟩ := Lok_at K el
          have hx := LT_at T el
          rw [pl2] at hx pl3 ll3
          have nd : isD x = true → ds.length = mostL c := fun q => Classical.byContradiction fun w => t4 (by omega) x r3 rfl q
          have faultS : ∀ (b : Bool), (x = 59 ∧ leastL c ≤ ds.length → b = true) → (¬ (x = 59 ∧ leastL c ≤ ds.length) → b = false) → L_T_faultPlace_9 (n' + 1) (I 1) (I (((leastL c : Nat) : Int) - (ds.length : Int))) (I (((mostL c : Nat) : Int) - (ds.length : Int))) (I ((pre.length + 1 + ds.length : Nat) : Int)) h = if b = true then L_T_faultPlace_9 n' (I 0) (I (((leastL c : Nat) : Int) - (ds.length : Int))) (I (((mostL c : Nat) : Int) - (ds.length : Int))) (I ((pre.length + 1 + ds.length + 1 : Nat) : Int)) h else some (.inl (I ((pre.length + 1 + ds.length : Nat) : Int), h)) := by
            intro b hb1 hb2
            simp (disch := omega) only [L_T_faultPlace_9, T.1, I_le, if_neg (show ¬ (l.length : Int) ≤ ((pre.length + 1 + ds.length : Nat) : Int) by omega), ck_in, I_nat, Int.toNat_natCast, hx, zero_I, show (I 1 = I 0) = False from one_ne, not_false_iff, if_true, I_lt, I_eq, I_succ]
            by_cases q59 : x = 59
            · rw [if_neg (show ¬ x < 48 by omega), if_pos (show 57 < x by omega), if_neg (show ¬ ¬ _ from fun z => z q59)]
              by_cases le : leastL c ≤ ds.length
              · rw [hb1 ⟨q59, le⟩, if_neg (by omega), if_pos rfl]
              · rw [hb2 (fun z => le z.2), if_pos (by omega), if_neg (by decide)]
            · rw [hb2 (fun z => q59 z.1), if_neg (show ¬ (false = true) by decide)]
              by_cases a1 : x < 48
              · rw [if_pos a1, if_pos q59]
              · rw [if_neg a1]
                by_cases a2 : 57 < x
                · rw [if_pos a2, if_pos q59]
                · rw [if_neg a2, if_pos (show ((mostL c : Nat) : Int) - (ds.length : Int) ≤ 0 by
                    have := nd (isD_t.mpr ⟨by omega, by omega⟩)
                    omega), if_pos q59]
          by_cases lt : ds.length < leastL c
          · rw [if_pos lt] at es
            rw [pA_l es, faultS false (fun z => by omega) (fun _ => rfl), if_neg (by decide)]
            show _ = if pre.length + 1 + ds.length < l.length then some (Sum.inl (I ((pre.length + 1 + ds.length : Nat) : Int), h)) else _
            rw [if_pos pl3]
          · rw [if_neg lt, pS2_c] at es
            by_cases q59 : x = 59
            · rw [if_pos q59] at es
              rw [faultS true (fun _ => rfl) (fun z => absurd ⟨q59, by omega⟩ z), if_pos rfl]
              cases r3 with
              | nil =>
                rw [pA_e es]
                obtain ⟨n'', rfl⟩ : ∃ n'', n' = n'' + 1 := ⟨n' - 1, by simp only [List.length_cons, List.length_nil] at tl; omega⟩
                have qe : pre.length + 1 + ds.length + 1 = l.length := by rw [ll3]; rfl
                show _ = some (Sum.inr (I 0, h))
                simp (disch := omega) only [L_T_faultPlace_9, T.1, I_le]
                rw [if_pos (by omega)]
              | cons y r4 =>
                rw [pA_c es]
                have g := ih (y :: r4) (pre ++ [c] ++ ds.map (fun d => d + 48) ++ [x]) n' (I (((leastL c : Nat) : Int) - (ds.length : Int))) (I (((mostL c : Nat) : Int) - (ds.length : Int))) (by rw [el]; simp) (by simp only [List.length_cons] at tl ⊢; omega) (by simp) (by simp only [List.length_cons] at tl ⊢; omega)
                have pe : (pre ++ [c] ++ ds.map (fun d => d + 48) ++ [x]).length = pre.length + 1 + ds.length + 1 := by
                  simp
                  omega
                rw [pe] at g
                rw [g]
                rcases pA f (y :: r4) (pre.length + 1 + ds.length + 1) with q | q <;> rfl
            · rw [if_neg q59] at es
              rw [pA_l es, faultS false (fun z => absurd z.1 q59) (fun _ => rfl), if_neg (by decide)]
              show _ = if pre.length + 1 + ds.length < l.length then some (Sum.inl (I ((pre.length + 1 + ds.length : Nat) : Int), h)) else _
              rw [if_pos pl3]
def fpV (o : Nat ⊕ List Stm) : Int := match o with
  | .inl q => (q : Int)
  | .inr _ => -1
theorem pS_le {r : List Int} {p q : Nat} (h : pS r p = .inl q) : q ≤ p + r.length := by
  cases r with
  | nil =>
    have : p = q := Sum.inl.inj h
    omega
  | cons c r1 =>
    have tl := tkD_len (mostL c) r1
    rw [pS_c] at h
    rw [List.length_cons]
    by_cases mz : mostL c = 0
    · rw [if_pos mz] at h
      have : p = q := Sum.inl.inj h
      omega
    · rw [if_neg mz] at h
      by_cases lt : (tkD (mostL c) r1).1.length < leastL c
      · rw [if_pos lt] at h
        have := Sum.inl.inj h
        omega
      · rw [if_neg lt] at h
        rcases hr : (tkD (mostL c) r1).2 with _ | ⟨x, r3⟩
        · rw [hr, pS2_n] at h
          have := Sum.inl.inj h
          omega
        · rw [hr, pS2_c] at h
          rw [hr, List.length_cons] at tl
          by_cases q59 : x = 59
          · rw [if_pos q59] at h
            exact absurd h (by simp)
          · rw [if_neg q59] at h
            have := Sum.inl.inj h
            omega
/-- a statement that was read: its letter, its digits, what is behind it -/
theorem pS_ok {r r3 : List Int} {p q : Nat} {s : Stm} (h : pS r p = .inr (s, r3, q)) : ∃ c ds, s = (p, c, ds) ∧ ¬ mostL c = 0 ∧ leastL c ≤ ds.length ∧ ds.length ≤ mostL c ∧ (∀ d, d ∈ ds → 0 ≤ d ∧ d ≤ 9) ∧ r = c :: (ds.map (fun d => d + 48) ++ 59 :: r3) ∧ q = p + 1 + ds.length + 1 ∧ ds = (tkD (mostL c) (ds.map (fun d => d + 48) ++ 59 :: r3)).1 := by
  cases r with
  | nil => exact absurd h (by simp [pS])
  | cons c r1 =>
    obtain ⟨t1, t2, t3, t4⟩ := tkD_p (mostL c) r1
    rw [pS_c] at h
    by_cases mz : mostL c = 0
    · rw [if_pos mz] at h
      exact absurd h (by simp)
    · rw [if_neg mz] at h
      by_cases lt : (tkD (mostL c) r1).1.length < leastL c
      · rw [if_pos lt] at h
        exact absurd h (by simp)
      · rw [if_neg lt] at h
        rcases hr : (tkD (mostL c) r1).2 with _ | ⟨x, r3'⟩
        · rw [hr, pS2_n] at h
          exact absurd h (by simp)
        · rw [hr, pS2_c] at h
          rw [hr] at t1
          by_cases q59 : x = 59
          · rw [if_pos q59] at h
            have h' := Sum.inr.inj h
            have e1 : (p, c, (tkD (mostL c) r1).1) = s := congrArg Prod.fst h'
            have e2 : r3' = r3 := congrArg (fun z => z.2.1) h'
            have e3 : p + 1 + (tkD (mostL c) r1).1.length + 1 = q := congrArg (fun z => z.2.2) h'
            subst e2
            rw [q59] at t1
            refine ⟨c, (tkD (mostL c) r1).1, e1.symm, mz, by omega, t2, t3, by rw [← t1], e3.symm, by rw [← t1]⟩
          · rw [if_neg q59] at h
            exact absurd h (by simp)
theorem pA_le : ∀ (f : Nat) (r : List Int) (p q : Nat), pA f r p = .inl q → q ≤ p + r.length := by
  intro f
  induction f with
  | zero => intro r p q h; have : p = q := Sum.inl.inj h; omega
  | succ f ih =>
    intro r p q h
    rcases hp : pS r p with q' | ⟨t, r3, q'⟩
    · rw [pA_l hp] at h
      have e : q' = q := Sum.inl.inj h
      rw [← e]
      exact pS_le hp
    · obtain ⟨c, ds, -, -, -, -, -, e1, e2, -⟩ := pS_ok hp
      have e1l := congrArg List.length e1
      rw [List.length_cons, List.length_append, List.length_map, List.length_cons] at e1l
      cases r3 with
      | nil =>
        rw [pA_e hp] at h
        exact absurd h (by simp)
      | cons y r4 =>
        rw [pA_c hp] at h
        rcases hq : pA f (y :: r4) q' with w | w
        · rw [hq] at h
          have e : w = q := Sum.inl.inj h
          have := ih _ _ _ hq
          omega
        · rw [hq] at h
          exact absurd h (by simp [pA1])
theorem c_fault (K : Lok l) (T : LT l h) : F_T_faultPlace h = some (I (fpV (pA 100 l 0)), h) := by
  have k96 := K.1
  cases hl : l with
  | nil =>
    have g : ∀ n, L_T_faultPlace_9 (n + 1) (I 0) (I 0) (I 0) (I 0) h = some (.inr (I 0, h)) := by
      intro n
      have t1 := T.1
      rw [hl] at t1
      have t1' : h.1 29 1 = I 0 := t1
      simp (disch := omega) only [L_T_faultPlace_9, t1', I_le]
      rw [if_pos (by omega)]
    have g' : L_T_faultPlace_9 5000 (I 0) (I 0) (I 0) (I 0) h = _ := g 4999
    have t1 := T.1
    rw [hl] at t1
    have t1' : h.1 29 1 = I 0 := t1
    simp only [F_T_faultPlace, g', be_inr, zero_I, not_true, if_false, t1']
    rfl
  | cons x r =>
    have g := l_fp K T 100 l [] 5000 (I 0) (I 0) rfl (by omega) (by rw [hl]; simp) (by omega)
    have g' : L_T_faultPlace_9 5000 (I 0) (I 0) (I 0) (I 0) h = fpR l h (pA 100 l 0) := g
    have lp : 0 < l.length := by rw [hl]; simp
    rw [← hl]
    simp only [F_T_faultPlace, g']
    rcases hp : pA 100 l 0 with q | q
    · have qb := pA_le 100 l 0 q hp
      show be (if q < l.length then some (Sum.inl (I (q : Int), h)) else some (Sum.inr (I 1, h))) _ _ = some (I (q : Int), h)
      by_cases c : q < l.length
      · rw [if_pos c]
        rfl
      · rw [if_neg c, be_inr]
        dsimp only
        rw [if_pos (show ¬ I 1 = 0 by decide), T.1, show q = l.length by omega]
    · show be (some (Sum.inr (I 0, h))) _ _ = some (I (-1), h)
      rw [be_inr]
      dsimp only
      rw [if_neg (show ¬ ¬ (I 0 = 0) by decide), T.1, if_pos (by rw [zero_I, I_eq (by omega) (by omega) (by omega) (by omega)]; omega)]
end FPL
