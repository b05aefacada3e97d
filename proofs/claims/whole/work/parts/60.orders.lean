-- the class's search for an order: all orders gone through, what can't be better left out
def cs (C : Nat → Nat → Int) : Nat → List Nat → Int → Int
  | _, [], s => s
  | k, i :: l, s => cs C (k + 1) l (s + C k i)
def fO (g : List Nat → Int) (pre : List Nat) (s : Int × List Nat) (ls : List (List Nat)) : Int × List Nat := ls.foldl (fun s l => if g l < s.1 then (g l, pre ++ l) else s) s
theorem cs_ge {C : Nat → Nat → Int} (hC : ∀ a i, 0 ≤ C a i) : ∀ (l : List Nat) (k : Nat) (s : Int), s ≤ cs C k l s := by
  intro l
  induction l with
  | nil => intro k s; exact Int.le_refl s
  | cons i l ih =>
    intro k s
    have := hC k i
    have := ih (k + 1) (s + C k i)
    show s ≤ cs C (k + 1) l (s + C k i)
    omega
theorem fO_no {g : List Nat → Int} {pre : List Nat} {s : Int × List Nat} : ∀ {ls : List (List Nat)}, (∀ l, l ∈ ls → s.1 ≤ g l) → fO g pre s ls = s := by
  intro ls
  induction ls with
  | nil => intro _; rfl
  | cons l ls ih =>
    intro h
    have h1 := h l (List.mem_cons_self ..)
    show fO g pre (if g l < s.1 then (g l, pre ++ l) else s) ls = s
    rw [if_neg (by omega)]
    exact ih (fun x hx => h x (List.mem_cons_of_mem _ hx))
theorem fO_app {g : List Nat → Int} {pre : List Nat} {s : Int × List Nat} {xs ys : List (List Nat)} : fO g pre s (xs ++ ys) = fO g pre (fO g pre s xs) ys := List.foldl_append
theorem fO_map {g : List Nat → Int} {pre : List Nat} {i : Nat} : ∀ {ls : List (List Nat)} {s : Int × List Nat}, fO g pre s (ls.map (List.cons i)) = fO (fun l => g (i :: l)) (pre ++ [i]) s ls := by
  intro ls
  induction ls with
  | nil => intro s; rfl
  | cons l ls ih =>
    intro s
    show fO g pre (if g (i :: l) < s.1 then (g (i :: l), pre ++ (i :: l)) else s) (ls.map (List.cons i)) = fO (fun l => g (i :: l)) (pre ++ [i]) (if g (i :: l) < s.1 then (g (i :: l), pre ++ [i] ++ l) else s) ls
    rw [ih, show pre ++ [i] ++ l = pre ++ (i :: l) by simp]
theorem fO_b {g : List Nat → Int} {pre : List Nat} (hg : ∀ l, 0 ≤ g l) : ∀ {ls : List (List Nat)} {s : Int × List Nat}, 0 ≤ s.1 → 0 ≤ (fO g pre s ls).1 ∧ (fO g pre s ls).1 ≤ s.1 := by
  intro ls
  induction ls with
  | nil => intro s h; exact ⟨h, Int.le_refl _⟩
  | cons l ls ih =>
    intro s h
    have h1 := hg l
    show 0 ≤ (fO g pre (if g l < s.1 then (g l, pre ++ l) else s) ls).1 ∧ (fO g pre (if g l < s.1 then (g l, pre ++ l) else s) ls).1 ≤ s.1
    by_cases c : g l < s.1
    · rw [if_pos c]
      have q := ih (s := (g l, pre ++ l)) h1
      have q2 : (fO g pre (g l, pre ++ l) ls).1 ≤ g l := q.2
      exact ⟨q.1, by omega⟩
    · rw [if_neg c]
      exact ih h
def SR (n : Nat) (h : MH) (s : Int × List Nat) : Prop := h.1 40 8 = I s.1 ∧ (s.1 < 1000000000 → ∀ j, j < n → h.1 52 j = I ((s.2.getD j 0 : Nat) : Int))
def FrS (h h' : MH) : Prop := h'.2 = h.2 ∧ ∀ k i, ¬ k = 51 → ¬ k = 52 → ¬ (k = 40 ∧ i = 8) → h'.1 k i = h.1 k i
theorem FrS_rfl (h : MH) : FrS h h := ⟨rfl, fun _ _ _ _ _ => rfl⟩
theorem FrS_tr {a b c : MH} (p : FrS a b) (q : FrS b c) : FrS a c := ⟨q.1.trans p.1, fun k i x y z => (q.2 k i x y z).trans (p.2 k i x y z)⟩
def CR (n : Nat) (C : Nat → Nat → Int) (h : MH) : Prop := h.1 40 6 = I n ∧ ∀ a i, a < n → i < n → h.1 (42 + a) i = I (C a i)
theorem CR_Fr {n : Nat} (hn : n ≤ 6) {C : Nat → Nat → Int} {h h' : MH} (p : CR n C h) (q : FrS h h') : CR n C h' :=
  ⟨(q.2 40 6 (by omega) (by omega) (by omega)).trans p.1, fun a i ha hi => (q.2 (42 + a) i (by omega) (by omega) (by omega)).trans (p.2 a i ha hi)⟩
theorem getD_apN {l : List Nat} {x i : Nat} (h : i < l.length + 1) : (l ++ [x]).getD i 0 = if i = l.length then x else l.getD i 0 := by
  by_cases c : i = l.length
  · subst c
    simp
  · rw [if_neg c]
    have : i < l.length := by omega
    simp [List.getD_eq_getElem?_getD, List.getElem?_append_left this]
theorem Fr51 {h : MH} {k : Nat} {x : Int32} : FrS h (mm_hset h.1 51 k x, h.2) := ⟨rfl, fun a i p _ _ => hs_ne (fun q => p q.1)⟩
theorem SR51 {n : Nat} {h : MH} {s : Int × List Nat} {k : Nat} {x : Int32} (p : SR n h s) : SR n (mm_hset h.1 51 k x, h.2) s :=
  ⟨by simp (disch := omega) only [hs_ne]; exact p.1, fun q j hj => by simp (disch := omega) only [hs_ne]; exact p.2 q j hj⟩
theorem t_ord {n : Nat} (hn : n ≤ 6) {C : Nat → Nat → Int} (hC : ∀ a i, 0 ≤ C a i ∧ C a i ≤ 432) : ∀ (d k used fuel : Nat) (sum : Int) (pre : List Nat) (s : Int × List Nat) (h : MH), k + d = n → d < fuel → pre.length = k →
    (∀ j, j < k → h.1 51 j = I ((pre.getD j 0 : Nat) : Int)) → CR n C h → SR n h s → 0 ≤ sum → sum ≤ 432 * k → 0 ≤ s.1 → s.1 ≤ 1000000000 → used < 64 →
    ∃ h', F_S_tryOrders fuel (I k) (I used) (I sum) h = some h' ∧ SR n h' (fO (fun l => cs C k l sum) pre s (pm n d used)) ∧ FrS h h' ∧ ∀ j, j < k → h'.1 51 j = h.1 51 j := by
  have hC0 : ∀ a i, 0 ≤ C a i := fun a i => (hC a i).1
  intro d
  induction d with
  | zero =>
    intro k used fuel sum pre s h hk hf hp hT hCR hS h0 h1 h2 h3 hu
    obtain ⟨m, rfl⟩ := sfuel hf
    by_cases c : sum < s.1
    · have e : fO (fun l => cs C k l sum) pre s (pm n 0 used) = (sum, pre) := by
        show (if sum < s.1 then (sum, pre ++ []) else s) = _
        rw [if_pos c, List.append_nil]
      rw [e]
      refine ⟨(mm_hcpy (mm_hset h.1 40 8 (I sum)) 51 52 0 0 6, h.2), ?_, ⟨?_, fun _ j hj => ?_⟩, ⟨rfl, fun a i n1 n2 n3 => ?_⟩, fun j hj => ?_⟩
      · simp (disch := omega) only [F_S_tryOrders, hS.1, hCR.1, I_lt, if_pos c, F_S_keepTried, hw_s, n_0, n_6, bd_s]
        rw [if_neg (by omega)]
      · show mm_hcpy (mm_hset h.1 40 8 (I sum)) 51 52 0 0 6 40 8 = I sum
        rw [cpy_ne (by omega), hs_eq]
      · show mm_hcpy (mm_hset h.1 40 8 (I sum)) 51 52 0 0 6 52 j = _
        rw [cpy_in (by omega), hs_ne (by omega)]
        exact hT j (by omega)
      · show mm_hcpy (mm_hset h.1 40 8 (I sum)) 51 52 0 0 6 a i = _
        rw [cpy_ne n2, hs_ne n3]
      · show mm_hcpy (mm_hset h.1 40 8 (I sum)) 51 52 0 0 6 51 j = _
        rw [cpy_ne (by omega), hs_ne (by omega)]
    · have e : fO (fun l => cs C k l sum) pre s (pm n 0 used) = s := fO_no (fun l _ => by
        have := cs_ge hC0 l k sum
        show s.1 ≤ cs C k l sum
        omega)
      rw [e]
      refine ⟨h, ?_, hS, FrS_rfl h, fun j hj => rfl⟩
      simp (disch := omega) only [F_S_tryOrders, hS.1, I_lt, if_neg c]
  | succ d ih =>
    intro k used fuel sum pre s h hk hf hp hT hCR hS h0 h1 h2 h3 hu
    obtain ⟨fuel, rfl⟩ := sfuel hf
    by_cases c : sum < s.1
    · have inner : ∀ (c i m : Nat) (s : Int × List Nat) (h : MH), i + c = n → c < m → (∀ j, j < k → h.1 51 j = I ((pre.getD j 0 : Nat) : Int)) → CR n C h → SR n h s → 0 ≤ s.1 → s.1 ≤ 1000000000 →
          ∃ h', L_S_tryOrders_26 (F_S_tryOrders fuel) (I k) (I used) (I sum) m (I i) h = some h' ∧ SR n h' (fO (fun l => cs C k l sum) pre s (pmx used (fun i => pm n d (used ||| 2 ^ i)) c i)) ∧ FrS h h' ∧ ∀ j, j < k → h'.1 51 j = h.1 51 j := by
        intro c
        induction c with
        | zero =>
          intro i m s h hi hm hT hCR hS h2 h3
          obtain ⟨m, rfl⟩ := sfuel hm
          refine ⟨h, ?_, hS, FrS_rfl h, fun j hj => rfl⟩
          simp (disch := omega) only [L_S_tryOrders_26, hCR.1, I_le]
          rw [if_pos (by omega)]
        | succ c ihc =>
          intro i m s h hi hm hT hCR hS h2 h3
          obtain ⟨m, rfl⟩ := sfuel hm
          have bi := bitI (m := used) (i := i) hu (by omega)
          have bl := bt_le used i
          show ∃ h', _ ∧ SR n h' (fO (fun l => cs C k l sum) pre s ((if bt used i = 1 then [] else (pm n d (used ||| 2 ^ i)).map (List.cons i)) ++ pmx used (fun i => pm n d (used ||| 2 ^ i)) c (i + 1))) ∧ _
          rw [fO_app]
          by_cases b : bt used i = 1
          · rw [if_pos b]
            obtain ⟨h', p1, p2⟩ := ihc (i + 1) m s h (by omega) (by omega) hT hCR hS h2 h3
            refine ⟨h', ?_, p2⟩
            simp (disch := omega) only [L_S_tryOrders_26, hCR.1, I_le, if_neg (show ¬ (n : Int) ≤ (i : Int) by omega), bi, zero_I, I_eq, b, I_succ]
            rw [if_pos (by omega)]
            exact p1
          · rw [if_neg b, fO_map]
            have c0 := hC k i
            have hT1 : ∀ j, j < k + 1 → mm_hset h.1 51 k (I i) 51 j = I (((pre ++ [i]).getD j 0 : Nat) : Int) := by
              intro j hj
              rw [getD_apN (by omega)]
              by_cases jk : j = k
              · rw [if_pos (by omega), jk, hs_eq]
              · rw [if_neg (by omega), hs_ne (by omega)]
                exact hT j (by omega)
            obtain ⟨h1', p1, p2, p3, p4⟩ := ih (k + 1) (used ||| 2 ^ i) fuel (sum + C k i) (pre ++ [i]) s (mm_hset h.1 51 k (I i), h.2) (by omega) (by omega) (by simp [hp]) hT1 (CR_Fr hn hCR Fr51) (SR51 hS) (by omega) (by omega) h2 h3 (or64 hu (by omega))
            have fr1 := FrS_tr (Fr51 (h := h) (k := k) (x := I i)) p3
            have t1 : ∀ j, j < k → h1'.1 51 j = h.1 51 j := fun j hj => (p4 j (by omega)).trans (hs_ne (by omega))
            have fb := fO_b (g := fun l => cs C (k + 1) l (sum + C k i)) (pre := pre ++ [i]) (fun l => by
              have := cs_ge hC0 l (k + 1) (sum + C k i)
              show 0 ≤ cs C (k + 1) l (sum + C k i)
              omega) (ls := pm n d (used ||| 2 ^ i)) (s := s) h2
            obtain ⟨h', q1, q2, q3, q4⟩ := ihc (i + 1) m _ h1' (by omega) (by omega) (fun j hj => (t1 j hj).trans (hT j hj)) (CR_Fr hn hCR fr1) p2 fb.1 (by omega)
            refine ⟨h', ?_, q2, FrS_tr fr1 q3, fun j hj => (q4 j hj).trans (t1 j hj)⟩
            have ec : mm_hset h.1 51 k (I i) (42 + k) i = I (C k i) := (hs_ne (by omega)).trans (hCR.2 k i (by omega) (by omega))
            simp (disch := omega) only [L_S_tryOrders_26, hCR.1, I_le, if_neg (show ¬ (n : Int) ≤ (i : Int) by omega), bi, zero_I, I_eq, if_neg (show ¬ ¬ ((bt used i : Nat) : Int) = 0 by omega), ck_in, I_nat, Int.toNat_natCast, hw_s, ec, orI hu (show i < 6 by omega), I_add, I_succ]
            rw [show ((k : Int) + 1) = ((k + 1 : Nat) : Int) from rfl, p1, bd_s]
            exact q1
      obtain ⟨h', q1, q2⟩ := inner n 0 5000 s h (by omega) (by omega) hT hCR hS h2 h3
      have q1' : L_S_tryOrders_26 (F_S_tryOrders fuel) (I k) (I used) (I sum) 5000 (I 0) h = some h' := q1
      refine ⟨h', ?_, q2⟩
      simp (disch := omega) only [F_S_tryOrders, hS.1, hCR.1, I_lt, if_pos c, if_pos (show (k : Int) < (n : Int) by omega), q1', bd_s]
    · have e : fO (fun l => cs C k l sum) pre s (pm n (d + 1) used) = s := fO_no (fun l _ => by
        have := cs_ge hC0 l k sum
        show s.1 ≤ cs C k l sum
        omega)
      rw [e]
      refine ⟨h, ?_, hS, FrS_rfl h, fun j hj => rfl⟩
      simp (disch := omega) only [F_S_tryOrders, hS.1, I_lt, if_neg c]
def begS (n : Nat) (h : MH) : MH := (mm_hset (mm_hset h.1 40 6 (I n)) 40 8 (I 1000000000), h.2)
theorem c_begin {n : Nat} (hn : n ≤ 6) (h : MH) : F_S_begin (I n) h = some (begS n h) := by
  have e : (if I (n : Int) < I 6 then I (n : Int) else I 6) = I n := by
    simp (disch := omega) only [I_lt, I_ite]
    congr 1
    split <;> omega
  simp only [F_S_begin, e, iw_s, hw_s]
  rfl
theorem beg6 {n : Nat} {h : MH} : (begS n h).1 40 6 = I n := by unfold begS; simp (disch := omega) only [hs_ne, hs_eq]
theorem beg8 {n : Nat} {h : MH} : (begS n h).1 40 8 = I 1000000000 := by unfold begS; simp only [hs_eq]
theorem beg_o {n k i : Nat} {h : MH} (e : ¬ k = 40) : (begS n h).1 k i = h.1 k i := by unfold begS; simp (disch := omega) only [hs_ne]
theorem c_cheap {n : Nat} (hn : n ≤ 6) {C : Nat → Nat → Int} (hC : ∀ a i, 0 ≤ C a i ∧ C a i ≤ 432) {h : MH} (hr : ∀ a i, a < n → i < n → h.1 (42 + a) i = I (C a i)) :
    ∃ h', F_S_cheapestOrder (I n) h = some h' ∧ h'.1 40 6 = I n ∧ SR n h' (fO (fun l => cs C 0 l 0) [] (1000000000, []) (pm n n 0)) ∧ h'.2 = h.2 ∧ ∀ k i, ¬ k = 51 → ¬ k = 52 → ¬ k = 40 → h'.1 k i = h.1 k i := by
  obtain ⟨h', p1, p2, p3, p4⟩ := t_ord hn hC n 0 0 12 0 [] (1000000000, []) (begS n h) (by omega) (by omega) rfl (fun j hj => absurd hj (Nat.not_lt_zero j)) ⟨beg6, fun a i ha hi => (beg_o (by omega)).trans (hr a i ha hi)⟩ ⟨beg8, fun q => absurd q (by show ¬ (1000000000 : Int) < 1000000000; omega)⟩ (by omega) (by omega) (by show (0 : Int) ≤ 1000000000; omega) (by show (1000000000 : Int) ≤ 1000000000; omega) (by omega)
  have p1' : F_S_tryOrders 12 (I 0) (I 0) (I 0) (begS n h) = some h' := p1
  refine ⟨h', ?_, (p3.2 40 6 (by omega) (by omega) (by omega)).trans beg6, p2, p3.1, fun k i a b c => (p3.2 k i a b (by omega)).trans (beg_o c)⟩
  simp only [F_S_cheapestOrder, c_begin hn, bd_s, p1']
theorem c_answer {n : Nat} (hn : n ≤ 6) {h : MH} {s : Int × List Nat} (h6 : h.1 40 6 = I n) (p : SR n h s) (hs : s.1 < 1000000000) {x : Int} (e : i32 x) (hx : -1 ≤ x) :
    F_S_answer (I x) h = some (I (if x < 0 then s.1 else if x < n then ((s.2.getD x.toNat 0 : Nat) : Int) else -9), h) := by
  obtain ⟨l, g⟩ := e
  by_cases c : x < 0
  · simp (disch := omega) only [F_S_answer, zero_I, I_le, if_neg (show ¬ 0 ≤ x by omega), p.1, if_pos c]
  · by_cases d : x < n
    · simp (disch := omega) only [F_S_answer, zero_I, I_le, if_pos (show 0 ≤ x by omega), h6, if_neg (show ¬ (n : Int) ≤ x by omega), ck_in, I_nat, p.2 hs x.toNat (by omega), if_neg c, if_pos d]
    · simp (disch := omega) only [F_S_answer, zero_I, I_le, if_pos (show 0 ≤ x by omega), h6, if_pos (show (n : Int) ≤ x by omega), if_neg c, if_neg d]
-- the model's way through all orders
def fM (f : Nat → Int) : Nat → Nat → Int × Int → Int × Int
  | 0, _, s => s
  | d + 1, k, s => fM f d (k + 1) (if s.2 < 0 then (((k : Nat) : Int), f k) else if s.2 ≤ f k then s else (((k : Nat) : Int), f k))
def rel2 (L : Nat → List Nat) (N : Nat) (s : Int × List Nat) (t : Int × Int) : Prop := 0 ≤ t.2 ∧ s.1 = t.2 ∧ t.2 < 1000000000 ∧ 0 ≤ t.1 ∧ t.1 < N ∧ s.2 = L t.1.toNat
theorem fM_fO2 {g : List Nat → Int} {L : Nat → List Nat} {N : Nat} (hb : ∀ k, k < N → 0 ≤ g (L k) ∧ g (L k) < 1000000000) : ∀ (d k : Nat) (s : Int × List Nat) (t : Int × Int), k + d ≤ N → rel2 L N s t → rel2 L N (fO g [] s ((List.range' k d).map L)) (fM (fun k => g (L k)) d k t) := by
  intro d
  induction d with
  | zero => intro k s t h r; exact r
  | succ d ih =>
    intro k s t h r
    obtain ⟨r1, r2, r3, r4, r5, r6⟩ := id r
    have b := hb k (by omega)
    show rel2 L N (fO g [] (if g (L k) < s.1 then (g (L k), [] ++ L k) else s) ((List.range' (k + 1) d).map L)) (fM (fun k => g (L k)) d (k + 1) (if t.2 < 0 then (((k : Nat) : Int), g (L k)) else if t.2 ≤ g (L k) then t else (((k : Nat) : Int), g (L k))))
    rw [if_neg (show ¬ t.2 < 0 by omega)]
    by_cases c : t.2 ≤ g (L k)
    · rw [if_pos c, if_neg (by omega)]
      exact ih (k + 1) s t (by omega) r
    · rw [if_neg c, if_pos (by omega)]
      refine ih (k + 1) _ _ (by omega) ⟨b.1, rfl, b.2, by show (0 : Int) ≤ (k : Int); omega, by show (k : Int) < (N : Int); omega, ?_⟩
      show [] ++ L k = L ((k : Int).toNat)
      rw [List.nil_append, Int.toNat_natCast]
theorem fM_fO {g : List Nat → Int} {L : Nat → List Nat} {N : Nat} (hN : 1 ≤ N) (hb : ∀ k, k < N → 0 ≤ g (L k) ∧ g (L k) < 1000000000) (l0 : List Nat) :
    ∃ (b : Nat) (v : Int), b < N ∧ 0 ≤ v ∧ v < 1000000000 ∧ fM (fun k => g (L k)) N 0 (0, -1) = ((b : Int), v) ∧ fO g [] (1000000000, l0) ((List.range N).map L) = (v, L b) := by
  obtain ⟨M, rfl⟩ : ∃ M, N = M + 1 := sfuel hN
  have b := hb 0 (by omega)
  have r := fM_fO2 hb M 1 (g (L 0), L 0) (0, g (L 0)) (by omega) ⟨b.1, rfl, b.2, Int.le_refl _, by show (0 : Int) < ((M + 1 : Nat) : Int); omega, rfl⟩
  have e1 : fM (fun k => g (L k)) (M + 1) 0 (0, -1) = fM (fun k => g (L k)) M 1 (0, g (L 0)) := by
    show fM (fun k => g (L k)) M (0 + 1) (if (-1 : Int) < 0 then (((0 : Nat) : Int), g (L 0)) else _) = _
    rw [if_pos (by omega)]
    rfl
  have e2 : fO g [] (1000000000, l0) ((List.range (M + 1)).map L) = fO g [] (g (L 0), L 0) ((List.range' 1 M).map L) := by
    rw [List.range_eq_range']
    show fO g [] (if g (L 0) < 1000000000 then (g (L 0), [] ++ L 0) else _) ((List.range' (0 + 1) M).map L) = _
    rw [if_pos b.2]
    rfl
  rw [e1, e2]
  obtain ⟨r1, r2, r3, r4, r5, r6⟩ := r
  refine ⟨(fM (fun k => g (L k)) M 1 (0, g (L 0))).1.toNat, (fM (fun k => g (L k)) M 1 (0, g (L 0))).2, by omega, r1, r3, ?_, ?_⟩
  · exact Prod.ext (by simp only; omega) rfl
  · exact Prod.ext r2 r6
/-- a sum over an order, as the model's loops go -/
def sF (C : Nat → Nat → Int) (o : Nat → Nat) : Nat → Nat → Int → Int
  | 0, _, s => s
  | d + 1, k, s => sF C o d (k + 1) (s + C k (o k))
theorem cs_sF {C : Nat → Nat → Int} : ∀ (l pre : List Nat) (s : Int), cs C pre.length l s = sF C (fun j => (pre ++ l).getD j 0) l.length pre.length s := by
  intro l
  induction l with
  | nil => intro pre s; rfl
  | cons i l ih =>
    intro pre s
    have q := ih (pre ++ [i]) (s + C pre.length i)
    rw [show (pre ++ [i]).length = pre.length + 1 by simp, show pre ++ [i] ++ l = pre ++ (i :: l) by simp] at q
    have e : (pre ++ (i :: l)).getD pre.length 0 = i := by simp [List.getD_eq_getElem?_getD]
    show cs C (pre.length + 1) l (s + C pre.length i) = sF C (fun j => (pre ++ (i :: l)).getD j 0) l.length (pre.length + 1) (s + C pre.length ((pre ++ (i :: l)).getD pre.length 0))
    rw [e]
    exact q
theorem sF_b {C : Nat → Nat → Int} (hC : ∀ a i, 0 ≤ C a i ∧ C a i ≤ 432) {o : Nat → Nat} : ∀ (d k : Nat) (s : Int), 0 ≤ s → 0 ≤ sF C o d k s ∧ sF C o d k s ≤ s + 432 * d := by
  intro d
  induction d with
  | zero => intro k s h; exact ⟨h, by show s ≤ _; omega⟩
  | succ d ih =>
    intro k s h
    have c := hC k (o k)
    have q := ih (k + 1) (s + C k (o k)) (by omega)
    show 0 ≤ sF C o d (k + 1) (s + C k (o k)) ∧ sF C o d (k + 1) (s + C k (o k)) ≤ _
    omega
