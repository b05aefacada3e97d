-- 50 flow
def fl (P Q : Nat → Int) : List Nat → Int → Int → Int
  | [], _, s => s
  | i :: l, u, s => fl P Q l (u + P i) ((if u + P i < s then s else u + P i) + Q i)
def bPQ (P : Nat → Int) : Prop := ∀ i, 0 ≤ P i ∧ P i ≤ 400
theorem fl_ge {P Q : Nat → Int} (hQ : bPQ Q) : ∀ (l : List Nat) (u s : Int), s ≤ fl P Q l u s := by
  intro l
  induction l with
  | nil => intro u s; exact Int.le_refl s
  | cons i l ih =>
    intro u s
    have := hQ i
    have q := ih (u + P i) ((if u + P i < s then s else u + P i) + Q i)
    show s ≤ fl P Q l (u + P i) ((if u + P i < s then s else u + P i) + Q i)
    split at q <;> split <;> omega
theorem fl_b {P Q : Nat → Int} (hP : bPQ P) (hQ : bPQ Q) : ∀ (l : List Nat) (u s : Int) (k : Nat), 0 ≤ u → u ≤ 800 * k → 0 ≤ s → s ≤ 800 * k → 0 ≤ fl P Q l u s ∧ fl P Q l u s ≤ 800 * ((k + l.length : Nat) : Int) := by
  intro l
  induction l with
  | nil => intro u s k h1 h2 h3 h4; exact ⟨h3, h4⟩
  | cons i l ih =>
    intro u s k h1 h2 h3 h4
    have p := hP i
    have q := hQ i
    have g := ih (u + P i) ((if u + P i < s then s else u + P i) + Q i) (k + 1) (by omega) (by omega) (by split <;> omega) (by split <;> omega)
    rw [show k + (i :: l).length = k + 1 + l.length by simp only [List.length_cons]; omega]
    exact g
def CF (n : Nat) (P Q : Nat → Int) (h : MH) : Prop := h.1 40 6 = I n ∧ ∀ i, i < n → h.1 48 i = I (P i) ∧ h.1 49 i = I (Q i)
theorem CF_Fr {n : Nat} {P Q : Nat → Int} {h h' : MH} (p : CF n P Q h) (q : FrS h h') : CF n P Q h' :=
  ⟨(q.2 40 6 (by omega) (by omega) (by omega)).trans p.1, fun i hi => ⟨(q.2 48 i (by omega) (by omega) (by omega)).trans (p.2 i hi).1, (q.2 49 i (by omega) (by omega) (by omega)).trans (p.2 i hi).2⟩⟩
theorem t_flw {n : Nat} (hn : n ≤ 6) {P Q : Nat → Int} (hP : bPQ P) (hQ : bPQ Q) : ∀ (d k used fuel : Nat) (u sum : Int) (pre : List Nat) (s : Int × List Nat) (h : MH), k + d = n → d < fuel → pre.length = k →
    (∀ j, j < k → h.1 51 j = I ((pre.getD j 0 : Nat) : Int)) → CF n P Q h → SR n h s → 0 ≤ u → u ≤ 800 * k → 0 ≤ sum → sum ≤ 800 * k → 0 ≤ s.1 → s.1 ≤ 1000000000 → used < 64 →
    ∃ h', F_S_tryFlows fuel (I k) (I used) (I u) (I sum) h = some h' ∧ SR n h' (fO (fun l => fl P Q l u sum) pre s (pm n d used)) ∧ FrS h h' ∧ ∀ j, j < k → h'.1 51 j = h.1 51 j := by
  intro d
  induction d with
  | zero =>
    intro k used fuel u sum pre s h hk hf hp hT hCR hS u0 u1 h0 h1 h2 h3 hu
    obtain ⟨m, rfl⟩ := sfuel hf
    by_cases c : sum < s.1
    · have e : fO (fun l => fl P Q l u sum) pre s (pm n 0 used) = (sum, pre) := by
        show (if sum < s.1 then (sum, pre ++ []) else s) = _
        rw [if_pos c, List.append_nil]
      rw [e]
      refine ⟨(mm_hcpy (mm_hset h.1 40 8 (I sum)) 51 52 0 0 6, h.2), ?_, ⟨?_, fun _ j hj => ?_⟩, ⟨rfl, fun a i n1 n2 n3 => ?_⟩, fun j hj => ?_⟩
      · simp (disch := omega) only [F_S_tryFlows, hS.1, hCR.1, I_lt, if_pos c, F_S_keepTried, hw_s, n_0, n_6, bd_s]
        rw [if_neg (by omega)]
      · show mm_hcpy (mm_hset h.1 40 8 (I sum)) 51 52 0 0 6 40 8 = I sum
        rw [cpy_ne (by omega), hs_eq]
      · show mm_hcpy (mm_hset h.1 40 8 (I sum)) 51 52 0 0 6 52 j = _
        rw [cpy_in (by omega), hs_ne (by omega)]
        exact hT j (by omega)
      · show mm_hcpy (mm_hset h.1 40 8 (I sum)) 51 52 0 0 6 a i = _
        rw [cpy_ne n2, hs_ne n3]
      · show mm_hcpy (mm_hset h.1 40 8 (I sum)) 51 52 0 0 6 51 j = _
        rw [cpy_ne (by omega), hs_ne (by omega)]
    · have e : fO (fun l => fl P Q l u sum) pre s (pm n 0 used) = s := fO_no (fun l _ => by
        have := fl_ge (P := P) hQ l u sum
        show s.1 ≤ fl P Q l u sum
        omega)
      rw [e]
      refine ⟨h, ?_, hS, FrS_rfl h, fun j hj => rfl⟩
      simp (disch := omega) only [F_S_tryFlows, hS.1, I_lt, if_neg c]
  | succ d ih =>
    intro k used fuel u sum pre s h hk hf hp hT hCR hS u0 u1 h0 h1 h2 h3 hu
    obtain ⟨fuel, rfl⟩ := sfuel hf
    by_cases c : sum < s.1
    · have inner : ∀ (c i m : Nat) (s : Int × List Nat) (h : MH), i + c = n → c < m → (∀ j, j < k → h.1 51 j = I ((pre.getD j 0 : Nat) : Int)) → CF n P Q h → SR n h s → 0 ≤ s.1 → s.1 ≤ 1000000000 →
          ∃ h', L_S_tryFlows_28 (F_S_tryFlows fuel) (I k) (I used) (I u) (I sum) m (I i) h = some h' ∧ SR n h' (fO (fun l => fl P Q l u sum) pre s (pmx used (fun i => pm n d (used ||| 2 ^ i)) c i)) ∧ FrS h h' ∧ ∀ j, j < k → h'.1 51 j = h.1 51 j := by
        intro c
        induction c with
        | zero =>
          intro i m s h hi hm hT hCR hS h2 h3
          obtain ⟨m, rfl⟩ := sfuel hm
          refine ⟨h, ?_, hS, FrS_rfl h, fun j hj => rfl⟩
          simp (disch := omega) only [L_S_tryFlows_28, hCR.1, I_le]
          rw [if_pos (by omega)]
        | succ c ihc =>
          intro i m s h hi hm hT hCR hS h2 h3
          obtain ⟨m, rfl⟩ := sfuel hm
          have bi := bitI (m := used) (i := i) hu (by omega)
          have bl := bt_le used i
          show ∃ h', _ ∧ SR n h' (fO (fun l => fl P Q l u sum) pre s ((if bt used i = 1 then [] else (pm n d (used ||| 2 ^ i)).map (List.cons i)) ++ pmx used (fun i => pm n d (used ||| 2 ^ i)) c (i + 1))) ∧ _
          rw [fO_app]
          by_cases b : bt used i = 1
          · rw [if_pos b]
            obtain ⟨h', p1, p2⟩ := ihc (i + 1) m s h (by omega) (by omega) hT hCR hS h2 h3
            refine ⟨h', ?_, p2⟩
            simp (disch := omega) only [L_S_tryFlows_28, hCR.1, I_le, if_neg (show ¬ (n : Int) ≤ (i : Int) by omega), bi, zero_I, I_eq, b, I_succ]
            rw [if_pos (by omega)]
            exact p1
          · rw [if_neg b, fO_map]
            have c0 := hP i
            have c1 := hQ i
            have hT1 : ∀ j, j < k + 1 → mm_hset h.1 51 k (I i) 51 j = I (((pre ++ [i]).getD j 0 : Nat) : Int) := by
              intro j hj
              rw [getD_apN (by omega)]
              by_cases jk : j = k
              · rw [if_pos (by omega), jk, hs_eq]
              · rw [if_neg (by omega), hs_ne (by omega)]
                exact hT j (by omega)
            have nb : 0 ≤ (if u + P i < sum then sum else u + P i) + Q i ∧ (if u + P i < sum then sum else u + P i) + Q i ≤ 800 * ((k + 1 : Nat) : Int) := by split <;> omega
            obtain ⟨h1', p1, p2, p3, p4⟩ := ih (k + 1) (used ||| 2 ^ i) fuel (u + P i) ((if u + P i < sum then sum else u + P i) + Q i) (pre ++ [i]) s (mm_hset h.1 51 k (I i), h.2) (by omega) (by omega) (by simp [hp]) hT1 (CF_Fr hCR Fr51) (SR51 hS) (by omega) (by omega) nb.1 nb.2 h2 h3 (or64 hu (by omega))
            have fr1 := FrS_tr (Fr51 (h := h) (k := k) (x := I i)) p3
            have t1 : ∀ j, j < k → h1'.1 51 j = h.1 51 j := fun j hj => (p4 j (by omega)).trans (hs_ne (by omega))
            have fb := fO_b (g := fun l => fl P Q l (u + P i) ((if u + P i < sum then sum else u + P i) + Q i)) (pre := pre ++ [i]) (fun l => by
              have := fl_ge (P := P) hQ l (u + P i) ((if u + P i < sum then sum else u + P i) + Q i)
              show 0 ≤ fl P Q l (u + P i) ((if u + P i < sum then sum else u + P i) + Q i)
              omega) (ls := pm n d (used ||| 2 ^ i)) (s := s) h2
            obtain ⟨h', q1, q2, q3, q4⟩ := ihc (i + 1) m _ h1' (by omega) (by omega) (fun j hj => (t1 j hj).trans (hT j hj)) (CF_Fr hCR fr1) p2 fb.1 (by omega)
            refine ⟨h', ?_, q2, FrS_tr fr1 q3, fun j hj => (q4 j hj).trans (t1 j hj)⟩
            have e48 : mm_hset h.1 51 k (I i) 48 i = I (P i) := (hs_ne (by omega)).trans (hCR.2 i (by omega)).1
            have e49 : mm_hset h.1 51 k (I i) 49 i = I (Q i) := (hs_ne (by omega)).trans (hCR.2 i (by omega)).2
            simp (disch := omega) only [L_S_tryFlows_28, hCR.1, I_le, if_neg (show ¬ (n : Int) ≤ (i : Int) by omega), bi, zero_I, I_eq, if_neg (show ¬ ¬ ((bt used i : Nat) : Int) = 0 by omega), ck_in, I_nat, Int.toNat_natCast, hw_s, e48, e49, I_add, I_lt, I_ite, iw_s, orI hu (show i < 6 by omega), I_succ]
            rw [show ((k : Int) + 1) = ((k + 1 : Nat) : Int) from rfl, p1, bd_s]
            exact q1
      obtain ⟨h', q1, q2⟩ := inner n 0 5000 s h (by omega) (by omega) hT hCR hS h2 h3
      have q1' : L_S_tryFlows_28 (F_S_tryFlows fuel) (I k) (I used) (I u) (I sum) 5000 (I 0) h = some h' := q1
      refine ⟨h', ?_, q2⟩
      simp (disch := omega) only [F_S_tryFlows, hS.1, hCR.1, I_lt, if_pos c, if_pos (show (k : Int) < (n : Int) by omega), q1', bd_s]
    · have e : fO (fun l => fl P Q l u sum) pre s (pm n (d + 1) used) = s := fO_no (fun l _ => by
        have := fl_ge (P := P) hQ l u sum
        show s.1 ≤ fl P Q l u sum
        omega)
      rw [e]
      refine ⟨h, ?_, hS, FrS_rfl h, fun j hj => rfl⟩
      simp (disch := omega) only [F_S_tryFlows, hS.1, I_lt, if_neg c]
theorem c_soon {n : Nat} (hn : n ≤ 6) {P Q : Nat → Int} (hP : bPQ P) (hQ : bPQ Q) {h : MH} (hr : ∀ i, i < n → h.1 48 i = I (P i) ∧ h.1 49 i = I (Q i)) :
    ∃ h', F_S_soonestFlow (I n) h = some h' ∧ h'.1 40 6 = I n ∧ SR n h' (fO (fun l => fl P Q l 0 0) [] (1000000000, []) (pm n n 0)) ∧ h'.2 = h.2 ∧ ∀ k i, ¬ k = 51 → ¬ k = 52 → ¬ k = 40 → h'.1 k i = h.1 k i := by
  obtain ⟨h', p1, p2, p3, p4⟩ := t_flw hn hP hQ n 0 0 12 0 0 [] (1000000000, []) (begS n h) (by omega) (by omega) rfl (fun j hj => absurd hj (Nat.not_lt_zero j)) ⟨beg6, fun i hi => ⟨(beg_o (by omega)).trans (hr i hi).1, (beg_o (by omega)).trans (hr i hi).2⟩⟩ ⟨beg8, fun q => absurd q (by show ¬ (1000000000 : Int) < 1000000000; omega)⟩ (by omega) (by omega) (by omega) (by omega) (by show (0 : Int) ≤ 1000000000; omega) (by show (1000000000 : Int) ≤ 1000000000; omega) (by omega)
  have p1' : F_S_tryFlows 12 (I 0) (I 0) (I 0) (I 0) (begS n h) = some h' := p1
  refine ⟨h', ?_, (p3.2 40 6 (by omega) (by omega) (by omega)).trans beg6, p2, p3.1, fun k i a b c => (p3.2 k i a b (by omega)).trans (beg_o c)⟩
  simp only [F_S_soonestFlow, c_begin hn, bd_s, p1']
def sG (P Q : Nat → Int) (o : Nat → Nat) : Nat → Nat → Int → Int → Int
  | 0, _, _, s => s
  | d + 1, k, u, s => sG P Q o d (k + 1) (u + P (o k)) ((if u + P (o k) < s then s else u + P (o k)) + Q (o k))
theorem fl_sG {P Q : Nat → Int} : ∀ (l pre : List Nat) (u s : Int), fl P Q l u s = sG P Q (fun j => (pre ++ l).getD j 0) l.length pre.length u s := by
  intro l
  induction l with
  | nil => intro pre u s; rfl
  | cons i l ih =>
    intro pre u s
    have q := ih (pre ++ [i]) (u + P i) ((if u + P i < s then s else u + P i) + Q i)
    rw [show (pre ++ [i]).length = pre.length + 1 by simp, show pre ++ [i] ++ l = pre ++ (i :: l) by simp] at q
    have e : (pre ++ (i :: l)).getD pre.length 0 = i := by simp [List.getD_eq_getElem?_getD]
    show fl P Q l (u + P i) ((if u + P i < s then s else u + P i) + Q i) = sG P Q (fun j => (pre ++ (i :: l)).getD j 0) l.length (pre.length + 1) (u + P ((pre ++ (i :: l)).getD pre.length 0)) ((if u + P ((pre ++ (i :: l)).getD pre.length 0) < s then s else u + P ((pre ++ (i :: l)).getD pre.length 0)) + Q ((pre ++ (i :: l)).getD pre.length 0))
    rw [e]
    exact q
theorem fl_ly {P Q : Nat → Int} {n k : Nat} (hn : n ≤ 6) (hk : k < fc n) : fl P Q (lyL n k) 0 0 = sG P Q (fun j => (lyL n k).getD j 0) n 0 0 0 := by
  have q := fl_sG (P := P) (Q := Q) (lyL n k) [] 0 0
  rw [(ly_len hn hk).1] at q
  exact q
theorem fl_lb {P Q : Nat → Int} (hP : bPQ P) (hQ : bPQ Q) {n k : Nat} (hn : n ≤ 6) (hk : k < fc n) : 0 ≤ fl P Q (lyL n k) 0 0 ∧ fl P Q (lyL n k) 0 0 ≤ 4800 := by
  have q := fl_b hP hQ (lyL n k) 0 0 0 (by omega) (by omega) (by omega) (by omega)
  rw [(ly_len hn hk).1] at q
  omega
def fwP (a : HS) (w p i : Nat) : Int := sSe a i (hK a w) (hF a w) (hS a p)
def fwQ (a : HS) (w p i : Nat) : Int := 3 * sShake (sFo a i i (hK a w) (hF a w)) (sFew (hA a p))
theorem fwP_b {a : HS} (J : InvH a) (w p : Nat) : bPQ (fwP a w p) := by
  intro i
  have h1 := J.2.2.2.2.1 p
  have h2 := J.2.2.2.2.2 w
  have q := sSe_b J i (k := hK a w) h2.2.2.1 h2.2.2.2 h1.2.2.1
  unfold fwP
  omega
theorem fwQ_b {a : HS} (J : InvH a) (w p : Nat) : bPQ (fwQ a w p) := by
  intro i
  have h1 := J.2.2.2.2.1 p
  have h2 := J.2.2.2.2.2 w
  have q := sFo_b J i i (k := hK a w) h2.2.2.1 h2.2.2.2
  have q2 := sFew_b h1.1 h1.2.1
  have q3 := sShake_b q.1 q.2 q2.1 (by omega)
  unfold fwQ
  omega
section FLW
variable {a : HS} {h : MH}
def FilF (n q : Nat) (P Q : Nat → Int) (h h' : MH) : Prop := h'.2 = h.2 ∧ (∀ i, q ≤ i → i < n → h'.1 48 i = I (P i) ∧ h'.1 49 i = I (Q i)) ∧ (∀ i, i < q → h'.1 48 i = h.1 48 i ∧ h'.1 49 i = h.1 49 i) ∧ ∀ k, ¬ k = 48 → ¬ k = 49 → h'.1 k = h.1 k
theorem FilF_st {n j : Nat} {P Q : Nat → Int} {h h' : MH} (p : FilF n (j + 1) P Q (mm_hset (mm_hset h.1 48 j (I (P j))) 49 j (I (Q j)), h.2) h') : FilF n j P Q h h' := by
  obtain ⟨p1, p2, p3, p4⟩ := p
  refine ⟨p1, fun i a b => ?_, fun i a => ?_, fun k a b => (p4 k a b).trans ((hrow b).trans (hrow a))⟩
  · by_cases c : i = j
    · subst c
      have q := p3 i (by omega)
      exact ⟨q.1.trans (by simp (disch := omega) only [hs_ne, hs_eq]), q.2.trans (by simp (disch := omega) only [hs_eq])⟩
    · exact p2 i (by omega) b
  · have q := p3 i (by omega)
    exact ⟨q.1.trans (by simp (disch := omega) only [hs_ne]), q.2.trans (by simp (disch := omega) only [hs_ne])⟩
theorem l_flC (J : InvH a) {w p p' : Nat} (hw : w < nW a) (hp : p < nP a) (hp' : p' < nP a) {x4 : Int32} : ∀ (d j m : Nat) (h : MH), j + d = nB a → d < m → RepH 8 a h.1 → ∃ h', L_C_flow_39 (I w) (I p) (I p') x4 m (I j) h = some h' ∧ FilF (nB a) j (fwP a w p) (fwQ a w p') h h' := by
  obtain ⟨j1, j2, j3, j4, j5, j6⟩ := id J
  intro d
  induction d with
  | zero =>
    intro j m h e hm R
    obtain ⟨m, rfl⟩ := sfuel hm
    refine ⟨h, ?_, rfl, fun i a b => by omega, fun i a => ⟨rfl, rfl⟩, fun k a b => rfl⟩
    simp (disch := omega) only [L_C_flow_39, rn_b R, I_le]
    rw [if_pos (by omega)]
  | succ d ih =>
    intro j m h e hm R
    obtain ⟨m, rfl⟩ := sfuel hm
    have hj : j < nB a := by omega
    have R1 : RepH 8 a (mm_hset h.1 48 j (I (fwP a w p j))) := RepH_42 (h := h) (h' := (mm_hset h.1 48 j (I (fwP a w p j)), h.2)) R (fun k e => hrow (by omega))
    have R2 : RepH 8 a (mm_hset (mm_hset h.1 48 j (I (fwP a w p j))) 49 j (I (fwQ a w p' j))) := RepH_42 (h := h) (h' := (mm_hset (mm_hset h.1 48 j (I (fwP a w p j))) 49 j (I (fwQ a w p' j)), h.2)) R (fun k e => (hrow (by omega)).trans (hrow (by omega)))
    obtain ⟨h', p1, p2⟩ := ih (j + 1) m (mm_hset (mm_hset h.1 48 j (I (fwP a w p j))) 49 j (I (fwQ a w p' j)), h.2) (by omega) (by omega) R2
    refine ⟨h', ?_, FilF_st p2⟩
    have f1 : F_H_secondsBy (I j) (I w) (I p) h = some (I (fwP a w p j), h) := c_secs R J hj hw hp
    have f2 : F_H_shakesBy (I j) (I w) (I p') (mm_hset h.1 48 j (I (fwP a w p j)), h.2) = _ := c_shakes (h := (mm_hset h.1 48 j (I (fwP a w p j)), h.2)) R1 J hj hw hp'
    simp (disch := omega) only [L_C_flow_39, rn_b R, I_le, if_neg (show ¬ ((nB a : Int) ≤ (j : Int)) by omega), ck_in, f1, f2, bd_s, I_nat, Int.toNat_natCast, hw_s, I_mul, I_succ]
    exact p1
theorem l_flwM (R : RepM a h.1) (J : InvH a) {o : Nat → Nat} (ho : ∀ j, j < nB a → o j < nB a) (hr : ∀ j, j < nB a → h.1 72 j = I ((o j : Nat) : Int)) {w p p' : Nat} (hw : w < nW a) (hp : p < nP a) (hp' : p' < nP a) : ∀ (d k n : Nat) (u s : Int), k + d = nB a → d < n → 0 ≤ u → u ≤ 800 * k → 0 ≤ s → s ≤ 800 * k →
    L_M_flowBy_9 (I w) (I p) (I p') n (I u) (I s) (I k) h = some (I (sG (fwP a w p) (fwQ a w p') o d k u s), h) := by
  obtain ⟨j1, j2, j3, j4, j5, j6⟩ := id J
  have hw6 := j6 w
  have hp5 := j5 p
  have hp5' := j5 p'
  intro d
  induction d with
  | zero =>
    intro k n u s e hn b1 b2 b3 b4
    obtain ⟨m, rfl⟩ := sfuel hn
    obtain rfl : k = nB a := by omega
    simp (disch := omega) only [L_M_flowBy_9, rm_b R, I_le, if_pos (Int.le_refl _)]
    rfl
  | succ d ih =>
    intro k n u s e hn b1 b2 b3 b4
    obtain ⟨m, rfl⟩ := sfuel hn
    have hk : k < nB a := by omega
    have p1 := fwP_b J w p (o k)
    have p2 := fwQ_b J w p' (o k)
    have nb : 0 ≤ (if u + fwP a w p (o k) < s then s else u + fwP a w p (o k)) + fwQ a w p' (o k) ∧ (if u + fwP a w p (o k) < s then s else u + fwP a w p (o k)) + fwQ a w p' (o k) ≤ 800 * ((k + 1 : Nat) : Int) := by split <;> omega
    have g := ih (k + 1) m (u + fwP a w p (o k)) ((if u + fwP a w p (o k) < s then s else u + fwP a w p (o k)) + fwQ a w p' (o k)) (by omega) (by omega) (by omega) (by omega) nb.1 nb.2
    have f1 : F_M_secondsOf (I ((o k : Nat) : Int)) (I (hK a w)) (I (hF a w)) (I (hS a p)) h = some (I (fwP a w p (o k)), h) := m_secsOf R J (ho k hk) hw6.1 hw6.2.1 hw6.2.2.1 hw6.2.2.2 hp5.2.2.1 hp5.2.2.2
    have f2 := m_foldsOf R J (ho k hk) hw
    have q3 := sFo_b J (o k) (o k) (k := hK a w) hw6.2.2.1 hw6.2.2.2
    have q4 := sFew_b hp5'.1 hp5'.2.1
    have f3 := m_few (h := h) (ar := hA a p') (by omega) (by omega)
    have f4 := m_shakes (h := h) (fo := sFo a (o k) (o k) (hK a w) (hF a w)) (w := sFew (hA a p')) q3.1 (by omega) q4.1 (by omega)
    have em : (if u + fwP a w p (o k) ≤ s then s else u + fwP a w p (o k)) = (if u + fwP a w p (o k) < s then s else u + fwP a w p (o k)) := by split <;> split <;> omega
    simp (disch := omega) only [L_M_flowBy_9, rm_b R, I_le, if_neg (show ¬ ((nB a : Int) ≤ (k : Int)) by omega), ck_in, I_nat, Int.toNat_natCast, hr k hk, rm_k R hw, rm_f R hw, rm_s R hp, rm_a R hp', f1, f2, f3, f4, bd_s, I_add, m_least, em, I_mul]
    exact g
theorem m_flw (R : RepM a h.1) (J : InvH a) {o : Nat → Nat} (ho : ∀ j, j < nB a → o j < nB a) (hr : ∀ j, j < nB a → h.1 72 j = I ((o j : Nat) : Int)) {w p p' : Nat} (hw : w < nW a) (hp : p < nP a) (hp' : p' < nP a) : F_M_flowBy (I w) (I p) (I p') h = some (I (sG (fwP a w p) (fwQ a w p') o (nB a) 0 0 0), h) := by
  have g := l_flwM R J ho hr hw hp hp' (nB a) 0 5000 0 0 (by omega) (by have := J.1; omega) (by omega) (by omega) (by omega) (by omega)
  have g' : L_M_flowBy_9 (I w) (I p) (I p') 5000 (I 0) (I 0) (I 0) h = _ := g
  simp only [F_M_flowBy, g', bd_s]
theorem l_flM (J : InvH a) {w p p' : Nat} (hw : w < nW a) (hp : p < nP a) (hp' : p' < nP a) {x4 : Int32} : ∀ (d k m : Nat) (t : Int × Int) (h : MH), k + d = fc (nB a) → d < m → sml t → RepM a h.1 →
    ∃ h', L_M_flow_82 (I w) (I p) (I p') x4 (I ((fc (nB a) : Nat) : Int)) m (I t.1) (I t.2) (I k) h = some (I (fM (fun k => fl (fwP a w p) (fwQ a w p') (lyL (nB a) k) 0 0) d k t).1, I (fM (fun k => fl (fwP a w p) (fwQ a w p') (lyL (nB a) k) 0 0) d k t).2, h') ∧ Fr72 h h' := by
  obtain ⟨j1, j2, j3, j4, j5, j6⟩ := id J
  have fb := fc_b ⟨nB a, by omega⟩
  simp only at fb
  intro d
  induction d with
  | zero =>
    intro k m t h e hm st R
    obtain ⟨m, rfl⟩ := sfuel hm
    refine ⟨h, ?_, Fr72_rfl h⟩
    simp (disch := omega) only [L_M_flow_82, I_le]
    rw [if_pos (by omega)]
    rfl
  | succ d ih =>
    intro k m t h e hm st R
    obtain ⟨m, rfl⟩ := sfuel hm
    obtain ⟨s1, s2, s3, s4⟩ := id st
    have hk : k < fc (nB a) := by omega
    obtain ⟨h1, p1, p2, p3, p4⟩ := m_lay j1 hk h
    have R1 := RepM_72 R (⟨p2, p4⟩ : Fr72 h h1)
    have b := fl_lb (fwP_b J w p) (fwQ_b J w p') j1 hk
    have f := m_flw R1 J (o := fun j => (lyL (nB a) k).getD j 0) (fun j hj => ly_get j1 hk hj) p3 hw hp hp'
    rw [← fl_ly j1 hk] at f
    obtain ⟨V, hV⟩ : ∃ V, V = fl (fwP a w p) (fwQ a w p') (lyL (nB a) k) 0 0 := ⟨_, rfl⟩
    rw [← hV] at f b
    have sm : sml (if t.2 < 0 then (((k : Nat) : Int), V) else if t.2 ≤ V then t else (((k : Nat) : Int), V)) := by
      unfold sml
      split
      · simp only; omega
      · split
        · exact st
        · simp only; omega
    obtain ⟨h', q1, q2⟩ := ih (k + 1) m _ h1 (by omega) (by omega) sm R1
    refine ⟨h', ?_, Fr72_tr ⟨p2, p4⟩ q2⟩
    simp (disch := omega) only [L_M_flow_82, rm_b R, I_le, I_lt, zero_I, if_neg (show ¬ (((fc (nB a) : Nat) : Int) ≤ (k : Int)) by omega), p1, bd_s, f, I_ite, iw_s, I_succ]
    show _ = some (I (fM _ d (k + 1) (if t.2 < 0 then (((k : Nat) : Int), fl (fwP a w p) (fwQ a w p') (lyL (nB a) k) 0 0) else if t.2 ≤ fl (fwP a w p) (fwQ a w p') (lyL (nB a) k) 0 0 then t else (((k : Nat) : Int), fl (fwP a w p) (fwQ a w p') (lyL (nB a) k) 0 0))).1, I (fM _ d (k + 1) (if t.2 < 0 then (((k : Nat) : Int), fl (fwP a w p) (fwQ a w p') (lyL (nB a) k) 0 0) else if t.2 ≤ fl (fwP a w p) (fwQ a w p') (lyL (nB a) k) 0 0 then t else (((k : Nat) : Int), fl (fwP a w p) (fwQ a w p') (lyL (nB a) k) 0 0))).2, h')
    rw [← hV, ← q1]
    by_cases c1 : t.2 < 0
    · simp only [c1, if_true]
    · by_cases c2 : t.2 ≤ V
      · simp only [c1, c2, if_true, if_false]
      · simp only [c1, c2, if_false]
end FLW
theorem flw_fin {n : Nat} (hn : n ≤ 6) {P Q : Nat → Int} (hP : bPQ P) (hQ : bPQ Q) : ∃ (b : Nat) (v : Int), b < fc n ∧ 0 ≤ v ∧ v < 1000000000 ∧ fM (fun k => fl P Q (lyL n k) 0 0) (fc n) 0 (0, -1) = ((b : Int), v) ∧ fO (fun l => fl P Q l 0 0) [] (1000000000, []) (pm n n 0) = (v, lyL n b) := by
  have fb := fc_b ⟨n, by omega⟩
  simp only at fb
  have q := fM_fO (g := fun l => fl P Q l 0 0) (L := lyL n) (N := fc n) fb.1 (fun k hk => by have := fl_lb hP hQ hn hk; show 0 ≤ fl P Q (lyL n k) 0 0 ∧ fl P Q (lyL n k) 0 0 < 1000000000; omega) []
  rw [ly_map hn] at q
  exact q
theorem q_flow {S : SS} (J : InvS S) {y z u x : Int} (e2 : i32 y) (e3 : i32 z) (e4 : i32 u) (e1 : i32 x) : Q2 S (F_C_flow (I y) (I z) (I u) (I x)) (F_M_flow (I y) (I z) (I u) (I x)) := by
  have K := is_h J
  have j1 := K.1
  obtain ⟨l1, g1⟩ := id e1
  have fb := fc_b ⟨nB (sN S), by omega⟩
  simp only at fb
  by_cases hy : inW (sN S) y
  · by_cases hzu : inP (sN S) z ∧ inP (sN S) u ∧ ¬ z = u
    · obtain ⟨hz, hu, hne⟩ := id hzu
      have zu : (I z = I u) = False := ne_I e3 e4 hne
      by_cases h0 : -1 ≤ x
      · obtain ⟨w, hw, rfl⟩ := nn hy
        obtain ⟨p, hp, rfl⟩ := nn hz
        obtain ⟨p', hp', rfl⟩ := nn hu
        obtain ⟨b, v, hb, v0, v1, fm, fo⟩ := flw_fin (n := nB (sN S)) j1 (fwP_b K w p) (fwQ_b K w p')
        refine ⟨(I (ansO (nB (sN S)) (lyL (nB (sN S)) b) v x), 0), by show 0 < 7; omega, fun h R => ?_, fun h R => ?_⟩
        · have R := rc_h R
          obtain ⟨h1, p1, f1, f2, f3, f4⟩ := l_flC K hw hp hp' (x4 := I x) (nB (sN S)) 0 5000 h (by omega) (by omega) R
          have p1' : L_C_flow_39 (I w) (I p) (I p') (I x) 5000 (I 0) h = some h1 := p1
          obtain ⟨h', q1, q2, q3, q4, q5⟩ := c_soon j1 (fwP_b K w p) (fwQ_b K w p') (h := h1) (fun i hi => f2 i (by omega) hi)
          rw [fo] at q3
          have an := c_answer j1 q2 q3 v1 e1 h0
          have e8 : h1.1 8 7 = I (nB (sN S)) := by rw [f4 8 (by omega) (by omega)]; exact rn_b R
          refine ⟨h', ?_, q4.trans f1, fun k i s => ?_⟩
          · simp (disch := omega) only [F_C_flow, c_noWay_t R K hy.1 hy.2, c_twoP_t R K hz hu hne, bd_s, zero_I, not_true, if_false, if_true, I_le, if_pos h0, p1', e8, q1, an]
            rfl
          · have q := scC_40 s
            rw [q5 k i (by omega) (by omega) (by omega), f4 k (by omega) (by omega)]
            rfl
        · have R := rm_h (RM_Sc R (ScM_setT h))
          obtain ⟨h1, p1, F⟩ := l_flM K hw hp hp' (x4 := I x) (fc (nB (sN S))) 0 5000 (0, -1) (setT h) (by omega) (by omega) (by unfold sml; simp only; omega) R
          rw [fm] at p1
          have p1' : L_M_flow_82 (I w) (I p) (I p') (I x) (I ((fc (nB (sN S)) : Nat) : Int)) 5000 (I 0) (I (-1)) (I 0) (setT h) = some (I b, I v, h1) := p1
          obtain ⟨h', q1, q2⟩ := m_fin K (RepM_72 R F) hb (v := v) e1 h0
          refine ⟨h', ?_, ScM_72 (Fr72_tr F q2)⟩
          simp (disch := omega) only [F_M_flow, setT_d, hw_s, m_isWay_t R K hy.1 hy.2, m_isOne_t R K hz.1 hz.2, m_isOne_t R K hu.1 hu.2, zu, bd_s, kw_s, zero_I, one_ne, not_false_iff, if_true, if_false, I_le, if_pos h0, le00, rm_b R, m_fc j1, p1']
          simp (disch := omega) only [zero_I, I_le] at q1
          exact q1
      · refine q_pl (I (-4)) 4 (by omega) (fun h R => ?_) (fun h R => ?_)
        · simp (disch := omega) only [F_C_flow, c_noWay_t (rc_h R) K hy.1 hy.2, c_twoP_t (rc_h R) K hz hu hne, bd_s, zero_I, not_true, if_false, if_true, I_le, if_neg h0, c_ref4]
        · simp (disch := omega) only [F_M_flow, setT_d, hw_s, m_isWay_t (rm_h R) K hy.1 hy.2, m_isOne_t (rm_h R) K hz.1 hz.2, m_isOne_t (rm_h R) K hu.1 hu.2, zu, bd_s, kw_s, zero_I, one_ne, not_false_iff, if_true, if_false, I_le, if_neg h0, lm4, m_ref4]
          rw [if_neg (by omega)]
    · refine q_pl (I (-1)) 1 (by omega) (fun h R => ?_) (fun h R => ?_)
      · simp only [F_C_flow, c_noWay_t (rc_h R) K hy.1 hy.2, c_twoP_f (rc_h R) K e3 e4 hzu, bd_s, zero_I, not_true, one_ne, if_false, c_ref1]
      · by_cases h1 : inP (sN S) z
        · by_cases h2 : inP (sN S) u
          · have h3 : z = u := Classical.byContradiction fun t => hzu ⟨h1, h2, t⟩
            subst h3
            simp only [F_M_flow, setT_d, hw_s, m_isWay_t (rm_h R) K hy.1 hy.2, m_isOne_t (rm_h R) K h1.1 h1.2, bd_s, kw_s, zero_I, one_ne, if_true, if_false, lm1, m_ref1]
          · simp only [F_M_flow, setT_d, hw_s, m_isWay_t (rm_h R) K hy.1 hy.2, m_isOne_t (rm_h R) K h1.1 h1.2, m_isOne_f (rm_h R) K e4.1 e4.2 h2, bd_s, kw_s, zero_I, one_ne, if_true, if_false, lm1, m_ref1]
        · simp only [F_M_flow, setT_d, hw_s, m_isWay_t (rm_h R) K hy.1 hy.2, m_isOne_f (rm_h R) K e3.1 e3.2 h1, bd_s, kw_s, zero_I, one_ne, if_true, if_false, lm1, m_ref1]
  · refine q_pl (I (-1)) 1 (by omega) (fun h R => ?_) (fun h R => ?_)
    · simp only [F_C_flow, c_noWay_f (rc_h R) K e2.1 e2.2 hy, bd_s, zero_I, one_ne, not_false_iff, if_true, c_ref1]
    · simp only [F_M_flow, setT_d, hw_s, m_isWay_f (rm_h R) K e2.1 e2.2 hy, bd_s, kw_s, zero_I, if_true, if_false, lm1, m_ref1]
