-- 22 who, 47 teach
def Fr73 (h h' : MH) : Prop := h'.2 = h.2 ∧ ∀ k, ¬ k = 73 → h'.1 k = h.1 k
theorem Fr73_rfl (h : MH) : Fr73 h h := ⟨rfl, fun _ _ => rfl⟩
theorem Fr73_tr {a b c : MH} (p : Fr73 a b) (q : Fr73 b c) : Fr73 a c := ⟨q.1.trans p.1, fun k e => (q.2 k e).trans (p.2 k e)⟩
theorem RepM_73 {a : HS} {h h' : MH} (R : RepM a h.1) (q : Fr73 h h') : RepM a h'.1 :=
  RepM_cg (by rw [q.2 55 (by omega)]) (by rw [q.2 55 (by omega)]) (by rw [q.2 55 (by omega)]) (by rw [q.2 55 (by omega)]) (fun k a b => q.2 k (by omega)) R
theorem scM_73 {k i : Nat} (e : scM k i = false) : ¬ k = 73 := by
  rintro rfl
  exact absurd e (by unfold scM; simp)
theorem ScM_73 {h h' : MH} (q : Fr73 h h') : ScM h h' := fun k i e => by rw [q.2 k (scM_73 e)]
theorem scC_lo {k : Nat} (a : 8 ≤ k) (b : k ≤ 14) : scC k = false := by
  unfold scC
  simp
  omega
theorem RepH_Sc {a : HS} {h h' : MH} (R : RepH 8 a h.1) (q : ScC h h') : RepH 8 a h'.1 := RepH_cg (fun k a b => funext fun i => q.2 k i (scC_lo a (by omega))) R
theorem pw_dec : ∀ P : Fin 5, ∀ n : Fin 7, (P : Nat) ^ (n : Nat) ≤ 4096 := by decide +kernel
/-- the greatest load by a share -/
def gS (a : HS) (l : List Nat) : Int := mx (ldS (BT a) 0 l (fun _ => 0)) (nP a)
def shN (a : HS) : Nat := nP a ^ nB a
def shF (a : HS) (k : Nat) : Int := gS a (dg (nP a) (nB a) k)
def shR (a : HS) : Int × Int := fM (shF a) (shN a) 0 (0, -1)
def shV (a : HS) : Int := (shR a).2
theorem BT_C {a : HS} (J : InvH a) (hw : 0 < nW a) : ∀ b p, 0 ≤ BT a b p ∧ BT a b p ≤ 432 := fun b p => BT_b J hw b p
theorem gS_b {a : HS} (J : InvH a) (hw : 0 < nW a) {l : List Nat} (hl : l.length ≤ 6) : 0 ≤ gS a l ∧ gS a l ≤ 2592 := by
  refine ⟨mx_0 _ _, mx_le (by omega) (fun p => ?_) _⟩
  have q := ldS_le (BT_C J hw) l 0 (fun _ => 0) 0 (fun _ => Int.le_refl 0) p
  omega
theorem shF_b {a : HS} (J : InvH a) (hw : 0 < nW a) (k : Nat) : 0 ≤ shF a k ∧ shF a k ≤ 2592 := gS_b J hw (by rw [dg_len]; exact J.1)
theorem shN_b {a : HS} (J : InvH a) (hp : 0 < nP a) : 1 ≤ shN a ∧ shN a ≤ 4096 := ⟨Nat.pow_pos hp, pw_dec ⟨nP a, by have := J.2.1; omega⟩ ⟨nB a, by have := J.1; omega⟩⟩
theorem shr_fin {a : HS} (J : InvH a) (hw : 0 < nW a) (hp : 0 < nP a) : ∃ b : Nat, b < shN a ∧ 0 ≤ shV a ∧ shV a < 1000000000 ∧ shR a = ((b : Int), shV a) ∧ fO (fun l => mx (ldS (BT a) 0 l (fun _ => 0)) (nP a)) [] (1000000000, []) (sh (nP a) (nB a)) = (shV a, dg (nP a) (nB a) b) := by
  have nb := shN_b J hp
  obtain ⟨b, v, b1, b2, b3, b4, b5⟩ := fM_fO (g := gS a) (L := dg (nP a) (nB a)) (N := shN a) nb.1 (fun k hk => by have := shF_b J hw k; show 0 ≤ shF a k ∧ shF a k < 1000000000; omega) []
  have e : shN a = nP a ^ nB a := rfl
  rw [e, sh_dg hp] at b5
  have ev : shV a = v := congrArg Prod.snd b4
  rw [ev]
  exact ⟨b, b1, b2, b3, b4, b5⟩
section SHC
variable {a : HS} {h : MH}
theorem l_sbC (J : InvH a) (hw : 0 < nW a) {q : Nat} (hq : q < nB a) : ∀ (d j m : Nat) (h : MH), j + d = nP a → d < m → RepH 8 a h.1 → ∃ h', L_C_shareBeds_15 (I q) m (I j) h = some h' ∧ Fil1 (nP a) q j (BT a) h h' := by
  obtain ⟨j1, j2, j3, j4, j5, j6⟩ := id J
  intro d
  induction d with
  | zero =>
    intro j m h e hm R
    obtain ⟨m, rfl⟩ := sfuel hm
    refine ⟨h, ?_, rfl, fun i a b => by omega, fun i a => rfl, fun k a => rfl⟩
    simp (disch := omega) only [L_C_shareBeds_15, rn_p R, I_le]
    rw [if_pos (by omega)]
  | succ d ih =>
    intro j m h e hm R
    obtain ⟨m, rfl⟩ := sfuel hm
    have hj : j < nP a := by omega
    obtain ⟨h', p1, p2⟩ := ih (j + 1) m (mm_hset h.1 (42 + q) j (I (BT a q j)), h.2) (by omega) (by omega) (RepH_42 R (fun k e => hrow (by omega)))
    refine ⟨h', ?_, Fil1_st p2⟩
    have f := c_bestTime R J hq hj
    simp (disch := omega) only [L_C_shareBeds_15, rn_p R, I_le, if_neg (show ¬ ((nP a : Int) ≤ (j : Int)) by omega), ck_in, f, bd_s, I_nat, Int.toNat_natCast, hw_s, I_succ]
    exact p1
def Fil3 (n P q : Nat) (C : Nat → Nat → Int) (h h' : MH) : Prop := h'.2 = h.2 ∧ (∀ a i, q ≤ a → a < n → i < P → h'.1 (42 + a) i = I (C a i)) ∧ ∀ k, ¬ (42 + q ≤ k ∧ k ≤ 47) → h'.1 k = h.1 k
theorem Fil3_st {n P q : Nat} (hq : q < 6) {C : Nat → Nat → Int} {h h1 h' : MH} (p : Fil1 P q 0 C h h1) (r : Fil3 n P (q + 1) C h1 h') : Fil3 n P q C h h' := by
  obtain ⟨p1, p2, p3, p4⟩ := p
  obtain ⟨r1, r2, r3⟩ := r
  refine ⟨r1.trans p1, fun b i x y z => ?_, fun k e => (r3 k (by omega)).trans (p4 k (by omega))⟩
  by_cases c : b = q
  · subst c
    rw [r3 (42 + b) (by omega)]
    exact p2 i (by omega) z
  · exact r2 b i (by omega) y z
theorem l_sbC2 (J : InvH a) (hw : 0 < nW a) : ∀ (d q m : Nat) (h : MH), q + d = nB a → d < m → RepH 8 a h.1 → ∃ h', L_C_shareBeds_2 m (I q) h = some h' ∧ Fil3 (nB a) (nP a) q (BT a) h h' := by
  obtain ⟨j1, j2, j3, j4, j5, j6⟩ := id J
  intro d
  induction d with
  | zero =>
    intro q m h e hm R
    obtain ⟨m, rfl⟩ := sfuel hm
    refine ⟨h, ?_, rfl, fun b i x y z => by omega, fun k x => rfl⟩
    simp (disch := omega) only [L_C_shareBeds_2, rn_b R, I_le]
    rw [if_pos (by omega)]
  | succ d ih =>
    intro q m h e hm R
    obtain ⟨m, rfl⟩ := sfuel hm
    obtain ⟨h1, p1, p2⟩ := l_sbC J hw (q := q) (by omega) (nP a) 0 5000 h (by omega) (by omega) R
    have p1' : L_C_shareBeds_15 (I q) 5000 (I 0) h = some h1 := p1
    obtain ⟨h', q1, q2⟩ := ih (q + 1) m h1 (by omega) (by omega) (RepH_42 R (fun k e => p2.2.2.2 k (by omega)))
    refine ⟨h', ?_, Fil3_st (by omega) p2 q2⟩
    simp (disch := omega) only [L_C_shareBeds_2, rn_b R, I_le, if_neg (show ¬ ((nB a : Int) ≤ (q : Int)) by omega), p1', bd_s, I_succ]
    exact q1
theorem l_s0 {P : Nat} (hP : P ≤ 4) : ∀ (d j m : Nat) (h : MH), j + d = P → d < m → h.1 40 7 = I P → ∃ h', L_S_soonestShare_16 m (I j) h = some h' ∧ h'.2 = h.2 ∧ (∀ p, j ≤ p → p < P → h'.1 50 p = I 0) ∧ (∀ p, p < j → h'.1 50 p = h.1 50 p) ∧ ∀ k, ¬ k = 50 → h'.1 k = h.1 k := by
  intro d
  induction d with
  | zero =>
    intro j m h e hm R
    obtain ⟨m, rfl⟩ := sfuel hm
    refine ⟨h, ?_, rfl, fun p a b => by omega, fun p a => rfl, fun k a => rfl⟩
    simp (disch := omega) only [L_S_soonestShare_16, R, I_le]
    rw [if_pos (by omega)]
  | succ d ih =>
    intro j m h e hm R
    obtain ⟨m, rfl⟩ := sfuel hm
    obtain ⟨h', p1, p2, p3, p4, p5⟩ := ih (j + 1) m (mm_hset h.1 50 j (I 0), h.2) (by omega) (by omega) (by simp (disch := omega) only [hs_ne]; exact R)
    refine ⟨h', ?_, p2, fun p a b => ?_, fun p a => (p4 p (by omega)).trans (hs_ne (by omega)), fun k a => (p5 k a).trans (hrow a)⟩
    · simp (disch := omega) only [L_S_soonestShare_16, R, I_le, if_neg (show ¬ ((P : Int) ≤ (j : Int)) by omega), ck_in, I_nat, Int.toNat_natCast, hw_s, I_succ]
      exact p1
    · by_cases c : p = j
      · subst c
        exact (p4 p (by omega)).trans hs_eq
      · exact p3 p (by omega) b
theorem c_share (J : InvH a) (hw : 0 < nW a) (hp : 0 < nP a) (R : RepH 8 a h.1) : ∃ (h' : MH) (b : Nat), b < shN a ∧ shR a = ((b : Int), shV a) ∧ F_C_shareBeds h = some (I (shV a), h') ∧ ScC h h' ∧ h'.1 40 6 = I (nB a) ∧ SR (nB a) h' (shV a, dg (nP a) (nB a) b) := by
  obtain ⟨j1, j2, j3, -⟩ := id J
  obtain ⟨b, b1, b2, b3, b4, b5⟩ := shr_fin J hw hp
  obtain ⟨h1, p1, f1, f2, f3⟩ := l_sbC2 J hw (nB a) 0 5000 h (by omega) (by omega) R
  have p1' : L_C_shareBeds_2 5000 (I 0) h = some h1 := p1
  have e7 : h1.1 8 7 = I (nB a) := by rw [f3 8 (by omega)]; exact rn_b R
  have e8 : h1.1 8 8 = I (nP a) := by rw [f3 8 (by omega)]; exact rn_p R
  have eP : (if I (nP a : Int) < I 4 then I (nP a : Int) else I 4) = I (nP a) := by
    simp (disch := omega) only [I_lt, I_ite]
    congr 1
    split <;> omega
  obtain ⟨h2, q1, q2, q3, q4, q5⟩ := l_s0 (P := nP a) j2 (nP a) 0 5000 (mm_hset (begS (nB a) h1).1 40 7 (I (nP a)), (begS (nB a) h1).2) (by omega) (by omega) (by simp only [hs_eq])
  have q1' : L_S_soonestShare_16 5000 (I 0) (mm_hset (begS (nB a) h1).1 40 7 (I (nP a)), (begS (nB a) h1).2) = some h2 := q1
  have cs0 : CS (nB a) (nP a) (BT a) h2 := by
    refine ⟨?_, ?_, fun x i hx hi => ?_⟩
    · rw [q5 40 (by omega)]
      simp (disch := omega) only [hs_ne]
      exact beg6
    · rw [q5 40 (by omega)]
      simp only [hs_eq]
    · rw [q5 (42 + x) (by omega)]
      simp (disch := omega) only [hs_ne, beg_o]
      exact f2 x i (by omega) hx hi
  have sr0 : SR (nB a) h2 (1000000000, []) := by
    refine ⟨?_, fun q => absurd q (by show ¬ (1000000000 : Int) < 1000000000; omega)⟩
    rw [q5 40 (by omega)]
    simp (disch := omega) only [hs_ne]
    exact beg8
  obtain ⟨h', r1, r2, r3, r4, r5⟩ := t_shr (P := nP a) j1 j2 (BT_C J hw) (nB a) 0 12 (fun _ => 0) [] (1000000000, []) h2 (by omega) (by omega) rfl (fun j hj => absurd hj (Nat.not_lt_zero j)) (fun p hp => q3 p (by omega) hp) cs0 sr0 (fun p => ⟨Int.le_refl 0, by show (0 : Int) ≤ 432 * ((0 : Nat) : Int); omega⟩) (by show (0 : Int) ≤ 1000000000; omega) (by show (1000000000 : Int) ≤ 1000000000; omega)
  have m0 : mx (fun _ => 0) (nP a) = 0 := by
    have x1 := mx_0 (fun _ => 0) (nP a)
    have x2 := mx_le (f := fun _ => 0) (B := 0) (Int.le_refl 0) (fun _ => Int.le_refl 0) (nP a)
    omega
  rw [m0] at r1
  rw [b5] at r2
  have r1' : F_S_tryShares 12 (I 0) (I 0) h2 = some h' := r1
  refine ⟨h', b, b1, b4, ?_, ⟨r3.1.trans (q2.trans f1), fun k i s => ?_⟩, (r3.2 40 6 (by omega) (by omega) (by omega) (by omega)).trans cs0.1, r2⟩
  · have e40 : h'.1 40 8 = I (shV a) := r2.1
    simp only [F_C_shareBeds, p1', bd_s, e7, e8, F_S_soonestShare, c_begin j1, eP, iw_s, hw_s, q1', r1', e40]
  · have q := scC_40 s
    rw [r3.2 k i (by omega) (by omega) (by omega) (by omega), q5 k (by omega)]
    simp (disch := omega) only [hs_ne, beg_o]
    rw [f3 k (by omega)]
theorem l_g4 : ∀ (d j m : Nat) (x : Int32) (h : MH), j + d = 4 → d < m → ∃ h', L_M_greatestBy_4 x m (I j) h = some h' ∧ h'.2 = h.2 ∧ (∀ p, j ≤ p → p < 4 → h'.1 73 p = I 0) ∧ (∀ p, p < j → h'.1 73 p = h.1 73 p) ∧ ∀ k, ¬ k = 73 → h'.1 k = h.1 k := by
  intro d
  induction d with
  | zero =>
    intro j m x h e hm
    obtain ⟨m, rfl⟩ := sfuel hm
    refine ⟨h, ?_, rfl, fun p a b => by omega, fun p a => rfl, fun k a => rfl⟩
    simp (disch := omega) only [L_M_greatestBy_4, I_le]
    rw [if_pos (by omega)]
  | succ d ih =>
    intro j m x h e hm
    obtain ⟨m, rfl⟩ := sfuel hm
    obtain ⟨h', p1, p2, p3, p4, p5⟩ := ih (j + 1) m x (mm_hset h.1 73 j (I 0), h.2) (by omega) (by omega)
    refine ⟨h', ?_, p2, fun p a b => ?_, fun p a => (p4 p (by omega)).trans (hs_ne (by omega)), fun k a => (p5 k a).trans (hrow a)⟩
    · simp (disch := omega) only [L_M_greatestBy_4, I_le, if_neg (show ¬ ((4 : Int) ≤ (j : Int)) by omega), ck_in, I_nat, Int.toNat_natCast, hw_s, I_succ]
      exact p1
    · by_cases c : p = j
      · subst c
        exact (p4 p (by omega)).trans hs_eq
      · exact p3 p (by omega) b
theorem I_pred (b : Nat) : I (((b + 1 : Nat) : Int) - 1) = I (b : Int) := by
  congr 1
  omega
theorem l_g29 (J : InvH a) (hw : 0 < nW a) (hp : 0 < nP a) : ∀ (b m r : Nat) (f : Nat → Int) (h : MH), b ≤ nB a → b < m → r ≤ 4096 → RepM a h.1 → (∀ p, p < 4 → h.1 73 p = I (f p)) →
    ∃ h', L_M_greatestBy_29 m (I r) (I ((b : Int) - 1)) h = some h' ∧ Fr73 h h' ∧ ∀ p, p < 4 → h'.1 73 p = I (ldM (BT a) (nP a) b r f p) := by
  obtain ⟨j1, j2, j3, -⟩ := id J
  intro b
  induction b with
  | zero =>
    intro m r f h hb hm hr R hf
    obtain ⟨m, rfl⟩ := sfuel hm
    refine ⟨h, ?_, Fr73_rfl h, hf⟩
    simp (disch := omega) only [L_M_greatestBy_29, zero_I, I_lt]
    rw [if_pos (by omega)]
  | succ b ih =>
    intro m r f h hb hm hr R hf
    obtain ⟨m, rfl⟩ := sfuel hm
    have rl : r % nP a < nP a := Nat.mod_lt _ hp
    have rd : r / nP a ≤ r := Nat.div_le_self _ _
    have nz : ¬ I (nP a : Int) = I 0 := by rw [I_eq (by omega) (by omega) (by omega) (by omega)]; omega
    have er : irem (I (r : Int)) (I (nP a : Int)) = I ((r % nP a : Nat) : Int) := by
      rw [I_rem (by omega) (by omega) (by omega) (by omega)]
      rfl
    have ed : I (r : Int) / I (nP a : Int) = I ((r / nP a : Nat) : Int) := by
      rw [I_div (by omega) (by omega) (by omega) (by omega)]
      rfl
    have f1 := m_bestT R J (b := b) (p := r % nP a) (by omega) rl hw
    have e73 := hf (r % nP a) (by omega)
    have fr : Fr73 h (mm_hset h.1 73 (r % nP a) (I (f (r % nP a) + BT a b (r % nP a))), h.2) := ⟨rfl, fun k hk => hrow hk⟩
    obtain ⟨h', q1, q2, q3⟩ := ih m (r / nP a) (updP f (r % nP a) (BT a b (r % nP a))) _ (by omega) (by omega) (by omega) (RepM_73 R fr) (fun p hp => by
      show mm_hset h.1 73 (r % nP a) (I (f (r % nP a) + BT a b (r % nP a))) 73 p = _
      unfold updP
      by_cases c : p = r % nP a
      · rw [if_pos c, c, hs_eq]
      · rw [if_neg c, hs_ne (by omega)]
        exact hf p hp)
    refine ⟨h', ?_, Fr73_tr fr q2, q3⟩
    have e55 : mm_hset h.1 73 (r % nP a) (I (f (r % nP a) + BT a b (r % nP a))) 55 2 = I (nP a) := (hs_ne (by omega)).trans (rm_p R)
    have eb : (((b + 1 : Nat) : Int) - 1) = (b : Int) := by omega
    have eb2 : I (b : Int) + I (-1) = I ((b : Int) - 1) := by
      rw [I_add]
      congr 1
    rw [eb]
    simp (disch := omega) only [L_M_greatestBy_29, zero_I, I_lt, if_neg (show ¬ (b : Int) < 0 by omega), rm_p R, cd_t nz, er, ck_in, I_nat, Int.toNat_natCast, f1, bd_s, e73, hw_s, I_add, e55, ed]
    rw [← I_add, eb2]
    exact q1
theorem l_g76 (J : InvH a) {f : Nat → Int} (R : RepM a h.1) (fb : ∀ p, 0 ≤ f p ∧ f p ≤ 3000) (hf : ∀ p, p < 4 → h.1 73 p = I (f p)) : ∀ d j m : Nat, j + d = nP a → d < m → L_M_greatestBy_76 m (I (mx f j)) (I j) h = some (I (mx f (nP a)), h) := by
  obtain ⟨j1, j2, j3, -⟩ := id J
  intro d
  induction d with
  | zero =>
    intro j m e hm
    obtain ⟨m, rfl⟩ := sfuel hm
    obtain rfl : j = nP a := by omega
    simp (disch := omega) only [L_M_greatestBy_76, rm_p R, I_le, if_pos (Int.le_refl _)]
  | succ d ih =>
    intro j m e hm
    obtain ⟨m, rfl⟩ := sfuel hm
    have g := ih (j + 1) m (by omega) (by omega)
    have b1 := fb j
    have b2 := mx_0 f j
    have b3 := mx_le (f := f) (B := 3000) (by omega) (fun p => (fb p).2) j
    have e1 : mx f (j + 1) = if f j ≤ mx f j then mx f j else f j := rfl
    rw [e1] at g
    simp (disch := omega) only [L_M_greatestBy_76, rm_p R, I_le, if_neg (show ¬ ((nP a : Int) ≤ (j : Int)) by omega), ck_in, I_nat, Int.toNat_natCast, hf j (by omega), I_succ]
    by_cases c : f j ≤ mx f j
    · rw [if_pos c] at g ⊢
      exact g
    · rw [if_neg c] at g ⊢
      exact g
theorem m_great (J : InvH a) (hw : 0 < nW a) (hp : 0 < nP a) {k : Nat} (hk : k ≤ 4096) (R : RepM a h.1) : ∃ h', F_M_greatestBy (I k) h = some (I (shF a k), h') ∧ Fr73 h h' := by
  obtain ⟨j1, j2, j3, -⟩ := id J
  obtain ⟨h1, p1, p2, p3, p4, p5⟩ := l_g4 4 0 5000 (I k) h (by omega) (by omega)
  have p1' : L_M_greatestBy_4 (I k) 5000 (I 0) h = some h1 := p1
  have fr1 : Fr73 h h1 := ⟨p2, p5⟩
  have R1 := RepM_73 R fr1
  obtain ⟨h2, q1, q2, q3⟩ := l_g29 J hw hp (nB a) 5000 k (fun _ => 0) h1 (by omega) (by omega) hk R1 (fun p hp => p3 p (by omega) hp)
  have fb : ∀ p, 0 ≤ ldM (BT a) (nP a) (nB a) k (fun _ => 0) p ∧ ldM (BT a) (nP a) (nB a) k (fun _ => 0) p ≤ 3000 := by
    intro p
    rw [ldM_S]
    have x1 : (0 : Int) ≤ ldS (BT a) 0 (dg (nP a) (nB a) k) (fun _ => 0) p := ldS_ge (fun b p => (BT_C J hw b p).1) (dg (nP a) (nB a) k) 0 (fun _ => 0) p
    have x2 := ldS_le (BT_C J hw) (dg (nP a) (nB a) k) 0 (fun _ => 0) 0 (fun _ => Int.le_refl 0) p
    rw [dg_len] at x2
    omega
  have g := l_g76 J (RepM_73 R1 q2) fb q3 (nP a) 0 5000 (by omega) (by omega)
  have g' : L_M_greatestBy_76 5000 (I 0) (I 0) h2 = some (I (shF a k), h2) := by
    unfold shF gS
    rw [← ldM_S]
    exact g
  refine ⟨h2, ?_, Fr73_tr fr1 q2⟩
  simp (disch := omega) only [F_M_greatestBy, p1', bd_s, rm_b R1, I_sub, q1, g']
theorem l_pw (J : InvH a) (R : RepM a h.1) : ∀ d i m : Nat, i + d = nB a → d < m → L_M_leastShared_4 m (I ((nP a ^ i : Nat) : Int)) (I i) h = some (I ((shN a : Nat) : Int), h) := by
  obtain ⟨j1, j2, j3, -⟩ := id J
  intro d
  induction d with
  | zero =>
    intro i m e hm
    obtain ⟨m, rfl⟩ := sfuel hm
    obtain rfl : i = nB a := by omega
    simp (disch := omega) only [L_M_leastShared_4, rm_b R, I_le, if_pos (Int.le_refl _)]
    rfl
  | succ d ih =>
    intro i m e hm
    obtain ⟨m, rfl⟩ := sfuel hm
    have g := ih (i + 1) m (by omega) (by omega)
    have e1 : ((nP a ^ i : Nat) : Int) * (nP a : Int) = ((nP a ^ (i + 1) : Nat) : Int) := by rw [← Int.natCast_mul, Nat.pow_succ]
    simp (disch := omega) only [L_M_leastShared_4, rm_b R, rm_p R, I_le, if_neg (show ¬ ((nB a : Int) ≤ (i : Int)) by omega), I_mul, e1, I_succ]
    exact g
theorem l_pw2 {x1 : Int32} (J : InvH a) (R : RepM a h.1) : ∀ d i m : Nat, i + d = nB a → d < m → L_M_who_51 x1 m (I ((nP a ^ i : Nat) : Int)) (I i) h = some (I ((shN a : Nat) : Int), h) := by
  obtain ⟨j1, j2, j3, -⟩ := id J
  intro d
  induction d with
  | zero =>
    intro i m e hm
    obtain ⟨m, rfl⟩ := sfuel hm
    obtain rfl : i = nB a := by omega
    simp (disch := omega) only [L_M_who_51, rm_b R, I_le, if_pos (Int.le_refl _)]
    rfl
  | succ d ih =>
    intro i m e hm
    obtain ⟨m, rfl⟩ := sfuel hm
    have g := ih (i + 1) m (by omega) (by omega)
    have e1 : ((nP a ^ i : Nat) : Int) * (nP a : Int) = ((nP a ^ (i + 1) : Nat) : Int) := by rw [← Int.natCast_mul, Nat.pow_succ]
    simp (disch := omega) only [L_M_who_51, rm_b R, rm_p R, I_le, if_neg (show ¬ ((nB a : Int) ≤ (i : Int)) by omega), I_mul, e1, I_succ]
    exact g
theorem l_lsM (J : InvH a) (hw : 0 < nW a) (hp : 0 < nP a) : ∀ (d k m : Nat) (t : Int × Int) (h : MH), k + d = shN a → d < m → 0 ≤ t.2 → t.2 ≤ 5000 → RepM a h.1 →
    ∃ h', L_M_leastShared_33 (I ((shN a : Nat) : Int)) m (I t.2) (I k) h = some (I (fM (shF a) d k t).2, h') ∧ Fr73 h h' := by
  have nb := shN_b J hp
  intro d
  induction d with
  | zero =>
    intro k m t h e hm b1 b2 R
    obtain ⟨m, rfl⟩ := sfuel hm
    refine ⟨h, ?_, Fr73_rfl h⟩
    simp (disch := omega) only [L_M_leastShared_33, I_le]
    rw [if_pos (by omega)]
    rfl
  | succ d ih =>
    intro k m t h e hm b1 b2 R
    obtain ⟨m, rfl⟩ := sfuel hm
    obtain ⟨h1, p1, p2⟩ := m_great J hw hp (k := k) (by omega) R
    have b := shF_b J hw k
    have es : fM (shF a) (d + 1) k t = fM (shF a) d (k + 1) (if t.2 ≤ shF a k then t else (((k : Nat) : Int), shF a k)) := by
      show fM (shF a) d (k + 1) (if t.2 < 0 then _ else _) = _
      rw [if_neg (by omega)]
    obtain ⟨h', q1, q2⟩ := ih (k + 1) m (if t.2 ≤ shF a k then t else (((k : Nat) : Int), shF a k)) h1 (by omega) (by omega) (by split <;> (try simp only) <;> omega) (by split <;> (try simp only) <;> omega) (RepM_73 R p2)
    refine ⟨h', ?_, Fr73_tr p2 q2⟩
    rw [es, ← q1]
    simp (disch := omega) only [L_M_leastShared_33, I_le, if_neg (show ¬ (((shN a : Nat) : Int) ≤ (k : Int)) by omega), p1, bd_s, I_ite, iw_s, I_succ]
    by_cases c : t.2 ≤ shF a k
    · simp only [c, if_true]
    · simp only [c, if_false]
theorem l_whM (J : InvH a) (hw : 0 < nW a) (hp : 0 < nP a) {x1 : Int32} : ∀ (d k m : Nat) (t : Int × Int) (h : MH), k + d = shN a → d < m → 0 ≤ t.2 → t.2 ≤ 5000 → RepM a h.1 →
    ∃ h', L_M_who_86 x1 (I ((shN a : Nat) : Int)) m (I t.1) (I t.2) (I k) h = some (I (fM (shF a) d k t).1, I (fM (shF a) d k t).2, h') ∧ Fr73 h h' := by
  have nb := shN_b J hp
  intro d
  induction d with
  | zero =>
    intro k m t h e hm b1 b2 R
    obtain ⟨m, rfl⟩ := sfuel hm
    refine ⟨h, ?_, Fr73_rfl h⟩
    simp (disch := omega) only [L_M_who_86, I_le]
    rw [if_pos (by omega)]
    rfl
  | succ d ih =>
    intro k m t h e hm b1 b2 R
    obtain ⟨m, rfl⟩ := sfuel hm
    obtain ⟨h1, p1, p2⟩ := m_great J hw hp (k := k) (by omega) R
    have b := shF_b J hw k
    have es : fM (shF a) (d + 1) k t = fM (shF a) d (k + 1) (if t.2 ≤ shF a k then t else (((k : Nat) : Int), shF a k)) := by
      show fM (shF a) d (k + 1) (if t.2 < 0 then _ else _) = _
      rw [if_neg (by omega)]
    obtain ⟨h', q1, q2⟩ := ih (k + 1) m (if t.2 ≤ shF a k then t else (((k : Nat) : Int), shF a k)) h1 (by omega) (by omega) (by split <;> (try simp only) <;> omega) (by split <;> (try simp only) <;> omega) (RepM_73 R p2)
    refine ⟨h', ?_, Fr73_tr p2 q2⟩
    rw [es, ← q1]
    simp (disch := omega) only [L_M_who_86, I_le, if_neg (show ¬ (((shN a : Nat) : Int) ≤ (k : Int)) by omega), p1, bd_s, I_ite, iw_s, I_succ]
    by_cases c : t.2 ≤ shF a k
    · simp only [c, if_true]
    · simp only [c, if_false]
theorem shR_1 (J : InvH a) (hp : 0 < nP a) : shR a = fM (shF a) (shN a - 1) 1 (0, shF a 0) := by
  have nb := shN_b J hp
  obtain ⟨M, hM⟩ : ∃ M, shN a = M + 1 := sfuel nb.1
  unfold shR
  rw [hM]
  show fM (shF a) M (0 + 1) (if (-1 : Int) < 0 then (((0 : Nat) : Int), shF a 0) else _) = _
  rw [if_pos (by omega)]
  rfl
theorem m_share (J : InvH a) (hw : 0 < nW a) (hp : 0 < nP a) (R : RepM a h.1) : ∃ h', F_M_leastShared h = some (I (shV a), h') ∧ Fr73 h h' := by
  obtain ⟨j1, j2, j3, -⟩ := id J
  have nb := shN_b J hp
  have b := shF_b J hw 0
  have g := l_pw J R (nB a) 0 5000 (by omega) (by omega)
  have g' : L_M_leastShared_4 5000 (I 1) (I 0) h = _ := g
  obtain ⟨h1, p1, p2⟩ := m_great J hw hp (k := 0) (by omega) R
  have p1' : F_M_greatestBy (I 0) h = some (I (shF a 0), h1) := p1
  obtain ⟨h2, q1, q2⟩ := l_lsM J hw hp (shN a - 1) 1 5000 (0, shF a 0) h1 (by omega) (by omega) b.1 (by simp only; omega) (RepM_73 R p2)
  rw [← shR_1 J hp] at q1
  have q1' : L_M_leastShared_33 (I ((shN a : Nat) : Int)) 5000 (I (shF a 0)) (I 1) h1 = some (I (shV a), h2) := q1
  refine ⟨h2, ?_, Fr73_tr p2 q2⟩
  simp only [F_M_leastShared, g', bd_s, p1', q1']
theorem l_w157 (J : InvH a) (hp : 0 < nP a) (R : RepM a h.1) {x : Nat} : ∀ d r m : Nat, d ≤ 6 → x ≤ 6 → d < m → r ≤ 4096 → L_M_who_157 (I x) m (I r) (I ((x + d : Nat) : Int)) h = some (I ((r / nP a ^ d : Nat) : Int), h) := by
  obtain ⟨j1, j2, j3, -⟩ := id J
  intro d
  induction d with
  | zero =>
    intro r m hd hx hm hr
    obtain ⟨m, rfl⟩ := sfuel hm
    simp (disch := omega) only [L_M_who_157, I_le]
    rw [if_pos (by omega), Nat.pow_zero, Nat.div_one]
  | succ d ih =>
    intro r m hd hx hm hr
    obtain ⟨m, rfl⟩ := sfuel hm
    have rd : r / nP a ≤ r := Nat.div_le_self _ _
    have g := ih (r / nP a) m (by omega) (by omega) (by omega) (by omega)
    rw [Nat.div_div_eq_div_mul, Nat.mul_comm, ← Nat.pow_succ] at g
    have nz : ¬ I (nP a : Int) = I 0 := by rw [I_eq (by omega) (by omega) (by omega) (by omega)]; omega
    have ed : I (r : Int) / I (nP a : Int) = I ((r / nP a : Nat) : Int) := by
      rw [I_div (by omega) (by omega) (by omega) (by omega)]
      rfl
    have eb : I ((x + (d + 1) : Nat) : Int) + I (-1) = I ((x + d : Nat) : Int) := by
      rw [I_add]
      congr 1
      omega
    simp (disch := omega) only [L_M_who_157, I_le, if_neg (show ¬ (((x + (d + 1) : Nat) : Int) ≤ (x : Int)) by omega), zero_I, rm_p R, cd_t nz, ed, eb]
    exact g
theorem l_w157n {x r : Int} {y : Int} {n : Nat} (hx : i32 x) (hy : i32 y) (h0 : y ≤ x) : L_M_who_157 (I x) (n + 1) (I r) (I y) h = some (I r, h) := by
  obtain ⟨l1, g1⟩ := hx
  obtain ⟨l2, g2⟩ := hy
  simp (disch := omega) only [L_M_who_157, I_le, if_pos h0]
end SHC
theorem q_who {S : SS} (J : InvS S) {x : Int} (e1 : i32 x) : Q2 S (F_C_who (I x)) (F_M_who (I x)) := by
  have K := is_h J
  obtain ⟨j1, j2, j3, -⟩ := id K
  obtain ⟨l1, g1⟩ := id e1
  by_cases h0 : -1 ≤ x
  · by_cases hp : nP (sN S) = 0
    · refine q_pl (I (-3)) 3 (by omega) (fun h R => ?_) (fun h R => ?_)
      · simp (disch := omega) only [F_C_who, I_le, if_pos h0, rn_p (rc_h R), zero_I, I_eq, if_pos (show (nP (sN S) : Int) = 0 by omega), c_ref3, bd_s]
      · simp (disch := omega) only [F_M_who, setT_d, hw_s, kw_s, I_le, if_pos h0, rm_p (rm_h R), zero_I, I_eq, if_pos (show (nP (sN S) : Int) = 0 by omega), m_ref3, bd_s]
        rw [if_neg (by omega)]
    · by_cases hw : nW (sN S) = 0
      · refine q_pl (I (-3)) 3 (by omega) (fun h R => ?_) (fun h R => ?_)
        · simp (disch := omega) only [F_C_who, I_le, if_pos h0, rn_p (rc_h R), rn_w (rc_h R), zero_I, I_eq, if_neg (show ¬ (nP (sN S) : Int) = 0 by omega), if_neg (show ¬ ¬ (nW (sN S) : Int) = 0 by omega), c_ref3, bd_s]
        · simp (disch := omega) only [F_M_who, setT_d, hw_s, kw_s, I_le, if_pos h0, rm_p (rm_h R), rm_w (rm_h R), zero_I, I_eq, if_neg (show ¬ (nP (sN S) : Int) = 0 by omega), if_neg (show ¬ ¬ (nW (sN S) : Int) = 0 by omega), m_ref3, bd_s]
          rw [if_neg (by omega)]
      · have hp' : 0 < nP (sN S) := by omega
        have hw' : 0 < nW (sN S) := by omega
        obtain ⟨b, b1, b2, b3, b4, b5⟩ := shr_fin K hw' hp'
        have nb := shN_b K hp'
        refine ⟨(I (ansO (nB (sN S)) (dg (nP (sN S)) (nB (sN S)) b) (shV (sN S)) x), 0), by show 0 < 7; omega, fun h R => ?_, fun h R => ?_⟩
        · have R := rc_h R
          obtain ⟨h', b', c1, c2, c3, c4, c5, c6⟩ := c_share K hw' hp' R
          have eb : b' = b := by
            rw [b4] at c2
            have := congrArg Prod.fst c2
            simp only at this
            omega
          subst eb
          have an := c_answer j1 c5 c6 b3 e1 h0
          refine ⟨h', ?_, c4⟩
          simp (disch := omega) only [F_C_who, I_le, if_pos h0, rn_p R, rn_w R, zero_I, I_eq, if_neg (show ¬ (nP (sN S) : Int) = 0 by omega), if_pos (show ¬ (nW (sN S) : Int) = 0 by omega), c3, bd_s, an]
          rfl
        · have R := rm_h (RM_Sc R (ScM_setT h))
          have bb := shF_b K hw' 0
          have g : L_M_who_51 (I x) 5000 (I 1) (I 0) (setT h) = _ := l_pw2 (x1 := I x) K R (nB (sN S)) 0 5000 (by omega) (by omega)
          obtain ⟨h1, p1, p2⟩ := m_great K hw' hp' (k := 0) (by omega) R
          have p1' : F_M_greatestBy (I 0) (setT h) = some (I (shF (sN S) 0), h1) := p1
          obtain ⟨h2, q1, q2⟩ := l_whM K hw' hp' (x1 := I x) (shN (sN S) - 1) 1 5000 (0, shF (sN S) 0) h1 (by omega) (by omega) bb.1 (by simp only; omega) (RepM_73 R p2)
          rw [← shR_1 K hp', b4] at q1
          have q1' : L_M_who_86 (I x) (I ((shN (sN S) : Nat) : Int)) 5000 (I 0) (I (shF (sN S) 0)) (I 1) h1 = some (I b, I (shV (sN S)), h2) := q1
          have fr := Fr73_tr p2 q2
          have R2 := RepM_73 R fr
          refine ⟨h2, ?_, ScM_73 fr⟩
          simp (disch := omega) only [F_M_who, setT_d, hw_s, kw_s, I_le, if_pos h0, rm_p R, rm_w R, zero_I, I_eq, if_neg (show ¬ (nP (sN S) : Int) = 0 by omega), if_pos (show ¬ (nW (sN S) : Int) = 0 by omega), if_pos (Int.le_refl 0), g, bd_s, p1', q1']
          unfold ansO
          by_cases c : x < 0
          · rw [if_neg (by omega), if_pos c]
          · rw [if_pos (by omega), if_neg c, rm_b R2, I_sub]
            by_cases d : x < nB (sN S)
            · rw [if_pos d]
              obtain ⟨y, rfl⟩ : ∃ y : Nat, x = y := ⟨x.toNat, by omega⟩
              have g := l_w157 K hp' R2 (x := y) (nB (sN S) - 1 - y) b 5000 (by omega) (by omega) (by omega) (by omega)
              rw [show y + (nB (sN S) - 1 - y) = nB (sN S) - 1 by omega] at g
              have en : ((nB (sN S) : Int) - 1) = ((nB (sN S) - 1 : Nat) : Int) := by omega
              have nz : ¬ I (nP (sN S) : Int) = I 0 := by rw [I_eq (by omega) (by omega) (by omega) (by omega)]; omega
              have qd : b / nP (sN S) ^ (nB (sN S) - 1 - y) ≤ b := Nat.div_le_self _ _
              rw [en, g, bd_s, Int.toNat_natCast, dg_get (nB (sN S)) b y (by omega)]
              obtain ⟨q, hq⟩ : ∃ q, q = b / nP (sN S) ^ (nB (sN S) - 1 - y) := ⟨_, rfl⟩
              rw [← hq] at qd ⊢
              have er : irem (I (q : Int)) (I (nP (sN S) : Int)) = I ((q % nP (sN S) : Nat) : Int) := by
                rw [I_rem (by omega) (by omega) (by omega) (by omega)]
                rfl
              simp (disch := omega) only [rm_b R2, rm_p R2, I_le, if_neg (show ¬ ((nB (sN S) : Int) ≤ (y : Int)) by omega), cd_t nz, er]
            · have g := l_w157n (h := h2) (r := b) (n := 4999) e1 (show i32 ((nB (sN S) : Int) - 1) from ⟨by omega, by omega⟩) (by omega)
              have g' : L_M_who_157 (I x) 5000 (I b) (I ((nB (sN S) : Int) - 1)) h2 = some (I b, h2) := g
              rw [g', bd_s, if_neg d]
              simp (disch := omega) only [rm_b R2, I_le, if_pos (show (nB (sN S) : Int) ≤ x by omega)]
  · refine q_pl (I (-4)) 4 (by omega) (fun h R => ?_) (fun h R => ?_)
    · simp (disch := omega) only [F_C_who, I_le, if_neg h0, c_ref4, bd_s]
    · simp (disch := omega) only [F_M_who, setT_d, hw_s, kw_s, I_le, if_neg h0, zero_I, m_ref4, bd_s]
      rw [if_neg (by omega)]
