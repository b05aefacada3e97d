-- the model's thought, what it leaves alone; 31 orderOf
def FrW (h h' : MH) : Prop := h'.2 = h.2 ∧ ∀ k i, ¬ k = 63 → ¬ (k = 55 ∧ i = 13) → h'.1 k i = h.1 k i
theorem FrW_rfl (h : MH) : FrW h h := ⟨rfl, fun _ _ _ _ => rfl⟩
theorem FrW_tr {a b c : MH} (p : FrW a b) (q : FrW b c) : FrW a c := ⟨q.1.trans p.1, fun k i x y => (q.2 k i x y).trans (p.2 k i x y)⟩
theorem ScM_W {h h' : MH} (q : FrW h h') : ScM h h' := fun k i e => q.2 k i (scM_k63 e) (scM_k13 e)
theorem m_turnW {l t : Nat} {h : MH} (hl : l < 512) (ht : t < 4) (T : RepT l h.1) : ∃ h', F_M_turnNow (I t) h = some h' ∧ RepT (tl l t) h'.1 ∧ FrW h h' := by
  obtain ⟨o, d⟩ := T
  have td : ∀ c, c < 4 → dig (tl l t) c = dig l (prm t c) := fun c hc => tdg_dec ⟨l, hl⟩ ⟨t, ht⟩ ⟨c, hc⟩
  have to : tl l t / 256 = if t = 3 then 1 - l / 256 else l / 256 := tdo_dec ⟨l, hl⟩ ⟨t, ht⟩
  have lo : l / 256 < 2 := by omega
  have d0 := d 0 (by omega)
  have d1 := d 1 (by omega)
  have d2 := d 2 (by omega)
  have d3 := d 3 (by omega)
  have k02 := fun (g : MH) => m_change (i := 0) (j := 2) (h := g) (by omega) (by omega)
  have k13 := fun (g : MH) => m_change (i := 1) (j := 3) (h := g) (by omega) (by omega)
  have k01 := fun (g : MH) => m_change (i := 0) (j := 1) (h := g) (by omega) (by omega)
  have k23 := fun (g : MH) => m_change (i := 2) (j := 3) (h := g) (by omega) (by omega)
  have k02' : ∀ g : MH, F_M_change (I 0) (I 2) g = _ := k02
  have k13' : ∀ g : MH, F_M_change (I 1) (I 3) g = _ := k13
  have k01' : ∀ g : MH, F_M_change (I 0) (I 1) g = _ := k01
  have k23' : ∀ g : MH, F_M_change (I 2) (I 3) g = _ := k23
  have c4 : ∀ c, c < 4 → c = 0 ∨ c = 1 ∨ c = 2 ∨ c = 3 := fun c hc => by omega
  rcases c4 t ht with rfl | rfl | rfl | rfl
  · refine ⟨(mm_hset (mm_hset (mm_hset (mm_hset h.1 63 0 (h.1 63 2)) 63 2 (h.1 63 0)) 63 1 (h.1 63 3)) 63 3 (h.1 63 1), h.2), ?_, ⟨?_, fun c hc => ?_⟩, ⟨rfl, fun k i e1 e2 => ?_⟩⟩
    · simp (disch := omega) only [F_M_turnNow, I_eq, if_pos (show ((0 : Nat) : Int) = 0 by omega), k02', k13', bd_s, hs_ne]
    · simp (disch := omega) only [hs_ne]
      rw [to]
      exact o
    · rw [td c hc]
      rcases c4 c hc with rfl | rfl | rfl | rfl <;> simp (disch := omega) only [hs_ne, hs_eq] <;> first | exact d0 | exact d1 | exact d2 | exact d3
    · show _ = _
      simp (disch := omega) only [hs_ne]
  · refine ⟨(mm_hset (mm_hset (mm_hset (mm_hset h.1 63 0 (h.1 63 1)) 63 1 (h.1 63 0)) 63 2 (h.1 63 3)) 63 3 (h.1 63 2), h.2), ?_, ⟨?_, fun c hc => ?_⟩, ⟨rfl, fun k i e1 e2 => ?_⟩⟩
    · simp (disch := omega) only [F_M_turnNow, I_eq, if_neg (show ¬ ((1 : Nat) : Int) = 0 by omega), if_pos (show ((1 : Nat) : Int) = 1 by omega), k01', k23', bd_s, hs_ne]
    · simp (disch := omega) only [hs_ne]
      rw [to]
      exact o
    · rw [td c hc]
      rcases c4 c hc with rfl | rfl | rfl | rfl <;> simp (disch := omega) only [hs_ne, hs_eq] <;> first | exact d0 | exact d1 | exact d2 | exact d3
    · show _ = _
      simp (disch := omega) only [hs_ne]
  · have z0 : (0 : Int).toNat = 0 := rfl
    have z1 : (1 : Int).toNat = 1 := rfl
    have z2 : (2 : Int).toNat = 2 := rfl
    have z3 : (3 : Int).toNat = 3 := rfl
    refine ⟨(mm_hset (mm_hset (mm_hset (mm_hset h.1 63 0 (h.1 63 2)) 63 2 (h.1 63 3)) 63 3 (h.1 63 1)) 63 1 (h.1 63 0), h.2), ?_, ⟨?_, fun c hc => ?_⟩, ⟨rfl, fun k i e1 e2 => ?_⟩⟩
    · simp (disch := omega) only [F_M_turnNow, I_eq, if_neg (show ¬ ((2 : Nat) : Int) = 0 by omega), if_neg (show ¬ ((2 : Nat) : Int) = 1 by omega), if_pos (show ((2 : Nat) : Int) = 2 by omega), ck_in, I_nat, z0, z1, z2, z3, hw_s, hs_ne]
    · simp (disch := omega) only [hs_ne]
      rw [to]
      exact o
    · rw [td c hc]
      rcases c4 c hc with rfl | rfl | rfl | rfl <;> simp (disch := omega) only [hs_ne, hs_eq] <;> first | exact d0 | exact d1 | exact d2 | exact d3
    · show _ = _
      simp (disch := omega) only [hs_ne]
  · have ov : (if ¬ h.1 55 13 = 0 then I 0 else I 1) = I ((1 - l / 256 : Nat) : Int) := by
      rw [o]
      rcases (show l / 256 = 0 ∨ l / 256 = 1 by omega) with q | q <;> rw [q] <;> rfl
    refine ⟨(mm_hset (mm_hset (mm_hset (mm_hset (mm_hset h.1 63 0 (h.1 63 1)) 63 1 (h.1 63 0)) 63 2 (h.1 63 3)) 63 3 (h.1 63 2)) 55 13 (I ((1 - l / 256 : Nat) : Int)), h.2), ?_, ⟨?_, fun c hc => ?_⟩, ⟨rfl, fun k i e1 e2 => ?_⟩⟩
    · simp (disch := omega) only [F_M_turnNow, I_eq, if_neg (show ¬ ((3 : Nat) : Int) = 0 by omega), if_neg (show ¬ ((3 : Nat) : Int) = 1 by omega), if_neg (show ¬ ((3 : Nat) : Int) = 2 by omega), k01', k23', bd_s, hs_ne, hw_s, iw_s]
      rw [ov]
      refine cd_t ?_
      rcases (show l / 256 = 0 ∨ l / 256 = 1 by omega) with q | q <;> rw [q] <;> decide
    · rw [to, if_pos rfl]
      simp only [hs_eq]
    · rw [td c hc]
      rcases c4 c hc with rfl | rfl | rfl | rfl <;> simp (disch := omega) only [hs_ne, hs_eq] <;> first | exact d0 | exact d1 | exact d2 | exact d3
    · show _ = _
      simp (disch := omega) only [hs_ne]
def tcl (k : Nat) : Nat := k / 256 * 256 + k / 64 % 4 + 4 * (k / 16 % 4) + 16 * (k / 4 % 4) + 64 * (k % 4)
theorem tcl_dec : ∀ k : Fin 512, tcl k < 512 ∧ tcl k / 256 = (k : Nat) / 256 ∧ dig (tcl k) 0 = (k : Nat) / 64 % 4 ∧ dig (tcl k) 1 = (k : Nat) / 16 % 4 ∧ dig (tcl k) 2 = (k : Nat) / 4 % 4 ∧ dig (tcl k) 3 = (k : Nat) % 4 ∧ cod (tcl k) = (k : Nat) ∧ tcl (cod k) = (k : Nat) := by decide +kernel
section TRW
variable {h : MH}
theorem m_thinkCode {k : Nat} (hk : k < 512) : ∃ h', F_M_thinkCode (I k) h = some h' ∧ RepT (tcl k) h'.1 ∧ FrW h h' := by
  obtain ⟨d0, d1, d2, d3, d4, d5, -, -⟩ := tcl_dec ⟨k, hk⟩
  simp only at d0 d1 d2 d3 d4 d5
  have z3 : (3 : Int).toNat = 3 := rfl
  have z2 : (3 + -1 : Int).toNat = 2 := rfl
  have z1 : (3 + -1 + -1 : Int).toNat = 1 := rfl
  have z0 : (3 + -1 + -1 + -1 : Int).toNat = 0 := rfl
  have g : ∀ n (x : Int), 0 ≤ x → x < 512 → L_M_thinkCode_4 (n + 1 + 1 + 1 + 1 + 1) (I x) (I 3) h = some (I (x / 4 / 4 / 4 / 4), (mm_hset (mm_hset (mm_hset (mm_hset h.1 63 3 (I (x % 4))) 63 2 (I (x / 4 % 4))) 63 1 (I (x / 4 / 4 % 4))) 63 0 (I (x / 4 / 4 / 4 % 4)), h.2)) := by
    intro n x x0 x1
    simp (disch := omega) only [L_M_thinkCode_4, zero_I, I_lt, I_add, if_neg (show ¬ (3 : Int) < 0 by omega), if_neg (show ¬ (3 + -1 : Int) < 0 by omega), if_neg (show ¬ (3 + -1 + -1 : Int) < 0 by omega), if_neg (show ¬ (3 + -1 + -1 + -1 : Int) < 0 by omega), if_pos (show (3 + -1 + -1 + -1 + -1 : Int) < 0 by omega), ck_in, I_nat, z0, z1, z2, z3, I_rem, I_div, hw_s]
  have g' : L_M_thinkCode_4 5000 (I k) (I 3) h = _ := g 4995 k (by omega) (by omega)
  have e4 : ((k : Int) / 4 / 4 / 4 / 4) = ((k / 256 : Nat) : Int) := by omega
  have e3 : ((k : Int) % 4) = ((k % 4 : Nat) : Int) := by omega
  have e2 : ((k : Int) / 4 % 4) = ((k / 4 % 4 : Nat) : Int) := by omega
  have e1 : ((k : Int) / 4 / 4 % 4) = ((k / 16 % 4 : Nat) : Int) := by omega
  have e0 : ((k : Int) / 4 / 4 / 4 % 4) = ((k / 64 % 4 : Nat) : Int) := by omega
  rw [e0, e1, e2, e3, e4] at g'
  have ov : (if ¬ I ((k / 256 : Nat) : Int) = I 1 then I 0 else I 1) = I ((k / 256 : Nat) : Int) := by
    rcases (show k / 256 = 0 ∨ k / 256 = 1 by omega) with q | q <;> rw [q] <;> rfl
  have bit : (I ((k / 256 : Nat) : Int) &&& 1) = I ((k / 256 : Nat) : Int) := by
    rcases (show k / 256 = 0 ∨ k / 256 = 1 by omega) with q | q <;> rw [q] <;> decide
  refine ⟨(mm_hset (mm_hset (mm_hset (mm_hset (mm_hset h.1 63 3 (I ((k % 4 : Nat) : Int))) 63 2 (I ((k / 4 % 4 : Nat) : Int))) 63 1 (I ((k / 16 % 4 : Nat) : Int))) 63 0 (I ((k / 64 % 4 : Nat) : Int))) 55 13 (I ((k / 256 : Nat) : Int)), h.2), ?_, ⟨?_, fun c hc => ?_⟩, ⟨rfl, fun a i n1 n2 => ?_⟩⟩
  · simp only [F_M_thinkCode, g', bd_s, ov, iw_s, hw_s]
    exact cd_t bit
  · simp only [hs_eq]
    rw [d1]
  · rcases (show c = 0 ∨ c = 1 ∨ c = 2 ∨ c = 3 by omega) with rfl | rfl | rfl | rfl <;> simp (disch := omega) only [hs_ne, hs_eq] <;> first | rw [d2] | rw [d3] | rw [d4] | rw [d5]
  · show _ = _
    simp (disch := omega) only [hs_ne]
/-- a code's turn -/
def tr (k t : Nat) : Nat := cod (tl (tcl k) t)
theorem tr_lt {k t : Nat} (hk : k < 512) (ht : t < 4) : tr k t < 512 := cod_lt (tl_lt ⟨tcl k, (tcl_dec ⟨k, hk⟩).1⟩ ⟨t, ht⟩)
theorem m_trans {k t : Nat} (hk : k < 512) (ht : t < 4) : ∃ h7 h8, F_M_thinkCode (I k) h = some h7 ∧ F_M_turnNow (I t) h7 = some h8 ∧ F_M_codeNow h8 = some (I ((tr k t : Nat) : Int), h8) ∧ FrW h h8 := by
  obtain ⟨h7, p1, p2, p3⟩ := m_thinkCode (h := h) hk
  have tk := (tcl_dec ⟨k, hk⟩).1
  obtain ⟨h8, q1, q2, q3⟩ := m_turnW tk ht p2
  exact ⟨h7, h8, p1, q1, m_code (tl_lt ⟨tcl k, tk⟩ ⟨t, ht⟩) q2, FrW_tr p3 q3⟩
end TRW
-- a row of turns as one of 48 moves
def oks : List Nat := (List.range 512).filter okLie
theorem mem_oks {l : Nat} (h : okLie l = true) : l ∈ oks := List.mem_filter.mpr ⟨List.mem_range.mpr (ok_lt h), h⟩
def act (m l : Nat) : Nat := (m / 256 + l / 256) % 2 * 256 + dig l (dig m 0) + 4 * dig l (dig m 1) + 16 * dig l (dig m 2) + 64 * dig l (dig m 3)
theorem act_dec : oks.all (fun m => oks.all (fun l => (List.range 4).all (fun t => tl (act m l) t == act (tl m t) l))) = true := by decide +kernel
theorem act_0 : oks.all (fun l => act 228 l == l) = true := by decide +kernel
def fs (m l : Nat) : Nat → Nat → Nat → Option Nat
  | 0, _, _ => none
  | f + 1, n, c => if c = l then some n else fs m l f (n + 1) (act m c)
theorem fs_dec : oks.all (fun m => oks.all (fun l => (fs m l 24 1 (act m l)).isSome)) = true := by decide +kernel
theorem act_tl {m l t : Nat} (h1 : okLie m = true) (h2 : okLie l = true) (h3 : t < 4) : tl (act m l) t = act (tl m t) l := by
  have a := List.all_eq_true.mp (List.all_eq_true.mp (List.all_eq_true.mp act_dec m (mem_oks h1)) l (mem_oks h2)) t (List.mem_range.mpr h3)
  exact eq_of_beq a
theorem act_id {l : Nat} (h : okLie l = true) : act 228 l = l := eq_of_beq (List.all_eq_true.mp act_0 l (mem_oks h))
def itr (m l : Nat) : Nat → Nat
  | 0 => l
  | n + 1 => act m (itr m l n)
theorem fs_p {m l : Nat} : ∀ f n N, fs m l f n (itr m l n) = some N → n ≤ N ∧ N < n + f ∧ itr m l N = l ∧ ∀ j, n ≤ j → j < N → ¬ itr m l j = l := by
  intro f
  induction f with
  | zero => intro n N h; exact absurd h (by simp [fs])
  | succ f ih =>
    intro n N h
    unfold fs at h
    by_cases c : itr m l n = l
    · rw [if_pos c] at h
      have e : n = N := Option.some.inj h
      subst e
      exact ⟨Nat.le_refl _, by omega, c, fun j a b => by omega⟩
    · rw [if_neg c] at h
      obtain ⟨a1, a2, a3, a4⟩ := ih (n + 1) N h
      refine ⟨by omega, by omega, a3, fun j x y => ?_⟩
      by_cases e : j = n
      · subst e
        exact c
      · exact a4 j (by omega) y
theorem itr_ex {m l : Nat} (h1 : okLie m = true) (h2 : okLie l = true) : ∃ N, 1 ≤ N ∧ N ≤ 24 ∧ itr m l N = l ∧ ∀ j, 1 ≤ j → j < N → ¬ itr m l j = l := by
  have a := List.all_eq_true.mp (List.all_eq_true.mp fs_dec m (mem_oks h1)) l (mem_oks h2)
  obtain ⟨N, hN⟩ := Option.isSome_iff_exists.mp a
  obtain ⟨b1, b2, b3, b4⟩ := fs_p 24 1 N hN
  exact ⟨N, b1, by omega, b3, b4⟩
theorem rdn_act {l : Nat} {r : List Int} (hl : okLie l = true) (v : ∀ i, i < r.length → 0 ≤ r.getD i 0) (ok : tOK r) : ∀ n, n ≤ r.length → rdn l r n = act (rdn 228 r n) l := by
  intro n
  induction n with
  | zero => intro _; exact (act_id hl).symm
  | succ n ih =>
    intro hn
    have a := ok n (by omega)
    have b := v n (by omega)
    show tl (rdn l r n) (r.getD n 0).toNat = act (tl (rdn 228 r n) (r.getD n 0).toNat) l
    rw [ih (by omega)]
    exact act_tl (rdn_ok ok_228 v ok n (by omega)) hl (by omega)
section ORO
variable {S : SS} {h : MH}
theorem l_rdnM2 (J : InvS S) (ok : tOK (sRw S)) {l : Nat} {x y : Int32} (hl : l < 512) : ∀ (d i n : Nat) (h : MH), RM S h → RepT (rdn l (sRw S) i) h.1 → i + d = (sRw S).length → d < n → ∃ h', L_M_orderOf_32 x y n (I i) h = some h' ∧ RepT (rdn l (sRw S) (sRw S).length) h'.1 ∧ ScM h h' := by
  have len := J.2.2.2.2.1
  intro d
  induction d with
  | zero =>
    intro i n h R T e hn
    obtain ⟨k, rfl⟩ := sfuel hn
    obtain ⟨r0, r1⟩ := R.2.2.2.1
    have hi : i = (sRw S).length := by omega
    refine ⟨h, ?_, by rw [← hi]; exact T, ScM_rfl h⟩
    simp (disch := omega) only [L_M_orderOf_32, r0, I_le]
    rw [if_pos (by omega)]
  | succ d ih =>
    intro i n h R T e hn
    obtain ⟨k, rfl⟩ := sfuel hn
    obtain ⟨r0, r1⟩ := R.2.2.2.1
    have v := row_v J (i := i) (by omega)
    have o := ok i (by omega)
    have lt := rdn_lt hl (fun i hi => (row_v J hi).1) ok i (by omega)
    obtain ⟨t, ht⟩ : ∃ t : Nat, (sRw S).getD i 0 = t := ⟨((sRw S).getD i 0).toNat, by omega⟩
    obtain ⟨h1, p1, t1, s1⟩ := m_turnNow (t := t) lt (by omega) T
    have e1 : rdn l (sRw S) (i + 1) = tl (rdn l (sRw S) i) t := by
      show tl (rdn l (sRw S) i) ((sRw S).getD i 0).toNat = _
      rw [ht, Int.toNat_natCast]
    rw [← e1] at t1
    obtain ⟨h2, p2, t2, s2⟩ := ih (i + 1) k h1 (RM_Sc R s1) t1 (by omega) (by omega)
    refine ⟨h2, ?_, t2, ScM_tr s1 s2⟩
    simp (disch := omega) only [L_M_orderOf_32, r0, I_le, if_neg (show ¬ ((sRw S).length : Int) ≤ (i : Int) by omega), ck_in, I_nat, Int.toNat_natCast, r1 i (by omega), ht, p1, bd_s, I_succ]
    exact p2
theorem itr_ok (J : InvS S) (tk : tOK (sRw S)) : ∀ n, okLie (itr (rdn 228 (sRw S) (sRw S).length) (hLie (sN S)) n) = true := by
  have v : ∀ i, i < (sRw S).length → 0 ≤ (sRw S).getD i 0 := fun i hi => (row_v J hi).1
  intro n
  induction n with
  | zero => exact J.2.2.2.2.2.2.2.2
  | succ n ih =>
    show okLie (act _ _) = true
    rw [← rdn_act ih v tk _ (Nat.le_refl _)]
    exact rdn_ok ih v tk _ (Nat.le_refl _)
theorem l_oroC (J : InvS S) (R : RC S h) (tk : tOK (sRw S)) {N : Nat} (h24 : N ≤ 24) (hN : itr (rdn 228 (sRw S) (sRw S).length) (hLie (sN S)) N = hLie (sN S)) (hm : ∀ j, 1 ≤ j → j < N → ¬ itr (rdn 228 (sRw S) (sRw S).length) (hLie (sN S)) j = hLie (sN S)) : ∀ d j n : Nat, j + d = N → 1 ≤ j → d < n →
    L_C_orderOf_28 n (I j) (I ((itr (rdn 228 (sRw S) (sRw S).length) (hLie (sN S)) j : Nat) : Int)) h = some (I N, h) := by
  have v : ∀ i, i < (sRw S).length → 0 ≤ (sRw S).getD i 0 := fun i hi => (row_v J hi).1
  have hl := ok_lt J.2.2.2.2.2.2.2.2
  intro d
  induction d with
  | zero =>
    intro j n e hj hn
    obtain ⟨k, rfl⟩ := sfuel hn
    obtain rfl : j = N := by omega
    rw [hN]
    simp only [L_C_orderOf_28, rn_l (rc_h R), if_true, ite_self]
  | succ d ih =>
    intro j n e hj hn
    obtain ⟨k, rfl⟩ := sfuel hn
    have g := ih (j + 1) k (by omega) (by omega) (by omega)
    have oj := itr_ok J tk j
    have ol := ok_lt oj
    have ne := hm j hj (by omega)
    have rd := c_rdn J R tk ol
    rw [rdn_act oj v tk _ (Nat.le_refl _)] at rd
    have rd' : F_C_rowDone (I ((itr (rdn 228 (sRw S) (sRw S).length) (hLie (sN S)) j : Nat) : Int)) h = some (I ((itr (rdn 228 (sRw S) (sRw S).length) (hLie (sN S)) (j + 1) : Nat) : Int), h) := rd
    have nI : (I ((itr (rdn 228 (sRw S) (sRw S).length) (hLie (sN S)) j : Nat) : Int) = I ((hLie (sN S) : Nat) : Int)) = False := by
      rw [I_eq (by omega) (by omega) (by omega) (by omega)]
      exact eq_false (by omega)
    simp (disch := omega) only [L_C_orderOf_28, I_le, if_neg (show ¬ (24 : Int) ≤ (j : Int) by omega), rn_l (rc_h R), nI, if_false, rd', bd_s, I_succ]
    exact g
theorem l_oroM (J : InvS S) (tk : tOK (sRw S)) {N : Nat} (hN : itr (rdn 228 (sRw S) (sRw S).length) (hLie (sN S)) N = hLie (sN S)) (hm : ∀ j, 1 ≤ j → j < N → ¬ itr (rdn 228 (sRw S) (sRw S).length) (hLie (sN S)) j = hLie (sN S)) : ∀ (d j n : Nat) (h : MH), j + d + 1 = N → d < n → RM S h → RepT (itr (rdn 228 (sRw S) (sRw S).length) (hLie (sN S)) j) h.1 →
    ∃ h', L_M_orderOf_30 (I ((cod (hLie (sN S)) : Nat) : Int)) n (I j) h = some (I N, h') ∧ ScM h h' := by
  have v : ∀ i, i < (sRw S).length → 0 ≤ (sRw S).getD i 0 := fun i hi => (row_v J hi).1
  have hl := ok_lt J.2.2.2.2.2.2.2.2
  have cl := cod_lt hl
  have ti : ∀ l, l < 512 → tcl (cod l) = l := fun l h => (tcl_dec ⟨l, h⟩).2.2.2.2.2.2.2
  intro d
  induction d with
  | zero =>
    intro j n h e hn R T
    obtain ⟨k, rfl⟩ := sfuel hn
    have oj := itr_ok J tk j
    obtain ⟨h1, p1, p2, p3⟩ := l_rdnM2 J tk (ok_lt oj) (x := I ((cod (hLie (sN S)) : Nat) : Int)) (y := I j) (sRw S).length 0 5000 h R T (by omega) (by have := J.2.2.2.2.1; omega)
    have p1' : L_M_orderOf_32 (I ((cod (hLie (sN S)) : Nat) : Int)) (I j) 5000 (I 0) h = some h1 := p1
    rw [rdn_act oj v tk _ (Nat.le_refl _)] at p2
    have e1 : act (rdn 228 (sRw S) (sRw S).length) (itr (rdn 228 (sRw S) (sRw S).length) (hLie (sN S)) j) = hLie (sN S) := by
      rw [← e] at hN
      exact hN
    rw [e1] at p2
    refine ⟨h1, ?_, p3⟩
    have ej : ((j + 1 : Nat) : Int) = (N : Int) := by omega
    simp only [L_M_orderOf_30, p1', bd_s, m_code hl p2, not_true, if_false, I_succ, ej]
  | succ d ih =>
    intro j n h e hn R T
    obtain ⟨k, rfl⟩ := sfuel hn
    have oj := itr_ok J tk j
    have oj1 := itr_ok J tk (j + 1)
    have ol1 := ok_lt oj1
    obtain ⟨h1, p1, p2, p3⟩ := l_rdnM2 J tk (ok_lt oj) (x := I ((cod (hLie (sN S)) : Nat) : Int)) (y := I j) (sRw S).length 0 5000 h R T (by omega) (by have := J.2.2.2.2.1; omega)
    have p1' : L_M_orderOf_32 (I ((cod (hLie (sN S)) : Nat) : Int)) (I j) 5000 (I 0) h = some h1 := p1
    rw [rdn_act oj v tk _ (Nat.le_refl _)] at p2
    have p2' : RepT (itr (rdn 228 (sRw S) (sRw S).length) (hLie (sN S)) (j + 1)) h1.1 := p2
    obtain ⟨h', q1, q2⟩ := ih (j + 1) k h1 (by omega) (by omega) (RM_Sc R p3) p2'
    refine ⟨h', ?_, ScM_tr p3 q2⟩
    have ne := hm (j + 1) (by omega) (by omega)
    have cl1 := cod_lt ol1
    have nI : (I ((cod (itr (rdn 228 (sRw S) (sRw S).length) (hLie (sN S)) (j + 1)) : Nat) : Int) = I ((cod (hLie (sN S)) : Nat) : Int)) = False := by
      rw [I_eq (by omega) (by omega) (by omega) (by omega)]
      refine eq_false (fun q => ne ?_)
      have q' : cod (itr (rdn 228 (sRw S) (sRw S).length) (hLie (sN S)) (j + 1)) = cod (hLie (sN S)) := by omega
      rw [← ti _ ol1, q', ti _ hl]
    simp only [L_M_orderOf_30, p1', bd_s, m_code ol1 p2', nI, not_false_iff, if_true, I_succ]
    exact q1
theorem q_orderOf (J : InvS S) : Q2 S F_C_orderOf F_M_orderOf := by
  have ok := J.2.2.2.2.2.2.2.2
  have hl := ok_lt ok
  have v : ∀ i, i < (sRw S).length → 0 ≤ (sRw S).getD i 0 := fun i hi => (row_v J hi).1
  by_cases tk : tOK (sRw S)
  · obtain ⟨N, n1, n24, hN, hm⟩ := itr_ex (rdn_ok ok_228 v tk _ (Nat.le_refl _)) ok
    refine ⟨(I N, 0), by show 0 < 7; omega, fun h R => ⟨h, ?_, ScC_rfl _⟩, fun h R => ?_⟩
    · have rd := c_rdn J R tk hl
      rw [rdn_act ok v tk _ (Nat.le_refl _)] at rd
      have rd' : F_C_rowDone (I ((hLie (sN S) : Nat) : Int)) h = some (I ((itr (rdn 228 (sRw S) (sRw S).length) (hLie (sN S)) 1 : Nat) : Int), h) := rd
      have g : L_C_orderOf_28 5000 (I 1) _ h = _ := l_oroC J R tk n24 hN hm (N - 1) 1 5000 (by omega) (by omega) (by omega)
      simp only [F_C_orderOf, c_rowT_t J R tk, bd_s, zero_I, one_ne, not_false_iff, if_true, rn_l (rc_h R), rd', g]
    · have R0 := RM_Sc R (ScM_setT h)
      obtain ⟨h1, p1, t1, s1⟩ := m_think (rm_h R0) hl
      obtain ⟨h2, q1, q2⟩ := l_oroM J tk hN hm (N - 1) 0 5000 h1 (by omega) (by omega) (RM_Sc R0 s1) t1
      have q1' : L_M_orderOf_30 (I ((cod (hLie (sN S)) : Nat) : Int)) 5000 (I 0) h1 = some (I N, h2) := q1
      refine ⟨h2, ?_, ScM_tr s1 q2⟩
      simp only [F_M_orderOf, setT_d, hw_s, m_are_t J R0 tk, bd_s, zero_I, one_ne, not_false_iff, if_true, p1, m_code hl t1, q1']
  · refine q_pl (I (-3)) 3 (by omega) (fun h R => ?_) (fun h R => ?_)
    · simp only [F_C_orderOf, c_rowT_f J R tk, bd_s, zero_I, not_true, if_false, c_ref3]
    · simp only [F_M_orderOf, setT_d, hw_s, m_are_f J R tk, bd_s, zero_I, not_true, if_false, m_ref3]
end ORO
