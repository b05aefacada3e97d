-- 12 turn
def setL (a : HS) (l : Nat) : HS := (a.1, nB a, nP a, nW a, l)
theorem unDo_L {a : HS} {l : Nat} : a = unDo (setL a l) 2 0 ((hLie a : Nat) : Int) := by
  show a = (a.1, nB a, nP a, nW a, ((hLie a : Nat) : Int).toNat)
  rw [Int.toNat_natCast]
theorem setL_l (a : HS) (l : Nat) : hLie (setL a l) = l := rfl
theorem m_keepT {l : Nat} {h : MH} (hl : l < 512) (T : RepT l h.1) : F_M_keepThought h = some (mm_hset (mm_hset (mm_hset (mm_hset (mm_hset h.1 61 0 (I ((dig l 0 : Nat) : Int))) 61 1 (I ((dig l 1 : Nat) : Int))) 61 2 (I ((dig l 2 : Nat) : Int))) 61 3 (I ((dig l 3 : Nat) : Int))) 55 9 (I ((l / 256 : Nat) : Int)), h.2) := by
  obtain ⟨o, d⟩ := T
  have d0 := d 0 (by omega)
  have d1 := d 1 (by omega)
  have d2 := d 2 (by omega)
  have d3 := d 3 (by omega)
  have z0 : (0 : Int).toNat = 0 := rfl
  have z1 : (0 + 1 : Int).toNat = 1 := rfl
  have z2 : (0 + 1 + 1 : Int).toNat = 2 := rfl
  have z3 : (0 + 1 + 1 + 1 : Int).toNat = 3 := rfl
  have g : ∀ n, L_M_keepThought_2 (n + 1 + 1 + 1 + 1 + 1) (I 0) h = some (mm_hset (mm_hset (mm_hset (mm_hset h.1 61 0 (I ((dig l 0 : Nat) : Int))) 61 1 (I ((dig l 1 : Nat) : Int))) 61 2 (I ((dig l 2 : Nat) : Int))) 61 3 (I ((dig l 3 : Nat) : Int)), h.2) := by
    intro n
    simp (disch := omega) only [L_M_keepThought_2, I_le, I_add, if_neg (show ¬ (4 : Int) ≤ 0 by omega), if_neg (show ¬ (4 : Int) ≤ 0 + 1 by omega), if_neg (show ¬ (4 : Int) ≤ 0 + 1 + 1 by omega), if_neg (show ¬ (4 : Int) ≤ 0 + 1 + 1 + 1 by omega), if_pos (show (4 : Int) ≤ 0 + 1 + 1 + 1 + 1 by omega), ck_in, I_nat, z0, z1, z2, z3, hw_s, hs_ne, d0, d1, d2, d3]
  have g' : L_M_keepThought_2 5000 (I 0) h = _ := g 4995
  have bit : (I ((l / 256 : Nat) : Int) &&& 1) = I ((l / 256 : Nat) : Int) := by
    rcases (show l / 256 = 0 ∨ l / 256 = 1 by omega) with q | q <;> rw [q] <;> decide
  simp (disch := omega) only [F_M_keepThought, g', bd_s, hs_ne, hw_s, o]
  exact cd_t bit
theorem s_turn {S : SS} (J : InvS S) {x : Int} (e1 : i32 x) : Step S (F_C_turn (I x)) (F_M_turn (I x)) := by
  obtain ⟨J1, J2, J3, J4, J5, J6, J7, J8, J9⟩ := id J
  obtain ⟨l1, g1⟩ := id e1
  have hl := ok_lt J9
  by_cases hx : 0 ≤ x ∧ x ≤ 3
  · obtain ⟨t, rfl⟩ : ∃ c : Nat, x = c := ⟨x.toNat, by omega⟩
    have ht : t < 4 := by omega
    have tlt : tl (hLie (sN S)) t < 512 := tl_lt ⟨hLie (sN S), hl⟩ ⟨t, ht⟩
    have tok : okLie (tl (hLie (sN S)) t) = true := tl_ok ⟨hLie (sN S), hl⟩ ⟨t, ht⟩ J9
    refine ⟨I ((own (tl (hLie (sN S)) t) 4 : Nat) : Int), chS S (setL (sN S) (tl (hLie (sN S)) t)), InvS_push J J1 tok, fun h R => ?_, fun h R => ?_⟩
    · obtain ⟨k1, p1, C⟩ := c_keep (x := (2 : Int)) (y := (0 : Int)) (z := ((hLie (sN S) : Nat) : Int)) J R
      obtain ⟨r1, r2, r3, r4, r5, r6⟩ := id R
      obtain ⟨c1, c2, c3, c4, c5⟩ := id C
      have el : h.1 8 10 = I (hLie (sN S)) := rn_l r1
      have el1 : k1.1 8 10 = I (hLie (sN S)) := by rw [c5 8 (by omega)]; exact el
      refine ⟨(mm_hset k1.1 8 10 (I ((tl (hLie (sN S)) t : Nat) : Int)), k1.2), ?_, ⟨?_, RImg_cg (h := h) (by simp (disch := omega) only [hs_ne, c5]) (fun k a b => by simp (disch := omega) only [hrow, c5]) r2, ⟨by simp (disch := omega) only [hs_ne, c5]; exact r3.1, fun i hi => by simp (disch := omega) only [hs_ne, c5]; exact r3.2 i hi⟩, ⟨by simp (disch := omega) only [hs_ne, c5]; exact r4.1, fun i hi => by simp (disch := omega) only [hs_ne, c5]; exact r4.2 i hi⟩, RUn_push (x := 2) (y := 0) r5 J7 C (by omega) (by omega) (fun q => by omega) (fun q => by omega) (by omega) (by omega) rfl rfl unDo_L (by simp (disch := omega) only [hs_ne]) (fun k a b => by simp (disch := omega) only [hrow]), fun i hi => by simp (disch := omega) only [hs_ne, c5]; exact r6 i hi⟩, fun k i hk => by simp (disch := omega) only [hs_ne, c5]⟩
      · simp (disch := omega) only [F_C_turn, c_noTurn_t hx.1 (show (t : Int) < 4 by omega), bd_s, zero_I, if_true, el, p1, el1, c_turned hl ht, hw_s, hs_eq, c_own tlt]
      · obtain ⟨t1, t2, t3, t4, t5, t6, t7, t8, t9, t10⟩ := r1
        exact ⟨by simp (disch := omega) only [hs_ne, c5]; exact t1, by simp (disch := omega) only [hs_ne, c5]; exact t2, by simp (disch := omega) only [hs_ne, c5]; exact t3, by simp only [hs_eq]; rfl, fun b hb => by simp (disch := omega) only [hs_ne, c5]; exact t5 b hb, fun i hi => by simp (disch := omega) only [hs_ne, c5]; exact t6 i hi, fun i hi => by simp (disch := omega) only [hs_ne, c5]; exact t7 i hi, fun i hi => by simp (disch := omega) only [hs_ne, c5]; exact t8 i hi, fun w hw => by simp (disch := omega) only [hs_ne, c5]; exact t9 w hw, fun w hw => by simp (disch := omega) only [hs_ne, c5]; exact t10 w hw⟩
    · have R' := RM_Sc R (ScM_setT h)
      obtain ⟨k1, p1, C⟩ := m_keepTurn J R'
      obtain ⟨r1, r2, r3, r4, r5, r6⟩ := id R'
      obtain ⟨c1, c2, c3⟩ := id C
      have c3r : ∀ k, ¬ k = 70 → ¬ k = 71 → ¬ k = 55 → k1.1 k = (setT h).1 k := fun k a b c => funext fun i => c3 k i a b (by omega)
      have Rk : RepM (sN S) k1.1 := RepM_cg (c3 55 0 (by omega) (by omega) (by omega)) (c3 55 2 (by omega) (by omega) (by omega)) (c3 55 5 (by omega) (by omega) (by omega)) (c3 55 9 (by omega) (by omega) (by omega)) (fun k a b => c3r k (by omega) (by omega) (by omega)) r1
      obtain ⟨k2, p2, T2, s2⟩ := m_think Rk hl
      obtain ⟨k3, p3, T3, s3⟩ := m_turnNow hl ht T2
      have p4 := m_keepT tlt T3
      have s := ScM_tr s2 s3
      have v : ∀ k i, scM k i = false → ¬ k = 70 → ¬ (k = 55 ∧ i = 30) → k3.1 k i = (setT h).1 k i := fun k i e a b => (s k i e).trans (c3 k i a (by rintro rfl; exact absurd e (by unfold scM; simp)) (by
        rintro ⟨rfl, q⟩
        rcases q with rfl | rfl | rfl
        · exact absurd e (by decide)
        · exact absurd e (by decide)
        · exact b ⟨rfl, rfl⟩))
      have vr : ∀ k, (∀ i, scM k i = false) → ¬ k = 70 → ¬ k = 55 → k3.1 k = (setT h).1 k := fun k e a b => funext fun i => v k i (e i) a (by omega)
      obtain ⟨h4, e4⟩ : ∃ h4 : MH, h4 = (mm_hset (mm_hset (mm_hset (mm_hset (mm_hset k3.1 61 0 (I ((dig (tl (hLie (sN S)) t) 0 : Nat) : Int))) 61 1 (I ((dig (tl (hLie (sN S)) t) 1 : Nat) : Int))) 61 2 (I ((dig (tl (hLie (sN S)) t) 2 : Nat) : Int))) 61 3 (I ((dig (tl (hLie (sN S)) t) 3 : Nat) : Int))) 55 9 (I ((tl (hLie (sN S)) t / 256 : Nat) : Int)), k3.2) := ⟨_, rfl⟩
      rw [← e4] at p4
      have w : ∀ k i, ¬ k = 61 → ¬ (k = 55 ∧ i = 9) → h4.1 k i = k3.1 k i := fun k i a b => by rw [e4]; simp (disch := omega) only [hs_ne]
      have wr : ∀ k, ¬ k = 61 → ¬ k = 55 → h4.1 k = k3.1 k := fun k a b => funext fun i => w k i a (by omega)
      obtain ⟨t1, t2, t3, t4, t5, t6, t7, t8, t9, t10⟩ := id r1
      have M4 : RepM (setL (sN S) (tl (hLie (sN S)) t)) h4.1 := by
        refine ⟨(w 55 0 (by omega) (by omega)).trans ((v 55 0 rfl (by omega) (by omega)).trans t1), (w 55 2 (by omega) (by omega)).trans ((v 55 2 rfl (by omega) (by omega)).trans t2), (w 55 5 (by omega) (by omega)).trans ((v 55 5 rfl (by omega) (by omega)).trans t3), by rw [e4]; simp only [hs_eq]; rfl, ?_, ?_, ?_, ?_, ?_, fun c hc => ?_⟩
        · rw [wr 56 (by omega) (by omega), vr 56 (fun _ => rfl) (by omega) (by omega)]
          exact t5
        · rw [wr 57 (by omega) (by omega), vr 57 (fun _ => rfl) (by omega) (by omega)]
          exact t6
        · rw [wr 58 (by omega) (by omega), vr 58 (fun _ => rfl) (by omega) (by omega)]
          exact t7
        · rw [wr 59 (by omega) (by omega), vr 59 (fun _ => rfl) (by omega) (by omega)]
          exact t8
        · rw [wr 60 (by omega) (by omega), vr 60 (fun _ => rfl) (by omega) (by omega)]
          exact t9
        · show _ = I ((dig (tl (hLie (sN S)) t) c : Nat) : Int)
          rw [e4]
          rcases (show c = 0 ∨ c = 1 ∨ c = 2 ∨ c = 3 by omega) with rfl | rfl | rfl | rfl <;> simp (disch := omega) only [hs_ne, hs_eq]
      refine ⟨h4, ?_, ⟨M4, RImgM_cg (h := setT h) ((w 55 24 (by omega) (by omega)).trans (v 55 24 rfl (by omega) (by omega))) ((wr 69 (by omega) (by omega)).trans (vr 69 (fun _ => rfl) (by omega) (by omega))) r2, ⟨(w 55 15 (by omega) (by omega)).trans ((v 55 15 rfl (by omega) (by omega)).trans r3.1), fun i hi => (w 64 i (by omega) (by omega)).trans ((v 64 i rfl (by omega) (by omega)).trans (r3.2 i hi))⟩, ⟨(w 55 34 (by omega) (by omega)).trans ((v 55 34 rfl (by omega) (by omega)).trans r4.1), fun i hi => (w 74 i (by omega) (by omega)).trans ((v 74 i rfl (by omega) (by omega)).trans (r4.2 i hi))⟩, RUnM_push C ((w 55 30 (by omega) (by omega)).trans (s 55 30 rfl)) ((wr 70 (by omega) (by omega)).trans (funext fun i => s 70 i rfl)), fun i hi => (w 62 i (by omega) (by omega)).trans ((v 62 i rfl (by omega) (by omega)).trans (r6 i hi))⟩, fun k i hk => (w k i (by omega) (by omega)).trans ((v k i (scM_lo hk) (by omega) (by omega)).trans (ScM_setT h k i (scM_lo hk)))⟩
      have mo := m_own M4
      rw [setL_l] at mo
      simp (disch := omega) only [F_M_turn, setT_d, hw_s, toI64, m_in, if_pos hx, bd_s, zero_I, one_ne, oz, not_false_iff, if_true, p1, p2, p3, p4, mo]
  · refine st_ref J (I (-2)) 2 (by omega) (fun h R => ?_) (fun h R => ?_)
    · simp only [F_C_turn, c_noTurn_f e1 (show ¬ (0 ≤ x ∧ x < 4) by omega), bd_s, zero_I, one_ne, if_false, c_ref2]
    · simp (disch := omega) only [F_M_turn, setT_d, hw_s, toI64, m_in, if_neg hx, bd_s, zero_I, not_true, if_false, m_ref2]
