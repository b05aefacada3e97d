-- 3 house: the model's side
def FrY (h h' : MH) : Prop := ∀ k i, ¬ (k = 55 ∧ (i ≤ 18 ∨ i = 25 ∨ i = 26 ∨ i = 30)) → ¬ (56 ≤ k ∧ k ≤ 61) → ¬ k = 63 → ¬ (65 ≤ k ∧ k ≤ 68) → h'.1 k i = h.1 k i
theorem FrY_tr {a b c : MH} (p : FrY a b) (q : FrY b c) : FrY a c := fun k i x y z u => (q k i x y z u).trans (p k i x y z u)
theorem FrY_K {k : Nat} {a b : MH} (p : FrK k a b) : FrY a b := fun a i x _ _ u => p.2 a i (by omega) (by omega) (by omega)
theorem FrY_X {a b : MH} (p : FrX a b) : FrY a b := fun a i x y z _ => p a i (by omega) y z
theorem FrY_T {a b : MH} (p : Tk 68 a b 52) : FrY a b := fun k i x _ _ u => p.2.2.2.2 k i (by omega) (by omega)
theorem ca_nc {k i : Nat} (a : ¬ (56 ≤ k ∧ k ≤ 61)) (b : ¬ (k = 55 ∧ (i = 0 ∨ i = 2 ∨ i = 5 ∨ i = 9))) : ∀ j, j < 52 → ¬ ca j = (k, i) := by
  intro j hj e
  have q := ca_pl ⟨j, hj⟩
  simp only at q
  rw [e] at q
  simp only at q
  omega
theorem FrY_G {a b : MH} (p : Gk 68 a b 52) : FrY a b := fun k i x y _ _ => p.2.2.2.2 k i (ca_nc y (by omega)) (by omega)
theorem FrY_M {a b : MH} (p : FrY a b) : FrM a b := fun k i hk => p k i (by omega) (by omega) (by omega) (by omega)
section HOM
variable {S : SS} {h : MH}
theorem RM_Y {h' : MH} {a : HS} (R : RM S h) (q : FrY h h') (M : RepM a h'.1) (e15 : h'.1 55 15 = I 0) : (h'.1 55 30 = h.1 55 30 → a = sN S → RM (hoN S (sN S) (sU S)) h') ∧ (h'.1 55 30 = I 0 → RM (hoN S a []) h') := by
  obtain ⟨r1, r2, r3, r4, r5, r6⟩ := R
  have e69 : h'.1 69 = h.1 69 := funext fun i => q 69 i (by omega) (by omega) (by omega) (by omega)
  have e70 : h'.1 70 = h.1 70 := funext fun i => q 70 i (by omega) (by omega) (by omega) (by omega)
  have g2 : RImgM (sI S) h' := RImgM_cg (q 55 24 (by omega) (by omega) (by omega) (by omega)) e69 r2
  have g4 : h'.1 55 34 = I (sRw S).length ∧ ∀ i, i < (sRw S).length → h'.1 74 i = I ((sRw S).getD i 0) := ⟨(q 55 34 (by omega) (by omega) (by omega) (by omega)).trans r4.1, fun i hi => (q 74 i (by omega) (by omega) (by omega) (by omega)).trans (r4.2 i hi)⟩
  have g6 : ∀ i, i < 7 → h'.1 62 i = sR S i := fun i hi => (q 62 i (by omega) (by omega) (by omega) (by omega)).trans (r6 i hi)
  have g3 : h'.1 55 15 = I (([] : List Int).length : Int) ∧ ∀ i, i < ([] : List Int).length → h'.1 64 i = I (([] : List Int).getD i 0) := ⟨e15, fun i hi => absurd hi (Nat.not_lt_zero i)⟩
  refine ⟨fun e30 ea => ?_, fun e30 => ?_⟩
  · subst ea
    exact ⟨M, g2, g3, g4, RUnM_cg (S := S) e30 e70 r5, g6⟩
  · exact ⟨M, g2, g3, g4, RUnM_nil (S := hoN S a []) e30 rfl, g6⟩
theorem pA_m : ∀ (f : Nat) (r : List Int) (p : Nat) (ss : List Stm), pA f r p = .inr ss → ∀ s, s ∈ ss → ¬ mostL s.2.1 = 0 ∧ s.2.2.length ≤ 9 := by
  intro f
  induction f with
  | zero => intro r p ss h; exact absurd h (by simp [pA])
  | succ f ih =>
    intro r p ss h
    rcases hS : pS r p with q | ⟨s, r3, q⟩
    · rw [pA_l hS] at h
      exact absurd h (by simp)
    · obtain ⟨c, ds, es, mz, l1, l2, -⟩ := pS_ok hS
      have ml := mostL_le c
      cases r3 with
      | nil =>
        rw [pA_e hS] at h
        rw [← Sum.inr.inj h]
        intro s' m
        rw [List.mem_singleton] at m
        rw [m, es]
        exact ⟨mz, Nat.le_trans l2 ml⟩
      | cons y r4 =>
        rw [pA_c hS] at h
        rcases hq : pA f (y :: r4) q with w | w
        · rw [hq] at h
          exact absurd h (by simp [pA1])
        · rw [hq] at h
          rw [← Sum.inr.inj h]
          intro s' m
          rcases List.mem_cons.mp m with x | x
          · rw [x, es]
            exact ⟨mz, Nat.le_trans l2 ml⟩
          · exact ih _ _ _ hq s' x
theorem l_ht {ss : List Stm} (hs : ∀ s, s ∈ ss → dOK s.2.2 ∧ ¬ mostL s.2.1 = 0 ∧ s.2.2.length ≤ 9) (len : ss.length ≤ 33) : ∀ (r pre : List Stm) (n : Nat) (a : HS) (h : MH), ss = pre ++ r → r.length < n → RepM a h.1 → InvH a → okLie (hLie a) = true → (∀ i s, ss[i]? = some s → tdS s i h.1) → h.1 55 18 = I (ss.length : Int) → (h.1 68 3 = I 0 ∨ h.1 68 3 = I 1) →
    (∀ a', apA a r = .inr a' → ∃ h', L_M_house_84 n (I (pre.length : Int)) h = some (.inr h') ∧ RepM a' h'.1 ∧ FrX h h') ∧ (∀ p, apA a r = .inl p → ∃ h1 h', L_M_house_84 n (I (pre.length : Int)) h = some (.inl (I (-2000 - (p : Int)), h')) ∧ FrX h h1 ∧ Gk 68 h1 h' 52) := by
  intro r
  induction r with
  | nil =>
    intro pre n a h e hn R J ok D S8 o
    obtain ⟨n, rfl⟩ := sfuel hn
    have ll : ss.length = pre.length := by rw [e]; simp
    refine ⟨fun a' q => ⟨h, ?_, ?_, FrX_rfl h⟩, fun p q => absurd q (by simp [apA])⟩
    · simp (disch := omega) only [L_M_house_84, S8, I_le]
      rw [if_pos (by omega)]
    · rw [← Sum.inr.inj q]
      exact R
  | cons s r ih =>
    intro pre n a h e hn R J ok D S8 o
    rw [List.length_cons] at hn
    obtain ⟨n, rfl⟩ := sfuel (show r.length < n by omega)
    have ll : ss.length = pre.length + 1 + r.length := by rw [e]; simp; omega
    have sin : s ∈ ss := by rw [e]; simp
    obtain ⟨s1, s2, s3⟩ := hs s sin
    have Ds : tdS s pre.length h.1 := D pre.length s (by rw [e]; simp)
    obtain ⟨h1, p1, p2, p3⟩ := m_told R (show pre.length ≤ 48 by omega) Ds s1 s3 s2 J ok
    have eA : apA a (s :: r) = match apS a s.2.1 s.2.2 with
      | none => .inl s.1
      | some a' => apA a' r := rfl
    have pe : (pre ++ [s]).length = pre.length + 1 := by simp
    rcases hA : apS a s.2.1 s.2.2 with _ | a1
    · rw [hA] at p1 eA
      have eA' : apA a (s :: r) = .inl s.1 := eA
      have p1' : F_M_comesTold (I (pre.length : Int)) h = some (I 0, h1) := p1
      rw [eA']
      obtain ⟨h', g1, g2⟩ := gi_all (h0 := h1) (by rw [p2 68 3 (by omega) (by omega) (by omega)]; exact o)
      refine ⟨fun a' q => absurd q (by simp), fun p q => ⟨h1, h', ?_, p2, g2⟩⟩
      have e65 : h'.1 65 pre.length = I (s.1 : Int) := by
        rw [g2.2.2.2.2 65 _ (ca_nc (by omega) (by omega)) (by omega), p2 65 _ (by omega) (by omega) (by omega)]
        exact Ds.1
      rw [← Sum.inl.inj q]
      simp (disch := omega) only [L_M_house_84, S8, I_le, if_neg (show ¬ (ss.length : Int) ≤ (pre.length : Int) by omega), p1', bd_s, zero_I, not_true, if_false, g1, ck_in, I_nat, Int.toNat_natCast, e65, I_sub]
    · rw [hA] at p1 eA
      have eA' : apA a (s :: r) = apA a1 r := eA
      have p1' : F_M_comesTold (I (pre.length : Int)) h = some (I 1, h1) := p1
      rw [eA']
      obtain ⟨i1, i2⟩ := apS_inv J ok s1 hA
      have D1 : ∀ i s, ss[i]? = some s → tdS s i h1.1 := by
        intro i s' hi
        have d := D i s' hi
        refine ⟨(p2 65 i (by omega) (by omega) (by omega)).trans d.1, (p2 66 i (by omega) (by omega) (by omega)).trans d.2.1, tdN_cg d.2.2 (fun j => p2 67 j (by omega) (by omega) (by omega))⟩
      have go : L_M_house_84 (n + 1) (I (pre.length : Int)) h = L_M_house_84 n (I ((pre.length + 1 : Nat) : Int)) h1 := by
        simp (disch := omega) only [L_M_house_84, S8, I_le, if_neg (show ¬ (ss.length : Int) ≤ (pre.length : Int) by omega), p1', bd_s, zero_I, one_ne, not_false_iff, if_true, I_succ]
      obtain ⟨g1, g2⟩ := ih (pre ++ [s]) n a1 h1 (by rw [e]; simp) (by omega) (p3 a1 hA) i1 i2 D1 ((p2 55 18 (by omega) (by omega) (by omega)).trans S8) (by rw [p2 68 3 (by omega) (by omega) (by omega)]; exact o)
      rw [pe] at g1 g2
      rw [go]
      refine ⟨fun a' q => ?_, fun p q => ?_⟩
      · obtain ⟨h', q1, q2, q3⟩ := g1 a' q
        exact ⟨h', q1, q2, FrX_tr p2 q3⟩
      · obtain ⟨h2, h', q1, q2, q3⟩ := g2 p q
        exact ⟨h2, h', q1, FrX_tr p2 q2, q3⟩
theorem m_house (J : InvS S) (R : RM S h) : ∃ h', F_M_house h = some (I (hoV S), h') ∧ RM (hoS S) h' ∧ FrM h h' := by
  obtain ⟨J1, J2, J3, J4, J5, J6, J7, J8, J9⟩ := id J
  have K : Lok (sLt S) := ⟨J3, J4⟩
  obtain ⟨r1, r2, r3, r4, r5, r6⟩ := id R
  obtain ⟨h4, e4⟩ : ∃ h4 : MH, h4 = (mm_hset (mm_hset (mm_hset (mm_hset h.1 55 10 (I 0)) 55 16 (I 0)) 55 17 (I 0)) 55 18 (I 0), h.2) := ⟨_, rfl⟩
  have v4 : ∀ k i, ¬ (k = 55 ∧ (i = 10 ∨ i = 16 ∨ i = 17 ∨ i = 18)) → h4.1 k i = h.1 k i := fun k i a => by rw [e4]; simp (disch := omega) only [hs_ne]
  have T4 : LM (sLt S) h4 := ⟨(v4 55 15 (by omega)).trans r3.1, fun i hi => (v4 64 i (by omega)).trans (r3.2 i hi)⟩
  have G4 : GS ([] : List Int).length 0 h4 := by rw [e4]; exact ⟨by simp (disch := omega) only [hs_ne, hs_eq]; rfl, by simp (disch := omega) only [hs_ne, hs_eq]; rfl⟩
  have S4 : h4.1 55 18 = I ((0 : Nat) : Int) := by rw [e4]; simp only [hs_eq]; rfl
  obtain ⟨h10, p1, p2, p3, p4⟩ := l_hs K 100 5000 (sLt S) [] 0 h4 rfl (by omega) (by omega) (Or.inl rfl) (by omega) T4 G4 S4
  obtain ⟨h11, e11⟩ : ∃ h11 : MH, h11 = (mm_hset h10.1 55 15 (I 0), h10.2) := ⟨_, rfl⟩
  have v11 : ∀ k i, ¬ (k = 55 ∧ i = 15) → h11.1 k i = h10.1 k i := fun k i a => by rw [e11]; exact hs_ne a
  have e15 : h11.1 55 15 = I 0 := by rw [e11]; simp only [hs_eq]
  have go : F_M_house h = (if (h11.1 55 17) = 0 then bd (F_M_carryAll (I 1) h11) (fun h12 => be (L_M_house_84 5000 (I 0) h12) (fun u19 => some u19) (fun h18 => hw (mm_hset h18.1 55 30 (I 0), h18.2) (fun h20 => some (h20.1 55 18, h20)))) else some ((I (-1000)) - (h11.1 55 16), h11)) := by
    unfold F_M_house
    rw [hw_s, hw_s, hw_s, hw_s]
    show bd (L_M_house_20 5000 (mm_hset (mm_hset (mm_hset (mm_hset h.1 55 10 (I 0)) 55 16 (I 0)) 55 17 (I 0)) 55 18 (I 0), h.2)) _ = _
    rw [← e4, p1, bd_s, hw_s, ← e11]
  have f4 : FrY h h4 := fun k i x _ _ _ => v4 k i (by omega)
  have f11 : FrY h h11 := FrY_tr (FrY_tr f4 (FrY_K p2)) (fun k i x _ _ _ => v11 k i (by omega))
  have m11 : ∀ k i, ¬ (k = 55 ∧ (i = 10 ∨ i = 15 ∨ i = 16 ∨ i = 17 ∨ i = 18)) → ¬ (65 ≤ k ∧ k ≤ 67) → h11.1 k i = h.1 k i := fun k i a b => (v11 k i (by omega)).trans ((p2.2 k i (by omega) (by omega) (by omega)).trans (v4 k i (by omega)))
  have M11 : RepM (sN S) h11.1 := RepM_cg (m11 55 0 (by omega) (by omega)) (m11 55 2 (by omega) (by omega)) (m11 55 5 (by omega) (by omega)) (m11 55 9 (by omega) (by omega)) (fun k a b => funext fun i => m11 k i (by omega) (by omega)) r1
  have e30 : h11.1 55 30 = h.1 55 30 := m11 55 30 (by omega) (by omega)
  rcases hp : pA 100 (sLt S) 0 with q | ss
  · rw [(hoV_l (hoX_l hp)).1, (hoV_l (hoX_l hp)).2]
    have G1 := p3 q hp
    have qb := pA_le 100 (sLt S) 0 q hp
    refine ⟨h11, go.trans ?_, (RM_Y R f11 M11 e15).1 e30 rfl, FrY_M f11⟩
    rw [if_neg (by rw [v11 55 17 (by omega), bad_I G1.2 (Or.inr rfl)]; omega), v11 55 16 (by omega), G1.1, I_sub]
  · have hx := hoX_r hp
    obtain ⟨b1, b2, b3, b4⟩ := p4 ss hp
    obtain ⟨h12, c1, c2⟩ := ti_all (h0 := h11) (bit9 (ok_lt J9) (rm_o M11))
    have hs : ∀ s, s ∈ ss → dOK s.2.2 ∧ ¬ mostL s.2.1 = 0 ∧ s.2.2.length ≤ 9 := fun s m => ⟨(pA_d _ _ _ _ hp s m).1, pA_m _ _ _ _ hp s m⟩
    have D12 : ∀ i s, ss[i]? = some s → tdS s i h12.1 := by
      intro i s hi
      have d := b4 i s hi
      rw [Nat.zero_add] at d
      have e : ∀ k i, 65 ≤ k → k ≤ 67 → h12.1 k i = h10.1 k i := fun k i x y => (c2.2.2.2.2 k i (by omega) (by omega)).trans (v11 k i (by omega))
      exact ⟨(e 65 i (by omega) (by omega)).trans d.1, (e 66 i (by omega) (by omega)).trans d.2.1, tdN_cg d.2.2 (fun j => e 67 j (by omega) (by omega))⟩
    have w12 : ∀ k i, ¬ k = 68 → ¬ (k = 55 ∧ (i = 25 ∨ i = 26)) → h12.1 k i = h11.1 k i := c2.2.2.2.2
    have M12 : RepM (sN S) h12.1 := RepM_cg (w12 55 0 (by omega) (by omega)) (w12 55 2 (by omega) (by omega)) (w12 55 5 (by omega) (by omega)) (w12 55 9 (by omega) (by omega)) (fun k a b => funext fun i => w12 k i (by omega) (by omega)) M11
    have S12 : h12.1 55 18 = I (ss.length : Int) := by
      rw [w12 55 18 (by omega) (by omega), v11 55 18 (by omega), b2, Nat.zero_add]
    have V12 : RepV (sN S) (h12.1 68) := RepV_sv J1 M11 c2.2.2.2.1
    have o12 : h12.1 68 3 = I 0 ∨ h12.1 68 3 = I 1 := bit9 (ok_lt J9) V12.2.2.2.1
    have f12 : FrY h h12 := FrY_tr f11 (FrY_T c2)
    have go2 : F_M_house h = be (L_M_house_84 5000 (I 0) h12) (fun u19 => some u19) (fun h18 => hw (mm_hset h18.1 55 30 (I 0), h18.2) (fun h20 => some (h20.1 55 18, h20))) := by
      rw [go, if_pos (by rw [v11 55 17 (by omega), bad_I b1 (Or.inl rfl)]), c1, bd_s]
    obtain ⟨g1, g2⟩ := l_ht hs (by omega) ss [] 5000 (sN S) h12 rfl (by omega) M12 J1 J9 D12 S12 o12
    rcases hA : apA (sN S) ss with p | a
    · rw [hA] at hx
      rw [(hoV_p hx).1, (hoV_p hx).2]
      obtain ⟨h1, h', q1, q2, q3⟩ := g2 p hA
      have q1' : L_M_house_84 5000 (I 0) h12 = some (.inl (I (-2000 - (p : Int)), h')) := q1
      have f' : FrY h h' := FrY_tr f12 (FrY_tr (FrY_X q2) (FrY_G q3))
      have w' : ∀ k i, ¬ (56 ≤ k ∧ k ≤ 61) → ¬ (k = 55 ∧ (i = 0 ∨ i = 2 ∨ i = 5 ∨ i = 9 ∨ i = 13 ∨ i = 25 ∨ i = 26)) → ¬ k = 63 → ¬ k = 68 → h'.1 k i = h11.1 k i := fun k i x y z u => (q3.2.2.2.2 k i (ca_nc x (by omega)) (by omega)).trans ((q2 k i (by omega) x z).trans (w12 k i u (by omega)))
      have V1 : RepV (sN S) (h1.1 68) := by
        rw [show h1.1 68 = h12.1 68 from funext fun i => q2 68 i (by omega) (by omega) (by omega)]
        exact V12
      have M' : RepM (sN S) h'.1 := RepM_sv J1 V1 q3.2.2.2.1
      refine ⟨h', go2.trans ?_, (RM_Y R f' M' ((w' 55 15 (by omega) (by omega) (by omega) (by omega)).trans e15)).1 ((w' 55 30 (by omega) (by omega) (by omega) (by omega)).trans e30) rfl, FrY_M f'⟩
      rw [q1']
      rfl
    · rw [hA] at hx
      rw [(hoV_a hx).1, (hoV_a hx).2]
      obtain ⟨h', q1, q2, q3⟩ := g1 a hA
      have q1' : L_M_house_84 5000 (I 0) h12 = some (.inr h') := q1
      have f' : FrY h (mm_hset h'.1 55 30 (I 0), h'.2) := FrY_tr (FrY_tr f12 (FrY_X q3)) (fun k i x _ _ _ => hs_ne (by omega))
      have z15 : mm_hset h'.1 55 30 (I 0) 55 15 = I 0 := by
        rw [hs_ne (by omega), q3 55 15 (by omega) (by omega) (by omega), w12 55 15 (by omega) (by omega), e15]
      have z18 : mm_hset h'.1 55 30 (I 0) 55 18 = I (ss.length : Int) := by
        rw [hs_ne (by omega), q3 55 18 (by omega) (by omega) (by omega), S12]
      have M' : RepM a (mm_hset h'.1 55 30 (I 0)) := RepM_cg (by simp (disch := omega) only [hs_ne]) (by simp (disch := omega) only [hs_ne]) (by simp (disch := omega) only [hs_ne]) (by simp (disch := omega) only [hs_ne]) (fun k a b => by simp (disch := omega) only [hrow]) q2
      refine ⟨(mm_hset h'.1 55 30 (I 0), h'.2), go2.trans ?_, (RM_Y R f' M' z15).2 (by simp only [hs_eq]), FrY_M f'⟩
      rw [q1', be_inr, hw_s]
      show some (mm_hset h'.1 55 30 (I 0) 55 18, _) = _
      rw [z18]
theorem s_house (J : InvS S) : Step S F_C_house F_M_house := ⟨I (hoV S), hoS S, hoS_inv J, fun _ R => c_house J R, fun _ R => m_house J R⟩
end HOM
