-- 3 house: the class's side
def hoX (S : SS) : Nat ⊕ (Nat × (Nat ⊕ HS)) := match pA 100 (sLt S) 0 with
  | .inl q => .inl q
  | .inr ss => .inr (ss.length, apA (sN S) ss)
def hoV (S : SS) : Int := match hoX S with
  | .inl q => -1000 - (q : Int)
  | .inr (_, .inl p) => -2000 - (p : Int)
  | .inr (n, .inr _) => (n : Int)
def hoN (S : SS) (a : HS) (U : List HS) : SS := (a, sI S, [], sRw S, U, sR S)
def hoS (S : SS) : SS := match hoX S with
  | .inl _ => hoN S (sN S) (sU S)
  | .inr (_, .inl _) => hoN S (sN S) (sU S)
  | .inr (_, .inr a) => hoN S a []
theorem hoX_l {S : SS} {q : Nat} (h : pA 100 (sLt S) 0 = .inl q) : hoX S = .inl q := by unfold hoX; rw [h]
theorem hoX_r {S : SS} {ss : List Stm} (h : pA 100 (sLt S) 0 = .inr ss) : hoX S = .inr (ss.length, apA (sN S) ss) := by unfold hoX; rw [h]
theorem hoV_l {S : SS} {q : Nat} (h : hoX S = .inl q) : hoV S = -1000 - (q : Int) ∧ hoS S = hoN S (sN S) (sU S) := by unfold hoV hoS; rw [h]; exact ⟨rfl, rfl⟩
theorem hoV_p {S : SS} {n p : Nat} (h : hoX S = .inr (n, .inl p)) : hoV S = -2000 - (p : Int) ∧ hoS S = hoN S (sN S) (sU S) := by unfold hoV hoS; rw [h]; exact ⟨rfl, rfl⟩
theorem hoV_a {S : SS} {n : Nat} {a : HS} (h : hoX S = .inr (n, .inr a)) : hoV S = (n : Int) ∧ hoS S = hoN S a [] := by unfold hoV hoS; rw [h]; exact ⟨rfl, rfl⟩
theorem apA_p : ∀ (ss : List Stm) (a : HS) (p : Nat), apA a ss = .inl p → ∃ s, s ∈ ss ∧ s.1 = p := by
  intro ss
  induction ss with
  | nil => intro a p h; exact absurd h (by simp [apA])
  | cons s r ih =>
    intro a p h
    unfold apA at h
    rcases hA : apS a s.2.1 s.2.2 with _ | a1
    · rw [hA] at h
      exact ⟨s, List.mem_cons_self .., Sum.inl.inj h⟩
    · rw [hA] at h
      obtain ⟨s', m, e⟩ := ih a1 p h
      exact ⟨s', List.mem_cons_of_mem _ m, e⟩
theorem apA_inv : ∀ (ss : List Stm) (a a' : HS), InvH a → okLie (hLie a) = true → (∀ s, s ∈ ss → dOK s.2.2) → apA a ss = .inr a' → InvH a' ∧ okLie (hLie a') = true := by
  intro ss
  induction ss with
  | nil => intro a a' J ok _ h; rw [← Sum.inr.inj h]; exact ⟨J, ok⟩
  | cons s r ih =>
    intro a a' J ok hd h
    unfold apA at h
    rcases hA : apS a s.2.1 s.2.2 with _ | a1
    · rw [hA] at h
      exact absurd h (by simp)
    · rw [hA] at h
      obtain ⟨J1, ok1⟩ := apS_inv J ok (hd s (List.mem_cons_self ..)) hA
      exact ih a1 a' J1 ok1 (fun x hx => hd x (List.mem_cons_of_mem _ hx)) h
theorem pA_d : ∀ (f : Nat) (r : List Int) (p : Nat) (ss : List Stm), pA f r p = .inr ss → ∀ s, s ∈ ss → dOK s.2.2 ∧ s.1 < p + r.length := by
  intro f
  induction f with
  | zero => intro r p ss h; exact absurd h (by simp [pA])
  | succ f ih =>
    intro r p ss h
    rcases hS : pS r p with q | ⟨s, r3, q⟩
    · rw [pA_l hS] at h
      exact absurd h (by simp)
    · obtain ⟨c, ds, es, mz, l1, l2, hd, er, eq, -⟩ := pS_ok hS
      have e1l := congrArg List.length er
      rw [List.length_cons, List.length_append, List.length_map, List.length_cons] at e1l
      cases r3 with
      | nil =>
        rw [pA_e hS] at h
        rw [← Sum.inr.inj h]
        intro s' m
        rw [List.mem_singleton] at m
        rw [m, es]
        exact ⟨hd, by show p < p + r.length; omega⟩
      | cons y r4 =>
        rw [pA_c hS] at h
        rcases hq : pA f (y :: r4) q with w | w
        · rw [hq] at h
          exact absurd h (by simp [pA1])
        · rw [hq] at h
          rw [← Sum.inr.inj h]
          intro s' m
          rcases List.mem_cons.mp m with x | x
          · rw [x, es]
            exact ⟨hd, by show p < p + r.length; omega⟩
          · have g := ih _ _ _ hq s' x
            exact ⟨g.1, by omega⟩
theorem hoS_inv {S : SS} (J : InvS S) : InvS (hoS S) := by
  obtain ⟨J1, J2, J3, J4, J5, J6, J7, J8, J9⟩ := id J
  have k0 : ([] : List Int).length ≤ 96 := by show 0 ≤ 96; omega
  have k1 : ∀ x, x ∈ ([] : List Int) → 0 ≤ x ∧ x ≤ 255 := fun x h => absurd h List.not_mem_nil
  rcases hp : pA 100 (sLt S) 0 with q | ss
  · rw [(hoV_l (hoX_l hp)).2]
    exact ⟨J1, J2, k0, k1, J5, J6, J7, J8, J9⟩
  · have hx := hoX_r hp
    rcases hA : apA (sN S) ss with p | a
    · rw [hA] at hx
      rw [(hoV_p hx).2]
      exact ⟨J1, J2, k0, k1, J5, J6, J7, J8, J9⟩
    · rw [hA] at hx
      rw [(hoV_a hx).2]
      obtain ⟨i1, i2⟩ := apA_inv ss (sN S) a J1 J9 (fun s m => (pA_d _ _ _ _ hp s m).1) hA
      exact ⟨i1, J2, k0, k1, J5, J6, by show 0 ≤ 8; omega, fun a h => absurd h List.not_mem_nil, i2⟩
theorem LT_cg {l : List Int} {h h' : MH} (T : LT l h) (e1 : ∀ i, h'.1 29 i = h.1 29 i) (e2 : ∀ i, h'.1 30 i = h.1 30 i) : LT l h' := ⟨(e1 1).trans T.1, fun i hi => (e2 i).trans (T.2 i hi)⟩
section HOC
variable {S : SS} {h : MH}
theorem c_copy1 (h : MH) : F_H_copyFrom h = some (cpH h.1 8 22, h.2) := by
  simp (disch := omega) only [F_H_copyFrom, hw_s, n_0, n_4, n_6, hs_ne, cpy_ne]
  rfl
theorem c_copy2 (h : MH) : F_H_copyFrom_2 h = some (cpH h.1 22 8, h.2) := by
  simp (disch := omega) only [F_H_copyFrom_2, hw_s, n_0, n_4, n_6, hs_ne, cpy_ne]
  rfl
theorem c_tellTo {l : List Int} (K : Lok l) (T : LT l h) {a : HS} {ss : List Stm} (R : RepH 22 a h.1) (J : InvH a) (ok : okLie (hLie a) = true) (hp : pA 100 l 0 = .inr ss) :
    ∃ h', F_T_tellTo h = some (I (match apA a ss with | .inl p => (p : Int) | .inr _ => -1), h') ∧ (∀ a', apA a ss = .inr a' → RepH 22 a' h'.1) ∧ Fr22 h h' := by
  have k96 := K.1
  obtain ⟨h', p1, p2, p3⟩ := l_tellTo K 100 l [] ss 5000 a h rfl (by omega) hp R J ok T
  refine ⟨h', ?_, p2, p3⟩
  have p1' : L_T_tellTo_4 5000 (I 0) (I 0) h = _ := p1
  simp only [F_T_tellTo, p1']
  rcases apA a ss with p | a' <;> rfl
theorem c_house (J : InvS S) (R : RC S h) : ∃ h', F_C_house h = some (I (hoV S), h') ∧ RC (hoS S) h' ∧ FrC h h' := by
  obtain ⟨J1, J2, J3, J4, J5, J6, J7, J8, J9⟩ := id J
  have K : Lok (sLt S) := ⟨J3, J4⟩
  obtain ⟨r1, r2, r3, r4, r5, r6⟩ := id R
  have T : LT (sLt S) h := r3
  have cf := c_fault K T
  have fin : ∀ (g : MH), (g.2 = h.2 ∧ ∀ k, ¬ (22 ≤ k ∧ k ≤ 28) → g.1 k = h.1 k) → RC (hoN S (sN S) (sU S)) (mm_hset g.1 29 1 (I 0), g.2) ∧ FrC h (mm_hset g.1 29 1 (I 0), g.2) := by
    intro g hg
    have v : ∀ k i, ¬ (22 ≤ k ∧ k ≤ 28) → ¬ (k = 29 ∧ i = 1) → mm_hset g.1 29 1 (I 0) k i = h.1 k i := fun k i a b => by rw [hs_ne b, hg.2 k a]
    have vr : ∀ k, ¬ (22 ≤ k ∧ k ≤ 28) → ¬ k = 29 → mm_hset g.1 29 1 (I 0) k = h.1 k := fun k a b => funext fun i => v k i a (by omega)
    refine ⟨⟨RepH_cg (fun k a b => vr k (by omega) (by omega)) r1, RImg_cg (h := h) (v 0 10 (by omega) (by omega)) (fun k a b => vr k (by omega) (by omega)) r2, ⟨by simp only [hs_eq]; rfl, fun i hi => absurd hi (Nat.not_lt_zero i)⟩, ⟨(v 0 9 (by omega) (by omega)).trans r4.1, fun i hi => (v 53 i (by omega) (by omega)).trans (r4.2 i hi)⟩, RUn_cg (h := h) (S := S) (v 31 3 (by omega) (by omega)) (fun k a b => vr k (by omega) (by omega)) r5, fun i hi => (v 54 i (by omega) (by omega)).trans (r6 i hi)⟩, fun k i hk => v k i (by omega) (by omega)⟩
  rcases hp : pA 100 (sLt S) 0 with q | ss
  · rw [(hoV_l (hoX_l hp)).1, (hoV_l (hoX_l hp)).2]
    rw [hp] at cf
    have cf' : F_T_faultPlace h = some (I (q : Int), h) := cf
    have qb := pA_le 100 (sLt S) 0 q hp
    obtain ⟨f1, f2⟩ := fin h ⟨rfl, fun k _ => rfl⟩
    refine ⟨_, ?_, f1, f2⟩
    simp (disch := omega) only [F_C_house, F_C_houseTold, cf', bd_s, zero_I, I_lt, if_neg (show ¬ (q : Int) < 0 by omega), I_sub, hw_s]
  · have hx := hoX_r hp
    rw [hp] at cf
    have cf' : F_T_faultPlace h = some (I (-1), h) := cf
    have R22 : RepH 22 (sN S) (cpH h.1 8 22) := cpH_rep J1 (by omega) r1
    have T1 : LT (sLt S) (cpH h.1 8 22, h.2) := LT_cg T (fun i => by
      show cpH h.1 8 22 29 i = h.1 29 i
      rw [cpH_ne (by omega)]) (fun i => by
      show cpH h.1 8 22 30 i = h.1 30 i
      rw [cpH_ne (by omega)])
    obtain ⟨h1, p1, p2, p3⟩ := c_tellTo (h := (cpH h.1 8 22, h.2)) K T1 R22 J1 J9 hp
    have g1 : h1.2 = h.2 ∧ ∀ k, ¬ (22 ≤ k ∧ k ≤ 28) → h1.1 k = h.1 k := ⟨p3.1, fun k e => (p3.2 k e).trans (cpH_row (by omega))⟩
    rcases hA : apA (sN S) ss with p | a
    · rw [hA] at p1 hx
      rw [(hoV_p hx).1, (hoV_p hx).2]
      have p1' : F_T_tellTo (cpH h.1 8 22, h.2) = some (I (p : Int), h1) := p1
      obtain ⟨s, sm, sp⟩ := apA_p ss (sN S) p hA
      have sb := (pA_d _ _ _ _ hp s sm).2
      obtain ⟨f1, f2⟩ := fin h1 g1
      refine ⟨_, ?_, f1, f2⟩
      simp (disch := omega) only [F_C_house, F_C_houseTold, cf', bd_s, zero_I, I_lt, if_pos (show (-1 : Int) < 0 by omega), c_copy1, p1', if_neg (show ¬ (p : Int) < 0 by omega), I_sub, hw_s]
    · rw [hA] at p1 hx
      rw [(hoV_a hx).1, (hoV_a hx).2]
      have p1' : F_T_tellTo (cpH h.1 8 22, h.2) = some (I (-1), h1) := p1
      obtain ⟨i1, i2⟩ := apA_inv ss (sN S) a J1 J9 (fun s m => (pA_d _ _ _ _ hp s m).1) hA
      have R8 : RepH 8 a (cpH h1.1 22 8) := cpH_rep i1 (by omega) (p2 a hA)
      have T2 : LT (sLt S) (mm_hset (cpH h1.1 22 8) 31 3 (I 0), h1.2) := LT_cg T (fun i => by
        show mm_hset (cpH h1.1 22 8) 31 3 (I 0) 29 i = h.1 29 i
        rw [hs_ne (by omega), cpH_ne (by omega), g1.2 29 (by omega)]) (fun i => by
        show mm_hset (cpH h1.1 22 8) 31 3 (I 0) 30 i = h.1 30 i
        rw [hs_ne (by omega), cpH_ne (by omega), g1.2 30 (by omega)])
      have st := l_stms K T2 (sLt S) [] 5000 0 rfl (by omega)
      rw [pA_59 _ _ _ _ hp, Nat.zero_add] at st
      have st' : L_T_statements_4 5000 (I 0) (I 0) (mm_hset (cpH h1.1 22 8) 31 3 (I 0), h1.2) = _ := st
      have v : ∀ k i, ¬ (22 ≤ k ∧ k ≤ 28) → ¬ (8 ≤ k ∧ k ≤ 14) → ¬ (k = 29 ∧ i = 1) → ¬ (k = 31 ∧ i = 3) → mm_hset (mm_hset (cpH h1.1 22 8) 31 3 (I 0)) 29 1 (I 0) k i = h.1 k i := fun k i a b c d => by rw [hs_ne c, hs_ne d, cpH_ne (by omega), g1.2 k a]
      have vr : ∀ k, ¬ (22 ≤ k ∧ k ≤ 28) → ¬ (8 ≤ k ∧ k ≤ 14) → ¬ k = 29 → ¬ k = 31 → mm_hset (mm_hset (cpH h1.1 22 8) 31 3 (I 0)) 29 1 (I 0) k = h.1 k := fun k a b c d => funext fun i => v k i a b (by omega) (by omega)
      refine ⟨(mm_hset (mm_hset (cpH h1.1 22 8) 31 3 (I 0)) 29 1 (I 0), h1.2), ?_, ⟨RepH_cg (fun k a b => by simp (disch := omega) only [hrow]) R8, RImg_cg (h := h) (v 0 10 (by omega) (by omega) (by omega) (by omega)) (fun k a b => vr k (by omega) (by omega) (by omega) (by omega)) r2, ⟨by simp only [hs_eq]; rfl, fun i hi => absurd hi (Nat.not_lt_zero i)⟩, ⟨(v 0 9 (by omega) (by omega) (by omega) (by omega)).trans r4.1, fun i hi => (v 53 i (by omega) (by omega) (by omega) (by omega)).trans (r4.2 i hi)⟩, RUn_nil (by simp (disch := omega) only [hs_ne, hs_eq]) rfl, fun i hi => (v 54 i (by omega) (by omega) (by omega) (by omega)).trans (r6 i hi)⟩, fun k i hk => v k i (by omega) (by omega) (by omega) (by omega)⟩
      simp (disch := omega) only [F_C_house, F_C_houseTold, cf', bd_s, zero_I, I_lt, if_pos (show (-1 : Int) < 0 by omega), c_copy1, p1', c_copy2, hw_s, F_T_statements, st']
end HOC
