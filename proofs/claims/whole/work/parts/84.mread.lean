-- 3 house: all statements are read
theorem mostL_le (c : Int) : mostL c ≤ 9 := by
  unfold mostL
  by_cases c1 : c = 98
  · rw [if_pos c1]; omega
  · rw [if_neg c1]
    by_cases c2 : c = 112
    · rw [if_pos c2]; omega
    · rw [if_neg c2]
      by_cases c3 : c = 116
      · rw [if_pos c3]; omega
      · rw [if_neg c3]
        by_cases c4 : c = 119
        · rw [if_pos c4]; omega
        · rw [if_neg c4]; omega
theorem leastL_ge {c : Int} (h : ¬ mostL c = 0) : 1 ≤ leastL c := by
  unfold leastL
  by_cases c3 : c = 116
  · rw [if_pos c3]; omega
  · rw [if_neg c3]; omega
section HSL
variable {l : List Int}
theorem hs_go {n k : Nat} {r pre : List Int} {h : MH} (K : Lok l) (el : l = pre ++ r) (T : LM l h) (G : GS pre.length 0 h) (S : h.1 55 18 = I (k : Int)) (hk : k ≤ 48) (c : k = 0 ∨ r ≠ []) : L_M_house_20 (n + 1) h = bd (F_M_readStatement h) (fun h5 => L_M_house_20 n h5) := by
  have k96 := K.1
  have ll : l.length = pre.length + r.length := by rw [el]; simp
  have b0 : (h.1 55 17 = 0) := by rw [bad_I G.2 (Or.inl rfl)]
  rw [show L_M_house_20 (n + 1) h = (if ¬ (h.1 55 17) = 0 then some (h) else if (h.1 55 18) = 0 then bd (F_M_readStatement h) (fun h5 => L_M_house_20 n h5) else if (h.1 55 15) ≤ (h.1 55 16) then some (h) else bd (F_M_readStatement h) (fun h6 => L_M_house_20 n h6)) from rfl, if_neg (fun q => q b0)]
  by_cases z : h.1 55 18 = 0
  · rw [if_pos z]
  · rw [if_neg z]
    have k0 : ¬ k = 0 := by
      intro q
      rw [S, q] at z
      exact z rfl
    have rp : 0 < r.length := by
      rcases c with q | q
      · exact absurd q k0
      · exact List.length_pos_iff.mpr q
    rw [T.1, G.1, if_neg (by rw [I_le (by omega) (by omega) (by omega) (by omega)]; omega)]
theorem l_hs (K : Lok l) : ∀ (f n : Nat) (r pre : List Int) (k : Nat) (h : MH), l = pre ++ r → r.length < f → f < n → (k = 0 ∨ r ≠ []) → 3 * k ≤ pre.length → LM l h → GS pre.length 0 h → h.1 55 18 = I (k : Int) →
    ∃ h', L_M_house_20 n h = some h' ∧ FrK k h h' ∧ (∀ q, pA f r pre.length = .inl q → GS q 1 h') ∧ (∀ ss, pA f r pre.length = .inr ss → h'.1 55 17 = I ((0 : Nat) : Int) ∧ h'.1 55 18 = I ((k + ss.length : Nat) : Int) ∧ k + ss.length ≤ 33 ∧ ∀ i s, ss[i]? = some s → tdS s (k + i) h'.1) := by
  have k96 := K.1
  intro f
  induction f with
  | zero => intro n r pre k h el hr; exact absurd hr (Nat.not_lt_zero _)
  | succ f ih =>
    intro n r pre k h el hr hn c k3 T G S
    obtain ⟨n, rfl⟩ := sfuel (show f < n by omega)
    have ll : l.length = pre.length + r.length := by rw [el]; simp
    obtain ⟨h1, p1, p2, p3, p4, p5⟩ := m_rs (k := k) K (by omega) el T G S
    have go := hs_go (n := n) K el T G S (by omega) c
    rw [p1, bd_s] at go
    obtain ⟨m, rfl⟩ := sfuel (show f - 1 < n by omega)
    rcases hS : pS r pre.length with q | ⟨s, r3, q⟩
    · have G1 := p4 q hS
      have nb : ¬ h1.1 55 17 = 0 := by
        rw [bad_I G1.2 (Or.inr rfl)]
        omega
      refine ⟨h1, go.trans ?_, p2, fun q' e => ?_, fun ss e => ?_⟩
      · unfold L_M_house_20
        rw [if_pos nb]
      · rw [pA_l hS] at e
        rw [← Sum.inl.inj e]
        exact G1
      · rw [pA_l hS] at e
        exact absurd e (by simp)
    · obtain ⟨G1, D1⟩ := p5 s r3 q hS
      obtain ⟨c', ds, es, mz, l1, l2, hd, er, eq, -⟩ := pS_ok hS
      have lg := leastL_ge mz
      have ml := mostL_le c'
      have e1l := congrArg List.length er
      rw [List.length_cons, List.length_append, List.length_map, List.length_cons] at e1l
      have e2 : l = (pre ++ c' :: (ds.map (fun d => d + 48) ++ [59])) ++ r3 := by rw [el, er]; simp
      have pl : (pre ++ c' :: (ds.map (fun d => d + 48) ++ [59])).length = q := by rw [eq]; simp; omega
      have T1 := LM_K T p2
      have b0 : (h1.1 55 17 = 0) := by rw [bad_I G1.2 (Or.inl rfl)]
      cases r3 with
      | nil =>
        rw [List.length_nil] at e1l
        refine ⟨h1, go.trans ?_, p2, fun q' e => ?_, fun ss e => ?_⟩
        · unfold L_M_house_20
          rw [if_neg (fun q => q b0), p3, if_neg (show ¬ I ((k + 1 : Nat) : Int) = 0 by rw [zero_I, I_eq (by omega) (by omega) (by omega) (by omega)]; omega), T1.1, G1.1, if_pos (by rw [I_le (by omega) (by omega) (by omega) (by omega)]; omega)]
        · rw [pA_e hS] at e
          exact absurd e (by simp)
        · rw [pA_e hS] at e
          rw [← Sum.inr.inj e]
          refine ⟨G1.2, p3, by show k + 1 ≤ 33; omega, fun i s' hi => ?_⟩
          cases i with
          | zero =>
            have e' : s = s' := Option.some.inj hi
            rw [← e']
            exact D1
          | succ i => exact absurd hi (by simp)
      | cons y r4 =>
        rw [List.length_cons] at e1l
        obtain ⟨h', q1, q2, q3, q4⟩ := ih (m + 1) (y :: r4) _ (k + 1) h1 e2 (by rw [List.length_cons]; omega) (by omega) (Or.inr (by simp)) (by rw [pl]; omega) T1 (by rw [pl]; exact G1) p3
        rw [pl] at q3 q4
        refine ⟨h', go.trans q1, FrK_tr p2 (FrK_s q2), fun q' e => ?_, fun ss e => ?_⟩
        · rw [pA_c hS] at e
          rcases hq : pA f (y :: r4) q with w | w
          · rw [hq] at e
            rw [← Sum.inl.inj e]
            exact q3 w hq
          · rw [hq] at e
            exact absurd e (by simp [pA1])
        · rw [pA_c hS] at e
          rcases hq : pA f (y :: r4) q with w | w
          · rw [hq] at e
            exact absurd e (by simp [pA1])
          · rw [hq] at e
            rw [← Sum.inr.inj e]
            obtain ⟨g1, g2, g3, g4⟩ := q4 w hq
            have lw : (s :: w).length = w.length + 1 := List.length_cons
            refine ⟨g1, by rw [g2, lw]; congr 2; omega, by rw [lw]; omega, fun i s' hi => ?_⟩
            cases i with
            | zero =>
              have e' : s = s' := Option.some.inj hi
              rw [← e']
              exact tdS_K D1 (by rw [es]; exact Nat.le_trans l2 ml) q2
            | succ i =>
              have g := g4 i s' (by rw [List.getElem?_cons_succ] at hi; exact hi)
              rw [show k + (i + 1) = k + 1 + i by omega]
              exact g
end HSL
